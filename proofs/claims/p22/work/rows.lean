section
/-! linear numbers over symbols, their bounds, what follows from facts -/
abbrev ys_L : Type := List (Nat × Int) × Int
def ys_sum (r : Nat → Int) : List (Nat × Int) → Int
  | [] => 0
  | q :: t => q.2 * r q.1 + ys_sum r t
def ys_ev (r : Nat → Int) (e : ys_L) : Int := ys_sum r e.1 + e.2
def ys_ins (i : Nat) (c : Int) : List (Nat × Int) → List (Nat × Int)
  | [] => [(i, c)]
  | q :: t => if i = q.1 then (if c + q.2 = 0 then t else (i, c + q.2) :: t) else q :: ys_ins i c t
def ys_addl : List (Nat × Int) → List (Nat × Int) → List (Nat × Int)
  | [], m => m
  | q :: t, m => ys_ins q.1 q.2 (ys_addl t m)
def ys_add (a b : ys_L) : ys_L := (ys_addl a.1 b.1, a.2 + b.2)
def ys_scl (k : Int) : List (Nat × Int) → List (Nat × Int)
  | [] => []
  | q :: t => (q.1, k * q.2) :: ys_scl k t
def ys_scale (k : Int) (a : ys_L) : ys_L := if k = 0 then ([], 0) else (ys_scl k a.1, k * a.2)
def ys_sub (a b : ys_L) : ys_L := ys_add a (ys_scale (-1) b)
def ys_cst (k : Int) : ys_L := ([], k)
def ys_sym (i : Nat) : ys_L := ([(i, 1)], 0)
theorem ys_ins_ev (r : Nat → Int) (i : Nat) (c : Int) : ∀ l, ys_sum r (ys_ins i c l) = c * r i + ys_sum r l
  | [] => rfl
  | q :: t => by
    unfold ys_ins
    by_cases h : i = q.1
    · rw [if_pos h]
      by_cases h2 : c + q.2 = 0
      · rw [if_pos h2]
        show _ = c * r i + (q.2 * r q.1 + ys_sum r t)
        rw [h, ← Int.add_assoc, ← Int.add_mul, h2, Int.zero_mul, Int.zero_add]
      · rw [if_neg h2]
        show (c + q.2) * r i + ys_sum r t = c * r i + (q.2 * r q.1 + ys_sum r t)
        rw [h, ← Int.add_assoc, ← Int.add_mul]
    · rw [if_neg h]
      show q.2 * r q.1 + ys_sum r (ys_ins i c t) = c * r i + (q.2 * r q.1 + ys_sum r t)
      rw [ys_ins_ev r i c t]
      omega
theorem ys_addl_ev (r : Nat → Int) : ∀ l m, ys_sum r (ys_addl l m) = ys_sum r l + ys_sum r m
  | [], m => (Int.zero_add _).symm
  | q :: t, m => by
    show ys_sum r (ys_ins q.1 q.2 (ys_addl t m)) = q.2 * r q.1 + ys_sum r t + ys_sum r m
    rw [ys_ins_ev, ys_addl_ev r t m]
    omega
theorem ys_add_ev (r : Nat → Int) (a b : ys_L) : ys_ev r (ys_add a b) = ys_ev r a + ys_ev r b := by
  show ys_sum r (ys_addl a.1 b.1) + (a.2 + b.2) = (ys_sum r a.1 + a.2) + (ys_sum r b.1 + b.2)
  rw [ys_addl_ev]
  omega
theorem ys_scl_ev (r : Nat → Int) (k : Int) : ∀ l, ys_sum r (ys_scl k l) = k * ys_sum r l
  | [] => (Int.mul_zero k).symm
  | q :: t => by
    show k * q.2 * r q.1 + ys_sum r (ys_scl k t) = k * (q.2 * r q.1 + ys_sum r t)
    rw [ys_scl_ev r k t, Int.mul_add, Int.mul_assoc]
theorem ys_scale_ev (r : Nat → Int) (k : Int) (a : ys_L) : ys_ev r (ys_scale k a) = k * ys_ev r a := by
  unfold ys_scale
  by_cases h : k = 0
  · rw [if_pos h, h, Int.zero_mul]
    rfl
  · rw [if_neg h]
    show ys_sum r (ys_scl k a.1) + k * a.2 = k * (ys_sum r a.1 + a.2)
    rw [ys_scl_ev, Int.mul_add]
theorem ys_sub_ev (r : Nat → Int) (a b : ys_L) : ys_ev r (ys_sub a b) = ys_ev r a - ys_ev r b := by
  show ys_ev r (ys_add a (ys_scale (-1) b)) = _
  rw [ys_add_ev, ys_scale_ev]
  omega
theorem ys_cst_ev (r : Nat → Int) (k : Int) : ys_ev r (ys_cst k) = k := Int.zero_add k
theorem ys_sym_ev (r : Nat → Int) (i : Nat) : ys_ev r (ys_sym i) = r i := by
  show 1 * r i + 0 + 0 = r i
  omega
/-- bounds of the symbols -/
abbrev ys_E : Type := List (Int × Int)
def ys_ok (r : Nat → Int) (v : ys_E) : Prop := ∀ (i : Nat) (q : Int × Int), v[i]? = some q → q.1 ≤ r i ∧ r i ≤ q.2
def ys_lo (v : ys_E) : List (Nat × Int) → Option Int
  | [] => some 0
  | q :: t => match v[q.1]?, ys_lo v t with
    | some w, some z => some ((if 0 ≤ q.2 then q.2 * w.1 else q.2 * w.2) + z)
    | _, _ => none
def ys_low (v : ys_E) (e : ys_L) : Option Int := match ys_lo v e.1 with
  | some z => some (z + e.2)
  | none => none
theorem ys_lo_le {r : Nat → Int} {v : ys_E} (h : ys_ok r v) : ∀ (l : List (Nat × Int)) (z : Int), ys_lo v l = some z → z ≤ ys_sum r l
  | [], z, hz => by
    cases hz
    exact Int.le_refl 0
  | q :: t, z, hz => by
    unfold ys_lo at hz
    cases h1 : v[q.1]? with
    | none => rw [h1] at hz; cases hz
    | some w =>
      cases h2 : ys_lo v t with
      | none => rw [h1, h2] at hz; cases hz
      | some y =>
        rw [h1, h2] at hz
        have hy := ys_lo_le h t y h2
        have hw := h q.1 w h1
        have hz := Option.some.inj hz
        show z ≤ q.2 * r q.1 + ys_sum r t
        by_cases hc : 0 ≤ q.2
        · rw [if_pos hc] at hz
          have := Int.mul_le_mul_of_nonneg_left hw.1 hc
          omega
        · rw [if_neg hc] at hz
          have := Int.mul_le_mul_of_nonpos_left (a := q.2) (Int.le_of_lt (Int.not_le.mp hc)) hw.2
          omega
theorem ys_low_le {r : Nat → Int} {v : ys_E} (h : ys_ok r v) {e : ys_L} {z : Int} (hz : ys_low v e = some z) : z ≤ ys_ev r e := by
  unfold ys_low at hz
  cases h1 : ys_lo v e.1 with
  | none => rw [h1] at hz; cases hz
  | some y =>
    rw [h1] at hz
    have hy := ys_lo_le h e.1 y h1
    have hz := Option.some.inj hz
    show z ≤ ys_sum r e.1 + e.2
    omega
/-- at least k by the bounds alone -/
def ys_geb (v : ys_E) (e : ys_L) (k : Int) : Bool := match ys_low v e with
  | some z => decide (k ≤ z)
  | none => false
theorem ys_geb_le {r : Nat → Int} {v : ys_E} (h : ys_ok r v) {e : ys_L} {k : Int} (hz : ys_geb v e k = true) : k ≤ ys_ev r e := by
  unfold ys_geb at hz
  cases h1 : ys_low v e with
  | none => rw [h1] at hz; cases hz
  | some y =>
    rw [h1] at hz
    exact Int.le_trans (of_decide_eq_true hz) (ys_low_le h h1)
def ys_high (v : ys_E) (e : ys_L) : Option Int := match ys_low v (ys_scale (-1) e) with
  | some z => some (-z)
  | none => none
theorem ys_high_le {r : Nat → Int} {v : ys_E} (h : ys_ok r v) {e : ys_L} {z : Int} (hz : ys_high v e = some z) : ys_ev r e ≤ z := by
  unfold ys_high at hz
  cases h1 : ys_low v (ys_scale (-1) e) with
  | none => rw [h1] at hz; cases hz
  | some y =>
    rw [h1] at hz
    have h2 := ys_low_le h h1
    rw [ys_scale_ev] at h2
    have hz := Option.some.inj hz
    omega
/-- facts: each is at least 0 -/
def ys_fk (r : Nat → Int) (fs : List ys_L) : Prop := ∀ f ∈ fs, 0 ≤ ys_ev r f
def ys_ge (v : ys_E) (fs : List ys_L) : Nat → ys_L → Bool
  | 0, e => ys_geb v e 0
  | d + 1, e => ys_geb v e 0 || fs.any (fun f => ys_ge v fs d (ys_sub e f))
theorem ys_ge_le {r : Nat → Int} {v : ys_E} {fs : List ys_L} (h : ys_ok r v) (hf : ys_fk r fs) : ∀ (d : Nat) (e : ys_L), ys_ge v fs d e = true → 0 ≤ ys_ev r e
  | 0, e, hz => ys_geb_le h hz
  | d + 1, e, hz => by
    unfold ys_ge at hz
    rcases (Bool.or_eq_true _ _).mp hz with h1 | h1
    · exact ys_geb_le h h1
    · obtain ⟨f, hm, h2⟩ := List.any_eq_true.mp h1
      have h3 := ys_ge_le h hf d _ h2
      rw [ys_sub_ev] at h3
      have := hf f hm
      omega
/-- a fact makes bounds tighter -/
def ys_tg (f : ys_L) : List (Nat × Int) → ys_E → ys_E
  | [], v => v
  | q :: t, v => ys_tg f t (match v[q.1]? with
    | none => v
    | some w =>
      if q.2 = 1 then (match ys_high v (ys_add f ([(q.1, -1)], 0)) with
        | some u => if w.1 < -u then v.set q.1 (-u, w.2) else v
        | none => v)
      else if q.2 = -1 then (match ys_high v (ys_add f ([(q.1, 1)], 0)) with
        | some u => if u < w.2 then v.set q.1 (w.1, u) else v
        | none => v)
      else v)
theorem ys_ok_set {r : Nat → Int} {v : ys_E} (h : ys_ok r v) (i : Nat) (w : Int × Int) (hw : w.1 ≤ r i ∧ r i ≤ w.2) : ys_ok r (v.set i w) := by
  intro j q hq
  by_cases hj : i = j
  · subst hj
    by_cases hl : i < v.length
    · rw [List.getElem?_set_self hl] at hq
      cases hq
      exact hw
    · rw [List.getElem?_eq_none (by rw [List.length_set]; omega)] at hq
      cases hq
  · rw [List.getElem?_set_ne hj] at hq
    exact h j q hq
theorem ys_tg_len (f : ys_L) : ∀ (l : List (Nat × Int)) (v : ys_E), (ys_tg f l v).length = v.length
  | [], v => rfl
  | q :: t, v => by
    unfold ys_tg
    rw [ys_tg_len f t]
    split
    · rfl
    · split
      · split
        · split
          · exact List.length_set
          · rfl
        · rfl
      · split
        · split
          · split
            · exact List.length_set
            · rfl
          · rfl
        · rfl
theorem ys_tg_ok {r : Nat → Int} {f : ys_L} (hf : 0 ≤ ys_ev r f) : ∀ (l : List (Nat × Int)) (v : ys_E), ys_ok r v → ys_ok r (ys_tg f l v)
  | [], v, h => h
  | q :: t, v, h => by
    unfold ys_tg
    refine ys_tg_ok hf t _ ?_
    split
    · exact h
    · rename_i w hw
      have hb := h q.1 w hw
      have one : ∀ c : Int, ys_ev r ([(q.1, c)], 0) = c * r q.1 := by
        intro c
        show c * r q.1 + 0 + 0 = _
        omega
      split
      · split
        · rename_i u hu
          have h2 := ys_high_le h hu
          rw [ys_add_ev, one] at h2
          split
          · exact ys_ok_set h _ _ ⟨by show -u ≤ _; omega, hb.2⟩
          · exact h
        · exact h
      · split
        · split
          · rename_i u hu
            have h2 := ys_high_le h hu
            rw [ys_add_ev, one] at h2
            split
            · exact ys_ok_set h _ _ ⟨hb.1, by show _ ≤ u; omega⟩
            · exact h
          · exact h
        · exact h
/-- bounds and facts -/
abbrev ys_B : Type := ys_E × List ys_L
def ys_okB (r : Nat → Int) (b : ys_B) : Prop := ys_ok r b.1 ∧ ys_fk r b.2
/-- one more fact: nothing, if it can't be -/
def ys_as (b : ys_B) (f : ys_L) : Option ys_B :=
  if ys_geb b.1 (ys_scale (-1) f) 1 then none
  else some (ys_tg f f.1 b.1, match f.1 with
    | [] => b.2
    | [q] => if q.2 = 1 then b.2 else if q.2 = -1 then b.2 else f :: b.2
    | _ => f :: b.2)
theorem ys_as_ok {r : Nat → Int} {b : ys_B} {f : ys_L} (h : ys_okB r b) (hf : 0 ≤ ys_ev r f) : ∃ b', ys_as b f = some b' ∧ ys_okB r b' := by
  unfold ys_as
  have hn : ¬ ys_geb b.1 (ys_scale (-1) f) 1 = true := by
    intro h1
    have h2 := ys_geb_le h.1 h1
    rw [ys_scale_ev] at h2
    omega
  rw [if_neg hn]
  refine ⟨_, rfl, ys_tg_ok hf _ _ h.1, ?_⟩
  have hc : ys_fk r (f :: b.2) := fun g hg => by
    rcases List.mem_cons.mp hg with e | e
    · rw [e]; exact hf
    · exact h.2 g e
  show ys_fk r (match f.1 with
    | [] => b.2
    | [q] => if q.2 = 1 then b.2 else if q.2 = -1 then b.2 else f :: b.2
    | _ => f :: b.2)
  split
  · exact h.2
  · split
    · exact h.2
    · split
      · exact h.2
      · exact hc
  · exact hc
theorem ys_as_len {b b' : ys_B} {f : ys_L} (h : ys_as b f = some b') : b'.1.length = b.1.length := by
  unfold ys_as at h
  split at h
  · cases h
  · cases Option.some.inj h
    exact ys_tg_len _ _ _
/-- several facts -/
def ys_ass (b : ys_B) : List ys_L → Option ys_B
  | [] => some b
  | f :: t => match ys_as b f with
    | none => none
    | some b' => ys_ass b' t
theorem ys_ass_ok {r : Nat → Int} : ∀ (fs : List ys_L) {b : ys_B}, ys_okB r b → ys_fk r fs → ∃ b', ys_ass b fs = some b' ∧ ys_okB r b'
  | [], b, h, _ => ⟨b, rfl, h⟩
  | f :: t, b, h, hf => by
    obtain ⟨b1, e1, h1⟩ := ys_as_ok h (hf f List.mem_cons_self)
    obtain ⟨b2, e2, h2⟩ := ys_ass_ok t h1 (fun g hg => hf g (List.mem_cons_of_mem _ hg))
    refine ⟨b2, ?_, h2⟩
    unfold ys_ass
    rw [e1]
    exact e2
theorem ys_ass_len : ∀ (fs : List ys_L) {b b' : ys_B}, ys_ass b fs = some b' → b'.1.length = b.1.length
  | [], b, b', h => by cases Option.some.inj h; rfl
  | f :: t, b, b', h => by
    unfold ys_ass at h
    cases h1 : ys_as b f with
    | none => rw [h1] at h; cases h
    | some b1 =>
      rw [h1] at h
      rw [ys_ass_len t h, ys_as_len h1]
/-- putting linear numbers for symbols: those below E stay -/
def ys_at (E : Nat) (t : List ys_L) (i : Nat) : ys_L := if i < E then ys_sym i else t.getD (i - E) ([], 0)
def ys_pl (E : Nat) (t : List ys_L) : List (Nat × Int) → ys_L
  | [] => ([], 0)
  | q :: l => ys_add (ys_scale q.2 (ys_at E t q.1)) (ys_pl E t l)
def ys_put (E : Nat) (t : List ys_L) (e : ys_L) : ys_L := ys_add (ys_pl E t e.1) ([], e.2)
/-- the numbers that the symbols then stand for -/
def ys_val (r : Nat → Int) (E : Nat) (t : List ys_L) (i : Nat) : Int := ys_ev r (ys_at E t i)
theorem ys_pl_ev (r : Nat → Int) (E : Nat) (t : List ys_L) : ∀ l, ys_ev r (ys_pl E t l) = ys_sum (ys_val r E t) l
  | [] => rfl
  | q :: l => by
    show ys_ev r (ys_add _ _) = q.2 * ys_val r E t q.1 + _
    rw [ys_add_ev, ys_scale_ev, ys_pl_ev r E t l]
    rfl
theorem ys_put_ev (r : Nat → Int) (E : Nat) (t : List ys_L) (e : ys_L) : ys_ev r (ys_put E t e) = ys_ev (ys_val r E t) e := by
  show ys_ev r (ys_add _ _) = _
  rw [ys_add_ev, ys_pl_ev]
  show _ + (0 + e.2) = _ + e.2
  rw [Int.zero_add]
theorem ys_val_low {r : Nat → Int} {E : Nat} {t : List ys_L} {i : Nat} (h : i < E) : ys_val r E t i = r i := by
  show ys_ev r (ys_at E t i) = r i
  unfold ys_at
  rw [if_pos h, ys_sym_ev]
/-- other symbols don't matter -/
def ys_bel (n : Nat) (e : ys_L) : Bool := e.1.all (fun q => decide (q.1 < n))
theorem ys_sum_cong {r r' : Nat → Int} {n : Nat} (h : ∀ i, i < n → r i = r' i) : ∀ l : List (Nat × Int), l.all (fun q => decide (q.1 < n)) = true → ys_sum r l = ys_sum r' l
  | [], _ => rfl
  | q :: t, hl => by
    rw [List.all_cons, Bool.and_eq_true] at hl
    show q.2 * r q.1 + ys_sum r t = q.2 * r' q.1 + ys_sum r' t
    rw [h q.1 (of_decide_eq_true hl.1), ys_sum_cong h t hl.2]
theorem ys_ev_cong {r r' : Nat → Int} {n : Nat} (h : ∀ i, i < n → r i = r' i) {e : ys_L} (he : ys_bel n e = true) : ys_ev r e = ys_ev r' e := by
  show ys_sum r e.1 + e.2 = ys_sum r' e.1 + e.2
  rw [ys_sum_cong h e.1 he]
end
section
/-! values, states, what they stand for -/
abbrev ys_V : Type := (ys_L ⊕ ys_L) ⊕ Option Nat
/-- what an array holds: bounds of all, others at some places -/
abbrev ys_R : Type := (Int × Int) × List (Nat × (Int × Int))
abbrev ys_F : Type := List (List ys_V) × List ys_R
abbrev ys_S : Type := ys_B × ys_F × List (Nat × ys_V) × List ys_V
def ys_rat (a : ys_R) (j : Nat) : Int × Int := (a.2.lookup j).getD a.1
def ys_rok (a : ys_R) (f : Nat → Int) : Prop := ∀ j, (ys_rat a j).1 ≤ f j ∧ f j ≤ (ys_rat a j).2
def ys_den (ad : Nat → Nat) (r : Nat → Int) : ys_V → Value
  | .inl (.inl e) => .int (Int32.ofInt (ys_ev r e))
  | .inl (.inr e) => .long (Int64.ofInt (ys_ev r e))
  | .inr none => .null
  | .inr (some k) => .ref (ad k)
/-- what the symbols below n settle -/
def ys_stb (n : Nat) (e : ys_L) : Prop := ∀ r r' : Nat → Int, (∀ i, i < n → r i = r' i) → ys_ev r e = ys_ev r' e
def ys_stV (n : Nat) : ys_V → Prop
  | .inl (.inl e) => ys_stb n e
  | .inl (.inr e) => ys_stb n e
  | .inr _ => True
theorem ys_stb_mono {n m : Nat} {e : ys_L} (h : ys_stb n e) (hm : n ≤ m) : ys_stb m e := fun r r' hr => h r r' fun i hi => hr i (Nat.lt_of_lt_of_le hi hm)
theorem ys_stV_mono {n m : Nat} {v : ys_V} (h : ys_stV n v) (hm : n ≤ m) : ys_stV m v := by
  rcases v with (e | e) | o
  · exact ys_stb_mono (e := e) h hm
  · exact ys_stb_mono (e := e) h hm
  · trivial
theorem ys_stb_add {n : Nat} {a b : ys_L} (ha : ys_stb n a) (hb : ys_stb n b) : ys_stb n (ys_add a b) := fun r r' hr => by
  rw [ys_add_ev, ys_add_ev, ha r r' hr, hb r r' hr]
theorem ys_stb_scale {n : Nat} {a : ys_L} (k : Int) (ha : ys_stb n a) : ys_stb n (ys_scale k a) := fun r r' hr => by
  rw [ys_scale_ev, ys_scale_ev, ha r r' hr]
theorem ys_stb_sub {n : Nat} {a b : ys_L} (ha : ys_stb n a) (hb : ys_stb n b) : ys_stb n (ys_sub a b) := ys_stb_add ha (ys_stb_scale (-1) hb)
theorem ys_stb_cst {n : Nat} (k : Int) : ys_stb n (ys_cst k) := fun r r' _ => by rw [ys_cst_ev, ys_cst_ev]
theorem ys_stb_sym {n i : Nat} (h : i < n) : ys_stb n (ys_sym i) := fun r r' hr => by rw [ys_sym_ev, ys_sym_ev, hr i h]
theorem ys_stb_bel {n : Nat} {e : ys_L} (h : ys_bel n e = true) : ys_stb n e := fun _ _ hr => ys_ev_cong hr h
theorem ys_stb_at {n E : Nat} {t : List ys_L} (hE : E ≤ n) (ht : ∀ e ∈ t, ys_stb n e) (i : Nat) : ys_stb n (ys_at E t i) := by
  unfold ys_at
  by_cases h : i < E
  · rw [if_pos h]
    exact ys_stb_sym (Nat.lt_of_lt_of_le h hE)
  · rw [if_neg h, List.getD_eq_getElem?_getD]
    cases hc : t[i - E]? with
    | none => exact fun _ _ _ => rfl
    | some e => exact ht e (List.mem_of_getElem? hc)
theorem ys_stb_put {n E : Nat} {t : List ys_L} (hE : E ≤ n) (ht : ∀ e ∈ t, ys_stb n e) (e : ys_L) : ys_stb n (ys_put E t e) := fun r r' hr => by
  have hv : ys_val r E t = ys_val r' E t := funext fun i => ys_stb_at hE ht i r r' hr
  rw [ys_put_ev, ys_put_ev, hv]
theorem ys_den_cong {ad : Nat → Nat} {n : Nat} {r r' : Nat → Int} (h : ∀ i, i < n → r i = r' i) {v : ys_V} (hv : ys_stV n v) : ys_den ad r v = ys_den ad r' v := by
  rcases v with (e | e) | o
  · show Value.int _ = Value.int _
    rw [show ys_ev r e = ys_ev r' e from hv r r' h]
  · show Value.long _ = Value.long _
    rw [show ys_ev r e = ys_ev r' e from hv r r' h]
  · cases o <;> rfl
def ys_scB (b : ys_B) : Prop := ∀ f ∈ b.2, ys_stb b.1.length f
def ys_sc (S : ys_S) : Prop := ys_scB S.1 ∧ (∀ w ∈ S.2.1.1, ∀ v ∈ w, ys_stV S.1.1.length v) ∧ (∀ q ∈ S.2.2.1, ys_stV S.1.1.length q.2) ∧ ∀ v ∈ S.2.2.2, ys_stV S.1.1.length v
/-! cells: an object (its number among the kinds of objects); an array: its kind (0 int, 1 long, 2 byte, 3 boolean, 4 on references), length, the cells that it holds -/
abbrev ys_C : Type := Nat ⊕ (Nat × Nat × List Nat)
def ys_con (ad : Nat → Nat) (g : Nat → Int) (a : Nat × Nat × List Nat) : vp_A := (a.2.1, if a.1 = 1 then .inr (.inl fun j => Int64.ofInt (g j)) else if 4 ≤ a.1 then .inr (.inr (.inr (.inr fun j => (a.2.2[j]?).map ad))) else .inl fun j => Int32.ofInt (g j))
def ys_cel (ad : Nat → Nat) (cT : Nat → ClassId) (r : Nat → Int) (g : Nat → Nat → Int) (k : Nat) (c : ys_C) (fs : List ys_V) : Nat × va_E := (ad k, match c with
  | .inl ci => .inr (ci, fs.map (ys_den ad r))
  | .inr a => .inl (cT a.1, ys_con ad (g k) a))
def ys_wld (ad : Nat → Nat) (cT : Nat → ClassId) (sh : List ys_C) (r : Nat → Int) (g : Nat → Nat → Int) (fds : List (List ys_V)) : va_W := (List.range sh.length).map fun k => ys_cel ad cT r g k (sh.getD k (.inl 0)) (fds.getD k [])
theorem ys_wld_get {ad : Nat → Nat} {cT : Nat → ClassId} {sh : List ys_C} {r : Nat → Int} {g : Nat → Nat → Int} {fds : List (List ys_V)} {k : Nat} {c : ys_C} (h : sh[k]? = some c) : (ys_wld ad cT sh r g fds)[k]? = some (ys_cel ad cT r g k c (fds.getD k [])) := by
  have hk := (List.getElem?_eq_some_iff.mp h).1
  unfold ys_wld
  rw [List.getElem?_map, List.getElem?_range hk]
  show some (ys_cel ad cT r g k (sh.getD k (.inl 0)) _) = _
  rw [List.getD_eq_getElem?_getD, h]
  rfl
theorem ys_wld_len {ad : Nat → Nat} {cT : Nat → ClassId} {sh : List ys_C} {r : Nat → Int} {g : Nat → Nat → Int} {fds : List (List ys_V)} : (ys_wld ad cT sh r g fds).length = sh.length := by
  unfold ys_wld
  rw [List.length_map, List.length_range]
/-- a list of cells, changed at one place -/
theorem ys_wld_set {ad : Nat → Nat} {cT : Nat → ClassId} {sh : List ys_C} {r : Nat → Int} {g g' : Nat → Nat → Int} {fds fds' : List (List ys_V)} {k : Nat} {c : ys_C} (h : sh[k]? = some c) (ho : ∀ j, j ≠ k → g' j = g j ∧ fds'.getD j [] = fds.getD j []) : ys_wld ad cT sh r g' fds' = (ys_wld ad cT sh r g fds).set k (ys_cel ad cT r g' k c (fds'.getD k [])) := by
  have hk := (List.getElem?_eq_some_iff.mp h).1
  apply List.ext_getElem?
  intro j
  by_cases hj : k = j
  · subst hj
    rw [List.getElem?_set_self (by rw [ys_wld_len]; exact hk), ys_wld_get h]
  · rw [List.getElem?_set_ne hj]
    obtain ⟨h1, h2⟩ := ho j (fun q => hj q.symm)
    cases hc : sh[j]? with
    | none =>
      have hl : sh.length ≤ j := by simpa using hc
      rw [List.getElem?_eq_none (by rw [ys_wld_len]; exact hl), List.getElem?_eq_none (by rw [ys_wld_len]; exact hl)]
    | some c' =>
      rw [ys_wld_get hc, ys_wld_get hc, h2]
      unfold ys_cel
      rw [h1]
theorem ys_wld_cong {ad : Nat → Nat} {cT : Nat → ClassId} {sh : List ys_C} {r r' : Nat → Int} {g : Nat → Nat → Int} {fds : List (List ys_V)} {n : Nat} (h : ∀ i, i < n → r i = r' i) (hf : ∀ w ∈ fds, ∀ v ∈ w, ys_stV n v) : ys_wld ad cT sh r g fds = ys_wld ad cT sh r' g fds := by
  unfold ys_wld
  apply List.map_congr_left
  intro k _
  have hrow : ∀ v ∈ fds.getD k [], ys_stV n v := by
    rw [List.getD_eq_getElem?_getD]
    cases hc : fds[k]? with
    | none => intro v hv; cases hv
    | some w => exact hf w (List.mem_of_getElem? hc)
  unfold ys_cel
  cases sh.getD k (.inl 0) with
  | inl ci =>
    have e : (fds.getD k []).map (ys_den ad r) = (fds.getD k []).map (ys_den ad r') := List.map_congr_left fun v hv => ys_den_cong h (hrow v hv)
    show (ad k, Sum.inr (ci, _)) = (ad k, Sum.inr (ci, _))
    rw [e]
  | inr a => rfl
/-- what the arrays hold keeps to its bounds; those that may not change are as they were -/
def ys_gok (mods : List Nat) (ars : List ys_R) (g0 g : Nat → Nat → Int) : Prop := (∀ (k : Nat) (a : ys_R), ars[k]? = some a → ys_rok a (g k)) ∧ ∀ k, k ∉ mods → g k = g0 k
section YSR
variable (D : va_G) (cl : List vw_C) (ad : Nat → Nat) (cT : Nat → ClassId) (sh : List ys_C) (A : Nat → Prop) (H0 : Heap) (nL : Nat) (mods : List Nat) (g0 : Nat → Nat → Int)
def ys_Wd (r : Nat → Int) (fds : ys_F) (H : Heap) (locs : List Loc) : Prop := ∃ g, ys_gok mods fds.2 g0 g ∧ va_P D cl (ys_wld ad cT sh r g fds.1) H ∧ va_D A (ys_wld ad cT sh r g fds.1) ∧ va_S A H0 H locs
def ys_lvs (r : Nat → Int) (l : List (Nat × ys_V)) : List (Nat × Value) := l.map fun q => (q.1, ys_den ad r q.2)
def ys_rep (r0 r : Nat → Int) (E : Nat) (S : ys_S) (H : Heap) (locs : List Loc) (ls : Array Slot) (st : List Value) : Prop := ys_okB r S.1 ∧ ys_sc S ∧ (E ≤ S.1.1.length ∧ ∀ i, i < E → r i = r0 i) ∧ ys_Wd D cl ad cT sh A H0 mods g0 r S.2.1 H locs ∧ lv_has ls nL (ys_lvs ad r S.2.2.1) ∧ st = S.2.2.2.map (ys_den ad r)
end YSR
section YSQ
variable {D : va_G} {cl : List vw_C} {ad : Nat → Nat} {cT : Nat → ClassId} {sh : List ys_C} {A : Nat → Prop} {H0 : Heap} {nL : Nat} {mods : List Nat} {g0 : Nat → Nat → Int} {r0 r r' : Nat → Int} {E : Nat} {b b' : ys_B} {fds : ys_F} {lv : List (Nat × ys_V)} {sv : List ys_V} {H : Heap} {locs : List Loc} {ls : Array Slot} {st : List Value}
/-- more symbols, more facts -/
theorem ys_rep_ext (h : ys_rep D cl ad cT sh A H0 nL mods g0 r0 r E (b, fds, lv, sv) H locs ls st) (hag : ∀ i, i < b.1.length → r' i = r i) (hb : ys_okB r' b') (hl : b.1.length ≤ b'.1.length) (hs : ys_scB b') : ys_rep D cl ad cT sh A H0 nL mods g0 r0 r' E (b', fds, lv, sv) H locs ls st := by
  obtain ⟨-, ⟨-, s1, s2, s3⟩, ⟨hE, hr⟩, ⟨g, hg, hP, hD, hS⟩, hlv, hst⟩ := h
  have hag' : ∀ i, i < b.1.length → r i = r' i := fun i hi => (hag i hi).symm
  have ew := ys_wld_cong (ad := ad) (cT := cT) (sh := sh) (g := g) hag' s1
  refine ⟨hb, ⟨hs, fun w hw v hv => ys_stV_mono (s1 w hw v hv) hl, fun q hq => ys_stV_mono (s2 q hq) hl, fun v hv => ys_stV_mono (s3 v hv) hl⟩, ⟨Nat.le_trans hE hl, fun i hi => (hag i (Nat.lt_of_lt_of_le hi hE)).trans (hr i hi)⟩, ⟨g, hg, ?_, ?_, hS⟩, ?_, ?_⟩
  · exact ew ▸ hP
  · exact ew ▸ hD
  · have e : ys_lvs ad r lv = ys_lvs ad r' lv := List.map_congr_left fun q hq => by rw [ys_den_cong hag' (s2 q hq)]
    exact e ▸ hlv
  · rw [hst]
    exact List.map_congr_left fun v hv => ys_den_cong hag' (s3 v hv)
theorem ys_rep_push (h : ys_rep D cl ad cT sh A H0 nL mods g0 r0 r E (b, fds, lv, sv) H locs ls st) (v : ys_V) (hv : ys_stV b.1.length v) : ys_rep D cl ad cT sh A H0 nL mods g0 r0 r E (b, fds, lv, v :: sv) H locs ls (ys_den ad r v :: st) := by
  obtain ⟨h1, ⟨s0, s1, s2, s3⟩, h2, h3, h4, h5⟩ := h
  refine ⟨h1, ⟨s0, s1, s2, fun w hw => ?_⟩, h2, h3, h4, by rw [h5]; rfl⟩
  rcases List.mem_cons.mp hw with e | e
  · rw [e]; exact hv
  · exact s3 w e
theorem ys_rep_pop {v : ys_V} (h : ys_rep D cl ad cT sh A H0 nL mods g0 r0 r E (b, fds, lv, v :: sv) H locs ls st) : ∃ st', st = ys_den ad r v :: st' ∧ ys_rep D cl ad cT sh A H0 nL mods g0 r0 r E (b, fds, lv, sv) H locs ls st' ∧ ys_stV b.1.length v := by
  obtain ⟨h1, ⟨s0, s1, s2, s3⟩, h2, h3, h4, h5⟩ := h
  exact ⟨sv.map (ys_den ad r), h5, ⟨h1, ⟨s0, s1, s2, fun w hw => s3 w (List.mem_cons_of_mem _ hw)⟩, h2, h3, h4, rfl⟩, s3 v List.mem_cons_self⟩
/-- a place of the frame is read -/
theorem ys_find_mem : ∀ (l : List (Nat × ys_V)) (i : Nat) (v : ys_V), l.lookup i = some v → (i, v) ∈ l
  | [], i, v, h => by cases h
  | (j, w) :: t, i, v, h => by
    unfold List.lookup at h
    cases hc : i == j with
    | true =>
      rw [hc] at h
      cases h
      rw [beq_iff_eq] at hc
      rw [hc]
      exact List.mem_cons_self
    | false =>
      rw [hc] at h
      exact List.mem_cons_of_mem _ (ys_find_mem t i v h)
theorem ys_rep_loc {i : Nat} {v : ys_V} (h : ys_rep D cl ad cT sh A H0 nL mods g0 r0 r E (b, fds, lv, sv) H locs ls st) (hi : lv.lookup i = some v) : ls[i]? = some (.val (ys_den ad r v)) ∧ ys_stV b.1.length v := by
  obtain ⟨h1, ⟨s0, s1, s2, s3⟩, h2, h3, h4, h5⟩ := h
  have hm := ys_find_mem lv i v hi
  exact ⟨h4.2.2 (i, ys_den ad r v) (List.mem_map.mpr ⟨(i, v), hm, rfl⟩), s2 _ hm⟩
end YSQ
def ys_cat (v : ys_V) : Nat := match v with
  | .inl (.inr _) => 2
  | _ => 1
theorem ys_cat_den (ad : Nat → Nat) (r : Nat → Int) (v : ys_V) : (ys_den ad r v).category = ys_cat v := by
  rcases v with (e | e) | o
  · rfl
  · rfl
  · cases o <;> rfl
def ys_st1 (l : List (Nat × ys_V)) (i : Nat) (v : ys_V) : List (Nat × ys_V) := (i, v) :: l.filter fun q => !(q.1 == i) && !(q.1 + 1 == i && ys_cat q.2 == 2)
def ys_st2 (l : List (Nat × ys_V)) (i : Nat) (v : ys_V) : List (Nat × ys_V) := (i, v) :: l.filter fun q => !(q.1 == i) && (!(q.1 == i + 1) && !(q.1 + 1 == i && ys_cat q.2 == 2))
theorem ys_st1_lvs (ad : Nat → Nat) (r : Nat → Int) (l : List (Nat × ys_V)) (i : Nat) (v : ys_V) : ys_lvs ad r (ys_st1 l i v) = (i, ys_den ad r v) :: (ys_lvs ad r l).filter (fun q => !(q.1 == i) && !(q.1 + 1 == i && q.2.category == 2)) := by
  unfold ys_st1 ys_lvs
  rw [List.map_cons, List.filter_map]
  congr 2
  apply List.filter_congr
  intro q _
  show _ = (!(q.1 == i) && !(q.1 + 1 == i && (ys_den ad r q.2).category == 2))
  rw [ys_cat_den]
theorem ys_st2_lvs (ad : Nat → Nat) (r : Nat → Int) (l : List (Nat × ys_V)) (i : Nat) (v : ys_V) : ys_lvs ad r (ys_st2 l i v) = (i, ys_den ad r v) :: (ys_lvs ad r l).filter (fun q => !(q.1 == i) && (!(q.1 == i + 1) && !(q.1 + 1 == i && q.2.category == 2))) := by
  unfold ys_st2 ys_lvs
  rw [List.map_cons, List.filter_map]
  congr 2
  apply List.filter_congr
  intro q _
  show _ = (!(q.1 == i) && (!(q.1 == i + 1) && !(q.1 + 1 == i && (ys_den ad r q.2).category == 2)))
  rw [ys_cat_den]
end
section
/-! what the machine's arithmetic does to linear numbers -/
def ys_mn (w : Bool) : Int := match w with
  | false => -2147483648
  | true => -9223372036854775808
def ys_mx (w : Bool) : Int := match w with
  | false => 2147483647
  | true => 9223372036854775807
theorem ys_mn_f : ys_mn false = -2147483648 := rfl
theorem ys_mx_f : ys_mx false = 2147483647 := rfl
theorem ys_mn_t : ys_mn true = -9223372036854775808 := rfl
theorem ys_mx_t : ys_mx true = 9223372036854775807 := rfl
def ys_inr (w : Bool) (v : ys_E) (e : ys_L) : Bool := ys_geb v e (ys_mn w) && ys_geb v (ys_scale (-1) e) (-(ys_mx w))
theorem ys_inr_ok {r : Nat → Int} {v : ys_E} (h : ys_ok r v) {w : Bool} {e : ys_L} (hz : ys_inr w v e = true) : ys_mn w ≤ ys_ev r e ∧ ys_ev r e ≤ ys_mx w := by
  unfold ys_inr at hz
  rw [Bool.and_eq_true] at hz
  have h1 := ys_geb_le h hz.1
  have h2 := ys_geb_le h hz.2
  rw [ys_scale_ev] at h2
  exact ⟨h1, by omega⟩
theorem ys_inr32 {r : Nat → Int} {v : ys_E} (h : ys_ok r v) {e : ys_L} (hz : ys_inr false v e = true) : (Int32.ofInt (ys_ev r e)).toInt = ys_ev r e := by
  obtain ⟨h1, h2⟩ := ys_inr_ok h hz
  rw [ys_mn_f] at h1
  rw [ys_mx_f] at h2
  exact Int32.toInt_ofInt_of_le (by omega) (by omega)
theorem ys_inr64 {r : Nat → Int} {v : ys_E} (h : ys_ok r v) {e : ys_L} (hz : ys_inr true v e = true) : (Int64.ofInt (ys_ev r e)).toInt = ys_ev r e := by
  obtain ⟨h1, h2⟩ := ys_inr_ok h hz
  rw [ys_mn_t] at h1
  rw [ys_mx_t] at h2
  exact Int64.toInt_ofInt_of_le (by omega) (by omega)
def ys_new (b : ys_B) (q : Int × Int) : ys_B × ys_L := ((b.1 ++ [q], b.2), ys_sym b.1.length)
/-- bounds that meet: a constant -/
def ys_ce (v : ys_E) (e : ys_L) : ys_L := match e.1 with
  | [] => e
  | _ => (match ys_low v e, ys_high v e with
    | some l, some u => if l = u then ([], l) else e
    | _, _ => e)
theorem ys_ce_ev {r : Nat → Int} {v : ys_E} (h : ys_ok r v) (e : ys_L) : ys_ev r (ys_ce v e) = ys_ev r e := by
  unfold ys_ce
  split
  · rfl
  · split
    · rename_i l u hl hu
      split
      · have h1 := ys_low_le h hl
        have h2 := ys_high_le h hu
        show ys_ev r (ys_cst l) = _
        rw [ys_cst_ev]
        omega
      · rfl
    · rfl
def ys_nm (w : Bool) (b : ys_B) (e : ys_L) : ys_B × ys_L := if ys_inr w b.1 e = true then (b, ys_ce b.1 e) else ys_new b (ys_mn w, ys_mx w)
theorem ys_ce_st {n : Nat} {v : ys_E} {e : ys_L} (h : ys_stb n e) : ys_stb n (ys_ce v e) := by
  unfold ys_ce
  split
  · exact h
  · split
    · split
      · exact ys_stb_cst _
      · exact h
    · exact h
/-- a result: the numbers so far stay, its own has what is asked -/
def ys_Op (r : Nat → Int) (b : ys_B) (o : ys_B × ys_L) (P : Int → Prop) : Prop := ∃ r' : Nat → Int, (∀ i, i < b.1.length → r' i = r i) ∧ ys_okB r' o.1 ∧ b.1.length ≤ o.1.1.length ∧ ys_scB o.1 ∧ ys_stb o.1.1.length o.2 ∧ P (ys_ev r' o.2)
theorem ys_Op_same {r : Nat → Int} {b : ys_B} {e : ys_L} {P : Int → Prop} (h : ys_okB r b) (hs : ys_scB b) (he : ys_stb b.1.length e) (hp : P (ys_ev r e)) : ys_Op r b (b, e) P := ⟨r, fun _ _ => rfl, h, Nat.le_refl _, hs, he, hp⟩
def ys_up (r : Nat → Int) (n : Nat) (z : Int) : Nat → Int := fun i => if i = n then z else r i
theorem ys_up_lt {r : Nat → Int} {n : Nat} {z : Int} : ∀ i, i < n → ys_up r n z i = r i := fun i hi => if_neg (Nat.ne_of_lt hi)
theorem ys_up_at {r : Nat → Int} {n : Nat} {z : Int} : ys_up r n z n = z := if_pos rfl
theorem ys_new_ok {r : Nat → Int} {b : ys_B} {q : Int × Int} {z : Int} (h : ys_okB r b) (hs : ys_scB b) (hz : q.1 ≤ z ∧ z ≤ q.2) : ys_okB (ys_up r b.1.length z) (b.1 ++ [q], b.2) := by
  refine ⟨fun i w hi => ?_, fun f hf => ?_⟩
  · by_cases hl : i < b.1.length
    · rw [List.getElem?_append_left hl] at hi
      rw [ys_up_lt i hl]
      exact h.1 i w hi
    · have h1 : i < (b.1 ++ [q]).length := (List.getElem?_eq_some_iff.mp hi).1
      rw [List.length_append] at h1
      have h2 : i = b.1.length := by
        have : ([q] : List (Int × Int)).length = 1 := rfl
        omega
      subst h2
      rw [List.getElem?_append_right (Nat.le_refl _), Nat.sub_self] at hi
      cases hi
      rw [ys_up_at]
      exact hz
  · rw [← hs f hf r _ (fun i hi => (ys_up_lt i hi).symm)]
    exact h.2 f hf
theorem ys_scB_new {b : ys_B} {q : Int × Int} (hs : ys_scB b) : ys_scB (b.1 ++ [q], b.2) := fun f hf => ys_stb_mono (hs f hf) (by rw [List.length_append]; omega)
theorem ys_Op_new {r : Nat → Int} {b : ys_B} {q : Int × Int} {P : Int → Prop} (z : Int) (h : ys_okB r b) (hs : ys_scB b) (hz : q.1 ≤ z ∧ z ≤ q.2) (hp : P z) : ys_Op r b (ys_new b q) P := by
  have hl : (b.1 ++ [q]).length = b.1.length + 1 := by rw [List.length_append]; rfl
  refine ⟨ys_up r b.1.length z, ys_up_lt, ys_new_ok h hs hz, ?_, ys_scB_new hs, ?_, ?_⟩
  · show b.1.length ≤ (b.1 ++ [q]).length
    omega
  · show ys_stb (b.1 ++ [q]).length (ys_sym _)
    exact ys_stb_sym (by omega)
  · show P (ys_ev _ (ys_sym b.1.length))
    rw [ys_sym_ev, ys_up_at]
    exact hp
theorem ys_r32 (x : Int32) : ys_mn false ≤ x.toInt ∧ x.toInt ≤ ys_mx false := by
  have h1 := x.le_toInt
  have h2 := x.toInt_lt
  unfold ys_mn ys_mx
  constructor <;> (simp only []; omega)
theorem ys_r64 (x : Int64) : ys_mn true ≤ x.toInt ∧ x.toInt ≤ ys_mx true := by
  have h1 := x.le_toInt
  have h2 := x.toInt_lt
  unfold ys_mn ys_mx
  constructor <;> (simp only []; omega)
/-- one number alone is no symbol -/
def ys_nw (b : ys_B) (q : Int × Int) : ys_B × ys_L := if q.1 = q.2 then (b, ([], q.1)) else ys_new b q
theorem ys_Op_nw {r : Nat → Int} {b : ys_B} {q : Int × Int} {P : Int → Prop} (z : Int) (h : ys_okB r b) (hs : ys_scB b) (hz : q.1 ≤ z ∧ z ≤ q.2) (hp : P z) : ys_Op r b (ys_nw b q) P := by
  unfold ys_nw
  split
  · rename_i he
    refine ys_Op_same h hs (ys_stb_cst q.1) ?_
    show P (ys_ev r (ys_cst q.1))
    rw [ys_cst_ev, show q.1 = z by omega]
    exact hp
  · exact ys_Op_new z h hs hz hp
theorem ys_Op_nw32 {r : Nat → Int} {b : ys_B} {q : Int × Int} (h : ys_okB r b) (hs : ys_scB b) (x : Int32) (hx : q.1 ≤ x.toInt ∧ x.toInt ≤ q.2) : ys_Op r b (ys_nw b q) (fun z => Int32.ofInt z = x) := ys_Op_nw x.toInt h hs hx (Int32.ofInt_toInt x)
theorem ys_Op_nw64 {r : Nat → Int} {b : ys_B} {q : Int × Int} (h : ys_okB r b) (hs : ys_scB b) (x : Int64) (hx : q.1 ≤ x.toInt ∧ x.toInt ≤ q.2) : ys_Op r b (ys_nw b q) (fun z => Int64.ofInt z = x) := ys_Op_nw x.toInt h hs hx (Int64.ofInt_toInt x)
theorem ys_Op_any32 {r : Nat → Int} {b : ys_B} (h : ys_okB r b) (hs : ys_scB b) (x : Int32) : ys_Op r b (ys_new b (ys_mn false, ys_mx false)) (fun z => Int32.ofInt z = x) := ys_Op_new x.toInt h hs (ys_r32 x) (Int32.ofInt_toInt x)
theorem ys_Op_any64 {r : Nat → Int} {b : ys_B} (h : ys_okB r b) (hs : ys_scB b) (x : Int64) : ys_Op r b (ys_new b (ys_mn true, ys_mx true)) (fun z => Int64.ofInt z = x) := ys_Op_new x.toInt h hs (ys_r64 x) (Int64.ofInt_toInt x)
theorem ys_Op_in32 {r : Nat → Int} {b : ys_B} {q : Int × Int} (h : ys_okB r b) (hs : ys_scB b) (x : Int32) (hx : q.1 ≤ x.toInt ∧ x.toInt ≤ q.2) : ys_Op r b (ys_new b q) (fun z => Int32.ofInt z = x) := ys_Op_new x.toInt h hs hx (Int32.ofInt_toInt x)
theorem ys_Op_in64 {r : Nat → Int} {b : ys_B} {q : Int × Int} (h : ys_okB r b) (hs : ys_scB b) (x : Int64) (hx : q.1 ≤ x.toInt ∧ x.toInt ≤ q.2) : ys_Op r b (ys_new b q) (fun z => Int64.ofInt z = x) := ys_Op_new x.toInt h hs hx (Int64.ofInt_toInt x)
theorem ys_Op_nm32 {r : Nat → Int} {b : ys_B} {e : ys_L} (h : ys_okB r b) (hs : ys_scB b) (he : ys_stb b.1.length e) {x : Int32} (hx : Int32.ofInt (ys_ev r e) = x) : ys_Op r b (ys_nm false b e) (fun z => Int32.ofInt z = x) := by
  unfold ys_nm
  by_cases hc : ys_inr false b.1 e = true
  · rw [if_pos hc]
    exact ys_Op_same h hs (ys_ce_st he) (by rw [ys_ce_ev h.1]; exact hx)
  · rw [if_neg hc]
    exact ys_Op_any32 h hs x
theorem ys_Op_nm64 {r : Nat → Int} {b : ys_B} {e : ys_L} (h : ys_okB r b) (hs : ys_scB b) (he : ys_stb b.1.length e) {x : Int64} (hx : Int64.ofInt (ys_ev r e) = x) : ys_Op r b (ys_nm true b e) (fun z => Int64.ofInt z = x) := by
  unfold ys_nm
  by_cases hc : ys_inr true b.1 e = true
  · rw [if_pos hc]
    exact ys_Op_same h hs (ys_ce_st he) (by rw [ys_ce_ev h.1]; exact hx)
  · rw [if_neg hc]
    exact ys_Op_any64 h hs x
/-- an operation on two numbers of one width: what it does to linear numbers is what it does to the machine's -/
def ys_B32 (F : ys_B → ys_L → ys_L → Option (ys_B × ys_L)) (op : Int32 → Int32 → Int32) (ok : Int32 → Prop) : Prop := ∀ (r : Nat → Int) (b : ys_B) (x y : ys_L) (o : ys_B × ys_L), ys_okB r b → ys_scB b → ys_stb b.1.length x → ys_stb b.1.length y → F b x y = some o → ok (Int32.ofInt (ys_ev r y)) ∧ ys_Op r b o (fun z => Int32.ofInt z = op (Int32.ofInt (ys_ev r x)) (Int32.ofInt (ys_ev r y)))
def ys_B64 (F : ys_B → ys_L → ys_L → Option (ys_B × ys_L)) (op : Int64 → Int64 → Int64) (ok : Int64 → Prop) : Prop := ∀ (r : Nat → Int) (b : ys_B) (x y : ys_L) (o : ys_B × ys_L), ys_okB r b → ys_scB b → ys_stb b.1.length x → ys_stb b.1.length y → F b x y = some o → ok (Int64.ofInt (ys_ev r y)) ∧ ys_Op r b o (fun z => Int64.ofInt z = op (Int64.ofInt (ys_ev r x)) (Int64.ofInt (ys_ev r y)))
def ys_fadd (w : Bool) (b : ys_B) (x y : ys_L) : Option (ys_B × ys_L) := some (ys_nm w b (ys_add x y))
def ys_fsub (w : Bool) (b : ys_B) (x y : ys_L) : Option (ys_B × ys_L) := some (ys_nm w b (ys_sub x y))
def ys_fmul (w : Bool) (b : ys_B) (x y : ys_L) : Option (ys_B × ys_L) := some (match x.1, y.1 with
  | [], _ => ys_nm w b (ys_scale x.2 y)
  | _, [] => ys_nm w b (ys_scale y.2 x)
  | _, _ => ys_new b (ys_mn w, ys_mx w))
def ys_fany (w : Bool) (b : ys_B) (_ _ : ys_L) : Option (ys_B × ys_L) := some (ys_new b (ys_mn w, ys_mx w))
theorem ys_fadd32 : ys_B32 (ys_fadd false) (fun x y => x + y) (fun _ => True) := by
  intro r b x y o h hs hx hy ho
  cases Option.some.inj ho
  exact ⟨trivial, ys_Op_nm32 h hs (ys_stb_add hx hy) (by rw [ys_add_ev, Int32.ofInt_add])⟩
theorem ys_fsub32 : ys_B32 (ys_fsub false) (fun x y => x - y) (fun _ => True) := by
  intro r b x y o h hs hx hy ho
  cases Option.some.inj ho
  exact ⟨trivial, ys_Op_nm32 h hs (ys_stb_sub hx hy) (by rw [ys_sub_ev, Int32.ofInt_sub])⟩
theorem ys_fadd64 : ys_B64 (ys_fadd true) (fun x y => x + y) (fun _ => True) := by
  intro r b x y o h hs hx hy ho
  cases Option.some.inj ho
  exact ⟨trivial, ys_Op_nm64 h hs (ys_stb_add hx hy) (by rw [ys_add_ev, Int64.ofInt_add])⟩
theorem ys_fsub64 : ys_B64 (ys_fsub true) (fun x y => x - y) (fun _ => True) := by
  intro r b x y o h hs hx hy ho
  cases Option.some.inj ho
  exact ⟨trivial, ys_Op_nm64 h hs (ys_stb_sub hx hy) (by rw [ys_sub_ev, Int64.ofInt_sub])⟩
theorem ys_ev_nil (r : Nat → Int) {x : ys_L} (h : x.1 = []) : ys_ev r x = x.2 := by
  show ys_sum r x.1 + x.2 = x.2
  rw [h]
  exact Int.zero_add _
theorem ys_fmul32 : ys_B32 (ys_fmul false) (fun x y => x * y) (fun _ => True) := by
  intro r b x y o h hs hx hy ho
  refine ⟨trivial, ?_⟩
  have ho := Option.some.inj ho
  subst ho
  split
  · rename_i h1
    exact ys_Op_nm32 h hs (ys_stb_scale _ hy) (by rw [ys_scale_ev, ys_ev_nil r h1, Int32.ofInt_mul])
  · rename_i h1 _
    exact ys_Op_nm32 h hs (ys_stb_scale _ hx) (by rw [ys_scale_ev, ys_ev_nil r h1, Int32.ofInt_mul, Int32.mul_comm])
  · exact ys_Op_any32 h hs _
theorem ys_fmul64 : ys_B64 (ys_fmul true) (fun x y => x * y) (fun _ => True) := by
  intro r b x y o h hs hx hy ho
  refine ⟨trivial, ?_⟩
  have ho := Option.some.inj ho
  subst ho
  split
  · rename_i h1
    exact ys_Op_nm64 h hs (ys_stb_scale _ hy) (by rw [ys_scale_ev, ys_ev_nil r h1, Int64.ofInt_mul])
  · rename_i h1 _
    exact ys_Op_nm64 h hs (ys_stb_scale _ hx) (by rw [ys_scale_ev, ys_ev_nil r h1, Int64.ofInt_mul, Int64.mul_comm])
  · exact ys_Op_any64 h hs _
theorem ys_fany32 (op : Int32 → Int32 → Int32) : ys_B32 (ys_fany false) op (fun _ => True) := by
  intro r b x y o h hs hx hy ho
  cases Option.some.inj ho
  exact ⟨trivial, ys_Op_any32 h hs _⟩
theorem ys_fany64 (op : Int64 → Int64 → Int64) : ys_B64 (ys_fany true) op (fun _ => True) := by
  intro r b x y o h hs hx hy ho
  cases Option.some.inj ho
  exact ⟨trivial, ys_Op_any64 h hs _⟩
/-! and: with a number not below 0 -/
def ys_nnb (w : Bool) (v : ys_E) (y : ys_L) : Option Int := if ys_geb v y 0 && ys_inr w v y then ys_high v y else none
def ys_fand (w : Bool) (b : ys_B) (x y : ys_L) : Option (ys_B × ys_L) := if y = ([], -1) then some (b, x) else if x = ([], -1) then some (b, y) else match ys_nnb w b.1 x, ys_nnb w b.1 y with
  | some u, some t => some (ys_nw b (0, if u ≤ t then u else t))
  | some u, none => some (ys_nw b (0, u))
  | none, some t => some (ys_nw b (0, t))
  | none, none => some (ys_new b (ys_mn w, ys_mx w))
theorem ys_toNat32 {y : Int32} (h : 0 ≤ y.toInt) : (y.toBitVec.toNat : Int) = y.toInt := by
  have h1 : y.toBitVec.toInt = y.toInt := rfl
  have h2 := BitVec.toInt_eq_toNat_cond y.toBitVec
  have h3 := y.toBitVec.isLt
  split at h2 <;> omega
theorem ys_toNat64 {y : Int64} (h : 0 ≤ y.toInt) : (y.toBitVec.toNat : Int) = y.toInt := by
  have h1 : y.toBitVec.toInt = y.toInt := rfl
  have h2 := BitVec.toInt_eq_toNat_cond y.toBitVec
  have h3 := y.toBitVec.isLt
  split at h2 <;> omega
theorem ys_ofNat32 {y : Int32} (h : y.toBitVec.toNat < 2 ^ 31) : y.toInt = (y.toBitVec.toNat : Int) := by
  have h1 : y.toBitVec.toInt = y.toInt := rfl
  have h2 := BitVec.toInt_eq_toNat_cond y.toBitVec
  split at h2 <;> omega
theorem ys_ofNat64 {y : Int64} (h : y.toBitVec.toNat < 2 ^ 63) : y.toInt = (y.toBitVec.toNat : Int) := by
  have h1 : y.toBitVec.toInt = y.toInt := rfl
  have h2 := BitVec.toInt_eq_toNat_cond y.toBitVec
  split at h2 <;> omega
theorem ys_and32 (x : Int32) {y : Int32} (h : 0 ≤ y.toInt) : 0 ≤ (x &&& y).toInt ∧ (x &&& y).toInt ≤ y.toInt := by
  have h1 := ys_toNat32 h
  have h2 : (x &&& y).toBitVec.toNat ≤ y.toBitVec.toNat := by
    rw [Int32.toBitVec_and, BitVec.toNat_and]
    exact Nat.and_le_right
  have h3 := y.toInt_lt
  have h4 := ys_ofNat32 (y := x &&& y) (by omega)
  omega
theorem ys_and64 (x : Int64) {y : Int64} (h : 0 ≤ y.toInt) : 0 ≤ (x &&& y).toInt ∧ (x &&& y).toInt ≤ y.toInt := by
  have h1 := ys_toNat64 h
  have h2 : (x &&& y).toBitVec.toNat ≤ y.toBitVec.toNat := by
    rw [Int64.toBitVec_and, BitVec.toNat_and]
    exact Nat.and_le_right
  have h3 := y.toInt_lt
  have h4 := ys_ofNat64 (y := x &&& y) (by omega)
  omega
theorem ys_andm32 (x : Int32) : x &&& -1 = x := by
  apply Int32.toBitVec_inj.mp
  rw [Int32.toBitVec_and]
  show x.toBitVec &&& BitVec.allOnes 32 = x.toBitVec
  exact BitVec.and_allOnes
theorem ys_nnb32 {r : Nat → Int} {v : ys_E} (h : ys_ok r v) {y : ys_L} {u : Int} (hu : ys_nnb false v y = some u) : (Int32.ofInt (ys_ev r y)).toInt = ys_ev r y ∧ 0 ≤ ys_ev r y ∧ ys_ev r y ≤ u := by
  unfold ys_nnb at hu
  split at hu
  · rename_i hc
    rw [Bool.and_eq_true] at hc
    exact ⟨ys_inr32 h hc.2, ys_geb_le h hc.1, ys_high_le h hu⟩
  · cases hu
theorem ys_fand32 : ys_B32 (ys_fand false) (fun x y => x &&& y) (fun _ => True) := by
  intro r b x y o h hs hx hy ho
  refine ⟨trivial, ?_⟩
  have right : ∀ {t : Int}, ys_nnb false b.1 y = some t → 0 ≤ (Int32.ofInt (ys_ev r x) &&& Int32.ofInt (ys_ev r y)).toInt ∧ (Int32.ofInt (ys_ev r x) &&& Int32.ofInt (ys_ev r y)).toInt ≤ t := by
    intro t ht
    obtain ⟨e1, e2, e3⟩ := ys_nnb32 h.1 ht
    have h2 := ys_and32 (Int32.ofInt (ys_ev r x)) (y := Int32.ofInt (ys_ev r y)) (by rw [e1]; exact e2)
    rw [e1] at h2
    omega
  have left : ∀ {u : Int}, ys_nnb false b.1 x = some u → 0 ≤ (Int32.ofInt (ys_ev r x) &&& Int32.ofInt (ys_ev r y)).toInt ∧ (Int32.ofInt (ys_ev r x) &&& Int32.ofInt (ys_ev r y)).toInt ≤ u := by
    intro u hu
    obtain ⟨e1, e2, e3⟩ := ys_nnb32 h.1 hu
    have h2 := ys_and32 (Int32.ofInt (ys_ev r y)) (y := Int32.ofInt (ys_ev r x)) (by rw [e1]; exact e2)
    rw [Int32.and_comm, e1] at h2
    omega
  unfold ys_fand at ho
  split at ho
  · rename_i he
    cases Option.some.inj ho
    refine ys_Op_same h hs hx ?_
    show Int32.ofInt (ys_ev r x) = Int32.ofInt (ys_ev r x) &&& Int32.ofInt (ys_ev r y)
    rw [he, show Int32.ofInt (ys_ev r (([], -1) : ys_L)) = -1 from rfl]
    exact (ys_andm32 _).symm
  split at ho
  · rename_i he
    cases Option.some.inj ho
    refine ys_Op_same h hs hy ?_
    show Int32.ofInt (ys_ev r y) = Int32.ofInt (ys_ev r x) &&& Int32.ofInt (ys_ev r y)
    rw [he, show Int32.ofInt (ys_ev r (([], -1) : ys_L)) = -1 from rfl, Int32.and_comm]
    exact (ys_andm32 _).symm
  split at ho
  · rename_i u t hu ht
    cases Option.some.inj ho
    have h1 := left hu
    have h2 := right ht
    exact ys_Op_nw32 h hs _ ⟨h1.1, by show (Int32.ofInt (ys_ev r x) &&& Int32.ofInt (ys_ev r y)).toInt ≤ (if u ≤ t then u else t); split <;> omega⟩
  · rename_i u hu ht
    cases Option.some.inj ho
    exact ys_Op_nw32 h hs _ (left hu)
  · rename_i t hu ht
    cases Option.some.inj ho
    exact ys_Op_nw32 h hs _ (right ht)
  · cases Option.some.inj ho
    exact ys_Op_any32 h hs _
theorem ys_andm64 (x : Int64) : x &&& -1 = x := by
  apply Int64.toBitVec_inj.mp
  rw [Int64.toBitVec_and]
  show x.toBitVec &&& BitVec.allOnes 64 = x.toBitVec
  exact BitVec.and_allOnes
theorem ys_nnb64 {r : Nat → Int} {v : ys_E} (h : ys_ok r v) {y : ys_L} {u : Int} (hu : ys_nnb true v y = some u) : (Int64.ofInt (ys_ev r y)).toInt = ys_ev r y ∧ 0 ≤ ys_ev r y ∧ ys_ev r y ≤ u := by
  unfold ys_nnb at hu
  split at hu
  · rename_i hc
    rw [Bool.and_eq_true] at hc
    exact ⟨ys_inr64 h hc.2, ys_geb_le h hc.1, ys_high_le h hu⟩
  · cases hu
theorem ys_fand64 : ys_B64 (ys_fand true) (fun x y => x &&& y) (fun _ => True) := by
  intro r b x y o h hs hx hy ho
  refine ⟨trivial, ?_⟩
  have right : ∀ {t : Int}, ys_nnb true b.1 y = some t → 0 ≤ (Int64.ofInt (ys_ev r x) &&& Int64.ofInt (ys_ev r y)).toInt ∧ (Int64.ofInt (ys_ev r x) &&& Int64.ofInt (ys_ev r y)).toInt ≤ t := by
    intro t ht
    obtain ⟨e1, e2, e3⟩ := ys_nnb64 h.1 ht
    have h2 := ys_and64 (Int64.ofInt (ys_ev r x)) (y := Int64.ofInt (ys_ev r y)) (by rw [e1]; exact e2)
    rw [e1] at h2
    omega
  have left : ∀ {u : Int}, ys_nnb true b.1 x = some u → 0 ≤ (Int64.ofInt (ys_ev r x) &&& Int64.ofInt (ys_ev r y)).toInt ∧ (Int64.ofInt (ys_ev r x) &&& Int64.ofInt (ys_ev r y)).toInt ≤ u := by
    intro u hu
    obtain ⟨e1, e2, e3⟩ := ys_nnb64 h.1 hu
    have h2 := ys_and64 (Int64.ofInt (ys_ev r y)) (y := Int64.ofInt (ys_ev r x)) (by rw [e1]; exact e2)
    rw [Int64.and_comm, e1] at h2
    omega
  unfold ys_fand at ho
  split at ho
  · rename_i he
    cases Option.some.inj ho
    refine ys_Op_same h hs hx ?_
    show Int64.ofInt (ys_ev r x) = Int64.ofInt (ys_ev r x) &&& Int64.ofInt (ys_ev r y)
    rw [he, show Int64.ofInt (ys_ev r (([], -1) : ys_L)) = -1 from rfl]
    exact (ys_andm64 _).symm
  split at ho
  · rename_i he
    cases Option.some.inj ho
    refine ys_Op_same h hs hy ?_
    show Int64.ofInt (ys_ev r y) = Int64.ofInt (ys_ev r x) &&& Int64.ofInt (ys_ev r y)
    rw [he, show Int64.ofInt (ys_ev r (([], -1) : ys_L)) = -1 from rfl, Int64.and_comm]
    exact (ys_andm64 _).symm
  split at ho
  · rename_i u t hu ht
    cases Option.some.inj ho
    have h1 := left hu
    have h2 := right ht
    exact ys_Op_nw64 h hs _ ⟨h1.1, by show (Int64.ofInt (ys_ev r x) &&& Int64.ofInt (ys_ev r y)).toInt ≤ (if u ≤ t then u else t); split <;> omega⟩
  · rename_i u hu ht
    cases Option.some.inj ho
    exact ys_Op_nw64 h hs _ (left hu)
  · rename_i t hu ht
    cases Option.some.inj ho
    exact ys_Op_nw64 h hs _ (right ht)
  · cases Option.some.inj ho
    exact ys_Op_any64 h hs _
/-! or, exclusive or: of numbers not below 0, below a power of two -/
def ys_p2 (m : Int) : Nat := Nat.log2 m.toNat + 1
def ys_for (b : ys_B) (x y : ys_L) : Option (ys_B × ys_L) :=
  match (if ys_geb b.1 x 0 && ys_inr false b.1 x && (ys_geb b.1 y 0 && ys_inr false b.1 y) then (match ys_high b.1 x, ys_high b.1 y with
    | some u, some t => some (ys_p2 (if u ≤ t then t else u))
    | _, _ => none) else none) with
  | some k => if k ≤ 31 then some (ys_nw b (0, 2 ^ k - 1)) else some (ys_new b (ys_mn false, ys_mx false))
  | none => some (ys_new b (ys_mn false, ys_mx false))
def ys_fxor (b : ys_B) (x y : ys_L) : Option (ys_B × ys_L) := if y = ([], -1) then some (ys_nm false b (ys_sub ([], -1) x)) else ys_for b x y
theorem ys_p2_lt {m z : Int} (h : z ≤ m) : z.toNat < 2 ^ ys_p2 m := Nat.lt_of_le_of_lt (Int.toNat_le_toNat h) Nat.lt_log2_self
theorem ys_for32 (op : Int32 → Int32 → Int32) (hop : ∀ (x y : Int32) (k : Nat), x.toBitVec.toNat < 2 ^ k → y.toBitVec.toNat < 2 ^ k → (op x y).toBitVec.toNat < 2 ^ k) : ys_B32 ys_for op (fun _ => True) := by
  intro r b x y o h hs hx hy ho
  refine ⟨trivial, ?_⟩
  unfold ys_for at ho
  split at ho
  · rename_i k hk
    split at hk
    · rename_i hc
      rw [Bool.and_eq_true, Bool.and_eq_true, Bool.and_eq_true] at hc
      obtain ⟨⟨c1, c2⟩, c3, c4⟩ := hc
      split at hk
      · rename_i u t hu ht
        have hk := Option.some.inj hk
        split at ho
        · rename_i hk31
          cases Option.some.inj ho
          have ex := ys_inr32 h.1 c2
          have ey := ys_inr32 h.1 c4
          have x0 := ys_geb_le h.1 c1
          have y0 := ys_geb_le h.1 c3
          have xu := ys_high_le h.1 hu
          have yt := ys_high_le h.1 ht
          have xn := ys_toNat32 (y := Int32.ofInt (ys_ev r x)) (by rw [ex]; exact x0)
          have yn := ys_toNat32 (y := Int32.ofInt (ys_ev r y)) (by rw [ey]; exact y0)
          rw [ex] at xn
          rw [ey] at yn
          have xk : (Int32.ofInt (ys_ev r x)).toBitVec.toNat < 2 ^ k := by
            have := ys_p2_lt (m := if u ≤ t then t else u) (z := ys_ev r x) (by split <;> omega)
            rw [hk] at this
            omega
          have yk : (Int32.ofInt (ys_ev r y)).toBitVec.toNat < 2 ^ k := by
            have := ys_p2_lt (m := if u ≤ t then t else u) (z := ys_ev r y) (by split <;> omega)
            rw [hk] at this
            omega
          have zk := hop _ _ k xk yk
          have h31 : (2 : Nat) ^ k ≤ 2 ^ 31 := Nat.pow_le_pow_right (by decide) hk31
          have e := ys_ofNat32 (y := op (Int32.ofInt (ys_ev r x)) (Int32.ofInt (ys_ev r y))) (by omega)
          have hpow : ((2 : Int) ^ k) = ((2 ^ k : Nat) : Int) := by simp
          refine ys_Op_nw32 h hs _ ⟨by show (0 : Int) ≤ _; omega, ?_⟩
          show _ ≤ (2 : Int) ^ k - 1
          rw [hpow]
          omega
        · cases Option.some.inj ho
          exact ys_Op_any32 h hs _
      · cases hk
    · cases hk
  · cases Option.some.inj ho
    exact ys_Op_any32 h hs _
theorem ys_or32 : ys_B32 ys_for (fun x y => x ||| y) (fun _ => True) := ys_for32 _ fun x y k hx hy => by
  rw [Int32.toBitVec_or, BitVec.toNat_or]
  exact Nat.or_lt_two_pow hx hy
theorem ys_xor32 : ys_B32 ys_for (fun x y => x ^^^ y) (fun _ => True) := ys_for32 _ fun x y k hx hy => by
  rw [Int32.toBitVec_xor, BitVec.toNat_xor]
  exact Nat.xor_lt_two_pow hx hy
theorem ys_not32 (z : Int) : Int32.ofInt z ^^^ -1 = Int32.ofInt (-1 - z) := by
  rw [Int32.ofInt_sub, show Int32.ofInt (-1) = -1 from rfl]
  apply Int32.toBitVec_inj.mp
  show (Int32.ofInt z).toBitVec ^^^ BitVec.allOnes 32 = -1#32 - (Int32.ofInt z).toBitVec
  rw [BitVec.xor_allOnes]
  generalize (Int32.ofInt z).toBitVec = w
  apply BitVec.eq_of_toNat_eq
  rw [BitVec.toNat_not, BitVec.toNat_sub]
  have := w.isLt
  rw [show (-1#32).toNat = 4294967295 from rfl]
  omega
theorem ys_fxor32 : ys_B32 ys_fxor (fun x y => x ^^^ y) (fun _ => True) := by
  intro r b x y o h hs hx hy ho
  unfold ys_fxor at ho
  split at ho
  · rename_i he
    cases Option.some.inj ho
    refine ⟨trivial, ys_Op_nm32 h hs (ys_stb_sub (ys_stb_cst _) hx) ?_⟩
    show _ = Int32.ofInt (ys_ev r x) ^^^ Int32.ofInt (ys_ev r y)
    rw [he, show Int32.ofInt (ys_ev r (([], -1) : ys_L)) = -1 from rfl, ys_not32, ys_sub_ev]
    rfl
  · exact ys_xor32 r b x y o h hs hx hy ho
end
section
/-! division, shifts, one number -/
def ys_nz (v : ys_E) (y : ys_L) : Bool := ys_geb v y 1 || ys_geb v (ys_scale (-1) y) 1
theorem ys_nz_ok {r : Nat → Int} {v : ys_E} (h : ys_ok r v) {y : ys_L} (hz : ys_nz v y = true) : ys_ev r y ≠ 0 := by
  unfold ys_nz at hz
  rcases (Bool.or_eq_true _ _).mp hz with h1 | h1
  · have := ys_geb_le h h1
    omega
  · have := ys_geb_le h h1
    rw [ys_scale_ev] at this
    omega
/-- a number not below 0 over a constant above 0: the bounds of the quotient -/
def ys_qb (w : Bool) (v : ys_E) (x y : ys_L) : Option (Int × Int) := match y.1, ys_low v x, ys_high v x with
  | [], some l, some u => if 1 ≤ y.2 && (0 ≤ l && (y.2 ≤ ys_mx w && ys_inr w v x)) then some (l / y.2, u / y.2) else none
  | _, _, _ => none
theorem ys_qb_ok {r : Nat → Int} {w : Bool} {v : ys_E} (h : ys_ok r v) {x y : ys_L} {q : Int × Int} (hq : ys_qb w v x y = some q) : y.1 = [] ∧ 1 ≤ y.2 ∧ y.2 ≤ ys_mx w ∧ 0 ≤ ys_ev r x ∧ ys_inr w v x = true ∧ q.1 ≤ ys_ev r x / y.2 ∧ ys_ev r x / y.2 ≤ q.2 ∧ 0 ≤ q.1 := by
  unfold ys_qb at hq
  split at hq
  · rename_i l u hy hl hu
    split at hq
    · rename_i hc
      simp only [Bool.and_eq_true, decide_eq_true_eq] at hc
      obtain ⟨c1, c2, c3, c4⟩ := hc
      cases Option.some.inj hq
      have h1 := ys_low_le h hl
      have h2 := ys_high_le h hu
      exact ⟨hy, c1, c3, by omega, c4, Int.ediv_le_ediv (by omega) h1, Int.ediv_le_ediv (by omega) h2, Int.ediv_nonneg c2 (by omega)⟩
    · cases hq
  · cases hq
def ys_fdiv (w : Bool) (b : ys_B) (x y : ys_L) : Option (ys_B × ys_L) :=
  if ys_inr w b.1 y && ys_nz b.1 y then (match ys_qb w b.1 x y with
    | some q => if q.1 = q.2 then some (b, ys_cst q.1) else some (ys_new b q)
    | none => some (ys_new b (ys_mn w, ys_mx w)))
  else none
def ys_frem (w : Bool) (b : ys_B) (x y : ys_L) : Option (ys_B × ys_L) :=
  if ys_inr w b.1 y && ys_nz b.1 y then (match ys_qb w b.1 x y with
    | some q => if q.1 = q.2 then some (ys_nm w b (ys_sub x (ys_cst (q.1 * y.2)))) else some (ys_new b (0, y.2 - 1))
    | none => some (ys_new b (ys_mn w, ys_mx w)))
  else none
theorem ys_div32 {x y : Int} (hx : 0 ≤ x) (hx2 : x ≤ 2147483647) (hy : 1 ≤ y) (hy2 : y ≤ 2147483647) : Int32.ofInt x / Int32.ofInt y = Int32.ofInt (x / y) := by
  apply Int32.toInt_inj.mp
  have h1 : 0 ≤ x / y := Int.ediv_nonneg hx (by omega)
  have h2 : x / y ≤ x := Int.ediv_le_self _ hx
  rw [Int32.toInt_div, Int32.toInt_ofInt_of_le (by omega) (by omega), Int32.toInt_ofInt_of_le (by omega) (by omega), Int32.toInt_ofInt_of_le (by omega) (by omega), Int.tdiv_eq_ediv_of_nonneg hx]
  exact Int.bmod_eq_of_le (by omega) (by omega)
theorem ys_div64 {x y : Int} (hx : 0 ≤ x) (hx2 : x ≤ 9223372036854775807) (hy : 1 ≤ y) (hy2 : y ≤ 9223372036854775807) : Int64.ofInt x / Int64.ofInt y = Int64.ofInt (x / y) := by
  apply Int64.toInt_inj.mp
  have h1 : 0 ≤ x / y := Int.ediv_nonneg hx (by omega)
  have h2 : x / y ≤ x := Int.ediv_le_self _ hx
  rw [Int64.toInt_div, Int64.toInt_ofInt_of_le (by omega) (by omega), Int64.toInt_ofInt_of_le (by omega) (by omega), Int64.toInt_ofInt_of_le (by omega) (by omega), Int.tdiv_eq_ediv_of_nonneg hx]
  exact Int.bmod_eq_of_le (by omega) (by omega)
theorem ys_ne32 {y : Int} (h : y ≠ 0) (h1 : ys_mn false ≤ y ∧ y ≤ ys_mx false) : ¬ Int32.ofInt y = 0 := by
  intro e
  have e2 := congrArg Int32.toInt e
  rw [ys_mn_f, ys_mx_f] at h1
  rw [Int32.toInt_ofInt_of_le (by omega) (by omega)] at e2
  exact h e2
theorem ys_ne64 {y : Int} (h : y ≠ 0) (h1 : ys_mn true ≤ y ∧ y ≤ ys_mx true) : ¬ Int64.ofInt y = 0 := by
  intro e
  have e2 := congrArg Int64.toInt e
  rw [ys_mn_t, ys_mx_t] at h1
  rw [Int64.toInt_ofInt_of_le (by omega) (by omega)] at e2
  exact h e2
theorem ys_fdiv32 : ys_B32 (ys_fdiv false) (fun x y => x / y) (fun y => ¬ y = 0) := by
  intro r b x y o h hs hx hy ho
  unfold ys_fdiv at ho
  split at ho
  · rename_i hc
    rw [Bool.and_eq_true] at hc
    refine ⟨ys_ne32 (ys_nz_ok h.1 hc.2) (ys_inr_ok h.1 hc.1), ?_⟩
    split at ho
    · rename_i q hq
      obtain ⟨h1, h2, h3, h4, h5, h6, h7, h8⟩ := ys_qb_ok h.1 hq
      have hr := (ys_inr_ok h.1 h5).2
      have e : Int32.ofInt (ys_ev r x) / Int32.ofInt (ys_ev r y) = Int32.ofInt (ys_ev r x / y.2) := by
        rw [ys_ev_nil r h1]
        exact ys_div32 h4 hr h2 h3
      split at ho
      · rename_i hqq
        cases Option.some.inj ho
        refine ys_Op_same h hs (ys_stb_cst _) ?_
        rw [ys_cst_ev]
        show Int32.ofInt q.1 = Int32.ofInt (ys_ev r x) / Int32.ofInt (ys_ev r y)
        rw [e]
        congr 1
        omega
      · cases Option.some.inj ho
        exact ys_Op_new _ h hs ⟨h6, h7⟩ e.symm
    · cases Option.some.inj ho
      exact ys_Op_any32 h hs _
  · cases ho
theorem ys_fdiv64 : ys_B64 (ys_fdiv true) (fun x y => x / y) (fun y => ¬ y = 0) := by
  intro r b x y o h hs hx hy ho
  unfold ys_fdiv at ho
  split at ho
  · rename_i hc
    rw [Bool.and_eq_true] at hc
    refine ⟨ys_ne64 (ys_nz_ok h.1 hc.2) (ys_inr_ok h.1 hc.1), ?_⟩
    split at ho
    · rename_i q hq
      obtain ⟨h1, h2, h3, h4, h5, h6, h7, h8⟩ := ys_qb_ok h.1 hq
      have hr := (ys_inr_ok h.1 h5).2
      have e : Int64.ofInt (ys_ev r x) / Int64.ofInt (ys_ev r y) = Int64.ofInt (ys_ev r x / y.2) := by
        rw [ys_ev_nil r h1]
        exact ys_div64 h4 hr h2 h3
      split at ho
      · rename_i hqq
        cases Option.some.inj ho
        refine ys_Op_same h hs (ys_stb_cst _) ?_
        rw [ys_cst_ev]
        show Int64.ofInt q.1 = Int64.ofInt (ys_ev r x) / Int64.ofInt (ys_ev r y)
        rw [e]
        congr 1
        omega
      · cases Option.some.inj ho
        exact ys_Op_new _ h hs ⟨h6, h7⟩ e.symm
    · cases Option.some.inj ho
      exact ys_Op_any64 h hs _
  · cases ho
theorem ys_frem32 : ys_B32 (ys_frem false) (fun x y => x - x / y * y) (fun y => ¬ y = 0) := by
  intro r b x y o h hs hx hy ho
  unfold ys_frem at ho
  split at ho
  · rename_i hc
    rw [Bool.and_eq_true] at hc
    refine ⟨ys_ne32 (ys_nz_ok h.1 hc.2) (ys_inr_ok h.1 hc.1), ?_⟩
    split at ho
    · rename_i q hq
      obtain ⟨h1, h2, h3, h4, h5, h6, h7, h8⟩ := ys_qb_ok h.1 hq
      have hr := (ys_inr_ok h.1 h5).2
      have e : Int32.ofInt (ys_ev r x) - Int32.ofInt (ys_ev r x) / Int32.ofInt (ys_ev r y) * Int32.ofInt (ys_ev r y) = Int32.ofInt (ys_ev r x - ys_ev r x / y.2 * y.2) := by
        rw [ys_ev_nil r h1, ys_div32 h4 hr h2 h3, ← Int32.ofInt_mul, ← Int32.ofInt_sub]
      split at ho
      · rename_i hqq
        cases Option.some.inj ho
        refine ys_Op_nm32 h hs (ys_stb_sub hx (ys_stb_cst _)) ?_
        show _ = Int32.ofInt (ys_ev r x) - Int32.ofInt (ys_ev r x) / Int32.ofInt (ys_ev r y) * Int32.ofInt (ys_ev r y)
        rw [e, ys_sub_ev, ys_cst_ev, show ys_ev r x / y.2 = q.1 by omega]
      · cases Option.some.inj ho
        have h9 := Int.emod_def (ys_ev r x) y.2
        have h10 := Int.emod_nonneg (ys_ev r x) (b := y.2) (by omega)
        have h11 := Int.emod_lt_of_pos (ys_ev r x) (b := y.2) (by omega)
        have h12 := Int.mul_comm y.2 (ys_ev r x / y.2)
        exact ys_Op_new (ys_ev r x - ys_ev r x / y.2 * y.2) h hs ⟨by show (0 : Int) ≤ _; omega, by show _ ≤ y.2 - 1; omega⟩ e.symm
    · cases Option.some.inj ho
      exact ys_Op_any32 h hs _
  · cases ho
theorem ys_frem64 : ys_B64 (ys_frem true) (fun x y => x - x / y * y) (fun y => ¬ y = 0) := by
  intro r b x y o h hs hx hy ho
  unfold ys_frem at ho
  split at ho
  · rename_i hc
    rw [Bool.and_eq_true] at hc
    refine ⟨ys_ne64 (ys_nz_ok h.1 hc.2) (ys_inr_ok h.1 hc.1), ?_⟩
    split at ho
    · rename_i q hq
      obtain ⟨h1, h2, h3, h4, h5, h6, h7, h8⟩ := ys_qb_ok h.1 hq
      have hr := (ys_inr_ok h.1 h5).2
      have e : Int64.ofInt (ys_ev r x) - Int64.ofInt (ys_ev r x) / Int64.ofInt (ys_ev r y) * Int64.ofInt (ys_ev r y) = Int64.ofInt (ys_ev r x - ys_ev r x / y.2 * y.2) := by
        rw [ys_ev_nil r h1, ys_div64 h4 hr h2 h3, ← Int64.ofInt_mul, ← Int64.ofInt_sub]
      split at ho
      · rename_i hqq
        cases Option.some.inj ho
        refine ys_Op_nm64 h hs (ys_stb_sub hx (ys_stb_cst _)) ?_
        show _ = Int64.ofInt (ys_ev r x) - Int64.ofInt (ys_ev r x) / Int64.ofInt (ys_ev r y) * Int64.ofInt (ys_ev r y)
        rw [e, ys_sub_ev, ys_cst_ev, show ys_ev r x / y.2 = q.1 by omega]
      · cases Option.some.inj ho
        have h9 := Int.emod_def (ys_ev r x) y.2
        have h10 := Int.emod_nonneg (ys_ev r x) (b := y.2) (by omega)
        have h11 := Int.emod_lt_of_pos (ys_ev r x) (b := y.2) (by omega)
        have h12 := Int.mul_comm y.2 (ys_ev r x / y.2)
        exact ys_Op_new (ys_ev r x - ys_ev r x / y.2 * y.2) h hs ⟨by show (0 : Int) ≤ _; omega, by show _ ≤ y.2 - 1; omega⟩ e.symm
    · cases Option.some.inj ho
      exact ys_Op_any64 h hs _
  · cases ho
/-! shifts to the left of a constant -/
def ys_shb (w : Bool) (v : ys_E) (x y : ys_L) : Option (Int × Int) := match x.1, ys_low v y, ys_high v y with
  | [], some l, some u => if 0 ≤ x.2 && (0 ≤ l && (u ≤ 30 && (x.2 * 2 ^ u.toNat ≤ ys_mx w))) then some (x.2 * 2 ^ l.toNat, x.2 * 2 ^ u.toNat) else none
  | _, _, _ => none
theorem ys_shb_ok {r : Nat → Int} {w : Bool} {v : ys_E} (h : ys_ok r v) {x y : ys_L} {q : Int × Int} (hq : ys_shb w v x y = some q) : x.1 = [] ∧ ∃ n k : Nat, x.2 = (n : Int) ∧ ys_ev r y = (k : Int) ∧ k ≤ 30 ∧ q.1 ≤ ((n * 2 ^ k : Nat) : Int) ∧ ((n * 2 ^ k : Nat) : Int) ≤ q.2 ∧ q.2 ≤ ys_mx w := by
  unfold ys_shb at hq
  split at hq
  · rename_i l u hx hl hu
    split at hq
    · rename_i hc
      simp only [Bool.and_eq_true, decide_eq_true_eq] at hc
      obtain ⟨c1, c2, c3, c4⟩ := hc
      cases Option.some.inj hq
      have h1 := ys_low_le h hl
      have h2 := ys_high_le h hu
      obtain ⟨n, hn⟩ := Int.eq_ofNat_of_zero_le c1
      obtain ⟨k, hk⟩ := Int.eq_ofNat_of_zero_le (a := ys_ev r y) (by omega)
      have pw : ∀ j : Nat, x.2 * 2 ^ j = ((n * 2 ^ j : Nat) : Int) := by
        intro j
        rw [hn]
        simp
      refine ⟨hx, n, k, hn, hk, by omega, ?_, ?_, c4⟩
      · show x.2 * 2 ^ l.toNat ≤ _
        rw [pw]
        exact Int.ofNat_le.mpr (Nat.mul_le_mul_left n (Nat.pow_le_pow_right (by decide) (by omega)))
      · show _ ≤ x.2 * 2 ^ u.toNat
        rw [pw]
        exact Int.ofNat_le.mpr (Nat.mul_le_mul_left n (Nat.pow_le_pow_right (by decide) (by omega)))
    · cases hq
  · cases hq
def ys_fshl (w : Bool) (b : ys_B) (x y : ys_L) : Option (ys_B × ys_L) := match ys_shb w b.1 x y with
  | some q => some (ys_nw b q)
  | none => some (ys_new b (ys_mn w, ys_mx w))
theorem ys_31 {k : Nat} (hk : k ≤ 30) : (((Int32.ofInt (k : Int)) &&& 31).toBitVec.smod 32).toNat = k := by
  have : ∀ j : Fin 31, (((Int32.ofInt ((j : Nat) : Int)) &&& 31).toBitVec.smod 32).toNat = (j : Nat) := by decide +kernel
  exact this ⟨k, by omega⟩
theorem ys_63 {k : Nat} (hk : k ≤ 30) : (((Int32.ofInt (k : Int)).toInt64 &&& 63).toBitVec.smod 64).toNat = k := by
  have : ∀ j : Fin 31, (((Int32.ofInt ((j : Nat) : Int)).toInt64 &&& 63).toBitVec.smod 64).toNat = (j : Nat) := by decide +kernel
  exact this ⟨k, by omega⟩
theorem ys_shl32 {n k : Nat} (hk : k ≤ 30) (h : n * 2 ^ k ≤ 2147483647) : Int32.ofInt (n : Int) <<< (Int32.ofInt (k : Int) &&& 31) = Int32.ofInt ((n * 2 ^ k : Nat) : Int) := by
  rw [Int32.ofInt_eq_ofNat, Int32.ofInt_eq_ofNat]
  have := pk_shlN (n := n) (Int32.ofInt (k : Int) &&& 31) k (ys_31 hk) (by omega)
  rw [Int32.ofInt_eq_ofNat] at this
  exact this
theorem ys_shl64 {n k : Nat} (hk : k ≤ 30) (h : n * 2 ^ k ≤ 9223372036854775807) : Int64.ofInt (n : Int) <<< ((Int32.ofInt (k : Int)).toInt64 &&& 63) = Int64.ofInt ((n * 2 ^ k : Nat) : Int) := by
  have hn : n ≤ n * 2 ^ k := Nat.le_mul_of_pos_right n (Nat.two_pow_pos k)
  apply Int64.toBitVec_inj.mp
  apply BitVec.eq_of_toNat_eq
  show ((Int64.ofInt (n : Int)).toBitVec <<< (((Int32.ofInt (k : Int)).toInt64 &&& 63).toBitVec.smod 64).toNat).toNat = _
  rw [ys_63 hk, BitVec.toNat_shiftLeft, Nat.shiftLeft_eq, Int64.ofInt_eq_ofNat, Int64.ofInt_eq_ofNat]
  show (BitVec.ofNat 64 n).toNat * 2 ^ k % 2 ^ 64 = (BitVec.ofNat 64 (n * 2 ^ k)).toNat
  rw [BitVec.toNat_ofNat, BitVec.toNat_ofNat, Nat.mod_eq_of_lt (a := n) (by omega)]
theorem ys_fshl32 : ys_B32 (ys_fshl false) (fun x y => x <<< (y &&& 31)) (fun _ => True) := by
  intro r b x y o h hs hx hy ho
  refine ⟨trivial, ?_⟩
  unfold ys_fshl at ho
  split at ho
  · rename_i q hq
    cases Option.some.inj ho
    obtain ⟨h1, n, k, hn, hk, h2, h3, h4, h5⟩ := ys_shb_ok h.1 hq
    rw [ys_mx_f] at h5
    refine ys_Op_nw _ h hs ⟨h3, h4⟩ ?_
    show _ = Int32.ofInt (ys_ev r x) <<< (Int32.ofInt (ys_ev r y) &&& 31)
    rw [ys_ev_nil r h1, hn, hk, ys_shl32 h2 (by omega)]
  · cases Option.some.inj ho
    exact ys_Op_any32 h hs _
def ys_fshr (b : ys_B) (x _ : ys_L) : Option (ys_B × ys_L) := match ys_nnb false b.1 x with
  | some u => some (ys_nw b (0, u))
  | none => some (ys_new b (ys_mn false, ys_mx false))
theorem ys_fshr32 : ys_B32 ys_fshr (fun x y => x >>> (y &&& 31)) (fun _ => True) := by
  intro r b x y o h hs hx hy ho
  refine ⟨trivial, ?_⟩
  unfold ys_fshr at ho
  split at ho
  · rename_i u hu
    cases Option.some.inj ho
    obtain ⟨e1, e2, e3⟩ := ys_nnb32 h.1 hu
    have h1 := pk_shr (Int32.ofInt (ys_ev r x)) (Int32.ofInt (ys_ev r y) &&& 31) _ rfl
    rw [e1, Int.shiftRight_eq_div_pow] at h1
    have h2 := Int.ediv_le_self (((2 ^ ((Int32.ofInt (ys_ev r y) &&& 31).toBitVec.smod 32).toNat : Nat) : Int)) e2
    have h3 := Int.ediv_nonneg (b := ((2 ^ ((Int32.ofInt (ys_ev r y) &&& 31).toBitVec.smod 32).toNat : Nat) : Int)) e2 (Int.natCast_nonneg _)
    refine ys_Op_nw32 h hs _ ?_
    show (0 : Int) ≤ (Int32.ofInt (ys_ev r x) >>> (Int32.ofInt (ys_ev r y) &&& 31)).toInt ∧ (Int32.ofInt (ys_ev r x) >>> (Int32.ofInt (ys_ev r y) &&& 31)).toInt ≤ u
    rw [h1]
    exact ⟨h3, Int.le_trans h2 e3⟩
  · cases Option.some.inj ho
    exact ys_Op_any32 h hs _
/-- a long, shifted by an int -/
def ys_BLI (F : ys_B → ys_L → ys_L → Option (ys_B × ys_L)) (op : Int64 → Int32 → Int64) : Prop := ∀ (r : Nat → Int) (b : ys_B) (x y : ys_L) (o : ys_B × ys_L), ys_okB r b → ys_scB b → ys_stb b.1.length x → ys_stb b.1.length y → F b x y = some o → ys_Op r b o (fun z => Int64.ofInt z = op (Int64.ofInt (ys_ev r x)) (Int32.ofInt (ys_ev r y)))
theorem ys_fshl64 : ys_BLI (ys_fshl true) (fun x y => x <<< (y.toInt64 &&& 63)) := by
  intro r b x y o h hs hx hy ho
  unfold ys_fshl at ho
  split at ho
  · rename_i q hq
    cases Option.some.inj ho
    obtain ⟨h1, n, k, hn, hk, h2, h3, h4, h5⟩ := ys_shb_ok h.1 hq
    rw [ys_mx_t] at h5
    refine ys_Op_nw _ h hs ⟨h3, h4⟩ ?_
    show _ = Int64.ofInt (ys_ev r x) <<< ((Int32.ofInt (ys_ev r y)).toInt64 &&& 63)
    rw [ys_ev_nil r h1, hn, hk, ys_shl64 h2 (by omega)]
  · cases Option.some.inj ho
    exact ys_Op_any64 h hs _
theorem ys_fanyLI (op : Int64 → Int32 → Int64) : ys_BLI (ys_fany true) op := by
  intro r b x y o h hs hx hy ho
  cases Option.some.inj ho
  exact ys_Op_any64 h hs _
/-! one number -/
def ys_fneg (w : Bool) (b : ys_B) (x : ys_L) : ys_B × ys_L := ys_nm w b (ys_scale (-1) x)
theorem ys_fneg32 {r : Nat → Int} {b : ys_B} {x : ys_L} (h : ys_okB r b) (hs : ys_scB b) (hx : ys_stb b.1.length x) : ys_Op r b (ys_fneg false b x) (fun z => Int32.ofInt z = -Int32.ofInt (ys_ev r x)) := ys_Op_nm32 h hs (ys_stb_scale _ hx) (by rw [ys_scale_ev, Int.neg_mul, Int.one_mul, Int32.ofInt_neg])
theorem ys_fneg64 {r : Nat → Int} {b : ys_B} {x : ys_L} (h : ys_okB r b) (hs : ys_scB b) (hx : ys_stb b.1.length x) : ys_Op r b (ys_fneg true b x) (fun z => Int64.ofInt z = -Int64.ofInt (ys_ev r x)) := ys_Op_nm64 h hs (ys_stb_scale _ hx) (by rw [ys_scale_ev, Int.neg_mul, Int.one_mul, Int64.ofInt_neg])
theorem ys_l2i (z : Int) : (Int64.ofInt z).toInt32 = Int32.ofInt z := by
  apply Int32.toInt_inj.mp
  rw [Int64.toInt_toInt32, Int64.toInt_ofInt, Int32.toInt_ofInt]
  exact Int.bmod_bmod_of_dvd (by decide)
theorem ys_fl2i {r : Nat → Int} {b : ys_B} {x : ys_L} (h : ys_okB r b) (hs : ys_scB b) (hx : ys_stb b.1.length x) : ys_Op r b (ys_nm false b x) (fun z => Int32.ofInt z = (Int64.ofInt (ys_ev r x)).toInt32) := ys_Op_nm32 h hs hx (ys_l2i _).symm
theorem ys_i2l {r : Nat → Int} {v : ys_E} (h : ys_ok r v) {x : ys_L} (hi : ys_inr false v x = true) : (Int32.ofInt (ys_ev r x)).toInt64 = Int64.ofInt (ys_ev r x) := by
  apply Int64.toInt_inj.mp
  obtain ⟨h1, h2⟩ := ys_inr_ok h hi
  rw [ys_mn_f] at h1
  rw [ys_mx_f] at h2
  rw [Int32.toInt_toInt64, ys_inr32 h hi, Int64.toInt_ofInt_of_le (by omega) (by omega)]
/-- cut to a byte (7) or a short (15) -/
def ys_fcut (k : Nat) (b : ys_B) (x : ys_L) : ys_B × ys_L := if ys_geb b.1 x (-(2 ^ k)) && ys_geb b.1 (ys_scale (-1) x) (-(2 ^ k - 1)) then (b, x) else ys_new b (-(2 ^ k), 2 ^ k - 1)
theorem ys_fi2b {r : Nat → Int} {b : ys_B} {x : ys_L} (h : ys_okB r b) (hs : ys_scB b) (hx : ys_stb b.1.length x) : ys_Op r b (ys_fcut 7 b x) (fun z => Int32.ofInt z = (Int32.ofInt (ys_ev r x)).toInt8.toInt32) := by
  unfold ys_fcut
  split
  · rename_i hc
    rw [Bool.and_eq_true] at hc
    have h1 := ys_geb_le h.1 hc.1
    have h2 := ys_geb_le h.1 hc.2
    rw [ys_scale_ev] at h2
    refine ys_Op_same h hs hx ?_
    apply Int32.toInt_inj.mp
    rw [Int8.toInt_toInt32, Int32.toInt_toInt8, Int32.toInt_ofInt_of_le (by omega) (by omega)]
    exact (Int.bmod_eq_of_le (by omega) (by omega)).symm
  · refine ys_Op_in32 h hs _ ?_
    rw [Int8.toInt_toInt32]
    have h1 := (Int32.ofInt (ys_ev r x)).toInt8.le_toInt
    have h2 := (Int32.ofInt (ys_ev r x)).toInt8.toInt_lt
    exact ⟨h1, by show _ ≤ (2 : Int) ^ 7 - 1; omega⟩
theorem ys_fi2s {r : Nat → Int} {b : ys_B} {x : ys_L} (h : ys_okB r b) (hs : ys_scB b) (hx : ys_stb b.1.length x) : ys_Op r b (ys_fcut 15 b x) (fun z => Int32.ofInt z = (Int32.ofInt (ys_ev r x)).toInt16.toInt32) := by
  unfold ys_fcut
  split
  · rename_i hc
    rw [Bool.and_eq_true] at hc
    have h1 := ys_geb_le h.1 hc.1
    have h2 := ys_geb_le h.1 hc.2
    rw [ys_scale_ev] at h2
    refine ys_Op_same h hs hx ?_
    apply Int32.toInt_inj.mp
    rw [Int16.toInt_toInt32, Int32.toInt_toInt16, Int32.toInt_ofInt_of_le (by omega) (by omega)]
    exact (Int.bmod_eq_of_le (by omega) (by omega)).symm
  · refine ys_Op_in32 h hs _ ?_
    rw [Int16.toInt_toInt32]
    have h1 := (Int32.ofInt (ys_ev r x)).toInt16.le_toInt
    have h2 := (Int32.ofInt (ys_ev r x)).toInt16.toInt_lt
    exact ⟨h1, by show _ ≤ (2 : Int) ^ 15 - 1; omega⟩
/-! what a comparison tells -/
def ys_ne (v : ys_E) (x y : ys_L) : List ys_L := if ys_geb v (ys_sub x y) 0 then [ys_add (ys_sub x y) ([], -1)] else if ys_geb v (ys_sub y x) 0 then [ys_add (ys_sub y x) ([], -1)] else []
def ys_cf (v : ys_E) (c : ClassFile.Cond) (x y : ys_L) : List ys_L := match c with
  | .eq => [ys_sub x y, ys_sub y x]
  | .ne => ys_ne v x y
  | .lt => [ys_add (ys_sub y x) ([], -1)]
  | .ge => [ys_sub x y]
  | .gt => [ys_add (ys_sub x y) ([], -1)]
  | .le => [ys_sub y x]
def ys_ch (c : ClassFile.Cond) (x y : Int) : Prop := match c with
  | .eq => x = y
  | .ne => ¬ x = y
  | .lt => x < y
  | .ge => y ≤ x
  | .gt => y < x
  | .le => x ≤ y
def ys_cn (c : ClassFile.Cond) : ClassFile.Cond := match c with
  | .eq => .ne
  | .ne => .eq
  | .lt => .ge
  | .ge => .lt
  | .gt => .le
  | .le => .gt
theorem ys_cn_ok {c : ClassFile.Cond} {x y : Int} (h : ¬ ys_ch c x y) : ys_ch (ys_cn c) x y := by
  cases c <;> simp only [ys_ch, ys_cn] at h ⊢ <;> omega
theorem ys_m1 (r : Nat → Int) (e : ys_L) : ys_ev r (ys_add e ([], -1)) = ys_ev r e - 1 := by
  rw [ys_add_ev]
  show ys_ev r e + (0 + -1) = _
  omega
theorem ys_fk1 {r : Nat → Int} {f : ys_L} (h : 0 ≤ ys_ev r f) : ys_fk r [f] := fun g hg => by
  rw [List.mem_singleton.mp hg]
  exact h
theorem ys_cf_ok {r : Nat → Int} {v : ys_E} (hv : ys_ok r v) {c : ClassFile.Cond} {x y : ys_L} (h : ys_ch c (ys_ev r x) (ys_ev r y)) : ys_fk r (ys_cf v c x y) := by
  cases c with
  | eq =>
    intro f hf
    have h : ys_ev r x = ys_ev r y := h
    rcases List.mem_cons.mp hf with e | e
    · rw [e, ys_sub_ev]; omega
    · rw [List.mem_singleton.mp e, ys_sub_ev]; omega
  | ne =>
    have h : ¬ ys_ev r x = ys_ev r y := h
    show ys_fk r (ys_ne v x y)
    unfold ys_ne
    split
    · rename_i hc
      have := ys_geb_le hv hc
      rw [ys_sub_ev] at this
      exact ys_fk1 (by rw [ys_m1, ys_sub_ev]; omega)
    · split
      · rename_i hc
        have := ys_geb_le hv hc
        rw [ys_sub_ev] at this
        exact ys_fk1 (by rw [ys_m1, ys_sub_ev]; omega)
      · intro f hf
        cases hf
  | lt =>
    have h : ys_ev r x < ys_ev r y := h
    exact ys_fk1 (by rw [ys_m1, ys_sub_ev]; omega)
  | ge =>
    have h : ys_ev r y ≤ ys_ev r x := h
    exact ys_fk1 (by rw [ys_sub_ev]; omega)
  | gt =>
    have h : ys_ev r y < ys_ev r x := h
    exact ys_fk1 (by rw [ys_m1, ys_sub_ev]; omega)
  | le =>
    have h : ys_ev r x ≤ ys_ev r y := h
    exact ys_fk1 (by rw [ys_sub_ev]; omega)
/-- the ways of a comparison -/
def ys_cfs (v : ys_E) (c : ClassFile.Cond) (x y : ys_L) : List (List ys_L) := match c with
  | .ne => [[ys_add (ys_sub x y) ([], -1)], [ys_add (ys_sub y x) ([], -1)]]
  | c => [ys_cf v c x y]
theorem ys_cfs_ok {r : Nat → Int} {v : ys_E} (hv : ys_ok r v) {c : ClassFile.Cond} {x y : ys_L} (h : ys_ch c (ys_ev r x) (ys_ev r y)) : ∃ fs ∈ ys_cfs v c x y, ys_fk r fs := by
  cases c with
  | ne =>
    have h : ¬ ys_ev r x = ys_ev r y := h
    rcases Int.lt_or_gt_of_ne h with q | q
    · exact ⟨_, List.mem_cons_of_mem _ List.mem_cons_self, ys_fk1 (by rw [ys_m1, ys_sub_ev]; omega)⟩
    · exact ⟨_, List.mem_cons_self, ys_fk1 (by rw [ys_m1, ys_sub_ev]; omega)⟩
  | eq => exact ⟨_, List.mem_cons_self, ys_cf_ok hv h⟩
  | lt => exact ⟨_, List.mem_cons_self, ys_cf_ok hv h⟩
  | ge => exact ⟨_, List.mem_cons_self, ys_cf_ok hv h⟩
  | gt => exact ⟨_, List.mem_cons_self, ys_cf_ok hv h⟩
  | le => exact ⟨_, List.mem_cons_self, ys_cf_ok hv h⟩
end
section
/-! the walk: a state of symbols at a place of the code stands for the machine there -/
section YSW
variable (p : Program) (l : Launch) (e : Env) (R : Room) (s : State) (m : MethodId) (args : Array Value) (below : List Frame) (meth : Method) (c : Code) (Q : State → Prop) (kc kz : Nat) (D : va_G) (cl : List vw_C) (ad : Nat → Nat) (cT : Nat → ClassId) (sh : List ys_C) (A : Nat → Prop) (H0 : Heap) (nL : Nat) (mods : List Nat) (g0 : Nat → Nat → Int) (r0 : Nat → Int) (E : Nat)
def ys_W (pc : Nat) (S : ys_S) : Prop := ∀ (r : Nat → Int) (H : Heap) (locs : List Loc) (ls : Array Slot) (st : List Value), ys_rep D cl ad cT sh A H0 nL mods g0 r0 r E S H locs ls st → W p l e R s m args below meth c H locs kc kz Q (F0 m pc ls st)
end YSW
section YSV
variable {p : Program} {l : Launch} {e : Env} {R : Room} {s : State} {m : MethodId} {args : Array Value} {below : List Frame} {meth : Method} {c : Code} {Q : State → Prop} {kc kz : Nat} {D : va_G} {cl : List vw_C} {ad : Nat → Nat} {cT : Nat → ClassId} {sh : List ys_C} {A : Nat → Prop} {H0 : Heap} {nL : Nat} {mods : List Nat} {g0 : Nat → Nat → Int} {r0 : Nat → Int} {E : Nat} {pc : Nat} {b : ys_B} {fds : ys_F} {lv : List (Nat × ys_V)} {sv : List ys_V} {succ : List (Nat × ys_S)} {cc : ByteArray}
/-- two ints -/
def ys_hb32 (F : ys_B → ys_L → ys_L → Option (ys_B × ys_L)) (pc : Nat) (b : ys_B) (fds : ys_F) (lv : List (Nat × ys_V)) (sv : List ys_V) : Option (List (Nat × ys_S)) := match sv with
  | .inl (.inl y) :: .inl (.inl x) :: t => (match F b x y with
    | some o => some [(pc + 1, o.1, fds, lv, .inl (.inl o.2) :: t)]
    | none => none)
  | _ => none
theorem ys_kb32 {F : ys_B → ys_L → ys_L → Option (ys_B × ys_L)} {op : Int32 → Int32 → Int32} {ok : Int32 → Prop} (hF : ys_B32 F op ok) (hrow : ∀ (X Y : Int32) (H : Heap) (locs : List Loc) (ls : Array Slot) (rest : List Value), ok Y → W p l e R s m args below meth c H locs kc kz Q (F0 m (pc + 1) ls (.int (op X Y) :: rest)) → W p l e R s m args below meth c H locs kc kz Q (F0 m pc ls (.int Y :: .int X :: rest))) (hs : ys_hb32 F pc b fds lv sv = some succ) (k : ∀ q ∈ succ, ys_W p l e R s m args below meth c Q kc kz D cl ad cT sh A H0 nL mods g0 r0 E q.1 q.2) : ys_W p l e R s m args below meth c Q kc kz D cl ad cT sh A H0 nL mods g0 r0 E pc (b, fds, lv, sv) := by
  unfold ys_hb32 at hs
  split at hs
  · rename_i y x t
    split at hs
    · rename_i o ho
      cases Option.some.inj hs
      have k := k _ List.mem_cons_self
      intro r H locs ls st h
      obtain ⟨st1, e1, h1, hy⟩ := ys_rep_pop h
      obtain ⟨st2, e2, h2, hx⟩ := ys_rep_pop h1
      subst e1; subst e2
      obtain ⟨hok, r', hag, hb, hl, hsc, hst, hval⟩ := hF r b x y o h.1 h.2.1.1 hx hy ho
      refine hrow _ _ _ _ _ _ hok ?_
      have h4 := k r' H locs ls _ (ys_rep_push (ys_rep_ext h2 hag hb hl hsc) (.inl (.inl o.2)) hst)
      have e3 : ys_den ad r' (.inl (.inl o.2)) = .int (op (Int32.ofInt (ys_ev r x)) (Int32.ofInt (ys_ev r y))) := congrArg Value.int hval
      rw [e3] at h4
      exact h4
    · cases hs
  · cases hs
/-- two longs -/
def ys_hb64 (F : ys_B → ys_L → ys_L → Option (ys_B × ys_L)) (pc : Nat) (b : ys_B) (fds : ys_F) (lv : List (Nat × ys_V)) (sv : List ys_V) : Option (List (Nat × ys_S)) := match sv with
  | .inl (.inr y) :: .inl (.inr x) :: t => (match F b x y with
    | some o => some [(pc + 1, o.1, fds, lv, .inl (.inr o.2) :: t)]
    | none => none)
  | _ => none
theorem ys_kb64 {F : ys_B → ys_L → ys_L → Option (ys_B × ys_L)} {op : Int64 → Int64 → Int64} {ok : Int64 → Prop} (hF : ys_B64 F op ok) (hrow : ∀ (X Y : Int64) (H : Heap) (locs : List Loc) (ls : Array Slot) (rest : List Value), ok Y → W p l e R s m args below meth c H locs kc kz Q (F0 m (pc + 1) ls (.long (op X Y) :: rest)) → W p l e R s m args below meth c H locs kc kz Q (F0 m pc ls (.long Y :: .long X :: rest))) (hs : ys_hb64 F pc b fds lv sv = some succ) (k : ∀ q ∈ succ, ys_W p l e R s m args below meth c Q kc kz D cl ad cT sh A H0 nL mods g0 r0 E q.1 q.2) : ys_W p l e R s m args below meth c Q kc kz D cl ad cT sh A H0 nL mods g0 r0 E pc (b, fds, lv, sv) := by
  unfold ys_hb64 at hs
  split at hs
  · rename_i y x t
    split at hs
    · rename_i o ho
      cases Option.some.inj hs
      have k := k _ List.mem_cons_self
      intro r H locs ls st h
      obtain ⟨st1, e1, h1, hy⟩ := ys_rep_pop h
      obtain ⟨st2, e2, h2, hx⟩ := ys_rep_pop h1
      subst e1; subst e2
      obtain ⟨hok, r', hag, hb, hl, hsc, hst, hval⟩ := hF r b x y o h.1 h.2.1.1 hx hy ho
      refine hrow _ _ _ _ _ _ hok ?_
      have h4 := k r' H locs ls _ (ys_rep_push (ys_rep_ext h2 hag hb hl hsc) (.inl (.inr o.2)) hst)
      have e3 : ys_den ad r' (.inl (.inr o.2)) = .long (op (Int64.ofInt (ys_ev r x)) (Int64.ofInt (ys_ev r y))) := congrArg Value.long hval
      rw [e3] at h4
      exact h4
    · cases hs
  · cases hs
/-- a long and an int -/
def ys_hbLI (F : ys_B → ys_L → ys_L → Option (ys_B × ys_L)) (pc : Nat) (b : ys_B) (fds : ys_F) (lv : List (Nat × ys_V)) (sv : List ys_V) : Option (List (Nat × ys_S)) := match sv with
  | .inl (.inl y) :: .inl (.inr x) :: t => (match F b x y with
    | some o => some [(pc + 1, o.1, fds, lv, .inl (.inr o.2) :: t)]
    | none => none)
  | _ => none
theorem ys_kbLI {F : ys_B → ys_L → ys_L → Option (ys_B × ys_L)} {op : Int64 → Int32 → Int64} (hF : ys_BLI F op) (hrow : ∀ (X : Int64) (Y : Int32) (H : Heap) (locs : List Loc) (ls : Array Slot) (rest : List Value), W p l e R s m args below meth c H locs kc kz Q (F0 m (pc + 1) ls (.long (op X Y) :: rest)) → W p l e R s m args below meth c H locs kc kz Q (F0 m pc ls (.int Y :: .long X :: rest))) (hs : ys_hbLI F pc b fds lv sv = some succ) (k : ∀ q ∈ succ, ys_W p l e R s m args below meth c Q kc kz D cl ad cT sh A H0 nL mods g0 r0 E q.1 q.2) : ys_W p l e R s m args below meth c Q kc kz D cl ad cT sh A H0 nL mods g0 r0 E pc (b, fds, lv, sv) := by
  unfold ys_hbLI at hs
  split at hs
  · rename_i y x t
    split at hs
    · rename_i o ho
      cases Option.some.inj hs
      have k := k _ List.mem_cons_self
      intro r H locs ls st h
      obtain ⟨st1, e1, h1, hy⟩ := ys_rep_pop h
      obtain ⟨st2, e2, h2, hx⟩ := ys_rep_pop h1
      subst e1; subst e2
      obtain ⟨r', hag, hb, hl, hsc, hst, hval⟩ := hF r b x y o h.1 h.2.1.1 hx hy ho
      refine hrow _ _ _ _ _ _ ?_
      have h4 := k r' H locs ls _ (ys_rep_push (ys_rep_ext h2 hag hb hl hsc) (.inl (.inr o.2)) hst)
      have e3 : ys_den ad r' (.inl (.inr o.2)) = .long (op (Int64.ofInt (ys_ev r x)) (Int32.ofInt (ys_ev r y))) := congrArg Value.long hval
      rw [e3] at h4
      exact h4
    · cases hs
  · cases hs
/-- one int to one int -/
def ys_hu32 (F : ys_B → ys_L → ys_B × ys_L) (pc : Nat) (b : ys_B) (fds : ys_F) (lv : List (Nat × ys_V)) (sv : List ys_V) : Option (List (Nat × ys_S)) := match sv with
  | .inl (.inl x) :: t => some [(pc + 1, (F b x).1, fds, lv, .inl (.inl (F b x).2) :: t)]
  | _ => none
theorem ys_ku32 {F : ys_B → ys_L → ys_B × ys_L} {op : Int32 → Int32} (hF : ∀ (r : Nat → Int) (b : ys_B) (x : ys_L), ys_okB r b → ys_scB b → ys_stb b.1.length x → ys_Op r b (F b x) (fun z => Int32.ofInt z = op (Int32.ofInt (ys_ev r x)))) (hrow : ∀ (X : Int32) (H : Heap) (locs : List Loc) (ls : Array Slot) (rest : List Value), W p l e R s m args below meth c H locs kc kz Q (F0 m (pc + 1) ls (.int (op X) :: rest)) → W p l e R s m args below meth c H locs kc kz Q (F0 m pc ls (.int X :: rest))) (hs : ys_hu32 F pc b fds lv sv = some succ) (k : ∀ q ∈ succ, ys_W p l e R s m args below meth c Q kc kz D cl ad cT sh A H0 nL mods g0 r0 E q.1 q.2) : ys_W p l e R s m args below meth c Q kc kz D cl ad cT sh A H0 nL mods g0 r0 E pc (b, fds, lv, sv) := by
  unfold ys_hu32 at hs
  split at hs
  · rename_i x t
    cases Option.some.inj hs
    have k := k _ List.mem_cons_self
    intro r H locs ls st h
    obtain ⟨st1, e1, h1, hx⟩ := ys_rep_pop h
    subst e1
    obtain ⟨r', hag, hb, hl, hsc, hst, hval⟩ := hF r b x h.1 h.2.1.1 hx
    refine hrow _ _ _ _ _ ?_
    have h4 := k r' H locs ls _ (ys_rep_push (ys_rep_ext h1 hag hb hl hsc) (.inl (.inl (F b x).2)) hst)
    have e3 : ys_den ad r' (.inl (.inl (F b x).2)) = .int (op (Int32.ofInt (ys_ev r x))) := congrArg Value.int hval
    rw [e3] at h4
    exact h4
  · cases hs
/-- one long to one long -/
def ys_hu64 (F : ys_B → ys_L → ys_B × ys_L) (pc : Nat) (b : ys_B) (fds : ys_F) (lv : List (Nat × ys_V)) (sv : List ys_V) : Option (List (Nat × ys_S)) := match sv with
  | .inl (.inr x) :: t => some [(pc + 1, (F b x).1, fds, lv, .inl (.inr (F b x).2) :: t)]
  | _ => none
theorem ys_ku64 {F : ys_B → ys_L → ys_B × ys_L} {op : Int64 → Int64} (hF : ∀ (r : Nat → Int) (b : ys_B) (x : ys_L), ys_okB r b → ys_scB b → ys_stb b.1.length x → ys_Op r b (F b x) (fun z => Int64.ofInt z = op (Int64.ofInt (ys_ev r x)))) (hrow : ∀ (X : Int64) (H : Heap) (locs : List Loc) (ls : Array Slot) (rest : List Value), W p l e R s m args below meth c H locs kc kz Q (F0 m (pc + 1) ls (.long (op X) :: rest)) → W p l e R s m args below meth c H locs kc kz Q (F0 m pc ls (.long X :: rest))) (hs : ys_hu64 F pc b fds lv sv = some succ) (k : ∀ q ∈ succ, ys_W p l e R s m args below meth c Q kc kz D cl ad cT sh A H0 nL mods g0 r0 E q.1 q.2) : ys_W p l e R s m args below meth c Q kc kz D cl ad cT sh A H0 nL mods g0 r0 E pc (b, fds, lv, sv) := by
  unfold ys_hu64 at hs
  split at hs
  · rename_i x t
    cases Option.some.inj hs
    have k := k _ List.mem_cons_self
    intro r H locs ls st h
    obtain ⟨st1, e1, h1, hx⟩ := ys_rep_pop h
    subst e1
    obtain ⟨r', hag, hb, hl, hsc, hst, hval⟩ := hF r b x h.1 h.2.1.1 hx
    refine hrow _ _ _ _ _ ?_
    have h4 := k r' H locs ls _ (ys_rep_push (ys_rep_ext h1 hag hb hl hsc) (.inl (.inr (F b x).2)) hst)
    have e3 : ys_den ad r' (.inl (.inr (F b x).2)) = .long (op (Int64.ofInt (ys_ev r x))) := congrArg Value.long hval
    rw [e3] at h4
    exact h4
  · cases hs
/-- a long to an int -/
def ys_hl2i (pc : Nat) (b : ys_B) (fds : ys_F) (lv : List (Nat × ys_V)) (sv : List ys_V) : Option (List (Nat × ys_S)) := match sv with
  | .inl (.inr x) :: t => some [(pc + 1, (ys_nm false b x).1, fds, lv, .inl (.inl (ys_nm false b x).2) :: t)]
  | _ => none
theorem ys_kl2i (hexec : p.tables.exec = Jvm.exec) (hb : c.code = cc) (hd : decode cc pc = .ok (.l2i, 1)) (hs : ys_hl2i pc b fds lv sv = some succ) (k : ∀ q ∈ succ, ys_W p l e R s m args below meth c Q kc kz D cl ad cT sh A H0 nL mods g0 r0 E q.1 q.2) : ys_W p l e R s m args below meth c Q kc kz D cl ad cT sh A H0 nL mods g0 r0 E pc (b, fds, lv, sv) := by
  unfold ys_hl2i at hs
  split at hs
  · rename_i x t
    cases Option.some.inj hs
    have k := k _ List.mem_cons_self
    intro r H locs ls st h
    obtain ⟨st1, e1, h1, hx⟩ := ys_rep_pop h
    subst e1
    obtain ⟨r', hag, hbb, hl, hsc, hst, hval⟩ := ys_fl2i h.1 h.2.1.1 hx
    refine lv_l2i hexec hb hd hval.symm ?_
    exact k r' H locs ls _ (ys_rep_push (ys_rep_ext h1 hag hbb hl hsc) (.inl (.inl (ys_nm false b x).2)) hst)
  · cases hs
/-- an int to a long -/
def ys_hi2l (pc : Nat) (b : ys_B) (fds : ys_F) (lv : List (Nat × ys_V)) (sv : List ys_V) : Option (List (Nat × ys_S)) := match sv with
  | .inl (.inl x) :: t => if ys_inr false b.1 x = true then some [(pc + 1, b, fds, lv, .inl (.inr x) :: t)] else none
  | _ => none
theorem ys_ki2l (hexec : p.tables.exec = Jvm.exec) (hb : c.code = cc) (hd : decode cc pc = .ok (.i2l, 1)) (hs : ys_hi2l pc b fds lv sv = some succ) (k : ∀ q ∈ succ, ys_W p l e R s m args below meth c Q kc kz D cl ad cT sh A H0 nL mods g0 r0 E q.1 q.2) : ys_W p l e R s m args below meth c Q kc kz D cl ad cT sh A H0 nL mods g0 r0 E pc (b, fds, lv, sv) := by
  unfold ys_hi2l at hs
  split at hs
  · rename_i x t
    split at hs
    · rename_i hi
      cases Option.some.inj hs
      have k := k _ List.mem_cons_self
      intro r H locs ls st h
      obtain ⟨st1, e1, h1, hx⟩ := ys_rep_pop h
      subst e1
      refine lv_i2l hexec hb hd (ys_i2l h.1.1 hi) ?_
      exact k r H locs ls _ (ys_rep_push h1 (.inl (.inr x)) hx)
    · cases hs
  · cases hs
/-- one more value -/
def ys_hpush (pc : Nat) (b : ys_B) (fds : ys_F) (lv : List (Nat × ys_V)) (sv : List ys_V) (v : ys_V) : Option (List (Nat × ys_S)) := some [(pc, b, fds, lv, v :: sv)]
theorem ys_kpush {pc' : Nat} {v : ys_V} (hv : ∀ n, ys_stV n v) (hrow : ∀ (r : Nat → Int) (H : Heap) (locs : List Loc) (ls : Array Slot) (rest : List Value), W p l e R s m args below meth c H locs kc kz Q (F0 m pc' ls (ys_den ad r v :: rest)) → W p l e R s m args below meth c H locs kc kz Q (F0 m pc ls rest)) (hs : ys_hpush pc' b fds lv sv v = some succ) (k : ∀ q ∈ succ, ys_W p l e R s m args below meth c Q kc kz D cl ad cT sh A H0 nL mods g0 r0 E q.1 q.2) : ys_W p l e R s m args below meth c Q kc kz D cl ad cT sh A H0 nL mods g0 r0 E pc (b, fds, lv, sv) := by
  cases Option.some.inj hs
  have k := k _ List.mem_cons_self
  intro r H locs ls st h
  exact hrow r _ _ _ _ (k r H locs ls _ (ys_rep_push h v (hv _)))
/-- a place of the frame is read: kind 0 an int, 1 a long, 2 a reference -/
def ys_kind (v : ys_V) : Nat := match v with
  | .inl (.inl _) => 0
  | .inl (.inr _) => 1
  | .inr (some _) => 2
  | .inr none => 3
def ys_cv (v : ys_E) (x : ys_V) : ys_V := match x with
  | .inl (.inl e) => .inl (.inl (ys_ce v e))
  | .inl (.inr e) => .inl (.inr (ys_ce v e))
  | .inr o => .inr o
theorem ys_cv_den {ad : Nat → Nat} {r : Nat → Int} {v : ys_E} (h : ys_ok r v) (x : ys_V) : ys_den ad r (ys_cv v x) = ys_den ad r x := by
  rcases x with (y | y) | y
  · show Value.int _ = Value.int _
    rw [ys_ce_ev h]
  · show Value.long _ = Value.long _
    rw [ys_ce_ev h]
  · rfl
theorem ys_cv_st {n : Nat} {v : ys_E} {x : ys_V} (h : ys_stV n x) : ys_stV n (ys_cv v x) := by
  rcases x with (y | y) | y
  · exact ys_ce_st (e := y) h
  · exact ys_ce_st (e := y) h
  · trivial
def ys_hload (t : Nat) (i : Nat) (pc : Nat) (b : ys_B) (fds : ys_F) (lv : List (Nat × ys_V)) (sv : List ys_V) : Option (List (Nat × ys_S)) := match lv.lookup i with
  | some v => if ys_kind v = t then some [(pc, b, fds, lv, ys_cv b.1 v :: sv)] else none
  | none => none
theorem ys_kload {t i pc' : Nat} (hrow : ∀ (r : Nat → Int) (v : ys_V) (H : Heap) (locs : List Loc) (ls : Array Slot) (rest : List Value), ys_kind v = t → ls[i]? = some (.val (ys_den ad r v)) → W p l e R s m args below meth c H locs kc kz Q (F0 m pc' ls (ys_den ad r v :: rest)) → W p l e R s m args below meth c H locs kc kz Q (F0 m pc ls rest)) (hs : ys_hload t i pc' b fds lv sv = some succ) (k : ∀ q ∈ succ, ys_W p l e R s m args below meth c Q kc kz D cl ad cT sh A H0 nL mods g0 r0 E q.1 q.2) : ys_W p l e R s m args below meth c Q kc kz D cl ad cT sh A H0 nL mods g0 r0 E pc (b, fds, lv, sv) := by
  unfold ys_hload at hs
  split at hs
  · rename_i v hv
    split at hs
    · rename_i ht
      cases Option.some.inj hs
      have k := k _ List.mem_cons_self
      intro r H locs ls st h
      obtain ⟨g1, g2⟩ := ys_rep_loc h hv
      have h4 := k r H locs ls _ (ys_rep_push h (ys_cv b.1 v) (ys_cv_st g2))
      rw [ys_cv_den h.1.1] at h4
      exact hrow r v _ _ _ _ ht g1 h4
    · cases hs
  · cases hs
theorem ys_kind0 {v : ys_V} (h : ys_kind v = 0) : ∃ x, v = .inl (.inl x) := by
  rcases v with (x | x) | (_ | x)
  · exact ⟨x, rfl⟩
  · cases h
  · cases h
  · cases h
theorem ys_kind1 {v : ys_V} (h : ys_kind v = 1) : ∃ x, v = .inl (.inr x) := by
  rcases v with (x | x) | (_ | x)
  · cases h
  · exact ⟨x, rfl⟩
  · cases h
  · cases h
theorem ys_kind2 {v : ys_V} (h : ys_kind v = 2) : ∃ x, v = .inr (some x) := by
  rcases v with (x | x) | (_ | x)
  · cases h
  · cases h
  · cases h
  · exact ⟨x, rfl⟩
/-- a place of the frame is written -/
def ys_w1 (t : Nat) : Nat := if t = 1 then 1 else 0
def ys_stw (t : Nat) (lv : List (Nat × ys_V)) (i : Nat) (v : ys_V) : List (Nat × ys_V) := if t = 1 then ys_st2 lv i v else ys_st1 lv i v
def ys_hstore (t : Nat) (nL : Nat) (i : Nat) (pc : Nat) (b : ys_B) (fds : ys_F) (lv : List (Nat × ys_V)) (sv : List ys_V) : Option (List (Nat × ys_S)) := match sv with
  | v :: r => if ys_kind v = t && decide (i + ys_w1 t < nL) then some [(pc, b, fds, ys_stw t lv i v, r)] else none
  | [] => none
theorem ys_kstore {t i pc' : Nat} (hrow : ∀ (r : Nat → Int) (v : ys_V) (H : Heap) (locs : List Loc) (ls : Array Slot) (rest : List Value), ys_kind v = t → lv_has ls nL (ys_lvs ad r lv) → i + ys_w1 t < nL → (∀ ls' : Array Slot, lv_has ls' nL (ys_lvs ad r (ys_stw t lv i v)) → W p l e R s m args below meth c H locs kc kz Q (F0 m pc' ls' rest)) → W p l e R s m args below meth c H locs kc kz Q (F0 m pc ls (ys_den ad r v :: rest))) (hs : ys_hstore t nL i pc' b fds lv sv = some succ) (k : ∀ q ∈ succ, ys_W p l e R s m args below meth c Q kc kz D cl ad cT sh A H0 nL mods g0 r0 E q.1 q.2) : ys_W p l e R s m args below meth c Q kc kz D cl ad cT sh A H0 nL mods g0 r0 E pc (b, fds, lv, sv) := by
  unfold ys_hstore at hs
  split at hs
  · rename_i v sv'
    split at hs
    · rename_i ht
      rw [Bool.and_eq_true, decide_eq_true_eq, decide_eq_true_eq] at ht
      cases Option.some.inj hs
      have k := k _ List.mem_cons_self
      intro r H locs ls st h
      obtain ⟨st1, e1, h1, hv⟩ := ys_rep_pop h
      subst e1
      refine hrow r v _ _ _ _ ht.1 h.2.2.2.2.1 ht.2 fun ls' hls => k r H locs ls' _ ?_
      obtain ⟨g1, ⟨s0, s1, s2, s3⟩, g2, g3, g4, g5⟩ := h1
      refine ⟨g1, ⟨s0, s1, fun q hq => ?_, s3⟩, g2, g3, hls, g5⟩
      have hq : q ∈ ys_stw t lv i v := hq
      unfold ys_stw at hq
      split at hq
      · rcases List.mem_cons.mp hq with e | e
        · rw [e]; exact hv
        · exact s2 q ((List.mem_filter.mp e).1)
      · rcases List.mem_cons.mp hq with e | e
        · rw [e]; exact hv
        · exact s2 q ((List.mem_filter.mp e).1)
    · cases hs
  · cases hs
/-- a branch: the facts that hold on it -/
def ys_br (pc : Nat) (b : ys_B) (fs : List ys_L) (rest : ys_F × List (Nat × ys_V) × List ys_V) : List (Nat × ys_S) := match ys_ass b fs with
  | some b' => [(pc, b', rest)]
  | none => []
theorem ys_as_sc {n : Nat} {b b' : ys_B} {f : ys_L} (hn : b.1.length = n) (hs : ys_scB b) (hf : ys_stb n f) (h : ys_as b f = some b') : ys_scB b' := by
  have hl := ys_as_len h
  unfold ys_as at h
  split at h
  · cases h
  · cases Option.some.inj h
    intro g hg
    have key : ∀ g ∈ f :: b.2, ys_stb (ys_tg f f.1 b.1).length g := by
      intro g hg
      rw [ys_tg_len]
      rcases List.mem_cons.mp hg with e | e
      · rw [e, hn]; exact hf
      · exact hs g e
    refine key g ?_
    have hg : g ∈ (match f.1 with
      | [] => b.2
      | [q] => if q.2 = 1 then b.2 else if q.2 = -1 then b.2 else f :: b.2
      | _ => f :: b.2) := hg
    split at hg
    · exact List.mem_cons_of_mem _ hg
    · split at hg
      · exact List.mem_cons_of_mem _ hg
      · split at hg
        · exact List.mem_cons_of_mem _ hg
        · exact hg
    · exact hg
theorem ys_ass_sc : ∀ (fs : List ys_L) {n : Nat} {b b' : ys_B}, b.1.length = n → ys_scB b → (∀ f ∈ fs, ys_stb n f) → ys_ass b fs = some b' → ys_scB b'
  | [], n, b, b', hn, hs, hf, h => by cases Option.some.inj h; exact hs
  | f :: t, n, b, b', hn, hs, hf, h => by
    unfold ys_ass at h
    cases h1 : ys_as b f with
    | none => rw [h1] at h; cases h
    | some b1 =>
      rw [h1] at h
      exact ys_ass_sc t ((ys_as_len h1).trans hn) (ys_as_sc hn hs (hf f List.mem_cons_self) h1) (fun g hg => hf g (List.mem_cons_of_mem _ hg)) h
theorem ys_kbr {pc' : Nat} {fs : List ys_L} {r : Nat → Int} {H : Heap} {locs : List Loc} {ls : Array Slot} {st : List Value} (h : ys_rep D cl ad cT sh A H0 nL mods g0 r0 r E (b, fds, lv, sv) H locs ls st) (hf : ys_fk r fs) (hst : ∀ f ∈ fs, ys_stb b.1.length f) (k : ∀ q ∈ ys_br pc' b fs (fds, lv, sv), ys_W p l e R s m args below meth c Q kc kz D cl ad cT sh A H0 nL mods g0 r0 E q.1 q.2) : W p l e R s m args below meth c H locs kc kz Q (F0 m pc' ls st) := by
  obtain ⟨b', e1, h1⟩ := ys_ass_ok fs h.1 hf
  have hl := ys_ass_len fs e1
  unfold ys_br at k
  rw [e1] at k
  exact k _ List.mem_cons_self r H locs ls st (ys_rep_ext h (fun _ _ => rfl) h1 (Nat.le_of_eq hl.symm) (ys_ass_sc fs rfl h.2.1.1 hst e1))
theorem ys_stb_m1 {n : Nat} {f : ys_L} (h : ys_stb n f) : ys_stb n (ys_add f ([], -1)) := ys_stb_add h (ys_stb_cst (-1))
theorem ys_cf_st {n : Nat} {v : ys_E} {cd : ClassFile.Cond} {x y : ys_L} (hx : ys_stb n x) (hy : ys_stb n y) : ∀ f ∈ ys_cf v cd x y, ys_stb n f := by
  have one : ∀ {g : ys_L}, ys_stb n g → ∀ f ∈ [g], ys_stb n f := fun hg f hf => by rw [List.mem_singleton.mp hf]; exact hg
  cases cd with
  | eq =>
    intro f hf
    rcases List.mem_cons.mp hf with q | q
    · rw [q]; exact ys_stb_sub hx hy
    · rw [List.mem_singleton.mp q]; exact ys_stb_sub hy hx
  | ne =>
    show ∀ f ∈ ys_ne v x y, ys_stb n f
    unfold ys_ne
    split
    · exact one (ys_stb_m1 (ys_stb_sub hx hy))
    · split
      · exact one (ys_stb_m1 (ys_stb_sub hy hx))
      · intro f hf
        cases hf
  | lt => exact one (ys_stb_m1 (ys_stb_sub hy hx))
  | ge => exact one (ys_stb_sub hx hy)
  | gt => exact one (ys_stb_m1 (ys_stb_sub hx hy))
  | le => exact one (ys_stb_sub hy hx)
def ys_tgt (pc : Nat) (off : Int) : Option Nat := if 0 ≤ (pc : Int) + off then some ((pc : Int) + off).toNat else none
theorem ys_tgt_ok {off : Int} {t : Nat} (h : ys_tgt pc off = some t) : (pc : Int) + off = (t : Int) := by
  unfold ys_tgt at h
  split at h
  · cases Option.some.inj h
    omega
  · cases h
/-- a comparison of two ints, and where it goes -/
def ys_cmp2 (cd : ClassFile.Cond) (x y : ys_L) (pt pf : Nat) (b : ys_B) (rest : ys_F × List (Nat × ys_V) × List ys_V) : List (Nat × ys_S) := ((ys_cfs b.1 cd x y).flatMap fun fs => ys_br pt b fs rest) ++ ((ys_cfs b.1 (ys_cn cd) x y).flatMap fun fs => ys_br pf b fs rest)
theorem ys_cfs_st {n : Nat} {v : ys_E} {cd : ClassFile.Cond} {x y : ys_L} (hx : ys_stb n x) (hy : ys_stb n y) : ∀ fs ∈ ys_cfs v cd x y, ∀ f ∈ fs, ys_stb n f := by
  intro fs hfs f hf
  cases cd with
  | ne =>
    rcases List.mem_cons.mp hfs with q | q
    · rw [q] at hf
      rw [List.mem_singleton.mp hf]
      exact ys_stb_m1 (ys_stb_sub hx hy)
    · rw [List.mem_singleton.mp q] at hf
      rw [List.mem_singleton.mp hf]
      exact ys_stb_m1 (ys_stb_sub hy hx)
  | eq => exact ys_cf_st hx hy f (List.mem_singleton.mp hfs ▸ hf)
  | lt => exact ys_cf_st hx hy f (List.mem_singleton.mp hfs ▸ hf)
  | ge => exact ys_cf_st hx hy f (List.mem_singleton.mp hfs ▸ hf)
  | gt => exact ys_cf_st hx hy f (List.mem_singleton.mp hfs ▸ hf)
  | le => exact ys_cf_st hx hy f (List.mem_singleton.mp hfs ▸ hf)
theorem ys_kway {pc' : Nat} {cd : ClassFile.Cond} {x y : ys_L} {r : Nat → Int} {H : Heap} {locs : List Loc} {ls : Array Slot} {st : List Value} (h : ys_rep D cl ad cT sh A H0 nL mods g0 r0 r E (b, fds, lv, sv) H locs ls st) (hc : ys_ch cd (ys_ev r x) (ys_ev r y)) (sx : ys_stb b.1.length x) (sy : ys_stb b.1.length y) (k : ∀ q ∈ (ys_cfs b.1 cd x y).flatMap (fun fs => ys_br pc' b fs (fds, lv, sv)), ys_W p l e R s m args below meth c Q kc kz D cl ad cT sh A H0 nL mods g0 r0 E q.1 q.2) : W p l e R s m args below meth c H locs kc kz Q (F0 m pc' ls st) := by
  obtain ⟨fs, h1, h2⟩ := ys_cfs_ok h.1.1 hc
  exact ys_kbr h h2 (ys_cfs_st sx sy fs h1) (fun q hq => k q (List.mem_flatMap.mpr ⟨fs, h1, hq⟩))
def ys_hcmp (cd : ClassFile.Cond) (off : Int) (pc : Nat) (b : ys_B) (fds : ys_F) (lv : List (Nat × ys_V)) (sv : List ys_V) : Option (List (Nat × ys_S)) := match sv, ys_tgt pc off with
  | .inl (.inl y) :: .inl (.inl x) :: t, some tg => if ys_inr false b.1 x && ys_inr false b.1 y then some (ys_cmp2 cd x y tg (pc + 3) b (fds, lv, t)) else none
  | _, _ => none
def ys_hif (cd : ClassFile.Cond) (off : Int) (pc : Nat) (b : ys_B) (fds : ys_F) (lv : List (Nat × ys_V)) (sv : List ys_V) : Option (List (Nat × ys_S)) := match sv, ys_tgt pc off with
  | .inl (.inl x) :: t, some tg => if ys_inr false b.1 x then some (ys_cmp2 cd x ([], 0) tg (pc + 3) b (fds, lv, t)) else none
  | _, _ => none
def ys_ch32 (cd : ClassFile.Cond) (x y : Int32) : Prop := match cd with
  | .eq => x = y
  | .ne => ¬ x = y
  | .lt => x < y
  | .ge => y ≤ x
  | .gt => y < x
  | .le => x ≤ y
theorem ys_ch32_iff {cd : ClassFile.Cond} {x y : Int32} : ys_ch32 cd x y ↔ ys_ch cd x.toInt y.toInt := by
  cases cd with
  | eq => exact Int32.toInt_inj.symm
  | ne => exact not_congr Int32.toInt_inj.symm
  | lt => exact Int32.lt_iff_toInt_lt
  | ge => exact Int32.le_iff_toInt_le
  | gt => exact Int32.lt_iff_toInt_lt
  | le => exact Int32.le_iff_toInt_le
theorem ys_icmp (hexec : p.tables.exec = Jvm.exec) (hb : c.code = cc) {H : Heap} {locs : List Loc} {ls : Array Slot} {rest : List Value} {cd : ClassFile.Cond} {x y : Int32} {off : Int} {tgt : Nat} (hd : decode cc pc = .ok (.if_icmp cd off, 3)) (ht : (pc : Int) + off = (tgt : Int))
    (kt : ys_ch32 cd x y → W p l e R s m args below meth c H locs kc kz Q (F0 m tgt ls rest)) (kf : ¬ ys_ch32 cd x y → W p l e R s m args below meth c H locs kc kz Q (F0 m (pc + 3) ls rest)) : W p l e R s m args below meth c H locs kc kz Q (F0 m pc ls (.int y :: .int x :: rest)) := by
  cases cd with
  | eq => exact lv_icmp_eq hexec hb hd ht kt kf
  | ne => exact lv_icmp_ne hexec hb hd ht kt (fun hq => kf (fun hn => hn hq))
  | lt => exact lv_icmp_lt hexec hb hd ht kt kf
  | ge => exact lv_icmp_ge hexec hb hd ht kt kf
  | gt => exact lv_icmp_gt hexec hb hd ht kt kf
  | le => exact lv_icmp_le hexec hb hd ht kt kf
theorem ys_ifc (hexec : p.tables.exec = Jvm.exec) (hb : c.code = cc) {H : Heap} {locs : List Loc} {ls : Array Slot} {rest : List Value} {cd : ClassFile.Cond} {x : Int32} {off : Int} {tgt : Nat} (hd : decode cc pc = .ok (.ifCond cd off, 3)) (ht : (pc : Int) + off = (tgt : Int))
    (kt : ys_ch32 cd x 0 → W p l e R s m args below meth c H locs kc kz Q (F0 m tgt ls rest)) (kf : ¬ ys_ch32 cd x 0 → W p l e R s m args below meth c H locs kc kz Q (F0 m (pc + 3) ls rest)) : W p l e R s m args below meth c H locs kc kz Q (F0 m pc ls (.int x :: rest)) := by
  cases cd with
  | eq => exact lv_if_eq hexec hb hd ht kt kf
  | ne => exact lv_if_ne hexec hb hd ht kt (fun hq => kf (fun hn => hn hq))
  | lt => exact lv_if_lt hexec hb hd ht kt kf
  | ge => exact lv_if_ge hexec hb hd ht kt kf
  | gt => exact lv_if_gt hexec hb hd ht kt kf
  | le => exact lv_if_le hexec hb hd ht kt kf
theorem ys_kcmp2 {cd : ClassFile.Cond} {x y : ys_L} {pt pf : Nat} (hx : ∀ r, ys_okB r b → (Int32.ofInt (ys_ev r x)).toInt = ys_ev r x) (hy : ∀ r, ys_okB r b → (Int32.ofInt (ys_ev r y)).toInt = ys_ev r y) (k : ∀ q ∈ ys_cmp2 cd x y pt pf b (fds, lv, sv), ys_W p l e R s m args below meth c Q kc kz D cl ad cT sh A H0 nL mods g0 r0 E q.1 q.2) {r : Nat → Int} {H : Heap} {locs : List Loc} {ls : Array Slot} {st : List Value} (h : ys_rep D cl ad cT sh A H0 nL mods g0 r0 r E (b, fds, lv, sv) H locs ls st) (sx : ys_stb b.1.length x) (sy : ys_stb b.1.length y) :
    (ys_ch32 cd (Int32.ofInt (ys_ev r x)) (Int32.ofInt (ys_ev r y)) → W p l e R s m args below meth c H locs kc kz Q (F0 m pt ls st)) ∧ (¬ ys_ch32 cd (Int32.ofInt (ys_ev r x)) (Int32.ofInt (ys_ev r y)) → W p l e R s m args below meth c H locs kc kz Q (F0 m pf ls st)) := by
  have hb := h.1
  rw [ys_ch32_iff, hx r hb, hy r hb]
  refine ⟨fun hc => ?_, fun hc => ?_⟩
  · exact ys_kway h hc sx sy (fun q hq => k q (List.mem_append_left _ hq))
  · exact ys_kway h (ys_cn_ok hc) sx sy (fun q hq => k q (List.mem_append_right _ hq))
theorem ys_kcmp {cd : ClassFile.Cond} {off : Int} (hexec : p.tables.exec = Jvm.exec) (hb : c.code = cc) (hd : decode cc pc = .ok (.if_icmp cd off, 3)) (hs : ys_hcmp cd off pc b fds lv sv = some succ) (k : ∀ q ∈ succ, ys_W p l e R s m args below meth c Q kc kz D cl ad cT sh A H0 nL mods g0 r0 E q.1 q.2) : ys_W p l e R s m args below meth c Q kc kz D cl ad cT sh A H0 nL mods g0 r0 E pc (b, fds, lv, sv) := by
  unfold ys_hcmp at hs
  split at hs
  · rename_i y x t tg ht
    split at hs
    · rename_i hi
      rw [Bool.and_eq_true] at hi
      cases Option.some.inj hs
      intro r H locs ls st h
      obtain ⟨st1, e1, h1, hy⟩ := ys_rep_pop h
      obtain ⟨st2, e2, h2, hx⟩ := ys_rep_pop h1
      subst e1; subst e2
      have kk := ys_kcmp2 (fun r hr => ys_inr32 hr.1 hi.1) (fun r hr => ys_inr32 hr.1 hi.2) k h2 hx hy
      exact ys_icmp hexec hb hd (ys_tgt_ok ht) kk.1 kk.2
    · cases hs
  · cases hs
theorem ys_kif {cd : ClassFile.Cond} {off : Int} (hexec : p.tables.exec = Jvm.exec) (hb : c.code = cc) (hd : decode cc pc = .ok (.ifCond cd off, 3)) (hs : ys_hif cd off pc b fds lv sv = some succ) (k : ∀ q ∈ succ, ys_W p l e R s m args below meth c Q kc kz D cl ad cT sh A H0 nL mods g0 r0 E q.1 q.2) : ys_W p l e R s m args below meth c Q kc kz D cl ad cT sh A H0 nL mods g0 r0 E pc (b, fds, lv, sv) := by
  unfold ys_hif at hs
  split at hs
  · rename_i x t tg ht
    split at hs
    · rename_i hi
      cases Option.some.inj hs
      intro r H locs ls st h
      obtain ⟨st1, e1, h1, hx⟩ := ys_rep_pop h
      subst e1
      have z0 : ∀ r : Nat → Int, ys_ev r (([], 0) : ys_L) = 0 := fun _ => rfl
      have kk := ys_kcmp2 (fun r hr => ys_inr32 hr.1 hi) (fun r _ => by rw [z0]; rfl) k h1 hx (ys_stb_cst 0)
      rw [z0, show Int32.ofInt 0 = 0 from rfl] at kk
      exact ys_ifc hexec hb hd (ys_tgt_ok ht) kk.1 kk.2
    · cases hs
  · cases hs
/-- a comparison of two longs, with the branch that follows -/
def ys_hlcmp (nx : Option (Instr × Nat)) (pc : Nat) (b : ys_B) (fds : ys_F) (lv : List (Nat × ys_V)) (sv : List ys_V) : Option (List (Nat × ys_S)) := match sv, nx with
  | .inl (.inr y) :: .inl (.inr x) :: t, some (.ifCond cd off, 3) => (match ys_tgt (pc + 1) off with
    | some tg => if ys_inr true b.1 x && ys_inr true b.1 y then some (ys_cmp2 cd x y tg (pc + 1 + 3) b (fds, lv, t)) else none
    | none => none)
  | _, _ => none
theorem ys_lcmp_iff {cd : ClassFile.Cond} {x y : Int64} : ys_ch32 cd (lg_cmp x y) 0 ↔ ys_ch cd x.toInt y.toInt := by
  cases cd with
  | eq => exact (lg_cmp_eq x y).trans Int64.toInt_inj.symm
  | ne => exact not_congr ((lg_cmp_eq x y).trans Int64.toInt_inj.symm)
  | lt => exact (lg_cmp_lt x y).trans Int64.lt_iff_toInt_lt
  | ge => exact (lg_cmp_ge x y).trans Int64.le_iff_toInt_le
  | gt => exact (lg_cmp_gt x y).trans Int64.lt_iff_toInt_lt
  | le => exact (lg_cmp_le x y).trans Int64.le_iff_toInt_le
theorem ys_klcmp {nx : Option (Instr × Nat)} (hexec : p.tables.exec = Jvm.exec) (hb : c.code = cc) (hd : decode cc pc = .ok (.lcmp, 1)) (hn : ∀ i, nx = some i → decode cc (pc + 1) = .ok i) (hs : ys_hlcmp nx pc b fds lv sv = some succ) (k : ∀ q ∈ succ, ys_W p l e R s m args below meth c Q kc kz D cl ad cT sh A H0 nL mods g0 r0 E q.1 q.2) : ys_W p l e R s m args below meth c Q kc kz D cl ad cT sh A H0 nL mods g0 r0 E pc (b, fds, lv, sv) := by
  unfold ys_hlcmp at hs
  split at hs
  · rename_i y x t cd off hd2
    split at hs
    · rename_i tg ht
      split at hs
      · rename_i hi
        rw [Bool.and_eq_true] at hi
        cases Option.some.inj hs
        intro r H locs ls st h
        obtain ⟨st1, e1, h1, hy⟩ := ys_rep_pop h
        obtain ⟨st2, e2, h2, hx⟩ := ys_rep_pop h1
        subst e1; subst e2
        refine W.lcmp hexec hb hd ?_
        refine ys_ifc (pc := pc + 1) hexec hb (hn _ rfl) (ys_tgt_ok ht) (fun hc => ?_) (fun hc => ?_)
        · rw [ys_lcmp_iff, ys_inr64 h.1.1 hi.1, ys_inr64 h.1.1 hi.2] at hc
          exact ys_kway h2 hc hx hy (fun q hq => k q (List.mem_append_left _ hq))
        · rw [ys_lcmp_iff, ys_inr64 h.1.1 hi.1, ys_inr64 h.1.1 hi.2] at hc
          exact ys_kway h2 (ys_cn_ok hc) hx hy (fun q hq => k q (List.mem_append_right _ hq))
      · cases hs
    · cases hs
  · cases hs
/-- on to another place -/
def ys_hgoto (off : Int) (pc : Nat) (b : ys_B) (fds : ys_F) (lv : List (Nat × ys_V)) (sv : List ys_V) : Option (List (Nat × ys_S)) := match ys_tgt pc off with
  | some tg => some [(tg, b, fds, lv, sv)]
  | none => none
theorem ys_kgoto {off : Int} (hexec : p.tables.exec = Jvm.exec) (hb : c.code = cc) (hd : decode cc pc = .ok (.goto off, 3)) (hs : ys_hgoto off pc b fds lv sv = some succ) (k : ∀ q ∈ succ, ys_W p l e R s m args below meth c Q kc kz D cl ad cT sh A H0 nL mods g0 r0 E q.1 q.2) : ys_W p l e R s m args below meth c Q kc kz D cl ad cT sh A H0 nL mods g0 r0 E pc (b, fds, lv, sv) := by
  unfold ys_hgoto at hs
  split at hs
  · rename_i tg ht
    cases Option.some.inj hs
    have k := k _ List.mem_cons_self
    intro r H locs ls st h
    exact lv_goto hexec hb hd (ys_tgt_ok ht) (k r H locs ls st h)
  · cases hs
end YSV
end
section
/-! fields and arrays -/
def ys_fget (fs : List (List ys_V)) (k j : Nat) : Option ys_V := (fs.getD k [])[j]?
def ys_fset (fs : List (List ys_V)) (k j : Nat) (v : ys_V) : List (List ys_V) := fs.set k ((fs.getD k []).set j v)
/-- a link to a field: the kind of the object, the place of the field, its type (0 int, 1 long, 3 boolean, 2 a reference) -/
def ys_tk (t : FieldType) : Nat := match t with
  | .int => 0
  | .long => 1
  | .boolean => 3
  | _ => 2
def ys_Fl (own : String) (Ts : List Cond) (cl : List vw_C) (idx ci j tk : Nat) : Prop := ∃ (C : String) (T : u_T) (N : Nat) (ty0 : Nat → FieldType), cl[ci]? = some (C, T, N) ∧ j < N ∧ (∀ w ∈ u_ws C T N, w ∈ Ts) ∧ (∀ k, k < N → parseFieldDescriptor (T k).2.2.1 = some (ty0 k)) ∧ (∀ a, a < N → ∀ b, b < N → a ≠ b → (T a).2.1 ≠ (T b).2.1) ∧ Cond.fieldLink own idx C (T j).2.1 (T j).2.2.1 ∈ Ts ∧ (T j).1 = C ∧ (tk ≠ 2 → (T j).2.2.2 = false) ∧ ys_tk (ty0 j) = tk
abbrev ys_FL : Type := List (Nat × (Nat × Nat × Nat))
section YSM
variable {p : Program} {l : Launch} {e : Env} {R : Room} {s : State} {m : MethodId} {args : Array Value} {below : List Frame} {meth : Method} {c : Code} {Q : State → Prop} {kc kz : Nat} {D : va_G} {cl : List vw_C} {ad : Nat → Nat} {cT : Nat → ClassId} {sh : List ys_C} {A : Nat → Prop} {H0 : Heap} {nL : Nat} {mods : List Nat} {g0 : Nat → Nat → Int} {r0 : Nat → Int} {E : Nat} {pc : Nat} {b : ys_B} {fds : ys_F} {lv : List (Nat × ys_V)} {sv : List ys_V} {succ : List (Nat × ys_S)} {cc : ByteArray} {own : String} {Ts : List Cond} {tys : List (ClassId × FieldType)}
def ys_hget (sh : List ys_C) (fl : ys_FL) (idx : Nat) (pc : Nat) (b : ys_B) (fds : ys_F) (lv : List (Nat × ys_V)) (sv : List ys_V) : Option (List (Nat × ys_S)) := match sv, fl.lookup idx with
  | .inr (some k) :: t, some (ci, j, _) => (match ys_fget fds.1 k j with
    | some v => if sh[k]? = some (.inl ci) then some [(pc + 3, b, fds, lv, v :: t)] else none
    | none => none)
  | _, _ => none
theorem ys_kget {fl : ys_FL} {idx : Nat} (hexec : p.tables.exec = Jvm.exec) (hb : c.code = cc) (hts : ∀ w ∈ Ts, w.before args s = true) (hown : s.vm.findClass own = some m.cls) (hK : va_K D cl tys s) (hfl : ∀ idx ci j tk, fl.lookup idx = some (ci, j, tk) → ys_Fl own Ts cl idx ci j tk) (hd : decode cc pc = .ok (.getfield idx, 3)) (hs : ys_hget sh fl idx pc b fds lv sv = some succ) (k : ∀ q ∈ succ, ys_W p l e R s m args below meth c Q kc kz D cl ad cT sh A H0 nL mods g0 r0 E q.1 q.2) : ys_W p l e R s m args below meth c Q kc kz D cl ad cT sh A H0 nL mods g0 r0 E pc (b, fds, lv, sv) := by
  unfold ys_hget at hs
  split at hs
  · rename_i kc t ci j tk hlk
    split at hs
    · rename_i v hv
      split at hs
      · rename_i hsh
        cases Option.some.inj hs
        have k := k _ List.mem_cons_self
        obtain ⟨C, T, N, ty0, h1, h2, h3, h4, h5, h6, h7, -, -⟩ := hfl _ _ _ _ hlk
        intro r H locs ls st h
        obtain ⟨st1, e1, g1, -⟩ := ys_rep_pop h
        subst e1
        obtain ⟨g, hg, hP, hD, hS⟩ := g1.2.2.2.1
        have hw := ys_wld_get (ad := ad) (cT := cT) (r := r) (g := g) (fds := fds.1) hsh
        have hmem : v ∈ fds.1.getD kc [] := List.mem_of_getElem? hv
        have hsv : ys_stV b.1.length v := by
          rw [List.getD_eq_getElem?_getD] at hmem
          cases hc : fds.1[kc]? with
          | none => rw [hc] at hmem; cases hmem
          | some w => rw [hc] at hmem; exact h.2.1.2.1 w (List.mem_of_getElem? hc) v hmem
        refine va_get (v := ys_den ad r v) hexec hb hts h3 hown hK hP kc hw h1 j h2 (hts _ h6) (fun _ hq => h7 ▸ hq) ?_ hd (k r H locs ls _ (ys_rep_push g1 v hsv))
        rw [List.getElem?_map]
        show Option.map _ ((fds.1.getD kc [])[j]?) = _
        rw [show (fds.1.getD kc [])[j]? = some v from hv]
        rfl
      · cases hs
    · cases hs
  · cases hs
def ys_fits (tk : Nat) (v : ys_E) (x : ys_V) : Bool := match x with
  | .inl (.inl e) => tk == 0 || (tk == 3 && (ys_geb v e 0 && ys_geb v (ys_scale (-1) e) (-1)))
  | .inl (.inr _) => tk == 1
  | _ => false
def ys_hput (sh : List ys_C) (fl : ys_FL) (idx : Nat) (pc : Nat) (b : ys_B) (fds : ys_F) (lv : List (Nat × ys_V)) (sv : List ys_V) : Option (List (Nat × ys_S)) := match sv, fl.lookup idx with
  | v :: .inr (some k) :: t, some (ci, j, tk) => if ys_fits tk b.1 v && decide (sh[k]? = some (.inl ci)) && decide (j < (fds.1.getD k []).length) then some [(pc + 3, b, (ys_fset fds.1 k j v, fds.2), lv, t)] else none
  | _, _ => none
theorem ys_01 {x : Int} (h0 : 0 ≤ x) (h1 : x ≤ 1) : Int32.ofInt x = 0 ∨ Int32.ofInt x = 1 := by
  rcases (show x = 0 ∨ x = 1 by omega) with q | q
  · rw [q]; exact Or.inl rfl
  · rw [q]; exact Or.inr rfl
theorem ys_tk0 {t : FieldType} (h : ys_tk t = 0) : t = .int := by
  cases t <;> first | rfl | cases h
theorem ys_tk1 {t : FieldType} (h : ys_tk t = 1) : t = .long := by
  cases t <;> first | rfl | cases h
theorem ys_tk3 {t : FieldType} (h : ys_tk t = 3) : t = .boolean := by
  cases t <;> first | rfl | cases h
theorem ys_fits_ok {r : Nat → Int} {tk : Nat} {v : ys_E} {x : ys_V} {ty : FieldType} (hv : ys_ok r v) (ht : ys_tk ty = tk) (h : ys_fits tk v x = true) : narrow ty (ys_den ad r x) = ys_den ad r x ∧ fits ty (ys_den ad r x) = true ∧ tk ≠ 2 := by
  rcases x with (x | x) | x
  · unfold ys_fits at h
    simp only [Bool.or_eq_true, Bool.and_eq_true, beq_iff_eq] at h
    rcases h with h | ⟨h, h1, h2⟩
    · rw [h] at ht
      rw [ys_tk0 ht]
      exact ⟨rfl, rfl, by omega⟩
    · rw [h] at ht
      rw [ys_tk3 ht]
      have g1 := ys_geb_le hv h1
      have g2 := ys_geb_le hv h2
      rw [ys_scale_ev] at g2
      rcases ys_01 g1 (show ys_ev r x ≤ 1 by omega) with q | q
      · refine ⟨?_, ?_, by omega⟩
        · show Value.int (Int32.ofInt (ys_ev r x) &&& 1) = Value.int (Int32.ofInt (ys_ev r x))
          rw [q]; rfl
        · show (Int32.ofInt (ys_ev r x) == 0 || Int32.ofInt (ys_ev r x) == 1) = true
          rw [q]; rfl
      · refine ⟨?_, ?_, by omega⟩
        · show Value.int (Int32.ofInt (ys_ev r x) &&& 1) = Value.int (Int32.ofInt (ys_ev r x))
          rw [q]; rfl
        · show (Int32.ofInt (ys_ev r x) == 0 || Int32.ofInt (ys_ev r x) == 1) = true
          rw [q]; rfl
  · unfold ys_fits at h
    simp only [beq_iff_eq] at h
    rw [h] at ht
    rw [ys_tk1 ht]
    exact ⟨rfl, rfl, by omega⟩
  · unfold ys_fits at h
    cases h
theorem ys_mem_set {α : Type} {x y : α} : ∀ {l : List α} {i : Nat}, x ∈ l.set i y → x = y ∨ x ∈ l
  | [], i, h => by
    rw [List.set_nil] at h
    exact Or.inr h
  | z :: t, 0, h => by
    rcases List.mem_cons.mp h with q | q
    · exact Or.inl q
    · exact Or.inr (List.mem_cons_of_mem _ q)
  | z :: t, i + 1, h => by
    rcases List.mem_cons.mp h with q | q
    · exact Or.inr (q ▸ List.mem_cons_self)
    · rcases ys_mem_set q with q | q
      · exact Or.inl q
      · exact Or.inr (List.mem_cons_of_mem _ q)
theorem ys_fset_mem {fs : List (List ys_V)} {k j n : Nat} {v : ys_V} (h : ∀ w ∈ fs, ∀ v ∈ w, ys_stV n v) (hv : ys_stV n v) : ∀ w ∈ ys_fset fs k j v, ∀ v ∈ w, ys_stV n v := by
  intro w hw u hu
  rcases ys_mem_set hw with q | q
  · rw [q] at hu
    rcases ys_mem_set hu with q2 | q2
    · rw [q2]; exact hv
    · rw [List.getD_eq_getElem?_getD] at q2
      cases hc : fs[k]? with
      | none => rw [hc] at q2; cases q2
      | some x => rw [hc] at q2; exact h x (List.mem_of_getElem? hc) u q2
  · exact h w q u hu
theorem ys_fset_get {fs : List (List ys_V)} {k j i : Nat} {v : ys_V} (h : i ≠ k) : (ys_fset fs k j v).getD i [] = fs.getD i [] := by
  unfold ys_fset
  rw [List.getD_eq_getElem?_getD, List.getElem?_set_ne (Ne.symm h), ← List.getD_eq_getElem?_getD]
theorem ys_fset_self {fs : List (List ys_V)} {k j : Nat} {v : ys_V} (h : j < (fs.getD k []).length) : (ys_fset fs k j v).getD k [] = (fs.getD k []).set j v := by
  unfold ys_fset
  have hk : k < fs.length := by
    rcases Nat.lt_or_ge k fs.length with q | q
    · exact q
    · rw [List.getD_eq_getElem?_getD, List.getElem?_eq_none q] at h
      cases h
  rw [List.getD_eq_getElem?_getD, List.getElem?_set_self hk]
  rfl
theorem ys_kput {fl : ys_FL} {idx : Nat} (hexec : p.tables.exec = Jvm.exec) (hb : c.code = cc) (hts : ∀ w ∈ Ts, w.before args s = true) (hown : s.vm.findClass own = some m.cls) (hK : va_K D cl tys s) (hfl : ∀ idx ci j tk, fl.lookup idx = some (ci, j, tk) → ys_Fl own Ts cl idx ci j tk) (hd : decode cc pc = .ok (.putfield idx, 3)) (hs : ys_hput sh fl idx pc b fds lv sv = some succ) (k : ∀ q ∈ succ, ys_W p l e R s m args below meth c Q kc kz D cl ad cT sh A H0 nL mods g0 r0 E q.1 q.2) : ys_W p l e R s m args below meth c Q kc kz D cl ad cT sh A H0 nL mods g0 r0 E pc (b, fds, lv, sv) := by
  unfold ys_hput at hs
  split at hs
  · rename_i v kc t ci j tk hlk
    split at hs
    · rename_i hc
      rw [Bool.and_eq_true, Bool.and_eq_true, decide_eq_true_eq, decide_eq_true_eq] at hc
      obtain ⟨⟨hfit, hsh⟩, hjl⟩ := hc
      cases Option.some.inj hs
      have k := k _ List.mem_cons_self
      obtain ⟨C, T, N, ty0, h1, h2, h3, h4, h5, h6, h7, h8, h9⟩ := hfl _ _ _ _ hlk
      intro r H locs ls st h
      obtain ⟨st1, e1, g1, hv⟩ := ys_rep_pop h
      obtain ⟨st2, e2, g2, -⟩ := ys_rep_pop g1
      subst e1; subst e2
      obtain ⟨q1, ⟨s0, s1, s2, s3⟩, q2, ⟨g, hg, hP, hD, hS⟩, q4, q5⟩ := g2
      obtain ⟨f1, f2, f3⟩ := ys_fits_ok (ad := ad) h.1.1 h9 hfit
      have hw := ys_wld_get (ad := ad) (cT := cT) (r := r) (g := g) (fds := fds.1) hsh
      refine va_put (v := ys_den ad r v) (ty := ty0 j) hexec hb hts h3 ty0 h4 h5 hown hK hP hD hS kc hw h1 j h2 (hts _ h6) (fun _ hq => h7 ▸ hq) (h8 f3) (h4 j h2) f1 f2 (by rw [List.length_map]; exact hjl) hd fun H1 locs1 hP1 hD1 hS1 => ?_
      have ew := ys_wld_set (ad := ad) (cT := cT) (r := r) (g := g) (g' := g) (fds := fds.1) (fds' := ys_fset fds.1 kc j v) hsh (fun i hi => ⟨rfl, ys_fset_get hi⟩)
      have ec : ys_cel ad cT r g kc (.inl ci) ((ys_fset fds.1 kc j v).getD kc []) = (ad kc, .inr (ci, ((fds.1.getD kc []).map (ys_den ad r)).set j (ys_den ad r v))) := by
        rw [ys_fset_self hjl]
        show (ad kc, Sum.inr (ci, ((fds.1.getD kc []).set j v).map (ys_den ad r))) = _
        rw [List.map_set]
      rw [ec] at ew
      refine k r H1 locs1 ls _ ⟨q1, ⟨s0, ys_fset_mem s1 hv, s2, s3⟩, q2, ⟨g, hg, ?_, ?_, hS1⟩, q4, q5⟩
      · show va_P D cl (ys_wld ad cT sh r g (ys_fset fds.1 kc j v)) H1
        rw [ew]
        exact hP1
      · show va_D A (ys_wld ad cT sh r g (ys_fset fds.1 kc j v))
        rw [ew]
        exact hD1
    · cases hs
  · cases hs
/-! reading an array -/
def ys_hul (q w : Int × Int) : Int × Int := (if q.1 ≤ w.1 then q.1 else w.1, if q.2 ≤ w.2 then w.2 else q.2)
def ys_not (v : ys_E) (e : ys_L) (i : Nat) : Bool := ys_geb v e ((i : Int) + 1) || ys_geb v (ys_scale (-1) e) (1 - (i : Int))
def ys_rds (v : ys_E) (e : ys_L) : List (Nat × (Int × Int)) → Int × Int → Int × Int
  | [], q => q
  | x :: t, q => ys_rds v e t (if ys_not v e x.1 then q else ys_hul q x.2)
def ys_sgl (v : ys_E) (e : ys_L) : Option Nat := match ys_low v e, ys_high v e with
  | some l, some u => if l = u then some l.toNat else none
  | _, _ => none
theorem ys_sgl_ok {r : Nat → Int} {v : ys_E} (hv : ys_ok r v) {e : ys_L} {i n : Nat} (h : ys_sgl v e = some i) (he : ys_ev r e = (n : Int)) : i = n := by
  unfold ys_sgl at h
  split at h
  · rename_i l u hl hu
    split at h
    · cases Option.some.inj h
      have := ys_low_le hv hl
      have := ys_high_le hv hu
      omega
    · cases h
  · cases h
def ys_rd (v : ys_E) (a : ys_R) (e : ys_L) : Int × Int := match ys_sgl v e with
  | some i => ys_rat a i
  | none => ys_rds v e a.2 a.1
/-- a place of its own, where the index may be -/
def ys_spl (v : ys_E) (a : ys_R) (e : ys_L) : Option Nat := match ys_sgl v e with
  | some _ => none
  | none => (match a.2.find? (fun x => !ys_not v e x.1) with
    | some x => some x.1
    | none => none)
def ys_cut3 (pc : Nat) (b : ys_B) (e : ys_L) (i : Nat) (rest : ys_F × List (Nat × ys_V) × List ys_V) : List (Nat × ys_S) := ys_br pc b [ys_sub e ([], (i : Int)), ys_sub ([], (i : Int)) e] rest ++ (ys_br pc b [ys_sub ([], (i : Int) - 1) e] rest ++ ys_br pc b [ys_sub e ([], (i : Int) + 1)] rest)
theorem ys_not_ok {r : Nat → Int} {v : ys_E} (hv : ys_ok r v) {e : ys_L} {i : Nat} (h : ys_not v e i = true) : ys_ev r e ≠ (i : Int) := by
  unfold ys_not at h
  rcases (Bool.or_eq_true _ _).mp h with q | q
  · have := ys_geb_le hv q
    omega
  · have := ys_geb_le hv q
    rw [ys_scale_ev] at this
    omega
theorem ys_hul_l {q w : Int × Int} {z : Int} (h : q.1 ≤ z ∧ z ≤ q.2) : (ys_hul q w).1 ≤ z ∧ z ≤ (ys_hul q w).2 := by
  unfold ys_hul
  constructor
  · show (if q.1 ≤ w.1 then q.1 else w.1) ≤ z
    split <;> omega
  · show z ≤ (if q.2 ≤ w.2 then w.2 else q.2)
    split <;> omega
theorem ys_hul_r {q w : Int × Int} {z : Int} (h : w.1 ≤ z ∧ z ≤ w.2) : (ys_hul q w).1 ≤ z ∧ z ≤ (ys_hul q w).2 := by
  unfold ys_hul
  constructor
  · show (if q.1 ≤ w.1 then q.1 else w.1) ≤ z
    split <;> omega
  · show z ≤ (if q.2 ≤ w.2 then w.2 else q.2)
    split <;> omega
theorem ys_rds_acc {v : ys_E} {e : ys_L} {z : Int} : ∀ (l : List (Nat × (Int × Int))) (q : Int × Int), q.1 ≤ z ∧ z ≤ q.2 → (ys_rds v e l q).1 ≤ z ∧ z ≤ (ys_rds v e l q).2
  | [], q, h => h
  | x :: t, q, h => by
    unfold ys_rds
    refine ys_rds_acc t _ ?_
    split
    · exact h
    · exact ys_hul_l h
theorem ys_rds_in {r : Nat → Int} {v : ys_E} (hv : ys_ok r v) {e : ys_L} {z : Int} {n : Nat} (he : ys_ev r e = (n : Int)) {w : Int × Int} (hw : w.1 ≤ z ∧ z ≤ w.2) : ∀ (l : List (Nat × (Int × Int))) (q : Int × Int), l.lookup n = some w → (ys_rds v e l q).1 ≤ z ∧ z ≤ (ys_rds v e l q).2
  | [], q, h => by cases h
  | (i, x) :: t, q, h => by
    unfold ys_rds
    unfold List.lookup at h
    cases hc : n == i with
    | true =>
      rw [hc] at h
      cases h
      rw [beq_iff_eq] at hc
      subst hc
      refine ys_rds_acc t _ ?_
      split
      · rename_i hn
        exact absurd he (ys_not_ok hv hn)
      · exact ys_hul_r hw
    | false =>
      rw [hc] at h
      exact ys_rds_in hv he hw t _ h
theorem ys_rd_ok {r : Nat → Int} {v : ys_E} (hv : ys_ok r v) {a : ys_R} {f : Nat → Int} (ha : ys_rok a f) {e : ys_L} {n : Nat} (he : ys_ev r e = (n : Int)) : (ys_rd v a e).1 ≤ f n ∧ f n ≤ (ys_rd v a e).2 := by
  have h := ha n
  unfold ys_rd
  split
  · rename_i i h1
    rw [ys_sgl_ok hv h1 he]
    exact h
  · unfold ys_rat at h
    cases hc : a.2.lookup n with
    | none =>
      rw [hc] at h
      exact ys_rds_acc _ _ h
    | some w =>
      rw [hc] at h
      exact ys_rds_in hv he h _ _ hc
theorem ys_kcut3 {x : ys_L} {i : Nat} {r : Nat → Int} {H : Heap} {locs : List Loc} {ls : Array Slot} {st : List Value} (h : ys_rep D cl ad cT sh A H0 nL mods g0 r0 r E (b, fds, lv, sv) H locs ls st) (sx : ys_stb b.1.length x) (k : ∀ q ∈ ys_cut3 pc b x i (fds, lv, sv), ys_W p l e R s m args below meth c Q kc kz D cl ad cT sh A H0 nL mods g0 r0 E q.1 q.2) : W p l e R s m args below meth c H locs kc kz Q (F0 m pc ls st) := by
  have z : ∀ i : Int, ys_ev r (([], i) : ys_L) = i := fun i => Int.zero_add _
  have one : ∀ {g : ys_L}, ys_stb b.1.length g → ∀ f ∈ [g], ys_stb b.1.length f := fun hg f hf => by rw [List.mem_singleton.mp hf]; exact hg
  by_cases h1 : ys_ev r x < (i : Int)
  · exact ys_kbr h (ys_fk1 (f := ys_sub ([], (i : Int) - 1) x) (by rw [ys_sub_ev, z]; omega)) (one (ys_stb_sub (ys_stb_cst _) sx)) (fun q hq => k q (List.mem_append_right _ (List.mem_append_left _ hq)))
  · by_cases h2 : (i : Int) < ys_ev r x
    · exact ys_kbr h (ys_fk1 (f := ys_sub x ([], (i : Int) + 1)) (by rw [ys_sub_ev, z]; omega)) (one (ys_stb_sub sx (ys_stb_cst _))) (fun q hq => k q (List.mem_append_right _ (List.mem_append_right _ hq)))
    · refine ys_kbr h (fs := [ys_sub x ([], (i : Int)), ys_sub ([], (i : Int)) x]) (fun f hf => ?_) (fun f hf => ?_) (fun q hq => k q (List.mem_append_left _ hq))
      · rcases List.mem_cons.mp hf with q | q
        · rw [q, ys_sub_ev, z]; omega
        · rw [List.mem_singleton.mp q, ys_sub_ev, z]; omega
      · rcases List.mem_cons.mp hf with q | q
        · rw [q]; exact ys_stb_sub sx (ys_stb_cst _)
        · rw [List.mem_singleton.mp q]; exact ys_stb_sub (ys_stb_cst _) sx
/-- a place within an array -/
def ys_inb (b : ys_B) (e : ys_L) (len : Nat) : Bool := ys_inr false b.1 e && (ys_ge b.1 b.2 2 e && ys_ge b.1 b.2 2 (ys_sub ([], (len : Int) - 1) e))
theorem ys_inb_ok {r : Nat → Int} (h : ys_okB r b) {x : ys_L} {len : Nat} (hi : ys_inb b x len = true) : ∃ n : Nat, ys_ev r x = (n : Int) ∧ n < len ∧ vp_in (Int32.ofInt (ys_ev r x)) len ∧ (Int32.ofInt (ys_ev r x)).toNatClampNeg = n := by
  unfold ys_inb at hi
  rw [Bool.and_eq_true, Bool.and_eq_true] at hi
  have e0 := ys_inr32 h.1 hi.1
  have h1 := ys_ge_le h.1 h.2 _ _ hi.2.1
  have h2 := ys_ge_le h.1 h.2 _ _ hi.2.2
  rw [ys_sub_ev] at h2
  have h3 : ys_ev r (([], (len : Int) - 1) : ys_L) = (len : Int) - 1 := Int.zero_add _
  rw [h3] at h2
  obtain ⟨n, hn⟩ := Int.eq_ofNat_of_zero_le h1
  have e1 : (Int32.ofInt (ys_ev r x)).toNatClampNeg = n := by
    show (Int32.ofInt (ys_ev r x)).toInt.toNat = n
    rw [e0, hn]
    rfl
  refine ⟨n, hn, by omega, ?_, e1⟩
  rw [vp_in_iff, e0]
  omega

def ys_hiald (sh : List ys_C) (pc : Nat) (b : ys_B) (fds : ys_F) (lv : List (Nat × ys_V)) (sv : List ys_V) : Option (List (Nat × ys_S)) := match sv with
  | .inl (.inl x) :: .inr (some k) :: t => (match sh[k]?, fds.2[k]? with
    | some (.inr y), some a => if decide (y.1 = 0) && ys_inb b x y.2.1 then (match ys_spl b.1 a x with
      | some i => some (ys_cut3 pc b x i (fds, lv, .inl (.inl x) :: .inr (some k) :: t))
      | none => some [(pc + 1, (ys_nw b (ys_rd b.1 a x)).1, fds, lv, .inl (.inl (ys_nw b (ys_rd b.1 a x)).2) :: t)]) else none
    | _, _ => none)
  | _ => none
theorem ys_kiald (hexec : p.tables.exec = Jvm.exec) (hb : c.code = cc) (hK : va_K D cl tys s) (hty : tys[0]? = some (cT 0, .int)) (hd : decode cc pc = .ok (.iaload, 1)) (hs : ys_hiald sh pc b fds lv sv = some succ) (k : ∀ q ∈ succ, ys_W p l e R s m args below meth c Q kc kz D cl ad cT sh A H0 nL mods g0 r0 E q.1 q.2) : ys_W p l e R s m args below meth c Q kc kz D cl ad cT sh A H0 nL mods g0 r0 E pc (b, fds, lv, sv) := by
  unfold ys_hiald at hs
  split at hs
  · rename_i x kc t
    split at hs
    · rename_i y a hsh har
      split at hs
      · rename_i hc
        rw [Bool.and_eq_true, decide_eq_true_eq] at hc
        obtain ⟨hkd, hin⟩ := hc
        split at hs
        · rename_i i hi
          cases Option.some.inj hs
          intro r H locs ls st h
          exact ys_kcut3 h (h.2.1.2.2.2 (.inl (.inl x)) List.mem_cons_self) k
        cases Option.some.inj hs
        have k := k _ List.mem_cons_self
        intro r H locs ls st h
        obtain ⟨st1, e1, g1, hx⟩ := ys_rep_pop h
        obtain ⟨st2, e2, g2, -⟩ := ys_rep_pop g1
        subst e1; subst e2
        obtain ⟨g, hg, hP, hD, hS⟩ := g2.2.2.2.1
        obtain ⟨n, e3, hn, hvi, e4⟩ := ys_inb_ok h.1 hin
        have hw := ys_wld_get (ad := ad) (cT := cT) (r := r) (g := g) (fds := fds.1) hsh
        obtain ⟨kd, len, tg⟩ := y
        have hkd : kd = 0 := hkd
        subst hkd
        refine va_iald hexec hb hK hP kc 0 (f := fun j => Int32.ofInt (g kc j)) hw hty hvi hd ?_
        rw [e4]
        obtain ⟨r', hag, hbb, hl, hsc, hst, hval⟩ := ys_Op_nw (P := fun z => z = g kc n) (g kc n) h.1 h.2.1.1 (ys_rd_ok h.1.1 (hg.1 kc a har) e3) rfl
        have h4 := k r' H locs ls _ (ys_rep_push (ys_rep_ext g2 hag hbb hl hsc) (.inl (.inl (ys_nw b (ys_rd b.1 a x)).2)) hst)
        have e5 : ys_den ad r' (.inl (.inl (ys_nw b (ys_rd b.1 a x)).2)) = .int (Int32.ofInt (g kc n)) := by
          show Value.int (Int32.ofInt (ys_ev r' _)) = _
          rw [hval]
        rw [e5] at h4
        exact h4
      · cases hs
    · cases hs
  · cases hs
def ys_hlald (sh : List ys_C) (pc : Nat) (b : ys_B) (fds : ys_F) (lv : List (Nat × ys_V)) (sv : List ys_V) : Option (List (Nat × ys_S)) := match sv with
  | .inl (.inl x) :: .inr (some k) :: t => (match sh[k]?, fds.2[k]? with
    | some (.inr y), some a => if decide (y.1 = 1) && ys_inb b x y.2.1 then (match ys_spl b.1 a x with
      | some i => some (ys_cut3 pc b x i (fds, lv, .inl (.inl x) :: .inr (some k) :: t))
      | none => some [(pc + 1, (ys_nw b (ys_rd b.1 a x)).1, fds, lv, .inl (.inr (ys_nw b (ys_rd b.1 a x)).2) :: t)]) else none
    | _, _ => none)
  | _ => none
theorem ys_klald (hexec : p.tables.exec = Jvm.exec) (hb : c.code = cc) (hK : va_K D cl tys s) (hty : tys[1]? = some (cT 1, .long)) (hd : decode cc pc = .ok (.laload, 1)) (hs : ys_hlald sh pc b fds lv sv = some succ) (k : ∀ q ∈ succ, ys_W p l e R s m args below meth c Q kc kz D cl ad cT sh A H0 nL mods g0 r0 E q.1 q.2) : ys_W p l e R s m args below meth c Q kc kz D cl ad cT sh A H0 nL mods g0 r0 E pc (b, fds, lv, sv) := by
  unfold ys_hlald at hs
  split at hs
  · rename_i x kc t
    split at hs
    · rename_i y a hsh har
      split at hs
      · rename_i hc
        rw [Bool.and_eq_true, decide_eq_true_eq] at hc
        obtain ⟨hkd, hin⟩ := hc
        split at hs
        · rename_i i hi
          cases Option.some.inj hs
          intro r H locs ls st h
          exact ys_kcut3 h (h.2.1.2.2.2 (.inl (.inl x)) List.mem_cons_self) k
        cases Option.some.inj hs
        have k := k _ List.mem_cons_self
        intro r H locs ls st h
        obtain ⟨st1, e1, g1, hx⟩ := ys_rep_pop h
        obtain ⟨st2, e2, g2, -⟩ := ys_rep_pop g1
        subst e1; subst e2
        obtain ⟨g, hg, hP, hD, hS⟩ := g2.2.2.2.1
        obtain ⟨n, e3, hn, hvi, e4⟩ := ys_inb_ok h.1 hin
        have hw := ys_wld_get (ad := ad) (cT := cT) (r := r) (g := g) (fds := fds.1) hsh
        obtain ⟨kd, len, tg⟩ := y
        have hkd : kd = 1 := hkd
        subst hkd
        refine va_lald hexec hb hK hP kc 1 (f := fun j => Int64.ofInt (g kc j)) hw hty hvi hd ?_
        rw [e4]
        obtain ⟨r', hag, hbb, hl, hsc, hst, hval⟩ := ys_Op_nw (P := fun z => z = g kc n) (g kc n) h.1 h.2.1.1 (ys_rd_ok h.1.1 (hg.1 kc a har) e3) rfl
        have h4 := k r' H locs ls _ (ys_rep_push (ys_rep_ext g2 hag hbb hl hsc) (.inl (.inr (ys_nw b (ys_rd b.1 a x)).2)) hst)
        have e5 : ys_den ad r' (.inl (.inr (ys_nw b (ys_rd b.1 a x)).2)) = .long (Int64.ofInt (g kc n)) := by
          show Value.long (Int64.ofInt (ys_ev r' _)) = _
          rw [hval]
        rw [e5] at h4
        exact h4
      · cases hs
    · cases hs
  · cases hs
def ys_hbald (sh : List ys_C) (pc : Nat) (b : ys_B) (fds : ys_F) (lv : List (Nat × ys_V)) (sv : List ys_V) : Option (List (Nat × ys_S)) := match sv with
  | .inl (.inl x) :: .inr (some k) :: t => (match sh[k]?, fds.2[k]? with
    | some (.inr y), some a => if decide (y.1 = 2) && ys_inb b x y.2.1 then (match ys_spl b.1 a x with
      | some i => some (ys_cut3 pc b x i (fds, lv, .inl (.inl x) :: .inr (some k) :: t))
      | none => some [(pc + 1, (ys_nw b (ys_rd b.1 a x)).1, fds, lv, .inl (.inl (ys_nw b (ys_rd b.1 a x)).2) :: t)]) else none
    | _, _ => none)
  | _ => none
theorem ys_kbald (hexec : p.tables.exec = Jvm.exec) (hb : c.code = cc) (hK : va_K D cl tys s) (hty : tys[2]? = some (cT 2, .byte)) (hd : decode cc pc = .ok (.baload, 1)) (hs : ys_hbald sh pc b fds lv sv = some succ) (k : ∀ q ∈ succ, ys_W p l e R s m args below meth c Q kc kz D cl ad cT sh A H0 nL mods g0 r0 E q.1 q.2) : ys_W p l e R s m args below meth c Q kc kz D cl ad cT sh A H0 nL mods g0 r0 E pc (b, fds, lv, sv) := by
  unfold ys_hbald at hs
  split at hs
  · rename_i x kc t
    split at hs
    · rename_i y a hsh har
      split at hs
      · rename_i hc
        rw [Bool.and_eq_true, decide_eq_true_eq] at hc
        obtain ⟨hkd, hin⟩ := hc
        split at hs
        · rename_i i hi
          cases Option.some.inj hs
          intro r H locs ls st h
          exact ys_kcut3 h (h.2.1.2.2.2 (.inl (.inl x)) List.mem_cons_self) k
        cases Option.some.inj hs
        have k := k _ List.mem_cons_self
        intro r H locs ls st h
        obtain ⟨st1, e1, g1, hx⟩ := ys_rep_pop h
        obtain ⟨st2, e2, g2, -⟩ := ys_rep_pop g1
        subst e1; subst e2
        obtain ⟨g, hg, hP, hD, hS⟩ := g2.2.2.2.1
        obtain ⟨n, e3, hn, hvi, e4⟩ := ys_inb_ok h.1 hin
        have hw := ys_wld_get (ad := ad) (cT := cT) (r := r) (g := g) (fds := fds.1) hsh
        obtain ⟨kd, len, tg⟩ := y
        have hkd : kd = 2 := hkd
        subst hkd
        refine va_bald hexec hb hK hP kc 2 (f := fun j => Int32.ofInt (g kc j)) hw hty hvi hd ?_
        rw [e4]
        obtain ⟨r', hag, hbb, hl, hsc, hst, hval⟩ := ys_Op_nw (P := fun z => z = g kc n) (g kc n) h.1 h.2.1.1 (ys_rd_ok h.1.1 (hg.1 kc a har) e3) rfl
        have h4 := k r' H locs ls _ (ys_rep_push (ys_rep_ext g2 hag hbb hl hsc) (.inl (.inl (ys_nw b (ys_rd b.1 a x)).2)) hst)
        have e5 : ys_den ad r' (.inl (.inl (ys_nw b (ys_rd b.1 a x)).2)) = .int (Int32.ofInt (g kc n)) := by
          show Value.int (Int32.ofInt (ys_ev r' _)) = _
          rw [hval]
        rw [e5] at h4
        exact h4
      · cases hs
    · cases hs
  · cases hs
def ys_hzald (sh : List ys_C) (pc : Nat) (b : ys_B) (fds : ys_F) (lv : List (Nat × ys_V)) (sv : List ys_V) : Option (List (Nat × ys_S)) := match sv with
  | .inl (.inl x) :: .inr (some k) :: t => (match sh[k]?, fds.2[k]? with
    | some (.inr y), some a => if decide (y.1 = 3) && ys_inb b x y.2.1 then (match ys_spl b.1 a x with
      | some i => some (ys_cut3 pc b x i (fds, lv, .inl (.inl x) :: .inr (some k) :: t))
      | none => some [(pc + 1, (ys_nw b (ys_rd b.1 a x)).1, fds, lv, .inl (.inl (ys_nw b (ys_rd b.1 a x)).2) :: t)]) else none
    | _, _ => none)
  | _ => none
theorem ys_kzald (hexec : p.tables.exec = Jvm.exec) (hb : c.code = cc) (hK : va_K D cl tys s) (hty : tys[3]? = some (cT 3, .boolean)) (hd : decode cc pc = .ok (.baload, 1)) (hs : ys_hzald sh pc b fds lv sv = some succ) (k : ∀ q ∈ succ, ys_W p l e R s m args below meth c Q kc kz D cl ad cT sh A H0 nL mods g0 r0 E q.1 q.2) : ys_W p l e R s m args below meth c Q kc kz D cl ad cT sh A H0 nL mods g0 r0 E pc (b, fds, lv, sv) := by
  unfold ys_hzald at hs
  split at hs
  · rename_i x kc t
    split at hs
    · rename_i y a hsh har
      split at hs
      · rename_i hc
        rw [Bool.and_eq_true, decide_eq_true_eq] at hc
        obtain ⟨hkd, hin⟩ := hc
        split at hs
        · rename_i i hi
          cases Option.some.inj hs
          intro r H locs ls st h
          exact ys_kcut3 h (h.2.1.2.2.2 (.inl (.inl x)) List.mem_cons_self) k
        cases Option.some.inj hs
        have k := k _ List.mem_cons_self
        intro r H locs ls st h
        obtain ⟨st1, e1, g1, hx⟩ := ys_rep_pop h
        obtain ⟨st2, e2, g2, -⟩ := ys_rep_pop g1
        subst e1; subst e2
        obtain ⟨g, hg, hP, hD, hS⟩ := g2.2.2.2.1
        obtain ⟨n, e3, hn, hvi, e4⟩ := ys_inb_ok h.1 hin
        have hw := ys_wld_get (ad := ad) (cT := cT) (r := r) (g := g) (fds := fds.1) hsh
        obtain ⟨kd, len, tg⟩ := y
        have hkd : kd = 3 := hkd
        subst hkd
        refine va_zald hexec hb hK hP kc 3 (f := fun j => Int32.ofInt (g kc j)) hw hty hvi hd ?_
        rw [e4]
        obtain ⟨r', hag, hbb, hl, hsc, hst, hval⟩ := ys_Op_nw (P := fun z => z = g kc n) (g kc n) h.1 h.2.1.1 (ys_rd_ok h.1.1 (hg.1 kc a har) e3) rfl
        have h4 := k r' H locs ls _ (ys_rep_push (ys_rep_ext g2 hag hbb hl hsc) (.inl (.inl (ys_nw b (ys_rd b.1 a x)).2)) hst)
        have e5 : ys_den ad r' (.inl (.inl (ys_nw b (ys_rd b.1 a x)).2)) = .int (Int32.ofInt (g kc n)) := by
          show Value.int (Int32.ofInt (ys_ev r' _)) = _
          rw [hval]
        rw [e5] at h4
        exact h4
      · cases hs
    · cases hs
  · cases hs
end YSM
end
section
/-! writing an array -/
def ys_ivl (v : ys_E) (e : ys_L) : Option (Int × Int) := match ys_low v e, ys_high v e with
  | some l, some u => some (l, u)
  | _, _ => none
theorem ys_ivl_ok {r : Nat → Int} {v : ys_E} (h : ys_ok r v) {e : ys_L} {q : Int × Int} (hq : ys_ivl v e = some q) : q.1 ≤ ys_ev r e ∧ ys_ev r e ≤ q.2 := by
  unfold ys_ivl at hq
  split at hq
  · rename_i l u hl hu
    cases Option.some.inj hq
    exact ⟨ys_low_le h hl, ys_high_le h hu⟩
  · cases hq
def ys_wr (v : ys_E) (a : ys_R) (e : ys_L) (q : Int × Int) : ys_R := match ys_sgl v e with
  | some i => (a.1, (i, q) :: a.2.filter fun x => !(x.1 == i))
  | none => (ys_hul a.1 q, a.2.map fun x => if ys_not v e x.1 then x else (x.1, ys_hul x.2 q))
theorem ys_lookup_filter {n j : Nat} (h : j ≠ n) : ∀ l : List (Nat × (Int × Int)), (l.filter fun x => !(x.1 == n)).lookup j = l.lookup j
  | [] => rfl
  | (i, x) :: t => by
    have ih := ys_lookup_filter h t
    rw [List.filter_cons]
    by_cases hi : i = n
    · subst hi
      have e1 : (!((i, x).1 == i)) = false := by simp
      have e2 : (j == i) = false := by simpa using h
      rw [if_neg (by rw [e1]; decide), ih]
      conv => rhs; unfold List.lookup
      rw [e2]
    · have e1 : (!((i, x).1 == n)) = true := by simpa using hi
      rw [if_pos e1]
      unfold List.lookup
      cases j == i with
      | true => rfl
      | false => exact ih
theorem ys_lookup_map {v : ys_E} {e : ys_L} {q : Int × Int} {j : Nat} : ∀ l : List (Nat × (Int × Int)), (l.map fun x => if ys_not v e x.1 then x else (x.1, ys_hul x.2 q)).lookup j = (l.lookup j).map fun w => if ys_not v e j then w else ys_hul w q
  | [] => rfl
  | (i, x) :: t => by
    have ih := ys_lookup_map (v := v) (e := e) (q := q) (j := j) t
    rw [List.map_cons]
    by_cases hj : j = i
    · subst hj
      cases hn : ys_not v e j with
      | true =>
        rw [if_pos rfl]
        unfold List.lookup
        rw [beq_self_eq_true]
        rfl
      | false =>
        rw [if_neg (by decide)]
        unfold List.lookup
        rw [beq_self_eq_true]
        rfl
    · have e2 : (j == i) = false := by simpa using hj
      cases hn : ys_not v e i with
      | true =>
        rw [if_pos rfl]
        unfold List.lookup
        rw [e2]
        exact ih
      | false =>
        rw [if_neg (by decide)]
        unfold List.lookup
        rw [e2]
        exact ih
def ys_gup (g : Nat → Nat → Int) (k n : Nat) (z : Int) : Nat → Nat → Int := fun i => if i = k then (fun j => if j = n then z else g k j) else g i
theorem ys_wr_ok {r : Nat → Int} {v : ys_E} (hv : ys_ok r v) {a : ys_R} {f : Nat → Int} (ha : ys_rok a f) {e : ys_L} {n : Nat} (he : ys_ev r e = (n : Int)) {q : Int × Int} {z : Int} (hz : q.1 ≤ z ∧ z ≤ q.2) : ys_rok (ys_wr v a e q) (fun j => if j = n then z else f j) := by
  intro j
  show _ ≤ (if j = n then z else f j) ∧ (if j = n then z else f j) ≤ _
  unfold ys_wr
  split
  · rename_i i h1
    have hn : i = n := ys_sgl_ok hv h1 he
    rw [hn]
    by_cases hj : j = n
    · subst hj
      rw [if_pos rfl]
      unfold ys_rat List.lookup
      rw [beq_self_eq_true]
      exact hz
    · rw [if_neg hj]
      have h := ha j
      unfold ys_rat at h ⊢
      have e2 : (j == n) = false := by simpa using hj
      have e3 : (((n, q) :: a.2.filter fun x => !(x.1 == n)) : List (Nat × (Int × Int))).lookup j = a.2.lookup j := by
        conv => lhs; unfold List.lookup
        rw [e2]
        exact ys_lookup_filter hj a.2
      show ((((n, q) :: a.2.filter fun x => !(x.1 == n)) : List (Nat × (Int × Int))).lookup j |>.getD a.1).1 ≤ _ ∧ _ ≤ ((((n, q) :: a.2.filter fun x => !(x.1 == n)) : List (Nat × (Int × Int))).lookup j |>.getD a.1).2
      rw [e3]
      exact h
  · have h := ha j
    unfold ys_rat at h ⊢
    show (((a.2.map fun x => if ys_not v e x.1 then x else (x.1, ys_hul x.2 q)).lookup j).getD (ys_hul a.1 q)).1 ≤ _ ∧ _ ≤ (((a.2.map fun x => if ys_not v e x.1 then x else (x.1, ys_hul x.2 q)).lookup j).getD (ys_hul a.1 q)).2
    rw [ys_lookup_map]
    by_cases hj : j = n
    · subst hj
      rw [if_pos rfl]
      have hn : ys_not v e j = false := by
        cases hc : ys_not v e j with
        | true => exact absurd he (ys_not_ok hv hc)
        | false => rfl
      rw [hn]
      cases a.2.lookup j with
      | none => exact ys_hul_r hz
      | some w => exact ys_hul_r hz
    · rw [if_neg hj]
      cases hc : a.2.lookup j with
      | none =>
        rw [hc] at h
        exact ys_hul_l h
      | some w =>
        rw [hc] at h
        show (if ys_not v e j then w else ys_hul w q).1 ≤ _ ∧ _ ≤ (if ys_not v e j then w else ys_hul w q).2
        split
        · exact h
        · exact ys_hul_l h
section YSM2
variable {p : Program} {l : Launch} {e : Env} {R : Room} {s : State} {m : MethodId} {args : Array Value} {below : List Frame} {meth : Method} {c : Code} {Q : State → Prop} {kc kz : Nat} {D : va_G} {cl : List vw_C} {ad : Nat → Nat} {cT : Nat → ClassId} {sh : List ys_C} {A : Nat → Prop} {H0 : Heap} {nL : Nat} {mods : List Nat} {g0 : Nat → Nat → Int} {r0 : Nat → Int} {E : Nat} {pc : Nat} {b : ys_B} {fds : ys_F} {lv : List (Nat × ys_V)} {sv : List ys_V} {succ : List (Nat × ys_S)} {cc : ByteArray} {own : String} {Ts : List Cond} {tys : List (ClassId × FieldType)}

def ys_hiast (sh : List ys_C) (mods : List Nat) (pc : Nat) (b : ys_B) (fds : ys_F) (lv : List (Nat × ys_V)) (sv : List ys_V) : Option (List (Nat × ys_S)) := match sv with
  | .inl (.inl z) :: .inl (.inl x) :: .inr (some k) :: t => (match sh[k]?, fds.2[k]?, ys_ivl b.1 z with
    | some (.inr y), some a, some q => if decide (y.1 = 0) && ys_inb b x y.2.1 && decide (k ∈ mods) then some [(pc + 1, b, (fds.1, fds.2.set k (ys_wr b.1 a x q)), lv, t)] else none
    | _, _, _ => none)
  | _ => none
theorem ys_kiast (hexec : p.tables.exec = Jvm.exec) (hb : c.code = cc) (hK : va_K D cl tys s) (hty : tys[0]? = some (cT 0, .int)) (hd : decode cc pc = .ok (.iastore, 1)) (hs : ys_hiast sh mods pc b fds lv sv = some succ) (k : ∀ q ∈ succ, ys_W p l e R s m args below meth c Q kc kz D cl ad cT sh A H0 nL mods g0 r0 E q.1 q.2) : ys_W p l e R s m args below meth c Q kc kz D cl ad cT sh A H0 nL mods g0 r0 E pc (b, fds, lv, sv) := by
  unfold ys_hiast at hs
  split at hs
  · rename_i z x kc t
    split at hs
    · rename_i y a q hsh har hiv
      split at hs
      · rename_i hc
        simp only [Bool.and_eq_true, decide_eq_true_eq] at hc
        obtain ⟨⟨hkd, hin⟩, hm⟩ := hc
        cases Option.some.inj hs
        have k := k _ List.mem_cons_self
        intro r H locs ls st h
        obtain ⟨st1, e1, g1, hz⟩ := ys_rep_pop h
        obtain ⟨st2, e2, g2, hx⟩ := ys_rep_pop g1
        obtain ⟨st3, e3, g3, -⟩ := ys_rep_pop g2
        subst e1; subst e2; subst e3
        obtain ⟨q1, ⟨s0, s1, s2, s3⟩, q2, ⟨g, hg, hP, hD, hS⟩, q4, q5⟩ := g3
        obtain ⟨n, e4, hn, hvi, e5⟩ := ys_inb_ok h.1 hin
        have hzq := ys_ivl_ok h.1.1 hiv
        have hw := ys_wld_get (ad := ad) (cT := cT) (r := r) (g := g) (fds := fds.1) hsh
        obtain ⟨kd, len, tg⟩ := y
        have hkd : kd = 0 := hkd
        subst hkd
        refine va_iast hexec hb hK hP hD hS kc 0 (f := fun j => Int32.ofInt (g kc j)) hw hty hvi hd fun H1 locs1 hP1 hD1 hS1 => ?_
        have ew := ys_wld_set (ad := ad) (cT := cT) (r := r) (g := g) (g' := ys_gup g kc n (ys_ev r z)) (fds := fds.1) (fds' := fds.1) hsh (fun i hi => ⟨if_neg hi, rfl⟩)
        have ef : (fun j => Int32.ofInt (ys_gup g kc n (ys_ev r z) kc j)) = upd (fun j => Int32.ofInt (g kc j)) (Int32.ofInt (ys_ev r x)).toNatClampNeg (Int32.ofInt (ys_ev r z)) := by
          rw [e5]
          funext j
          unfold ys_gup upd
          rw [if_pos rfl]
          by_cases hj : j = n
          · rw [if_pos hj, if_pos hj]
          · rw [if_neg hj, if_neg hj]
        have ec : ys_cel ad cT r (ys_gup g kc n (ys_ev r z)) kc (.inr (0, len, tg)) (fds.1.getD kc []) = (ad kc, .inl (cT 0, len, .inl (upd (fun j => Int32.ofInt (g kc j)) (Int32.ofInt (ys_ev r x)).toNatClampNeg (Int32.ofInt (ys_ev r z))))) := by
          show ((ad kc, Sum.inl (cT 0, len, Sum.inl (fun j => Int32.ofInt (ys_gup g kc n (ys_ev r z) kc j)))) : Nat × va_E) = _
          rw [ef]
        rw [ec] at ew
        refine k r H1 locs1 ls _ ⟨q1, ⟨s0, s1, s2, s3⟩, q2, ⟨ys_gup g kc n (ys_ev r z), ⟨fun i w hi => ?_, fun i hi => ?_⟩, ?_, ?_, hS1⟩, q4, q5⟩
        · by_cases hk : i = kc
          · subst hk
            have hl : i < fds.2.length := (List.getElem?_eq_some_iff.mp har).1
            have hi : (fds.2.set i (ys_wr b.1 a x q))[i]? = some w := hi
            rw [List.getElem?_set_self hl] at hi
            cases hi
            have e6 : ys_gup g i n (ys_ev r z) i = fun j => if j = n then ys_ev r z else g i j := if_pos rfl
            rw [e6]
            exact ys_wr_ok h.1.1 (hg.1 i a har) e4 hzq
          · have hi : (fds.2.set kc (ys_wr b.1 a x q))[i]? = some w := hi
            rw [List.getElem?_set_ne (Ne.symm hk)] at hi
            have e6 : ys_gup g kc n (ys_ev r z) i = g i := if_neg hk
            rw [e6]
            exact hg.1 i w hi
        · have hk : i ≠ kc := fun e => hi (e ▸ hm)
          have e6 : ys_gup g kc n (ys_ev r z) i = g i := if_neg hk
          rw [e6]
          exact hg.2 i hi
        · show va_P D cl (ys_wld ad cT sh r (ys_gup g kc n (ys_ev r z)) fds.1) H1
          rw [ew]
          exact hP1
        · show va_D A (ys_wld ad cT sh r (ys_gup g kc n (ys_ev r z)) fds.1)
          rw [ew]
          exact hD1
      · cases hs
    · cases hs
  · cases hs
def ys_hlast (sh : List ys_C) (mods : List Nat) (pc : Nat) (b : ys_B) (fds : ys_F) (lv : List (Nat × ys_V)) (sv : List ys_V) : Option (List (Nat × ys_S)) := match sv with
  | .inl (.inr z) :: .inl (.inl x) :: .inr (some k) :: t => (match sh[k]?, fds.2[k]?, ys_ivl b.1 z with
    | some (.inr y), some a, some q => if decide (y.1 = 1) && ys_inb b x y.2.1 && decide (k ∈ mods) then some [(pc + 1, b, (fds.1, fds.2.set k (ys_wr b.1 a x q)), lv, t)] else none
    | _, _, _ => none)
  | _ => none
theorem ys_klast (hexec : p.tables.exec = Jvm.exec) (hb : c.code = cc) (hK : va_K D cl tys s) (hty : tys[1]? = some (cT 1, .long)) (hd : decode cc pc = .ok (.lastore, 1)) (hs : ys_hlast sh mods pc b fds lv sv = some succ) (k : ∀ q ∈ succ, ys_W p l e R s m args below meth c Q kc kz D cl ad cT sh A H0 nL mods g0 r0 E q.1 q.2) : ys_W p l e R s m args below meth c Q kc kz D cl ad cT sh A H0 nL mods g0 r0 E pc (b, fds, lv, sv) := by
  unfold ys_hlast at hs
  split at hs
  · rename_i z x kc t
    split at hs
    · rename_i y a q hsh har hiv
      split at hs
      · rename_i hc
        simp only [Bool.and_eq_true, decide_eq_true_eq] at hc
        obtain ⟨⟨hkd, hin⟩, hm⟩ := hc
        cases Option.some.inj hs
        have k := k _ List.mem_cons_self
        intro r H locs ls st h
        obtain ⟨st1, e1, g1, hz⟩ := ys_rep_pop h
        obtain ⟨st2, e2, g2, hx⟩ := ys_rep_pop g1
        obtain ⟨st3, e3, g3, -⟩ := ys_rep_pop g2
        subst e1; subst e2; subst e3
        obtain ⟨q1, ⟨s0, s1, s2, s3⟩, q2, ⟨g, hg, hP, hD, hS⟩, q4, q5⟩ := g3
        obtain ⟨n, e4, hn, hvi, e5⟩ := ys_inb_ok h.1 hin
        have hzq := ys_ivl_ok h.1.1 hiv
        have hw := ys_wld_get (ad := ad) (cT := cT) (r := r) (g := g) (fds := fds.1) hsh
        obtain ⟨kd, len, tg⟩ := y
        have hkd : kd = 1 := hkd
        subst hkd
        refine va_last hexec hb hK hP hD hS kc 1 (f := fun j => Int64.ofInt (g kc j)) hw hty hvi hd fun H1 locs1 hP1 hD1 hS1 => ?_
        have ew := ys_wld_set (ad := ad) (cT := cT) (r := r) (g := g) (g' := ys_gup g kc n (ys_ev r z)) (fds := fds.1) (fds' := fds.1) hsh (fun i hi => ⟨if_neg hi, rfl⟩)
        have ef : (fun j => Int64.ofInt (ys_gup g kc n (ys_ev r z) kc j)) = vp_updL (fun j => Int64.ofInt (g kc j)) (Int32.ofInt (ys_ev r x)).toNatClampNeg (Int64.ofInt (ys_ev r z)) := by
          rw [e5]
          funext j
          unfold ys_gup vp_updL
          rw [if_pos rfl]
          by_cases hj : j = n
          · rw [if_pos hj, if_pos hj]
          · rw [if_neg hj, if_neg hj]
        have ec : ys_cel ad cT r (ys_gup g kc n (ys_ev r z)) kc (.inr (1, len, tg)) (fds.1.getD kc []) = (ad kc, .inl (cT 1, len, .inr (.inl (vp_updL (fun j => Int64.ofInt (g kc j)) (Int32.ofInt (ys_ev r x)).toNatClampNeg (Int64.ofInt (ys_ev r z)))))) := by
          show ((ad kc, Sum.inl (cT 1, len, Sum.inr (Sum.inl (fun j => Int64.ofInt (ys_gup g kc n (ys_ev r z) kc j))))) : Nat × va_E) = _
          rw [ef]
        rw [ec] at ew
        refine k r H1 locs1 ls _ ⟨q1, ⟨s0, s1, s2, s3⟩, q2, ⟨ys_gup g kc n (ys_ev r z), ⟨fun i w hi => ?_, fun i hi => ?_⟩, ?_, ?_, hS1⟩, q4, q5⟩
        · by_cases hk : i = kc
          · subst hk
            have hl : i < fds.2.length := (List.getElem?_eq_some_iff.mp har).1
            have hi : (fds.2.set i (ys_wr b.1 a x q))[i]? = some w := hi
            rw [List.getElem?_set_self hl] at hi
            cases hi
            have e6 : ys_gup g i n (ys_ev r z) i = fun j => if j = n then ys_ev r z else g i j := if_pos rfl
            rw [e6]
            exact ys_wr_ok h.1.1 (hg.1 i a har) e4 hzq
          · have hi : (fds.2.set kc (ys_wr b.1 a x q))[i]? = some w := hi
            rw [List.getElem?_set_ne (Ne.symm hk)] at hi
            have e6 : ys_gup g kc n (ys_ev r z) i = g i := if_neg hk
            rw [e6]
            exact hg.1 i w hi
        · have hk : i ≠ kc := fun e => hi (e ▸ hm)
          have e6 : ys_gup g kc n (ys_ev r z) i = g i := if_neg hk
          rw [e6]
          exact hg.2 i hi
        · show va_P D cl (ys_wld ad cT sh r (ys_gup g kc n (ys_ev r z)) fds.1) H1
          rw [ew]
          exact hP1
        · show va_D A (ys_wld ad cT sh r (ys_gup g kc n (ys_ev r z)) fds.1)
          rw [ew]
          exact hD1
      · cases hs
    · cases hs
  · cases hs
theorem ys_nar_b {x : Int} (h0 : -128 ≤ x) (h1 : x ≤ 127) : vp_nar .byte (Int32.ofInt x) = Int32.ofInt x := by
  rw [vp_nar_byte]
  apply Int32.toInt_inj.mp
  rw [Int8.toInt_toInt32, Int32.toInt_toInt8, Int32.toInt_ofInt_of_le (by omega) (by omega)]
  exact Int.bmod_eq_of_le (by omega) (by omega)
theorem ys_nar_z {x : Int} (h0 : 0 ≤ x) (h1 : x ≤ 1) : vp_nar .boolean (Int32.ofInt x) = Int32.ofInt x := by
  rcases ys_01 h0 h1 with q | q <;> rw [q] <;> rfl
def ys_hbast (sh : List ys_C) (mods : List Nat) (pc : Nat) (b : ys_B) (fds : ys_F) (lv : List (Nat × ys_V)) (sv : List ys_V) : Option (List (Nat × ys_S)) := match sv with
  | .inl (.inl z) :: .inl (.inl x) :: .inr (some k) :: t => (match sh[k]?, fds.2[k]?, ys_ivl b.1 z with
    | some (.inr y), some a, some q => if decide (y.1 = 2) && ys_inb b x y.2.1 && decide (k ∈ mods) && (decide (-128 ≤ q.1) && decide (q.2 ≤ 127)) then some [(pc + 1, b, (fds.1, fds.2.set k (ys_wr b.1 a x q)), lv, t)] else none
    | _, _, _ => none)
  | _ => none
theorem ys_kbast (hexec : p.tables.exec = Jvm.exec) (hb : c.code = cc) (hK : va_K D cl tys s) (hty : tys[2]? = some (cT 2, .byte)) (hd : decode cc pc = .ok (.bastore, 1)) (hs : ys_hbast sh mods pc b fds lv sv = some succ) (k : ∀ q ∈ succ, ys_W p l e R s m args below meth c Q kc kz D cl ad cT sh A H0 nL mods g0 r0 E q.1 q.2) : ys_W p l e R s m args below meth c Q kc kz D cl ad cT sh A H0 nL mods g0 r0 E pc (b, fds, lv, sv) := by
  unfold ys_hbast at hs
  split at hs
  · rename_i z x kc t
    split at hs
    · rename_i y a q hsh har hiv
      split at hs
      · rename_i hc
        simp only [Bool.and_eq_true, decide_eq_true_eq] at hc
        obtain ⟨⟨⟨hkd, hin⟩, hm⟩, hq⟩ := hc
        cases Option.some.inj hs
        have k := k _ List.mem_cons_self
        intro r H locs ls st h
        obtain ⟨st1, e1, g1, hz⟩ := ys_rep_pop h
        obtain ⟨st2, e2, g2, hx⟩ := ys_rep_pop g1
        obtain ⟨st3, e3, g3, -⟩ := ys_rep_pop g2
        subst e1; subst e2; subst e3
        obtain ⟨q1, ⟨s0, s1, s2, s3⟩, q2, ⟨g, hg, hP, hD, hS⟩, q4, q5⟩ := g3
        obtain ⟨n, e4, hn, hvi, e5⟩ := ys_inb_ok h.1 hin
        have hzq := ys_ivl_ok h.1.1 hiv
        have hw := ys_wld_get (ad := ad) (cT := cT) (r := r) (g := g) (fds := fds.1) hsh
        obtain ⟨kd, len, tg⟩ := y
        have hkd : kd = 2 := hkd
        subst hkd
        refine va_bast hexec hb hK hP hD hS kc 2 (f := fun j => Int32.ofInt (g kc j)) hw hty hvi hd fun H1 locs1 hP1 hD1 hS1 => ?_
        have ew := ys_wld_set (ad := ad) (cT := cT) (r := r) (g := g) (g' := ys_gup g kc n (ys_ev r z)) (fds := fds.1) (fds' := fds.1) hsh (fun i hi => ⟨if_neg hi, rfl⟩)
        have ef : (fun j => Int32.ofInt (ys_gup g kc n (ys_ev r z) kc j)) = upd (fun j => Int32.ofInt (g kc j)) (Int32.ofInt (ys_ev r x)).toNatClampNeg (vp_nar .byte (Int32.ofInt (ys_ev r z))) := by
          rw [e5]
          funext j
          unfold ys_gup upd
          rw [if_pos rfl]
          by_cases hj : j = n
          · rw [if_pos hj, if_pos hj]
            exact (ys_nar_b (by omega) (by omega)).symm
          · rw [if_neg hj, if_neg hj]
        have ec : ys_cel ad cT r (ys_gup g kc n (ys_ev r z)) kc (.inr (2, len, tg)) (fds.1.getD kc []) = (ad kc, .inl (cT 2, len, .inl (upd (fun j => Int32.ofInt (g kc j)) (Int32.ofInt (ys_ev r x)).toNatClampNeg (vp_nar .byte (Int32.ofInt (ys_ev r z)))))) := by
          show ((ad kc, Sum.inl (cT 2, len, Sum.inl (fun j => Int32.ofInt (ys_gup g kc n (ys_ev r z) kc j)))) : Nat × va_E) = _
          rw [ef]
        rw [ec] at ew
        refine k r H1 locs1 ls _ ⟨q1, ⟨s0, s1, s2, s3⟩, q2, ⟨ys_gup g kc n (ys_ev r z), ⟨fun i w hi => ?_, fun i hi => ?_⟩, ?_, ?_, hS1⟩, q4, q5⟩
        · by_cases hk : i = kc
          · subst hk
            have hl : i < fds.2.length := (List.getElem?_eq_some_iff.mp har).1
            have hi : (fds.2.set i (ys_wr b.1 a x q))[i]? = some w := hi
            rw [List.getElem?_set_self hl] at hi
            cases hi
            have e6 : ys_gup g i n (ys_ev r z) i = fun j => if j = n then ys_ev r z else g i j := if_pos rfl
            rw [e6]
            exact ys_wr_ok h.1.1 (hg.1 i a har) e4 hzq
          · have hi : (fds.2.set kc (ys_wr b.1 a x q))[i]? = some w := hi
            rw [List.getElem?_set_ne (Ne.symm hk)] at hi
            have e6 : ys_gup g kc n (ys_ev r z) i = g i := if_neg hk
            rw [e6]
            exact hg.1 i w hi
        · have hk : i ≠ kc := fun e => hi (e ▸ hm)
          have e6 : ys_gup g kc n (ys_ev r z) i = g i := if_neg hk
          rw [e6]
          exact hg.2 i hi
        · show va_P D cl (ys_wld ad cT sh r (ys_gup g kc n (ys_ev r z)) fds.1) H1
          rw [ew]
          exact hP1
        · show va_D A (ys_wld ad cT sh r (ys_gup g kc n (ys_ev r z)) fds.1)
          rw [ew]
          exact hD1
      · cases hs
    · cases hs
  · cases hs
def ys_hzast (sh : List ys_C) (mods : List Nat) (pc : Nat) (b : ys_B) (fds : ys_F) (lv : List (Nat × ys_V)) (sv : List ys_V) : Option (List (Nat × ys_S)) := match sv with
  | .inl (.inl z) :: .inl (.inl x) :: .inr (some k) :: t => (match sh[k]?, fds.2[k]?, ys_ivl b.1 z with
    | some (.inr y), some a, some q => if decide (y.1 = 3) && ys_inb b x y.2.1 && decide (k ∈ mods) && (decide (0 ≤ q.1) && decide (q.2 ≤ 1)) then some [(pc + 1, b, (fds.1, fds.2.set k (ys_wr b.1 a x q)), lv, t)] else none
    | _, _, _ => none)
  | _ => none
theorem ys_kzast (hexec : p.tables.exec = Jvm.exec) (hb : c.code = cc) (hK : va_K D cl tys s) (hty : tys[3]? = some (cT 3, .boolean)) (hd : decode cc pc = .ok (.bastore, 1)) (hs : ys_hzast sh mods pc b fds lv sv = some succ) (k : ∀ q ∈ succ, ys_W p l e R s m args below meth c Q kc kz D cl ad cT sh A H0 nL mods g0 r0 E q.1 q.2) : ys_W p l e R s m args below meth c Q kc kz D cl ad cT sh A H0 nL mods g0 r0 E pc (b, fds, lv, sv) := by
  unfold ys_hzast at hs
  split at hs
  · rename_i z x kc t
    split at hs
    · rename_i y a q hsh har hiv
      split at hs
      · rename_i hc
        simp only [Bool.and_eq_true, decide_eq_true_eq] at hc
        obtain ⟨⟨⟨hkd, hin⟩, hm⟩, hq⟩ := hc
        cases Option.some.inj hs
        have k := k _ List.mem_cons_self
        intro r H locs ls st h
        obtain ⟨st1, e1, g1, hz⟩ := ys_rep_pop h
        obtain ⟨st2, e2, g2, hx⟩ := ys_rep_pop g1
        obtain ⟨st3, e3, g3, -⟩ := ys_rep_pop g2
        subst e1; subst e2; subst e3
        obtain ⟨q1, ⟨s0, s1, s2, s3⟩, q2, ⟨g, hg, hP, hD, hS⟩, q4, q5⟩ := g3
        obtain ⟨n, e4, hn, hvi, e5⟩ := ys_inb_ok h.1 hin
        have hzq := ys_ivl_ok h.1.1 hiv
        have hw := ys_wld_get (ad := ad) (cT := cT) (r := r) (g := g) (fds := fds.1) hsh
        obtain ⟨kd, len, tg⟩ := y
        have hkd : kd = 3 := hkd
        subst hkd
        refine va_zast hexec hb hK hP hD hS kc 3 (f := fun j => Int32.ofInt (g kc j)) hw hty hvi hd fun H1 locs1 hP1 hD1 hS1 => ?_
        have ew := ys_wld_set (ad := ad) (cT := cT) (r := r) (g := g) (g' := ys_gup g kc n (ys_ev r z)) (fds := fds.1) (fds' := fds.1) hsh (fun i hi => ⟨if_neg hi, rfl⟩)
        have ef : (fun j => Int32.ofInt (ys_gup g kc n (ys_ev r z) kc j)) = upd (fun j => Int32.ofInt (g kc j)) (Int32.ofInt (ys_ev r x)).toNatClampNeg (vp_nar .boolean (Int32.ofInt (ys_ev r z))) := by
          rw [e5]
          funext j
          unfold ys_gup upd
          rw [if_pos rfl]
          by_cases hj : j = n
          · rw [if_pos hj, if_pos hj]
            exact (ys_nar_z (by omega) (by omega)).symm
          · rw [if_neg hj, if_neg hj]
        have ec : ys_cel ad cT r (ys_gup g kc n (ys_ev r z)) kc (.inr (3, len, tg)) (fds.1.getD kc []) = (ad kc, .inl (cT 3, len, .inl (upd (fun j => Int32.ofInt (g kc j)) (Int32.ofInt (ys_ev r x)).toNatClampNeg (vp_nar .boolean (Int32.ofInt (ys_ev r z)))))) := by
          show ((ad kc, Sum.inl (cT 3, len, Sum.inl (fun j => Int32.ofInt (ys_gup g kc n (ys_ev r z) kc j)))) : Nat × va_E) = _
          rw [ef]
        rw [ec] at ew
        refine k r H1 locs1 ls _ ⟨q1, ⟨s0, s1, s2, s3⟩, q2, ⟨ys_gup g kc n (ys_ev r z), ⟨fun i w hi => ?_, fun i hi => ?_⟩, ?_, ?_, hS1⟩, q4, q5⟩
        · by_cases hk : i = kc
          · subst hk
            have hl : i < fds.2.length := (List.getElem?_eq_some_iff.mp har).1
            have hi : (fds.2.set i (ys_wr b.1 a x q))[i]? = some w := hi
            rw [List.getElem?_set_self hl] at hi
            cases hi
            have e6 : ys_gup g i n (ys_ev r z) i = fun j => if j = n then ys_ev r z else g i j := if_pos rfl
            rw [e6]
            exact ys_wr_ok h.1.1 (hg.1 i a har) e4 hzq
          · have hi : (fds.2.set kc (ys_wr b.1 a x q))[i]? = some w := hi
            rw [List.getElem?_set_ne (Ne.symm hk)] at hi
            have e6 : ys_gup g kc n (ys_ev r z) i = g i := if_neg hk
            rw [e6]
            exact hg.1 i w hi
        · have hk : i ≠ kc := fun e => hi (e ▸ hm)
          have e6 : ys_gup g kc n (ys_ev r z) i = g i := if_neg hk
          rw [e6]
          exact hg.2 i hi
        · show va_P D cl (ys_wld ad cT sh r (ys_gup g kc n (ys_ev r z)) fds.1) H1
          rw [ew]
          exact hP1
        · show va_D A (ys_wld ad cT sh r (ys_gup g kc n (ys_ev r z)) fds.1)
          rw [ew]
          exact hD1
      · cases hs
    · cases hs
  · cases hs
/-- how long an array is -/
def ys_halen (sh : List ys_C) (pc : Nat) (b : ys_B) (fds : ys_F) (lv : List (Nat × ys_V)) (sv : List ys_V) : Option (List (Nat × ys_S)) := match sv with
  | .inr (some k) :: t => (match sh[k]? with
    | some (.inr y) => some [(pc + 1, b, fds, lv, .inl (.inl ([], (y.2.1 : Int))) :: t)]
    | _ => none)
  | _ => none
theorem ys_kalen (hexec : p.tables.exec = Jvm.exec) (hb : c.code = cc) (hK : va_K D cl tys s) (hty : ∀ (k : Nat) (y : Nat × Nat × List Nat), sh[k]? = some (.inr y) → ∃ t, tys[y.1]? = some (cT y.1, t)) (hd : decode cc pc = .ok (.arraylength, 1)) (hs : ys_halen sh pc b fds lv sv = some succ) (k : ∀ q ∈ succ, ys_W p l e R s m args below meth c Q kc kz D cl ad cT sh A H0 nL mods g0 r0 E q.1 q.2) : ys_W p l e R s m args below meth c Q kc kz D cl ad cT sh A H0 nL mods g0 r0 E pc (b, fds, lv, sv) := by
  unfold ys_halen at hs
  split at hs
  · rename_i kc t
    split at hs
    · rename_i y hsh
      cases Option.some.inj hs
      have k := k _ List.mem_cons_self
      intro r H locs ls st h
      obtain ⟨st1, e1, g1, -⟩ := ys_rep_pop h
      subst e1
      obtain ⟨g, hg, hP, hD, hS⟩ := g1.2.2.2.1
      have hw := ys_wld_get (ad := ad) (cT := cT) (r := r) (g := g) (fds := fds.1) hsh
      obtain ⟨ty, ht⟩ := hty kc y hsh
      refine va_alen (x := ys_con ad (g kc) y) (v := Int32.ofInt (ys_ev r (([], (y.2.1 : Int)) : ys_L))) hexec hb hK hP kc y.1 hw ht ?_ hd (k r H locs ls _ (ys_rep_push g1 _ (ys_stb_cst _)))
      show Int32.ofNat y.2.1 = Int32.ofInt (0 + (y.2.1 : Int))
      rw [Int.zero_add, Int32.ofInt_eq_ofNat]
    · cases hs
  · cases hs
/-- a reference out of an array: each place by itself -/
def ys_fan (n : Nat) (f : Nat → List (Nat × ys_S)) : List (Nat × ys_S) := (List.range n).flatMap f
def ys_isn (x : ys_L) (i : Int) : List ys_L := [ys_sub x ([], i), ys_sub ([], i) x]
theorem ys_isn_ok {r : Nat → Int} {x : ys_L} {i : Int} (h : ys_ev r x = i) : ys_fk r (ys_isn x i) := by
  have z : ys_ev r (([], i) : ys_L) = i := Int.zero_add _
  intro f hf
  rcases List.mem_cons.mp hf with q | q
  · rw [q, ys_sub_ev, z]; omega
  · rw [List.mem_singleton.mp q, ys_sub_ev, z]; omega
theorem ys_isn_st {n : Nat} {x : ys_L} {i : Int} (h : ys_stb n x) : ∀ f ∈ ys_isn x i, ys_stb n f := by
  intro f hf
  rcases List.mem_cons.mp hf with q | q
  · rw [q]; exact ys_stb_sub h (ys_stb_cst i)
  · rw [List.mem_singleton.mp q]; exact ys_stb_sub (ys_stb_cst i) h
def ys_haald (sh : List ys_C) (pc : Nat) (b : ys_B) (fds : ys_F) (lv : List (Nat × ys_V)) (sv : List ys_V) : Option (List (Nat × ys_S)) := match sv with
  | .inl (.inl x) :: .inr (some k) :: t => (match sh[k]? with
    | some (.inr y) => if decide (4 ≤ y.1) && ys_inb b x y.2.1 && decide (y.2.2.length = y.2.1) then some (ys_fan y.2.1 fun i => ys_br (pc + 1) b (ys_isn x (i : Int)) (fds, lv, .inr (some (y.2.2.getD i 0)) :: t)) else none
    | _ => none)
  | _ => none
theorem ys_kaald (hexec : p.tables.exec = Jvm.exec) (hb : c.code = cc) (hK : va_K D cl tys s) (hty : ∀ (k : Nat) (y : Nat × Nat × List Nat), sh[k]? = some (.inr y) → 4 ≤ y.1 → ∃ C, tys[y.1]? = some (cT y.1, .object C)) (hd : decode cc pc = .ok (.aaload, 1)) (hs : ys_haald sh pc b fds lv sv = some succ) (k : ∀ q ∈ succ, ys_W p l e R s m args below meth c Q kc kz D cl ad cT sh A H0 nL mods g0 r0 E q.1 q.2) : ys_W p l e R s m args below meth c Q kc kz D cl ad cT sh A H0 nL mods g0 r0 E pc (b, fds, lv, sv) := by
  unfold ys_haald at hs
  split at hs
  · rename_i x kc t
    split at hs
    · rename_i y hsh
      split at hs
      · rename_i hc
        rw [Bool.and_eq_true, Bool.and_eq_true, decide_eq_true_eq, decide_eq_true_eq] at hc
        obtain ⟨⟨hkd, hin⟩, hlen⟩ := hc
        cases Option.some.inj hs
        intro r H locs ls st h
        obtain ⟨st1, e1, g1, hx⟩ := ys_rep_pop h
        obtain ⟨st2, e2, g2, -⟩ := ys_rep_pop g1
        subst e1; subst e2
        obtain ⟨g, hg, hP, hD, hS⟩ := g2.2.2.2.1
        obtain ⟨n, e3, hn, hvi, e4⟩ := ys_inb_ok h.1 hin
        have hw := ys_wld_get (ad := ad) (cT := cT) (r := r) (g := g) (fds := fds.1) hsh
        obtain ⟨C, ht⟩ := hty kc y hsh hkd
        have hcon : ys_con ad (g kc) y = (y.2.1, .inr (.inr (.inr (.inr fun j => (y.2.2[j]?).map ad)))) := by
          unfold ys_con
          rw [if_neg (by omega), if_pos hkd]
        have hw2 : (ys_wld ad cT sh r g fds.1)[kc]? = some (ad kc, .inl (cT y.1, y.2.1, .inr (.inr (.inr (.inr fun j => (y.2.2[j]?).map ad))))) := by
          rw [hw]
          show some (ad kc, Sum.inl (cT y.1, ys_con ad (g kc) y)) = _
          rw [hcon]
        refine va_aldq hexec hb hK hP kc y.1 hw2 ht hvi hd ?_
        rw [e4]
        have e5 : y.2.2[n]? = some (y.2.2.getD n 0) := by
          rw [List.getD_eq_getElem?_getD, List.getElem?_eq_getElem (by omega)]
          rfl
        rw [e5]
        exact ys_kbr (ys_rep_push g2 (.inr (some (y.2.2.getD n 0))) trivial) (ys_isn_ok e3) (ys_isn_st hx) (fun q hq => k q (List.mem_flatMap.mpr ⟨n, List.mem_range.mpr hn, hq⟩))
      · cases hs
    · cases hs
  · cases hs
/-- a table of places to go on at -/
def ys_htab (dflt lo hi : Int) (offs : Array Int) (pc : Nat) (b : ys_B) (fds : ys_F) (lv : List (Nat × ys_V)) (sv : List ys_V) : Option (List (Nat × ys_S)) := match sv, ys_tgt pc dflt with
  | .inl (.inl x) :: t, some td => if ys_inr false b.1 x && (decide ((offs.size : Int) = hi - lo + 1) && offs.toList.all fun o => decide (0 ≤ (pc : Int) + o)) then
      some (ys_br td b [ys_sub ([], lo - 1) x] (fds, lv, t) ++ (ys_br td b [ys_sub x ([], hi + 1)] (fds, lv, t) ++ ys_fan offs.size fun i => ys_br ((pc : Int) + offs.toList.getD i 0).toNat b (ys_isn x (lo + (i : Int))) (fds, lv, t))) else none
  | _, _ => none
theorem ys_ktab {dflt lo hi : Int} {offs : Array Int} {len : Nat} (hexec : p.tables.exec = Jvm.exec) (hb : c.code = cc) (hd : decode cc pc = .ok (.tableswitch dflt lo hi offs, len)) (hs : ys_htab dflt lo hi offs pc b fds lv sv = some succ) (k : ∀ q ∈ succ, ys_W p l e R s m args below meth c Q kc kz D cl ad cT sh A H0 nL mods g0 r0 E q.1 q.2) : ys_W p l e R s m args below meth c Q kc kz D cl ad cT sh A H0 nL mods g0 r0 E pc (b, fds, lv, sv) := by
  unfold ys_htab at hs
  split at hs
  · rename_i x t td htd
    split at hs
    · rename_i hc
      rw [Bool.and_eq_true, Bool.and_eq_true, decide_eq_true_eq] at hc
      obtain ⟨hin, hsz, hal⟩ := hc
      cases Option.some.inj hs
      intro r H locs ls st h
      obtain ⟨st1, e1, g1, hx⟩ := ys_rep_pop h
      subst e1
      have e0 := ys_inr32 h.1.1 hin
      have z : ∀ i : Int, ys_ev r (([], i) : ys_L) = i := fun i => Int.zero_add _
      have one : ∀ {g : ys_L}, ys_stb b.1.length g → ∀ f ∈ [g], ys_stb b.1.length f := fun hg f hf => by rw [List.mem_singleton.mp hf]; exact hg
      by_cases h1 : ys_ev r x < lo
      · refine lv_tableOut hexec hb hd (Or.inl (by rw [e0]; exact h1)) (ys_tgt_ok htd) ?_
        exact ys_kbr g1 (ys_fk1 (by rw [ys_sub_ev, ys_cst_ev]; omega)) (one (ys_stb_sub (ys_stb_cst _) hx)) (fun q hq => k q (List.mem_append_left _ hq))
      · by_cases h2 : hi < ys_ev r x
        · refine lv_tableOut hexec hb hd (Or.inr (by rw [e0]; exact h2)) (ys_tgt_ok htd) ?_
          exact ys_kbr g1 (ys_fk1 (by rw [ys_sub_ev, ys_cst_ev]; omega)) (one (ys_stb_sub hx (ys_stb_cst _))) (fun q hq => k q (List.mem_append_right _ (List.mem_append_left _ hq)))
        · have hn : (ys_ev r x - lo).toNat < offs.size := by omega
          have ho : offs[(ys_ev r x - lo).toNat]? = some (offs.toList.getD (ys_ev r x - lo).toNat 0) := by
            rw [List.getD_eq_getElem?_getD, Array.getElem?_toList, Array.getElem?_eq_getElem hn]
            rfl
          have hpos : 0 ≤ (pc : Int) + offs.toList.getD (ys_ev r x - lo).toNat 0 := by
            have hm : offs.toList.getD (ys_ev r x - lo).toNat 0 ∈ offs.toList := by
              rw [← Array.getElem?_toList] at ho
              exact List.mem_of_getElem? ho
            exact of_decide_eq_true (List.all_eq_true.mp hal _ hm)
          refine lv_tableIn hexec hb hd (by rw [e0]; exact h1) (by rw [e0]; exact h2) (by rw [e0]; exact ho) (tgt := ((pc : Int) + offs.toList.getD (ys_ev r x - lo).toNat 0).toNat) (by omega) ?_
          exact ys_kbr g1 (ys_isn_ok (by omega)) (ys_isn_st hx) (fun q hq => k q (List.mem_append_right _ (List.mem_append_right _ (List.mem_flatMap.mpr ⟨_, List.mem_range.mpr hn, hq⟩))))
    · cases hs
  · cases hs
/-- by the quotients, where there are few -/
def ys_hqs (F : ys_B → ys_L → ys_L → Option (ys_B × ys_L)) (pc : Nat) (b : ys_B) (fds : ys_F) (lv : List (Nat × ys_V)) (sv : List ys_V) : Option (List (Nat × ys_S)) := match sv with
  | .inl (.inl y) :: .inl (.inl x) :: t => (match ys_qb false b.1 x y with
    | some q => if q.1 < q.2 ∧ q.2 - q.1 ≤ 8 then some (ys_fan (q.2 - q.1 + 1).toNat fun i => ys_br pc b [ys_sub x ([], y.2 * (q.1 + (i : Int))), ys_sub ([], y.2 * (q.1 + (i : Int)) + (y.2 - 1)) x] (fds, lv, .inl (.inl y) :: .inl (.inl x) :: t)) else ys_hb32 F pc b fds lv sv
    | none => ys_hb32 F pc b fds lv sv)
  | _ => none
theorem ys_kqs {F : ys_B → ys_L → ys_L → Option (ys_B × ys_L)} {op : Int32 → Int32 → Int32} {ok : Int32 → Prop} (hF : ys_B32 F op ok) (hrow : ∀ (X Y : Int32) (H : Heap) (locs : List Loc) (ls : Array Slot) (rest : List Value), ok Y → W p l e R s m args below meth c H locs kc kz Q (F0 m (pc + 1) ls (.int (op X Y) :: rest)) → W p l e R s m args below meth c H locs kc kz Q (F0 m pc ls (.int Y :: .int X :: rest))) (hs : ys_hqs F pc b fds lv sv = some succ) (k : ∀ q ∈ succ, ys_W p l e R s m args below meth c Q kc kz D cl ad cT sh A H0 nL mods g0 r0 E q.1 q.2) : ys_W p l e R s m args below meth c Q kc kz D cl ad cT sh A H0 nL mods g0 r0 E pc (b, fds, lv, sv) := by
  unfold ys_hqs at hs
  split at hs
  · rename_i y x t
    split at hs
    · rename_i q hq
      split at hs
      · rename_i hc
        cases Option.some.inj hs
        intro r H locs ls st h
        obtain ⟨h1, h2, h3, h4, h5, h6, h7, h8⟩ := ys_qb_ok h.1.1 hq
        have hx : ys_stb b.1.length x := h.2.1.2.2.2 (.inl (.inl x)) (List.mem_cons_of_mem _ List.mem_cons_self)
        have z : ∀ i : Int, ys_ev r (([], i) : ys_L) = i := fun i => Int.zero_add _
        have m1 := Int.emod_def (ys_ev r x) y.2
        have m2 := Int.emod_nonneg (ys_ev r x) (b := y.2) (by omega)
        have m3 := Int.emod_lt_of_pos (ys_ev r x) (b := y.2) (by omega)
        have hi : q.1 + (((ys_ev r x / y.2 - q.1).toNat : Nat) : Int) = ys_ev r x / y.2 := by omega
        refine ys_kbr h (fs := [ys_sub x ([], y.2 * (q.1 + (((ys_ev r x / y.2 - q.1).toNat : Nat) : Int))), ys_sub ([], y.2 * (q.1 + (((ys_ev r x / y.2 - q.1).toNat : Nat) : Int)) + (y.2 - 1)) x]) (fun f hf => ?_) (fun f hf => ?_) (fun q' hq' => k q' (List.mem_flatMap.mpr ⟨(ys_ev r x / y.2 - q.1).toNat, List.mem_range.mpr (by omega), hq'⟩))
        · rw [hi] at hf
          rcases List.mem_cons.mp hf with e1 | e1
          · rw [e1, ys_sub_ev, z]; omega
          · rw [List.mem_singleton.mp e1, ys_sub_ev, z]; omega
        · rcases List.mem_cons.mp hf with e1 | e1
          · rw [e1]; exact ys_stb_sub hx (ys_stb_cst _)
          · rw [List.mem_singleton.mp e1]; exact ys_stb_sub (ys_stb_cst _) hx
      · exact ys_kb32 hF hrow hs k
    · exact ys_kb32 hF hrow hs k
  · cases hs
/-- a list of places to go on at -/
def ys_lks (pc : Nat) (b : ys_B) (rest : ys_F × List (Nat × ys_V) × List ys_V) (x : ys_L) (dflt : Int) : List (Int × Int) → List (Nat × ys_S)
  | [] => ys_br ((pc : Int) + dflt).toNat b [] rest
  | q :: t => ys_br ((pc : Int) + q.2).toNat b (ys_isn x q.1) rest ++ ys_lks pc b rest x dflt t
def ys_hlook (dflt : Int) (ps : Array (Int × Int)) (pc : Nat) (b : ys_B) (fds : ys_F) (lv : List (Nat × ys_V)) (sv : List ys_V) : Option (List (Nat × ys_S)) := match sv with
  | .inl (.inl x) :: t => if ys_inr false b.1 x && (decide (0 ≤ (pc : Int) + dflt) && ((ps.toList.zip (ps.toList.drop 1)).all (fun (a, next) => a.1 < next.1) && ps.toList.all fun o => decide (0 ≤ (pc : Int) + o.2))) then some (ys_lks pc b (fds, lv, t) x dflt ps.toList) else none
  | _ => none
theorem ys_lks_ok {x : ys_L} {dflt : Int} {r : Nat → Int} {H : Heap} {locs : List Loc} {ls : Array Slot} {st : List Value} (h : ys_rep D cl ad cT sh A H0 nL mods g0 r0 r E (b, fds, lv, sv) H locs ls st) (hx : ys_stb b.1.length x) : ∀ (pl : List (Int × Int)), (∀ q ∈ ys_lks pc b (fds, lv, sv) x dflt pl, ys_W p l e R s m args below meth c Q kc kz D cl ad cT sh A H0 nL mods g0 r0 E q.1 q.2) → W p l e R s m args below meth c H locs kc kz Q (F0 m ((pc : Int) + Op.lookupswitch.offset pl dflt (ys_ev r x)).toNat ls st)
  | [], k => ys_kbr h (fun f hf => by cases hf) (fun f hf => by cases hf) k
  | (a, o) :: t, k => by
    rw [Op.lookupswitch.offset_cons]
    by_cases ha : a = ys_ev r x
    · rw [if_pos ha]
      exact ys_kbr h (ys_isn_ok ha.symm) (ys_isn_st hx) (fun q hq => k q (List.mem_append_left _ hq))
    · rw [if_neg ha]
      exact ys_lks_ok h hx t (fun q hq => k q (List.mem_append_right _ hq))
theorem ys_lks_pos {dflt : Int} (hd : 0 ≤ (pc : Int) + dflt) (x : Int) : ∀ (l : List (Int × Int)), (l.all fun o => decide (0 ≤ (pc : Int) + o.2)) = true → 0 ≤ (pc : Int) + Op.lookupswitch.offset l dflt x
  | [], _ => hd
  | (a, o) :: t, h => by
    rw [List.all_cons, Bool.and_eq_true] at h
    rw [Op.lookupswitch.offset_cons]
    split
    · exact of_decide_eq_true h.1
    · exact ys_lks_pos hd x t h.2
theorem ys_klook {dflt : Int} {ps : Array (Int × Int)} {len : Nat} (hexec : p.tables.exec = Jvm.exec) (hb : c.code = cc) (hd : decode cc pc = .ok (.lookupswitch dflt ps, len)) (hs : ys_hlook dflt ps pc b fds lv sv = some succ) (k : ∀ q ∈ succ, ys_W p l e R s m args below meth c Q kc kz D cl ad cT sh A H0 nL mods g0 r0 E q.1 q.2) : ys_W p l e R s m args below meth c Q kc kz D cl ad cT sh A H0 nL mods g0 r0 E pc (b, fds, lv, sv) := by
  unfold ys_hlook at hs
  split at hs
  · rename_i x t
    split at hs
    · rename_i hc
      rw [Bool.and_eq_true, Bool.and_eq_true, Bool.and_eq_true, decide_eq_true_eq] at hc
      obtain ⟨hin, hdf, hsrt, hal⟩ := hc
      cases Option.some.inj hs
      intro r H locs ls st h
      obtain ⟨st1, e1, g1, hx⟩ := ys_rep_pop h
      subst e1
      have e0 := ys_inr32 h.1.1 hin
      have hp := ys_lks_pos hdf (ys_ev r x) ps.toList hal
      exact lv_lookup hexec hb hd hsrt (by rw [e0]) (tgt := ((pc : Int) + Op.lookupswitch.offset ps.toList dflt (ys_ev r x)).toNat) (by omega) (ys_lks_ok g1 hx ps.toList k)
    · cases hs
  · cases hs
/-- the stack -/
def ys_hdup (pc : Nat) (b : ys_B) (fds : ys_F) (lv : List (Nat × ys_V)) (sv : List ys_V) : Option (List (Nat × ys_S)) := match sv with
  | v :: t => if ys_cat v = 1 then some [(pc + 1, b, fds, lv, v :: v :: t)] else none
  | _ => none
theorem ys_kdup (hexec : p.tables.exec = Jvm.exec) (hb : c.code = cc) (hd : decode cc pc = .ok (.dup, 1)) (hs : ys_hdup pc b fds lv sv = some succ) (k : ∀ q ∈ succ, ys_W p l e R s m args below meth c Q kc kz D cl ad cT sh A H0 nL mods g0 r0 E q.1 q.2) : ys_W p l e R s m args below meth c Q kc kz D cl ad cT sh A H0 nL mods g0 r0 E pc (b, fds, lv, sv) := by
  unfold ys_hdup at hs
  split at hs
  · rename_i v t
    split at hs
    · rename_i hc
      cases Option.some.inj hs
      have k := k _ List.mem_cons_self
      intro r H locs ls st h
      obtain ⟨st1, e1, g1, hv⟩ := ys_rep_pop h
      subst e1
      exact lv_dup hexec hb hd (by rw [ys_cat_den]; exact hc) (k r H locs ls _ (ys_rep_push h v hv))
    · cases hs
  · cases hs
def ys_hdup2 (pc : Nat) (b : ys_B) (fds : ys_F) (lv : List (Nat × ys_V)) (sv : List ys_V) : Option (List (Nat × ys_S)) := match sv with
  | v :: w :: t => if ys_cat v = 1 && ys_cat w = 1 then some [(pc + 1, b, fds, lv, v :: w :: v :: w :: t)] else none
  | _ => none
theorem ys_kdup2 (hexec : p.tables.exec = Jvm.exec) (hb : c.code = cc) (hd : decode cc pc = .ok (.dup2, 1)) (hs : ys_hdup2 pc b fds lv sv = some succ) (k : ∀ q ∈ succ, ys_W p l e R s m args below meth c Q kc kz D cl ad cT sh A H0 nL mods g0 r0 E q.1 q.2) : ys_W p l e R s m args below meth c Q kc kz D cl ad cT sh A H0 nL mods g0 r0 E pc (b, fds, lv, sv) := by
  unfold ys_hdup2 at hs
  split at hs
  · rename_i v w t
    split at hs
    · rename_i hc
      rw [Bool.and_eq_true, decide_eq_true_eq, decide_eq_true_eq] at hc
      cases Option.some.inj hs
      have k := k _ List.mem_cons_self
      intro r H locs ls st h
      obtain ⟨st1, e1, g1, hv⟩ := ys_rep_pop h
      obtain ⟨st2, e2, g2, hw⟩ := ys_rep_pop g1
      subst e1; subst e2
      exact lv_dup2_11 hexec hb hd (by rw [ys_cat_den]; exact hc.1) (by rw [ys_cat_den]; exact hc.2) (k r H locs ls _ (ys_rep_push (ys_rep_push h w hw) v hv))
    · cases hs
  · cases hs
def ys_hpop (pc : Nat) (b : ys_B) (fds : ys_F) (lv : List (Nat × ys_V)) (sv : List ys_V) : Option (List (Nat × ys_S)) := match sv with
  | v :: t => if ys_cat v = 1 then some [(pc + 1, b, fds, lv, t)] else none
  | _ => none
theorem ys_kpop (hexec : p.tables.exec = Jvm.exec) (hb : c.code = cc) (hd : decode cc pc = .ok (.pop, 1)) (hs : ys_hpop pc b fds lv sv = some succ) (k : ∀ q ∈ succ, ys_W p l e R s m args below meth c Q kc kz D cl ad cT sh A H0 nL mods g0 r0 E q.1 q.2) : ys_W p l e R s m args below meth c Q kc kz D cl ad cT sh A H0 nL mods g0 r0 E pc (b, fds, lv, sv) := by
  unfold ys_hpop at hs
  split at hs
  · rename_i v t
    split at hs
    · rename_i hc
      cases Option.some.inj hs
      have k := k _ List.mem_cons_self
      intro r H locs ls st h
      obtain ⟨st1, e1, g1, hv⟩ := ys_rep_pop h
      subst e1
      exact lv_pop hexec hb hd (by rw [ys_cat_den]; exact hc) (k r H locs ls _ g1)
    · cases hs
  · cases hs
def ys_hpop2 (pc : Nat) (b : ys_B) (fds : ys_F) (lv : List (Nat × ys_V)) (sv : List ys_V) : Option (List (Nat × ys_S)) := match sv with
  | v :: t => if ys_cat v = 2 then some [(pc + 1, b, fds, lv, t)] else none
  | _ => none
theorem ys_kpop2 (hexec : p.tables.exec = Jvm.exec) (hb : c.code = cc) (hd : decode cc pc = .ok (.pop2, 1)) (hs : ys_hpop2 pc b fds lv sv = some succ) (k : ∀ q ∈ succ, ys_W p l e R s m args below meth c Q kc kz D cl ad cT sh A H0 nL mods g0 r0 E q.1 q.2) : ys_W p l e R s m args below meth c Q kc kz D cl ad cT sh A H0 nL mods g0 r0 E pc (b, fds, lv, sv) := by
  unfold ys_hpop2 at hs
  split at hs
  · rename_i v t
    split at hs
    · rename_i hc
      cases Option.some.inj hs
      have k := k _ List.mem_cons_self
      intro r H locs ls st h
      obtain ⟨st1, e1, g1, hv⟩ := ys_rep_pop h
      subst e1
      exact lv_pop2_2 hexec hb hd (by rw [ys_cat_den]; exact hc) (k r H locs ls _ g1)
    · cases hs
  · cases hs
/-- a place of the frame grows -/
def ys_hinc (nL : Nat) (i : Nat) (n : Int) (pc : Nat) (b : ys_B) (fds : ys_F) (lv : List (Nat × ys_V)) (sv : List ys_V) : Option (List (Nat × ys_S)) := match lv.lookup i with
  | some (.inl (.inl x)) => if i < nL then some [(pc + 3, (ys_nm false b (ys_add x ([], n))).1, fds, ys_st1 lv i (.inl (.inl (ys_nm false b (ys_add x ([], n))).2)), sv)] else none
  | _ => none
theorem ys_kinc {i : Nat} {n : Int} (hexec : p.tables.exec = Jvm.exec) (hb : c.code = cc) (hd : decode cc pc = .ok (.iinc i n, 3)) (hs : ys_hinc nL i n pc b fds lv sv = some succ) (k : ∀ q ∈ succ, ys_W p l e R s m args below meth c Q kc kz D cl ad cT sh A H0 nL mods g0 r0 E q.1 q.2) : ys_W p l e R s m args below meth c Q kc kz D cl ad cT sh A H0 nL mods g0 r0 E pc (b, fds, lv, sv) := by
  unfold ys_hinc at hs
  split at hs
  · rename_i x hx
    split at hs
    · rename_i hi
      cases Option.some.inj hs
      have k := k _ List.mem_cons_self
      intro r H locs ls st h
      have hsx := (ys_rep_loc h hx).2
      obtain ⟨r', hag, hbb, hl, hsc, hst, hval⟩ := ys_Op_nm32 (e := ys_add x ([], n)) (x := Int32.ofInt (ys_ev r x) + Int32.ofInt n) h.1 h.2.1.1 (ys_stb_add hsx (ys_stb_cst n)) (by rw [ys_add_ev, Int32.ofInt_add]; congr 2; exact Int.zero_add n)
      have h2 := ys_rep_ext h hag hbb hl hsc
      obtain ⟨q1, ⟨s0, s1, s2, s3⟩, q2, q3, q4, q5⟩ := h2
      have hx2 := ys_find_mem lv i _ hx
      obtain ⟨kk, hkk⟩ := List.getElem?_of_mem (List.mem_map.mpr ⟨_, hx2, rfl⟩ : (i, ys_den ad r' (.inl (.inl x))) ∈ ys_lvs ad r' lv)
      have ex : Int32.ofInt (ys_ev r' x) = Int32.ofInt (ys_ev r x) := by rw [hsx r' r hag]
      refine lv_iinc (x := Int32.ofInt (ys_ev r' x)) (v := Int32.ofInt (ys_ev r' (ys_nm false b (ys_add x ([], n))).2)) (lv' := ys_lvs ad r' (ys_st1 lv i (.inl (.inl (ys_nm false b (ys_add x ([], n))).2)))) hexec hb hd q4 hkk (by rw [ex, hval]) hi ?_ fun ls' hls => k r' H locs ls' st ⟨q1, ⟨s0, s1, fun q hq => ?_, s3⟩, q2, q3, hls, q5⟩
      · rw [ys_st1_lvs]
        rfl
      · rcases List.mem_cons.mp hq with e5 | e5
        · rw [e5]; exact hst
        · exact s2 q (List.mem_filter.mp e5).1
    · cases hs
  · cases hs
end YSM2
end
section
/-! one state within another's words -/
def ys_eqV (v w : ys_V) : Bool := match v, w with
  | .inl (.inl x), .inl (.inl y) => decide (ys_sub x y = ([], 0))
  | .inl (.inr x), .inl (.inr y) => decide (ys_sub x y = ([], 0))
  | .inr x, .inr y => decide (x = y)
  | _, _ => false
theorem ys_sub0 {r : Nat → Int} {x y : ys_L} (h : ys_sub x y = ([], 0)) : ys_ev r x = ys_ev r y := by
  have h1 := ys_sub_ev r x y
  rw [h] at h1
  have h2 : ys_ev r (([], 0) : ys_L) = 0 := rfl
  omega
theorem ys_eqV_ok {ad : Nat → Nat} {v w : ys_V} (h : ys_eqV v w = true) (r : Nat → Int) : ys_den ad r v = ys_den ad r w := by
  unfold ys_eqV at h
  split at h
  · show Value.int _ = Value.int _
    rw [ys_sub0 (of_decide_eq_true h)]
  · show Value.long _ = Value.long _
    rw [ys_sub0 (of_decide_eq_true h)]
  · rw [of_decide_eq_true h]
  · cases h
def ys_pV (E : Nat) (t : List ys_L) : ys_V → ys_V
  | .inl (.inl x) => .inl (.inl (ys_put E t x))
  | .inl (.inr x) => .inl (.inr (ys_put E t x))
  | .inr x => .inr x
theorem ys_pV_den {ad : Nat → Nat} (r : Nat → Int) (E : Nat) (t : List ys_L) (v : ys_V) : ys_den ad r (ys_pV E t v) = ys_den ad (ys_val r E t) v := by
  rcases v with (x | x) | x
  · show Value.int (Int32.ofInt (ys_ev r (ys_put E t x))) = _
    rw [ys_put_ev]
    rfl
  · show Value.long (Int64.ofInt (ys_ev r (ys_put E t x))) = _
    rw [ys_put_ev]
    rfl
  · cases x <;> rfl
theorem ys_pV_st {n E : Nat} {t : List ys_L} (hE : E ≤ n) (ht : ∀ x ∈ t, ys_stb n x) (v : ys_V) : ys_stV n (ys_pV E t v) := by
  rcases v with (x | x) | x
  · exact ys_stb_put hE ht x
  · exact ys_stb_put hE ht x
  · trivial
def ys_col : Nat → List (ys_V × ys_V) → List ys_L
  | _, [] => []
  | j, q :: t => match q.1, q.2 with
    | .inl (.inl x), .inl (.inl y) => if x = ys_sym j then y :: ys_col (j + 1) t else ys_col j t
    | .inl (.inr x), .inl (.inr y) => if x = ys_sym j then y :: ys_col (j + 1) t else ys_col j t
    | _, _ => ys_col j t
theorem ys_col_st {n : Nat} : ∀ (l : List (ys_V × ys_V)) (j : Nat), (∀ q ∈ l, ys_stV n q.2) → ∀ x ∈ ys_col j l, ys_stb n x
  | [], j, h, x, hx => by cases hx
  | (v, w) :: t, j, h, x, hx => by
    have hw := h _ List.mem_cons_self
    have ht : ∀ q ∈ t, ys_stV n q.2 := fun q hq => h q (List.mem_cons_of_mem _ hq)
    unfold ys_col at hx
    split at hx
    · rename_i a y e1 e2
      split at hx
      · rcases List.mem_cons.mp hx with q | q
        · rw [q]
          have hw : ys_stV n w := hw
          rw [show w = .inl (.inl y) from e2] at hw
          exact hw
        · exact ys_col_st t _ ht x q
      · exact ys_col_st t _ ht x hx
    · rename_i a y e1 e2
      split at hx
      · rcases List.mem_cons.mp hx with q | q
        · rw [q]
          have hw : ys_stV n w := hw
          rw [show w = .inl (.inr y) from e2] at hw
          exact hw
        · exact ys_col_st t _ ht x q
      · exact ys_col_st t _ ht x hx
    · exact ys_col_st t _ ht x hx
def ys_ivc (b : ys_B) : List ys_L → ys_E → Bool
  | [], [] => true
  | x :: t, q :: u => ys_ge b.1 b.2 2 (ys_sub x ([], q.1)) && (ys_ge b.1 b.2 2 (ys_sub ([], q.2) x) && ys_ivc b t u)
  | _, _ => false
theorem ys_ivc_ok {r : Nat → Int} {b : ys_B} (h : ys_okB r b) : ∀ (t : List ys_L) (u : ys_E), ys_ivc b t u = true → t.length = u.length ∧ ∀ (j : Nat) (q : Int × Int), u[j]? = some q → q.1 ≤ ys_ev r (t.getD j ([], 0)) ∧ ys_ev r (t.getD j ([], 0)) ≤ q.2
  | [], [], _ => ⟨rfl, fun j q hj => by cases hj⟩
  | x :: t, w :: u, hc => by
    unfold ys_ivc at hc
    rw [Bool.and_eq_true, Bool.and_eq_true] at hc
    obtain ⟨c1, c2, c3⟩ := hc
    obtain ⟨i1, i2⟩ := ys_ivc_ok h t u c3
    have h1 := ys_ge_le h.1 h.2 _ _ c1
    have h2 := ys_ge_le h.1 h.2 _ _ c2
    have z : ∀ i : Int, ys_ev r (([], i) : ys_L) = i := fun i => Int.zero_add _
    rw [ys_sub_ev, z] at h1
    rw [ys_sub_ev, z] at h2
    refine ⟨by rw [List.length_cons, List.length_cons, i1], fun j q hj => ?_⟩
    cases j with
    | zero =>
      cases hj
      show w.1 ≤ ys_ev r x ∧ ys_ev r x ≤ w.2
      omega
    | succ j => exact i2 j q hj
  | [], _ :: _, hc => by cases hc
  | _ :: _, [], hc => by cases hc
def ys_sbs (q w : Int × Int) : Bool := decide (w.1 ≤ q.1) && decide (q.2 ≤ w.2)
theorem ys_sbs_ok {q w : Int × Int} (h : ys_sbs q w = true) {z : Int} (hz : q.1 ≤ z ∧ z ≤ q.2) : w.1 ≤ z ∧ z ≤ w.2 := by
  unfold ys_sbs at h
  rw [Bool.and_eq_true, decide_eq_true_eq, decide_eq_true_eq] at h
  omega
def ys_rle (a a' : ys_R) : Bool := ys_sbs a.1 a'.1 && (a.2.all (fun x => ys_sbs x.2 (ys_rat a' x.1)) && a'.2.all (fun x => ys_sbs (ys_rat a x.1) x.2))
theorem ys_lk_mem : ∀ (l : List (Nat × (Int × Int))) (i : Nat) (v : Int × Int), l.lookup i = some v → (i, v) ∈ l
  | [], i, v, h => by cases h
  | (j, w) :: t, i, v, h => by
    unfold List.lookup at h
    cases hc : i == j with
    | true =>
      rw [hc] at h
      cases h
      rw [beq_iff_eq] at hc
      rw [hc]
      exact List.mem_cons_self
    | false =>
      rw [hc] at h
      exact List.mem_cons_of_mem _ (ys_lk_mem t i v h)
theorem ys_rle_ok {a a' : ys_R} (h : ys_rle a a' = true) {f : Nat → Int} (ha : ys_rok a f) : ys_rok a' f := by
  unfold ys_rle at h
  rw [Bool.and_eq_true, Bool.and_eq_true] at h
  obtain ⟨h1, h2, h3⟩ := h
  intro j
  have hj := ha j
  cases hc : a'.2.lookup j with
  | some w =>
    have e1 : ys_rat a' j = w := by unfold ys_rat; rw [hc]; rfl
    rw [e1]
    exact ys_sbs_ok (List.all_eq_true.mp h3 _ (ys_lk_mem _ _ _ hc)) hj
  | none =>
    have e1 : ys_rat a' j = a'.1 := by unfold ys_rat; rw [hc]; rfl
    cases hd : a.2.lookup j with
    | some w =>
      have e2 : ys_rat a j = w := by unfold ys_rat; rw [hd]; rfl
      rw [e2] at hj
      exact ys_sbs_ok (List.all_eq_true.mp h2 _ (ys_lk_mem _ _ _ hd)) hj
    | none =>
      have e2 : ys_rat a j = a.1 := by unfold ys_rat; rw [hd]; rfl
      rw [e2] at hj
      rw [e1]
      exact ys_sbs_ok h1 hj
def ys_rls : List ys_R → List ys_R → Bool
  | [], [] => true
  | a :: t, a' :: u => ys_rle a a' && ys_rls t u
  | _, _ => false
theorem ys_rls_ok : ∀ (l l' : List ys_R), ys_rls l l' = true → l.length = l'.length ∧ ∀ (k : Nat) (a' : ys_R), l'[k]? = some a' → ∃ a, l[k]? = some a ∧ ys_rle a a' = true
  | [], [], _ => ⟨rfl, fun k a' h => by cases h⟩
  | a :: t, a' :: u, h => by
    unfold ys_rls at h
    rw [Bool.and_eq_true] at h
    obtain ⟨i1, i2⟩ := ys_rls_ok t u h.2
    refine ⟨by rw [List.length_cons, List.length_cons, i1], fun k x hk => ?_⟩
    cases k with
    | zero =>
      cases hk
      exact ⟨a, rfl, h.1⟩
    | succ k => exact i2 k x hk
  | [], _ :: _, h => by cases h
  | _ :: _, [], h => by cases h
def ys_mat (b : ys_B) (ars : List ys_R) (E : Nat) (tiv : ys_E) (tf : List ys_L) (tars : List ys_R) (prs : List (ys_V × ys_V)) : Option (List ys_L) :=
  if ys_ivc b (ys_col E prs) tiv && (tf.all (fun f => ys_ge b.1 b.2 2 (ys_put E (ys_col E prs) f)) && (prs.all (fun q => ys_eqV (ys_pV E (ys_col E prs) q.1) q.2) && ys_rls ars tars)) then some (ys_col E prs) else none
theorem ys_mat_ok {ad : Nat → Nat} {r : Nat → Int} {b : ys_B} (h : ys_okB r b) {ars tars : List ys_R} {E : Nat} {tiv : ys_E} {tf : List ys_L} {prs : List (ys_V × ys_V)} {t : List ys_L} (hm : ys_mat b ars E tiv tf tars prs = some t) :
    t = ys_col E prs ∧ t.length = tiv.length ∧ (∀ (j : Nat) (q : Int × Int), tiv[j]? = some q → q.1 ≤ ys_val r E t (E + j) ∧ ys_val r E t (E + j) ≤ q.2) ∧ ys_fk (ys_val r E t) tf ∧ (∀ q ∈ prs, ys_den ad (ys_val r E t) q.1 = ys_den ad r q.2) ∧ (ars.length = tars.length ∧ ∀ (k : Nat) (a' : ys_R), tars[k]? = some a' → ∃ a, ars[k]? = some a ∧ ys_rle a a' = true) := by
  unfold ys_mat at hm
  split at hm
  · rename_i hc
    rw [Bool.and_eq_true, Bool.and_eq_true, Bool.and_eq_true] at hc
    obtain ⟨c1, c2, c3, c4⟩ := hc
    have et := (Option.some.inj hm).symm
    rw [← et] at c1 c2 c3
    obtain ⟨i1, i2⟩ := ys_ivc_ok h t tiv c1
    refine ⟨et, i1, fun j q hj => ?_, fun f hf => ?_, fun q hq => ?_, ys_rls_ok _ _ c4⟩
    · have e1 : ys_val r E t (E + j) = ys_ev r (t.getD j ([], 0)) := by
        show ys_ev r (ys_at E t (E + j)) = _
        unfold ys_at
        rw [if_neg (by omega), show E + j - E = j by omega]
      rw [e1]
      exact i2 j q hj
    · have h1 := ys_ge_le h.1 h.2 _ _ (List.all_eq_true.mp c2 f hf)
      rw [ys_put_ev] at h1
      exact h1
    · have h1 := ys_eqV_ok (ad := ad) (List.all_eq_true.mp c3 q hq) r
      rw [ys_pV_den] at h1
      exact h1
  · cases hm
theorem ys_val_high {r : Nat → Int} {E : Nat} {t : List ys_L} {i : Nat} (h : E + t.length ≤ i) : ys_val r E t i = 0 := by
  show ys_ev r (ys_at E t i) = 0
  unfold ys_at
  rw [if_neg (by omega), List.getD_eq_getElem?_getD, List.getElem?_eq_none (by omega)]
  rfl
/-- fields by pairs -/
def ys_zf : List (List ys_V) → List (List ys_V) → Option (List (ys_V × ys_V))
  | [], [] => some []
  | x :: t, y :: u => if x.length = y.length then (match ys_zf t u with
    | some l => some (x.zip y ++ l)
    | none => none) else none
  | _, _ => none
theorem ys_zip_map {ad : Nat → Nat} {r r' : Nat → Int} : ∀ (x y : List ys_V), x.length = y.length → (∀ q ∈ x.zip y, ys_den ad r' q.1 = ys_den ad r q.2) → x.map (ys_den ad r') = y.map (ys_den ad r)
  | [], [], _, _ => rfl
  | v :: x, w :: y, hl, h => by
    rw [List.map_cons, List.map_cons, ys_zip_map x y (by simpa using hl) (fun q hq => h q (List.mem_cons_of_mem _ hq)), h (v, w) List.mem_cons_self]
  | [], _ :: _, hl, _ => by cases hl
  | _ :: _, [], hl, _ => by cases hl
theorem ys_zf_ok {ad : Nat → Nat} {r r' : Nat → Int} : ∀ (x y : List (List ys_V)) (l : List (ys_V × ys_V)), ys_zf x y = some l → (∀ q ∈ l, ys_den ad r' q.1 = ys_den ad r q.2) → ∀ k, (x.getD k []).map (ys_den ad r') = (y.getD k []).map (ys_den ad r)
  | [], [], l, _, _ => fun k => by simp
  | a :: x, c :: y, l, hz, h => by
    unfold ys_zf at hz
    split at hz
    · rename_i hl
      split at hz
      · rename_i l' hl'
        cases Option.some.inj hz
        intro k
        cases k with
        | zero => exact ys_zip_map a c hl (fun q hq => h q (List.mem_append_left _ hq))
        | succ k => exact ys_zf_ok x y l' hl' (fun q hq => h q (List.mem_append_right _ hq)) k
      · cases hz
    · cases hz
  | [], _ :: _, l, hz, _ => by cases hz
  | _ :: _, [], l, hz, _ => by cases hz
theorem ys_zf_mem : ∀ (x y : List (List ys_V)) (l : List (ys_V × ys_V)), ys_zf x y = some l → ∀ q ∈ l, ∃ w ∈ y, q.2 ∈ w
  | [], [], l, hz, q, hq => by cases Option.some.inj hz; cases hq
  | a :: x, c :: y, l, hz, q, hq => by
    unfold ys_zf at hz
    split at hz
    · split at hz
      · rename_i l' hl'
        cases Option.some.inj hz
        rcases List.mem_append.mp hq with g | g
        · exact ⟨c, List.mem_cons_self, (List.of_mem_zip g).2⟩
        · obtain ⟨w, h1, h2⟩ := ys_zf_mem x y l' hl' q g
          exact ⟨w, List.mem_cons_of_mem _ h1, h2⟩
      · cases hz
    · cases hz
  | [], _ :: _, l, hz, _, _ => by cases hz
  | _ :: _, [], l, hz, _, _ => by cases hz
theorem ys_wld_eq {ad : Nat → Nat} {cT : Nat → ClassId} {sh : List ys_C} {r r' : Nat → Int} {g : Nat → Nat → Int} {x y : List (List ys_V)} (h : ∀ k, (x.getD k []).map (ys_den ad r') = (y.getD k []).map (ys_den ad r)) : ys_wld ad cT sh r' g x = ys_wld ad cT sh r g y := by
  unfold ys_wld
  apply List.map_congr_left
  intro k _
  unfold ys_cel
  cases sh.getD k (.inl 0) with
  | inl ci =>
    show (ad k, Sum.inr (ci, _)) = (ad k, Sum.inr (ci, _))
    rw [h k]
  | inr a => rfl
/-! contracts -/
abbrev ys_A : Type := ys_E × List ys_L × ys_F × Option ys_V
abbrev ys_K : Type := ((MethodName × ByteArray × Nat × Option FieldType) × (Nat × Nat)) × (List ys_V × ys_B × ys_F) × (List ys_A × List Nat)
def ys_rm (K : ys_K) : Room := { frames := K.1.2.1, cells := 0, slots := 0, locals := K.1.2.2 }
def ys_ws (G : List Cond) (K : ys_K) : List Cond := Cond.code K.1.1.1 K.1.1.2.1 K.1.1.2.2.1 K.1.1.2.2.2 :: G
section YSK
variable (l : Launch) (D : va_G) (cl : List vw_C) (ad : Nat → Nat) (cT : Nat → ClassId) (sh : List ys_C) (tys : List (ClassId × FieldType)) (G : List Cond)
def ys_wK (K : ys_K) (r0 : Nat → Int) (g0 : Nat → Nat → Int) : va_W := ys_wld ad cT sh r0 g0 K.2.1.2.2.1
def ys_Pre (K : ys_K) (r0 : Nat → Int) (g0 : Nat → Nat → Int) (sz : Nat) : Array Value → State → Prop := va_Pc (K.2.1.1.map (ys_den ad r0)) (fun U => U.heap.size = sz ∧ va_P D cl (ys_wK ad cT sh K r0 g0) U.heap ∧ va_K D cl tys U ∧ va_D (fun _ => True) (ys_wK ad cT sh K r0 g0))
def ys_Alt (K : ys_K) (r0 : Nat → Int) (g0 : Nat → Nat → Int) (sz : Nat) (a : ys_A) (oc : Outcome) (t : State) : Prop := ∃ (r1 : Nat → Int) (g1 : Nat → Nat → Int), (∀ i, i < K.2.1.2.1.1.length → r1 i = r0 i) ∧ (∀ i, K.2.1.2.1.1.length + a.1.length ≤ i → r1 i = 0) ∧ (∀ (j : Nat) (q : Int × Int), a.1[j]? = some q → q.1 ≤ r1 (K.2.1.2.1.1.length + j) ∧ r1 (K.2.1.2.1.1.length + j) ≤ q.2) ∧ ys_fk r1 a.2.1 ∧ ys_gok K.2.2.2 a.2.2.1.2 g0 g1 ∧ va_P D cl (ys_wld ad cT sh r1 g1 a.2.2.1.1) t.heap ∧ va_D (va_A (ys_wK ad cT sh K r0 g0) sz) (ys_wld ad cT sh r1 g1 a.2.2.1.1) ∧ va_K D cl tys t ∧ oc = .returned (a.2.2.2.map (ys_den ad r1))
def ys_Post (K : ys_K) (r0 : Nat → Int) (g0 : Nat → Nat → Int) (sz : Nat) : Array Value → State → Outcome → State → Prop := fun _ st oc t => (∃ a ∈ K.2.2.1, ys_Alt D cl ad cT sh tys K r0 g0 sz a oc t) ∧ va_F (va_A (ys_wK ad cT sh K r0 g0) sz) st t
def ys_Con (K : ys_K) : Prop := ∀ (r0 : Nat → Int) (g0 : Nat → Nat → Int) (sz : Nat), ys_okB r0 K.2.1.2.1 → (∀ (k : Nat) (a : ys_R), K.2.1.2.2.2[k]? = some a → ys_rok a (g0 k)) → Met l K.1.1.1 (ys_ws G K) (ys_rm K) (ys_Pre D cl ad cT sh tys K r0 g0 sz) (ys_Post D cl ad cT sh tys K r0 g0 sz) 0 0 (va_A (ys_wK ad cT sh K r0 g0) sz)
end YSK
end
section
/-! calls -/
def ys_arm (mods : List Nat) : Nat → List ys_R → List ys_R → List ys_R
  | i, a :: t, a' :: u => (if mods.contains i then a' else a) :: ys_arm mods (i + 1) t u
  | _, _, _ => []
theorem ys_arm_get (mods : List Nat) : ∀ (x y : List ys_R) (i k : Nat) (z : ys_R), (ys_arm mods i x y)[k]? = some z → (i + k ∈ mods ∧ y[k]? = some z) ∨ (i + k ∉ mods ∧ x[k]? = some z)
  | a :: t, a' :: u, i, k, z, h => by
    unfold ys_arm at h
    cases k with
    | zero =>
      have h := Option.some.inj h
      by_cases hc : mods.contains i = true
      · rw [if_pos hc] at h
        exact Or.inl ⟨by simpa using hc, by rw [← h]; rfl⟩
      · rw [if_neg hc] at h
        exact Or.inr ⟨by simpa using hc, by rw [← h]; rfl⟩
    | succ k =>
      have h := ys_arm_get mods t u (i + 1) k z h
      rw [show i + 1 + k = i + (k + 1) by omega] at h
      exact h
  | [], y, i, k, z, h => by
    unfold ys_arm at h
    cases h
  | _ :: _, [], i, k, z, h => by
    unfold ys_arm at h
    cases h
def ys_tau (n : Nat) (t : List ys_L) (a : ys_A) : List ys_L := t ++ (List.range a.1.length).map fun j => ys_sym (n + j)
def ys_aft (pc : Nat) (b : ys_B) (fds : ys_F) (lv : List (Nat × ys_V)) (rest : List ys_V) (K : ys_K) (t : List ys_L) (a : ys_A) : List (Nat × ys_S) := match ys_ass (b.1 ++ a.1, b.2) (a.2.1.map (ys_put 0 (ys_tau b.1.length t a))) with
  | some b' => [(pc, b', (a.2.2.1.1.map (fun w => w.map (ys_pV 0 (ys_tau b.1.length t a))), ys_arm K.2.2.2 0 fds.2 a.2.2.1.2), lv, a.2.2.2.toList.map (ys_pV 0 (ys_tau b.1.length t a)) ++ rest)]
  | none => []
theorem ys_tau_get {n : Nat} {t : List ys_L} {a : ys_A} (i : Nat) : (ys_tau n t a).getD i ([], 0) = if i < t.length then t.getD i ([], 0) else if i < t.length + a.1.length then ys_sym (n + (i - t.length)) else ([], 0) := by
  unfold ys_tau
  rw [List.getD_eq_getElem?_getD]
  by_cases h1 : i < t.length
  · rw [if_pos h1, List.getElem?_append_left h1, ← List.getD_eq_getElem?_getD]
  · rw [if_neg h1, List.getElem?_append_right (by omega), List.getElem?_map]
    by_cases h2 : i < t.length + a.1.length
    · rw [if_pos h2, List.getElem?_range (by omega)]
      rfl
    · rw [if_neg h2, List.getElem?_eq_none (by rw [List.length_range]; omega)]
      rfl
section YSC
variable {p : Program} {l : Launch} {e : Env} {R : Room} {s : State} {m : MethodId} {args : Array Value} {below : List Frame} {meth : Method} {c : Code} {Q : State → Prop} {kc kz : Nat} {D : va_G} {cl : List vw_C} {ad : Nat → Nat} {cT : Nat → ClassId} {sh : List ys_C} {A : Nat → Prop} {H0 : Heap} {nL : Nat} {mods : List Nat} {g0 : Nat → Nat → Int} {r0 : Nat → Int} {E : Nat} {pc : Nat} {b : ys_B} {fds : ys_F} {lv : List (Nat × ys_V)} {sv : List ys_V} {succ : List (Nat × ys_S)} {cc : ByteArray} {own : String} {Ts : List Cond} {tys : List (ClassId × FieldType)}
variable {G : List Cond} {K : ys_K}
theorem ys_kaft {t : List ys_L} {a : ys_A} {r : Nat → Int} {H H1 : Heap} {locs locs1 : List Loc} {ls : Array Slot} {st : List Value} {g : Nat → Nat → Int} {v : Option Value} {t1 : State} (h : ys_rep D cl ad cT sh A H0 nL mods g0 r0 r E (b, fds, lv, sv) H locs ls st) (hg : ys_gok mods fds.2 g0 g) (ht : ∀ x ∈ t, ys_stb b.1.length x) (hlen : t.length = K.2.1.2.1.1.length) (hm : ∀ k, k ∈ K.2.2.2 → k ∈ mods) (hA : ys_Alt D cl ad cT sh tys K (ys_val r 0 t) g H.size a (.returned v) t1) (hH1 : t1.heap = H1) (hF : ∀ q, va_A (ys_wK ad cT sh K (ys_val r 0 t) g) H.size q → A q) (hS1 : va_S A H0 H1 locs1) (k : ∀ q ∈ ys_aft pc b fds lv sv K t a, ys_W p l e R s m args below meth c Q kc kz D cl ad cT sh A H0 nL mods g0 r0 E q.1 q.2) : W p l e R s m args below meth c H1 locs1 kc kz Q (F0 m pc ls (v.toList ++ st)) := by
  obtain ⟨r1, g1, a1, a2, a3, a4, a5, a6, a7, a8, a9⟩ := hA
  obtain ⟨r', hr'⟩ : ∃ r' : Nat → Int, r' = fun i => if i < b.1.length then r i else r1 (t.length + (i - b.1.length)) := ⟨_, rfl⟩
  have hlo : ∀ i, i < b.1.length → r' i = r i := fun i hi => by rw [hr']; exact if_pos hi
  have hhi : ∀ j, r' (b.1.length + j) = r1 (t.length + j) := fun j => by
    rw [hr']
    show (if b.1.length + j < b.1.length then _ else _) = _
    rw [if_neg (by omega), show b.1.length + j - b.1.length = j by omega]
  have hv : ys_val r' 0 (ys_tau b.1.length t a) = r1 := by
    funext i
    show ys_ev r' (ys_at 0 (ys_tau b.1.length t a) i) = r1 i
    unfold ys_at
    rw [if_neg (by omega), Nat.sub_zero, ys_tau_get]
    by_cases h1 : i < t.length
    · rw [if_pos h1]
      have e1 : ys_val r 0 t i = ys_ev r (t.getD i ([], 0)) := by
        show ys_ev r (ys_at 0 t i) = _
        unfold ys_at
        rw [if_neg (by omega), Nat.sub_zero]
      have hmem : ys_stb b.1.length (t.getD i ([], 0)) := by
        rw [List.getD_eq_getElem?_getD, List.getElem?_eq_getElem h1]
        exact ht _ (List.getElem_mem h1)
      rw [hmem r' r hlo, ← e1, a1 i (by omega)]
    · rw [if_neg h1]
      by_cases h2 : i < t.length + a.1.length
      · rw [if_pos h2, ys_sym_ev, hhi, show t.length + (i - t.length) = i by omega]
      · rw [if_neg h2, a2 i (by omega)]
        rfl
  have hlen2 : (b.1 ++ a.1).length = b.1.length + a.1.length := List.length_append
  have hok : ys_okB r' (b.1 ++ a.1, b.2) := by
    refine ⟨fun i w hi => ?_, fun f hf => ?_⟩
    · by_cases hl : i < b.1.length
      · rw [List.getElem?_append_left hl] at hi
        rw [hlo i hl]
        exact h.1.1 i w hi
      · rw [List.getElem?_append_right (by omega)] at hi
        have e2 := hhi (i - b.1.length)
        rw [show b.1.length + (i - b.1.length) = i by omega] at e2
        rw [e2, hlen]
        exact a3 _ w hi
    · rw [h.2.1.1 f hf r' r hlo]
      exact h.1.2 f hf
  have hfk : ys_fk r' (a.2.1.map (ys_put 0 (ys_tau b.1.length t a))) := by
    intro f hf
    obtain ⟨f0, hf0, e0⟩ := List.mem_map.mp hf
    rw [← e0, ys_put_ev, hv]
    exact a4 f0 hf0
  have htt : ∀ x ∈ ys_tau b.1.length t a, ys_stb (b.1.length + a.1.length) x := by
    intro x hx
    unfold ys_tau at hx
    rcases List.mem_append.mp hx with q | q
    · exact ys_stb_mono (ht x q) (by omega)
    · obtain ⟨j, hj, e0⟩ := List.mem_map.mp q
      rw [← e0]
      exact ys_stb_sym (by have := List.mem_range.mp hj; omega)
  obtain ⟨b', eb, hb'⟩ := ys_ass_ok _ hok hfk
  have hl' := ys_ass_len _ eb
  have hl' : b'.1.length = b.1.length + a.1.length := hl'.trans hlen2
  have hscb : ys_scB ((b.1 ++ a.1, b.2) : ys_B) := fun f hf => by
    show ys_stb (b.1 ++ a.1).length f
    rw [hlen2]
    exact ys_stb_mono (m := b.1.length + a.1.length) (h.2.1.1 f hf) (Nat.le_add_right _ _)
  have hsc' := ys_ass_sc (n := b.1.length + a.1.length) _ hlen2 hscb (fun f hf => by
    obtain ⟨f0, hf0, e0⟩ := List.mem_map.mp hf
    rw [← e0]
    exact ys_stb_put (by omega) htt f0) eb
  unfold ys_aft at k
  rw [eb] at k
  have k := k _ List.mem_cons_self
  have hrow : ∀ kk, ((a.2.2.1.1.map (fun w => w.map (ys_pV 0 (ys_tau b.1.length t a)))).getD kk []).map (ys_den ad r') = (a.2.2.1.1.getD kk []).map (ys_den ad r1) := by
    intro kk
    rw [List.getD_eq_getElem?_getD, List.getD_eq_getElem?_getD, List.getElem?_map]
    cases a.2.2.1.1[kk]? with
    | none => rfl
    | some w =>
      show (w.map (ys_pV 0 (ys_tau b.1.length t a))).map (ys_den ad r') = w.map (ys_den ad r1)
      rw [List.map_map]
      apply List.map_congr_left
      intro x _
      show ys_den ad r' (ys_pV 0 _ x) = _
      rw [ys_pV_den, hv]
  have ew := ys_wld_eq (cT := cT) (sh := sh) (g := g1) hrow
  obtain ⟨-, ⟨s0, s1, s2, s3⟩, ⟨hE, hr0⟩, -, q4, q5⟩ := h
  have hst : v.toList ++ st = (a.2.2.2.toList.map (ys_pV 0 (ys_tau b.1.length t a)) ++ sv).map (ys_den ad r') := by
    rw [List.map_append, q5]
    have e3 : v = a.2.2.2.map (ys_den ad r1) := by
      have := a9
      cases this
      rfl
    congr 1
    · rw [e3]
      cases a.2.2.2 with
      | none => rfl
      | some x =>
        show [ys_den ad r1 x] = [ys_den ad r' (ys_pV 0 _ x)]
        rw [ys_pV_den, hv]
    · exact List.map_congr_left fun x hx => ys_den_cong (fun i hi => (hlo i hi).symm) (s3 x hx)
  refine k r' H1 locs1 ls _ ⟨hb', ⟨hsc', fun w hw x hx => ?_, fun q hq => ?_, fun x hx => ?_⟩, ⟨by show E ≤ b'.1.length; rw [hl']; exact Nat.le_trans hE (by show b.1.length ≤ _; omega), fun i hi => (hlo i (Nat.lt_of_lt_of_le hi hE)).trans (hr0 i hi)⟩, ⟨g1, ⟨fun kk z hz => ?_, fun kk hk => ?_⟩, ?_, ?_, hS1⟩, ?_, hst⟩
  · obtain ⟨w0, -, e0⟩ := List.mem_map.mp hw
    rw [← e0] at hx
    obtain ⟨x0, -, e1⟩ := List.mem_map.mp hx
    rw [← e1]
    show ys_stV b'.1.length _
    rw [hl']
    exact ys_pV_st (by omega) htt x0
  · show ys_stV b'.1.length _
    rw [hl']
    exact ys_stV_mono (s2 q hq) (by show b.1.length ≤ _; omega)
  · show ys_stV b'.1.length _
    rw [hl']
    rcases List.mem_append.mp hx with q | q
    · obtain ⟨x0, -, e1⟩ := List.mem_map.mp q
      rw [← e1]
      exact ys_pV_st (by omega) htt x0
    · exact ys_stV_mono (s3 x q) (by show b.1.length ≤ _; omega)
  · rcases ys_arm_get _ _ _ 0 kk z hz with ⟨-, h2⟩ | ⟨h1, h2⟩
    · exact a5.1 kk z h2
    · rw [Nat.zero_add] at h1
      rw [a5.2 kk h1]
      exact hg.1 kk z h2
  · rw [a5.2 kk (fun q => hk (hm kk q))]
    exact hg.2 kk hk
  · show va_P D cl (ys_wld ad cT sh r' g1 (a.2.2.1.1.map fun w => w.map (ys_pV 0 (ys_tau b.1.length t a)))) H1
    rw [ew, ← hH1]
    exact a6
  · show va_D A (ys_wld ad cT sh r' g1 (a.2.2.1.1.map fun w => w.map (ys_pV 0 (ys_tau b.1.length t a))))
    rw [ew]
    exact a7.weaken (fun _ q _ hq => hF q.1 hq)
  · have e4 : ys_lvs ad r lv = ys_lvs ad r' lv := List.map_congr_left fun q hq => by rw [ys_den_cong (fun i hi => (hlo i hi).symm) (s2 q hq)]
    exact e4 ▸ q4
/-- a call by its contract -/
def ys_hcall (fr lo : Nat) (mods : List Nat) (K : ys_K) (pc : Nat) (b : ys_B) (fds : ys_F) (lv : List (Nat × ys_V)) (sv : List ys_V) : Option (List (Nat × ys_S)) := match ys_zf K.2.1.2.2.1 fds.1 with
  | some fp => if decide (K.2.1.1.length ≤ sv.length) && (decide (((sv.drop K.2.1.1.length).map ys_cat).sum ≤ 8) && (decide (K.1.2.1 + 1 ≤ fr) && (decide (8 + (K.1.1.2.2.1 + 11) + K.1.2.2 ≤ lo) && K.2.2.2.all (fun k => mods.contains k)))) then (match ys_mat b fds.2 0 K.2.1.2.1.1 K.2.1.2.1.2 K.2.1.2.2.2 (K.2.1.1.zip (sv.take K.2.1.1.length).reverse ++ fp) with
      | some t => some (K.2.2.1.flatMap fun a => ys_aft (pc + 3) b fds lv (sv.drop K.2.1.1.length) K t a)
      | none => none) else none
  | none => none
/-- what a call's link says: a method of an object, or of none -/
def ys_CL (own : String) (Ts : List Cond) (cl : List vw_C) (sh : List ys_C) (G : List Cond) (i : Instr) (K : ys_K) : Prop :=
  (∃ (idx k ci : Nat) (C : String) (T : u_T) (N : Nat) (as : List ys_V), i = .invokevirtual idx ∧ K.2.1.1 = .inr (some k) :: as ∧ sh[k]? = some (.inl ci) ∧ cl[ci]? = some (C, T, N) ∧ GoodIn Ts (wsV own idx C K.1.1.1 (ys_ws G K)) ∧ (K.1.1.1.cls = C ∧ K.1.1.1.cls ≠ "java/lang/invoke/MethodHandle" ∧ K.1.1.1.cls ≠ "java/lang/invoke/VarHandle" ∧ (parseMethodDescriptor K.1.1.1.desc).map (fun d => d.parameters.length) = some as.length)) ∨
  (∃ idx : Nat, i = .invokestatic idx ∧ GoodIn Ts (va_wsS own idx K.1.1.1 (ys_ws G K)) ∧ (K.1.1.1.cls ≠ "java/lang/invoke/MethodHandle" ∧ K.1.1.1.cls ≠ "java/lang/invoke/VarHandle" ∧ (parseMethodDescriptor K.1.1.1.desc).map (fun d => d.parameters.length) = some K.2.1.1.length))
theorem ys_blind {r0 : Nat → Int} {g : Nat → Nat → Int} {sz : Nat} : FrameBlind (ys_Pre D cl ad cT sh tys K r0 g sz) := fun a U g mk q => by
  obtain ⟨q0, q1, qP, qK, qD⟩ := q
  exact ⟨q0, q1, qP, va_K.moved (u := U) (U := U.calling g mk a) (Vm.Alike.refl U.vm) qK, qD⟩
theorem ys_cats (l : List ys_V) (r : Nat → Int) : ((l.map (ys_den ad r)).map fun v => v.category).sum = (l.map ys_cat).sum := by
  rw [List.map_map]
  congr 1
  apply List.map_congr_left
  intro v _
  exact ys_cat_den ad r v
theorem ys_kcall {i : Instr} {fr lo : Nat} (S : CallFix p m c cc nL s args Ts own) (hK : va_K D cl tys s) (hA0 : ∀ q, H0.size ≤ q → A q) (hcon : ys_Con l D cl ad cT sh tys G K) (hCL : ys_CL own Ts cl sh G i K) (hd : decode cc pc = .ok (i, 3)) (hfr : fr ≤ R.frames) (hlo : lo ≤ R.locals) (hkk : kc ≤ R.cells ∧ kz ≤ R.slots) (hs : ys_hcall fr lo mods K pc b fds lv sv = some succ) (k : ∀ q ∈ succ, ys_W p l e R s m args below meth c Q kc kz D cl ad cT sh A H0 nL mods g0 r0 E q.1 q.2) : ys_W p l e R s m args below meth c Q kc kz D cl ad cT sh A H0 nL mods g0 r0 E pc (b, fds, lv, sv) := by
  unfold ys_hcall at hs
  split at hs
  · rename_i fp hfp
    split at hs
    · rename_i hc
      rw [Bool.and_eq_true, Bool.and_eq_true, Bool.and_eq_true, Bool.and_eq_true, decide_eq_true_eq, decide_eq_true_eq, decide_eq_true_eq, decide_eq_true_eq] at hc
      obtain ⟨c1, c2, c3, c4, c5⟩ := hc
      split at hs
      · rename_i t hmat
        cases Option.some.inj hs
        intro r H locs ls st h
        obtain ⟨et, e2, e3, e4, e5, e6, e7⟩ := ys_mat_ok (ad := ad) h.1 hmat
        obtain ⟨g, hg, hP, hD, hS⟩ := h.2.2.2.1
        have hsv : sv = sv.take K.2.1.1.length ++ sv.drop K.2.1.1.length := (List.take_append_drop _ _).symm
        have hst2 : ∀ q ∈ K.2.1.1.zip (sv.take K.2.1.1.length).reverse ++ fp, ys_stV b.1.length q.2 := by
          intro q hq
          rcases List.mem_append.mp hq with g1 | g1
          · exact h.2.1.2.2.2 _ (List.mem_of_mem_take (List.mem_reverse.mp (List.of_mem_zip g1).2))
          · obtain ⟨w, h1, h2⟩ := ys_zf_mem _ _ _ hfp q g1
            exact h.2.1.2.1 w h1 _ h2
        have htst : ∀ x ∈ t, ys_stb b.1.length x := by
          rw [et]
          exact ys_col_st _ _ hst2
        have ew : ys_wK ad cT sh K (ys_val r 0 t) g = ys_wld ad cT sh r g fds.1 := ys_wld_eq (ys_zf_ok _ _ _ hfp (fun q hq => e5 q (List.mem_append_right _ hq)))
        have hargs : K.2.1.1.map (ys_den ad (ys_val r 0 t)) = ((sv.take K.2.1.1.length).reverse).map (ys_den ad r) := ys_zip_map _ _ (by rw [List.length_reverse, List.length_take]; omega) (fun q hq => e5 q (List.mem_append_left _ hq))
        have hokB : ys_okB (ys_val r 0 t) K.2.1.2.1 := ⟨fun j q hj => by
          have := e3 j q hj
          rw [Nat.zero_add] at this
          exact this, e4⟩
        have har : ∀ (kk : Nat) (a : ys_R), K.2.1.2.2.2[kk]? = some a → ys_rok a (g kk) := fun kk a ha => by
          obtain ⟨a0, h1, h2⟩ := e7 kk a ha
          exact ys_rle_ok h2 (hg.1 kk a0 h1)
        have hM := hcon (ys_val r 0 t) g H.size hokB har
        have hP' : va_P D cl (ys_wK ad cT sh K (ys_val r 0 t) g) H := by rw [ew]; exact hP
        have hD' : va_D A (ys_wK ad cT sh K (ys_val r 0 t) g) := by rw [ew]; exact hD
        have hF : ∀ q, va_A (ys_wK ad cT sh K (ys_val r 0 t) g) H.size q → A q := by
          intro q hq
          rcases hq with ⟨kk, x, hx⟩ | hq
          · exact hD'.2 kk (q, x) hx
          · exact hA0 q (Nat.le_trans hS.1 hq)
        have hpre : ∀ U : State, U.heap = H → s.WarmedH U.vm → ys_Pre D cl ad cT sh tys K (ys_val r 0 t) g H.size (K.2.1.1.map (ys_den ad (ys_val r 0 t))).toArray U := fun U hU hW => ⟨rfl, by rw [hU], by rw [hU]; exact hP', va_K.moved hW.alike hK, hD'.weaken (fun _ _ _ _ => trivial)⟩
        have hrest : 2 * (F0 m pc ls st).monitorRoom + (((sv.drop K.2.1.1.length).map (ys_den ad r)).map fun v => v.category).sum ≤ 8 := lv_room (rest := st) (by rw [ys_cats]; exact c2)
        have hfull : st = (K.2.1.1.map (ys_den ad (ys_val r 0 t))).reverse ++ (sv.drop K.2.1.1.length).map (ys_den ad r) := by
          rw [hargs, ← List.map_reverse, List.reverse_reverse, ← List.map_append, ← hsv]
          exact h.2.2.2.2.2
        have hgo : va_Run p l e R s m args below meth c H locs kc kz 0 0 (F0 m pc ls st) ((sv.drop K.2.1.1.length).map (ys_den ad r)) (ys_Post D cl ad cT sh tys K (ys_val r 0 t) g H.size (K.2.1.1.map (ys_den ad (ys_val r 0 t))).toArray) (va_A (ys_wK ad cT sh K (ys_val r 0 t) g) H.size) := by
          rcases hCL with ⟨idx, kc, ci, C, T, N, as, ei, ea, h1, h2, h3, h4⟩ | ⟨idx, ei, h3, h4⟩
          · subst ei
            have hw := ys_wld_get (ad := ad) (cT := cT) (r := ys_val r 0 t) (g := g) (fds := K.2.1.2.2.1) h1
            rw [ea] at hpre hfull ⊢
            rw [List.map_cons] at hpre hfull ⊢
            rw [List.reverse_cons, List.append_assoc] at hfull
            have hlen : (as.map (ys_den ad (ys_val r 0 t))).length = as.length := List.length_map _
            exact va_runV (C := C) (b := ad kc) (As := as.map (ys_den ad (ys_val r 0 t))) S hM (cwV as.length S.2.2.2.2 h3 rfl rfl rfl h4 ⟨Nat.le_trans c3 hfr, Nat.le_trans c4 hlo⟩) ⟨ys_blind, va_recv hK hP' h2 hw, hpre⟩ rfl hlen h.2.2.2.2.1.1 hfull (by rw [ea] at hrest; exact hrest) hd hkk
          · subst ei
            exact va_runS (As := K.2.1.1.map (ys_den ad (ys_val r 0 t))) S hM (va_cwS K.2.1.1.length S.2.2.2.2 h3 rfl rfl rfl h4 ⟨Nat.le_trans c3 hfr, Nat.le_trans c4 hlo⟩) ⟨ys_blind, hpre⟩ rfl (List.length_map _) h.2.2.2.2.1.1 hfull hrest hd hkk
        intro T hT X
        obtain ⟨v, st₀, t1, T', L, h0, X', hL, f1, f2, ⟨⟨a, ha, hAlt⟩, hz, hk⟩, stp⟩ := hgo T hT X
        rw [h0] at hz hk
        have hrep2 : ys_rep D cl ad cT sh A H0 nL mods g0 r0 r E (b, fds, lv, sv.drop K.2.1.1.length) H locs ls ((sv.drop K.2.1.1.length).map (ys_den ad r)) := by
          obtain ⟨q1, ⟨s0, s1, s2, s3⟩, q2, q3, q4, q5⟩ := h
          exact ⟨q1, ⟨s0, s1, s2, fun x hx => s3 x (List.mem_of_mem_drop hx)⟩, q2, q3, q4, rfl⟩
        have hm : ∀ kk, kk ∈ K.2.2.2 → kk ∈ mods := fun kk hkk => by
          have := List.all_eq_true.mp c5 kk hkk
          simpa using this
        obtain ⟨t2, a1, b1⟩ := ys_kaft (H1 := T'.heap) (locs1 := locs ++ L) hrep2 hg htst e2 hm hAlt f1.symm hF ⟨Nat.le_trans hS.1 (by rw [f1]; exact hz), fun q h1 h2 => by rw [f1, hk q (Nat.lt_of_lt_of_le h1 hS.1) (fun z => h2 (hF q z))]; exact hS.2.1 q h1 h2, fun q hq => by
          rcases List.mem_append.mp hq with g1 | g1
          · exact hS.2.2 q g1
          · exact hF _ (hL q g1)⟩ (fun q hq => k q (List.mem_flatMap.mpr ⟨a, ha, hq⟩)) T' rfl X'
        exact ⟨t2, stp t2 a1, b1⟩
      · cases hs
    · cases hs
  · cases hs
end YSC
end
section
/-! copying arrays; the end of a method -/
def ys_alh : List (Nat × (Int × Int)) → Int × Int → Int × Int
  | [], q => q
  | x :: t, q => ys_alh t (ys_hul q x.2)
theorem ys_alh_acc {z : Int} : ∀ (l : List (Nat × (Int × Int))) (q : Int × Int), q.1 ≤ z ∧ z ≤ q.2 → (ys_alh l q).1 ≤ z ∧ z ≤ (ys_alh l q).2
  | [], q, h => h
  | x :: t, q, h => ys_alh_acc t _ (ys_hul_l h)
theorem ys_alh_in {z : Int} {n : Nat} {w : Int × Int} (hw : w.1 ≤ z ∧ z ≤ w.2) : ∀ (l : List (Nat × (Int × Int))) (q : Int × Int), l.lookup n = some w → (ys_alh l q).1 ≤ z ∧ z ≤ (ys_alh l q).2
  | [], q, h => by cases h
  | (i, x) :: t, q, h => by
    unfold List.lookup at h
    cases hc : n == i with
    | true =>
      rw [hc] at h
      cases h
      exact ys_alh_acc t _ (ys_hul_r hw)
    | false =>
      rw [hc] at h
      exact ys_alh_in hw t _ h
theorem ys_alh_ok {a : ys_R} {f : Nat → Int} (ha : ys_rok a f) (j : Nat) : (ys_alh a.2 a.1).1 ≤ f j ∧ f j ≤ (ys_alh a.2 a.1).2 := by
  have h := ha j
  unfold ys_rat at h
  cases hc : a.2.lookup j with
  | none =>
    rw [hc] at h
    exact ys_alh_acc _ _ h
  | some w =>
    rw [hc] at h
    exact ys_alh_in h _ _ hc
/-- a part of an array: from x on, n of them -/
def ys_prt (b : ys_B) (x n : ys_L) (len : Nat) : Bool := ys_inr false b.1 x && (ys_inr false b.1 n && (ys_ge b.1 b.2 2 x && (ys_ge b.1 b.2 2 n && ys_ge b.1 b.2 2 (ys_sub (ys_sub ([], (len : Int)) x) n))))
theorem ys_prt_ok {r : Nat → Int} {b : ys_B} (h : ys_okB r b) {x n : ys_L} {len : Nat} (hc : ys_prt b x n len = true) : ¬ Int32.ofInt (ys_ev r x) < 0 ∧ ¬ Int32.ofInt (ys_ev r n) < 0 ∧ (Int32.ofInt (ys_ev r x)).toNatClampNeg + (Int32.ofInt (ys_ev r n)).toNatClampNeg ≤ len := by
  unfold ys_prt at hc
  rw [Bool.and_eq_true, Bool.and_eq_true, Bool.and_eq_true, Bool.and_eq_true] at hc
  obtain ⟨c1, c2, c3, c4, c5⟩ := hc
  have e1 := ys_inr32 h.1 c1
  have e2 := ys_inr32 h.1 c2
  have h3 := ys_ge_le h.1 h.2 _ _ c3
  have h4 := ys_ge_le h.1 h.2 _ _ c4
  have h5 := ys_ge_le h.1 h.2 _ _ c5
  have z : ys_ev r (([], (len : Int)) : ys_L) = (len : Int) := Int.zero_add _
  rw [ys_sub_ev, ys_sub_ev, z] at h5
  refine ⟨?_, ?_, ?_⟩
  · rw [Int32.lt_iff_toInt_lt, e1]
    exact Int.not_lt.mpr h3
  · rw [Int32.lt_iff_toInt_lt, e2]
    exact Int.not_lt.mpr h4
  · show (Int32.ofInt (ys_ev r x)).toInt.toNat + (Int32.ofInt (ys_ev r n)).toInt.toNat ≤ len
    rw [e1, e2]
    omega
def ys_ncw : Nat := nativeFrameWords "java/lang/System" "arraycopy" 5 + 11
def ys_hcopy (lo : Nat) (sh : List ys_C) (mods : List Nat) (pc : Nat) (b : ys_B) (fds : ys_F) (lv : List (Nat × ys_V)) (sv : List ys_V) : Option (List (Nat × ys_S)) := match sv with
  | .inl (.inl n) :: .inl (.inl dp) :: .inr (some kd) :: .inl (.inl sp) :: .inr (some ks) :: t => (match sh[kd]?, sh[ks]?, fds.2[kd]?, fds.2[ks]? with
    | some (.inr yd), some (.inr ys), some ad, some as => if (decide (yd.1 = 0) || decide (yd.1 = 1)) && (decide (ys.1 = yd.1) && (ys_prt b dp n yd.2.1 && (ys_prt b sp n ys.2.1 && (decide (kd ∈ mods) && decide ((t.map ys_cat).sum + ys_ncw ≤ lo))))) then some [(pc + 3, b, (fds.1, fds.2.set kd (ys_hul (ys_alh ad.2 ad.1) (ys_alh as.2 as.1), [])), lv, t)] else none
    | _, _, _, _ => none)
  | _ => none
def ys_gcp (g : Nat → Nat → Int) (ks kd sp dp n : Nat) : Nat → Nat → Int := fun i => if i = kd then va_cpy (g ks) (g kd) sp dp n else g i
section YSP
variable {p : Program} {l : Launch} {e : Env} {R : Room} {s : State} {m : MethodId} {args : Array Value} {below : List Frame} {meth : Method} {c : Code} {Q : State → Prop} {kc kz : Nat} {D : va_G} {cl : List vw_C} {ad : Nat → Nat} {cT : Nat → ClassId} {sh : List ys_C} {A : Nat → Prop} {H0 : Heap} {nL : Nat} {mods : List Nat} {g0 : Nat → Nat → Int} {r0 : Nat → Int} {E : Nat} {pc : Nat} {b : ys_B} {fds : ys_F} {lv : List (Nat × ys_V)} {sv : List ys_V} {succ : List (Nat × ys_S)} {cc : ByteArray} {own : String} {Ts : List Cond} {tys : List (ClassId × FieldType)}
variable {G : List Cond} {K : ys_K}
theorem ys_kcopy {idx lo : Nat} (hexec : p.tables.exec = Jvm.exec) (hb : c.code = cc) (hml : c.maxLocals = nL) (hts : ∀ w ∈ Ts, w.before args s = true) (hown : s.vm.findClass own = some m.cls) (hK : va_K D cl tys s) (hty0 : tys[0]? = some (cT 0, .int)) (hty1 : tys[1]? = some (cT 1, .long)) (hfr : 1 ≤ R.frames) (hlo : lo ≤ R.locals) (hw1 : Cond.methodLink own idx arraycopyName ∈ Ts) (hw2 : Cond.native arraycopyName ∈ Ts) (hw3 : Cond.static arraycopyName ∈ Ts) (hw4 : Cond.initialized "java/lang/System" ∈ Ts) (hd : decode cc pc = .ok (.invokestatic idx, 3)) (hs : ys_hcopy lo sh mods pc b fds lv sv = some succ) (k : ∀ q ∈ succ, ys_W p l e R s m args below meth c Q kc kz D cl ad cT sh A H0 nL mods g0 r0 E q.1 q.2) : ys_W p l e R s m args below meth c Q kc kz D cl ad cT sh A H0 nL mods g0 r0 E pc (b, fds, lv, sv) := by
  unfold ys_hcopy at hs
  split at hs
  · rename_i n dp kd sp ks t
    split at hs
    · rename_i yd ys aD aS hshd hshs hard hars
      split at hs
      · rename_i hc
        simp only [Bool.and_eq_true, Bool.or_eq_true, decide_eq_true_eq] at hc
        obtain ⟨hkd, hks, hpd, hps, hm, hlw⟩ := hc
        cases Option.some.inj hs
        have k := k _ List.mem_cons_self
        intro r H locs ls st h
        obtain ⟨st1, e1, g1, -⟩ := ys_rep_pop h
        obtain ⟨st2, e2, g2, -⟩ := ys_rep_pop g1
        obtain ⟨st3, e3, g3, -⟩ := ys_rep_pop g2
        obtain ⟨st4, e4, g4, -⟩ := ys_rep_pop g3
        obtain ⟨st5, e5, g5, -⟩ := ys_rep_pop g4
        subst e1; subst e2; subst e3; subst e4; subst e5
        obtain ⟨q1, ⟨s0, s1, s2, s3⟩, q2, ⟨g, hg, hP, hD, hS⟩, q4, q5⟩ := g5
        obtain ⟨p1, p2, p3⟩ := ys_prt_ok h.1 hpd
        obtain ⟨p4, -, p6⟩ := ys_prt_ok h.1 hps
        have hwd := ys_wld_get (ad := ad) (cT := cT) (r := r) (g := g) (fds := fds.1) hshd
        have hws := ys_wld_get (ad := ad) (cT := cT) (r := r) (g := g) (fds := fds.1) hshs
        have hrest : (st5.map fun v => v.category).sum + (nativeFrameWords "java/lang/System" "arraycopy" 5 + 11) ≤ R.locals := by
          rw [q5, ys_cats]
          exact Nat.le_trans hlw hlo
        obtain ⟨kdd, ld, td⟩ := yd
        obtain ⟨kss, lsn, tss⟩ := ys
        have hks : kss = kdd := hks
        subst hks
        have fin : ∀ (H1 : Heap) (locs1 : List Loc), va_P D cl (ys_wld ad cT sh r (ys_gcp g ks kd (Int32.ofInt (ys_ev r sp)).toNatClampNeg (Int32.ofInt (ys_ev r dp)).toNatClampNeg (Int32.ofInt (ys_ev r n)).toNatClampNeg) fds.1) H1 → va_D A (ys_wld ad cT sh r (ys_gcp g ks kd (Int32.ofInt (ys_ev r sp)).toNatClampNeg (Int32.ofInt (ys_ev r dp)).toNatClampNeg (Int32.ofInt (ys_ev r n)).toNatClampNeg) fds.1) → va_S A H0 H1 locs1 → W p l e R s m args below meth c H1 locs1 kc kz Q (F0 m (pc + 3) ls st5) := by
          intro H1 locs1 hP1 hD1 hS1
          refine k r H1 locs1 ls _ ⟨q1, ⟨s0, s1, s2, s3⟩, q2, ⟨_, ⟨fun i w hi => ?_, fun i hi => ?_⟩, hP1, hD1, hS1⟩, q4, q5⟩
          · by_cases hk : i = kd
            · subst hk
              have hl : i < fds.2.length := (List.getElem?_eq_some_iff.mp hard).1
              have hi : (fds.2.set i (ys_hul (ys_alh aD.2 aD.1) (ys_alh aS.2 aS.1), []))[i]? = some w := hi
              rw [List.getElem?_set_self hl] at hi
              cases hi
              intro j
              show (ys_hul (ys_alh aD.2 aD.1) (ys_alh aS.2 aS.1)).1 ≤ ys_gcp g ks i _ _ _ i j ∧ ys_gcp g ks i _ _ _ i j ≤ (ys_hul (ys_alh aD.2 aD.1) (ys_alh aS.2 aS.1)).2
              unfold ys_gcp
              rw [if_pos rfl]
              unfold va_cpy
              split
              · exact ys_hul_r (ys_alh_ok (hg.1 ks aS hars) _)
              · exact ys_hul_l (ys_alh_ok (hg.1 i aD hard) j)
            · have hi : (fds.2.set kd (ys_hul (ys_alh aD.2 aD.1) (ys_alh aS.2 aS.1), []))[i]? = some w := hi
              rw [List.getElem?_set_ne (Ne.symm hk)] at hi
              have e6 : ys_gcp g ks kd (Int32.ofInt (ys_ev r sp)).toNatClampNeg (Int32.ofInt (ys_ev r dp)).toNatClampNeg (Int32.ofInt (ys_ev r n)).toNatClampNeg i = g i := if_neg hk
              rw [e6]
              exact hg.1 i w hi
          · have hk : i ≠ kd := fun e => hi (e ▸ hm)
            have e6 : ys_gcp g ks kd (Int32.ofInt (ys_ev r sp)).toNatClampNeg (Int32.ofInt (ys_ev r dp)).toNatClampNeg (Int32.ofInt (ys_ev r n)).toNatClampNeg i = g i := if_neg hk
            rw [e6]
            exact hg.2 i hi
        have ew := ys_wld_set (ad := ad) (cT := cT) (r := r) (g := g) (g' := ys_gcp g ks kd (Int32.ofInt (ys_ev r sp)).toNatClampNeg (Int32.ofInt (ys_ev r dp)).toNatClampNeg (Int32.ofInt (ys_ev r n)).toNatClampNeg) (fds := fds.1) (fds' := fds.1) hshd (fun i hi => ⟨if_neg hi, rfl⟩)
        have hml2 : c.maxLocals = ls.size := hml.trans q4.1.symm
        rcases hkd with hk0 | hk1
        · have hk0 : kss = 0 := hk0
          subst hk0
          refine va_copyi hexec hb hml2 hown (hts _ hw1) (hts _ hw2) (hts _ hw3) (hts _ hw4) hK hP hD hS ks kd 0 0 (f := fun j => Int32.ofInt (g ks j)) (g := fun j => Int32.ofInt (g kd j)) hws hwd hty0 hty0 rfl p4 p1 p2 p6 p3 (fun i _ => rfl) hfr hrest hd fun H1 locs1 hP1 hD1 hS1 => ?_
          have ef : (fun j => Int32.ofInt (ys_gcp g ks kd (Int32.ofInt (ys_ev r sp)).toNatClampNeg (Int32.ofInt (ys_ev r dp)).toNatClampNeg (Int32.ofInt (ys_ev r n)).toNatClampNeg kd j)) = va_cpy (fun j => Int32.ofInt (g ks j)) (fun j => Int32.ofInt (g kd j)) (Int32.ofInt (ys_ev r sp)).toNatClampNeg (Int32.ofInt (ys_ev r dp)).toNatClampNeg (Int32.ofInt (ys_ev r n)).toNatClampNeg := by
            funext j
            unfold ys_gcp
            rw [if_pos rfl]
            unfold va_cpy
            split <;> rfl
          have ec : ys_cel ad cT r (ys_gcp g ks kd (Int32.ofInt (ys_ev r sp)).toNatClampNeg (Int32.ofInt (ys_ev r dp)).toNatClampNeg (Int32.ofInt (ys_ev r n)).toNatClampNeg) kd (.inr (0, ld, td)) (fds.1.getD kd []) = (ad kd, .inl (cT 0, ld, .inl (va_cpy (fun j => Int32.ofInt (g ks j)) (fun j => Int32.ofInt (g kd j)) (Int32.ofInt (ys_ev r sp)).toNatClampNeg (Int32.ofInt (ys_ev r dp)).toNatClampNeg (Int32.ofInt (ys_ev r n)).toNatClampNeg))) := by
            show ((ad kd, Sum.inl (cT 0, ld, Sum.inl (fun j => Int32.ofInt (ys_gcp g ks kd (Int32.ofInt (ys_ev r sp)).toNatClampNeg (Int32.ofInt (ys_ev r dp)).toNatClampNeg (Int32.ofInt (ys_ev r n)).toNatClampNeg kd j)))) : Nat × va_E) = _
            rw [ef]
          rw [ec] at ew
          exact fin H1 locs1 (by rw [ew]; exact hP1) (by rw [ew]; exact hD1) hS1
        · have hk1 : kss = 1 := hk1
          subst hk1
          refine va_copyl hexec hb hml2 hown (hts _ hw1) (hts _ hw2) (hts _ hw3) (hts _ hw4) hK hP hD hS ks kd 1 1 (f := fun j => Int64.ofInt (g ks j)) (g := fun j => Int64.ofInt (g kd j)) hws hwd hty1 hty1 rfl p4 p1 p2 p6 p3 (fun i _ => rfl) hfr hrest hd fun H1 locs1 hP1 hD1 hS1 => ?_
          have ef : (fun j => Int64.ofInt (ys_gcp g ks kd (Int32.ofInt (ys_ev r sp)).toNatClampNeg (Int32.ofInt (ys_ev r dp)).toNatClampNeg (Int32.ofInt (ys_ev r n)).toNatClampNeg kd j)) = va_cpy (fun j => Int64.ofInt (g ks j)) (fun j => Int64.ofInt (g kd j)) (Int32.ofInt (ys_ev r sp)).toNatClampNeg (Int32.ofInt (ys_ev r dp)).toNatClampNeg (Int32.ofInt (ys_ev r n)).toNatClampNeg := by
            funext j
            unfold ys_gcp
            rw [if_pos rfl]
            unfold va_cpy
            split <;> rfl
          have ec : ys_cel ad cT r (ys_gcp g ks kd (Int32.ofInt (ys_ev r sp)).toNatClampNeg (Int32.ofInt (ys_ev r dp)).toNatClampNeg (Int32.ofInt (ys_ev r n)).toNatClampNeg) kd (.inr (1, ld, td)) (fds.1.getD kd []) = (ad kd, .inl (cT 1, ld, .inr (.inl (va_cpy (fun j => Int64.ofInt (g ks j)) (fun j => Int64.ofInt (g kd j)) (Int32.ofInt (ys_ev r sp)).toNatClampNeg (Int32.ofInt (ys_ev r dp)).toNatClampNeg (Int32.ofInt (ys_ev r n)).toNatClampNeg)))) := by
            show ((ad kd, Sum.inl (cT 1, ld, Sum.inr (Sum.inl (fun j => Int64.ofInt (ys_gcp g ks kd (Int32.ofInt (ys_ev r sp)).toNatClampNeg (Int32.ofInt (ys_ev r dp)).toNatClampNeg (Int32.ofInt (ys_ev r n)).toNatClampNeg kd j))))) : Nat × va_E) = _
            rw [ef]
          rw [ec] at ew
          exact fin H1 locs1 (by rw [ew]; exact hP1) (by rw [ew]; exact hD1) hS1
      · cases hs
    · cases hs
  · cases hs
end YSP
/-- the greater, the lesser of two -/
def ys_hmm (mx : Bool) (fr lo : Nat) (pc : Nat) (b : ys_B) (fds : ys_F) (lv : List (Nat × ys_V)) (sv : List ys_V) : Option (List (Nat × ys_S)) := match sv with
  | .inl (.inl y) :: .inl (.inl x) :: t => if ys_inr false b.1 x && (ys_inr false b.1 y && (decide (1 ≤ fr) && decide ((t.map ys_cat).sum + 13 ≤ lo))) then some (match mx with
    | true => ys_br (pc + 3) b [ys_add (ys_sub y x) ([], -1)] (fds, lv, .inl (.inl y) :: t) ++ ys_br (pc + 3) b [ys_sub x y] (fds, lv, .inl (.inl x) :: t)
    | false => ys_br (pc + 3) b [ys_add (ys_sub x y) ([], -1)] (fds, lv, .inl (.inl y) :: t) ++ ys_br (pc + 3) b [ys_sub y x] (fds, lv, .inl (.inl x) :: t)) else none
  | _ => none
/-- what the links of the library's own say: a number below 100000 a copy, 100000 on the greater, 200000 on the lesser -/
def ys_Cp (own : String) (Ts : List Cond) (v : Nat) : Prop := match v / 100000 with
  | 0 => Cond.methodLink own v arraycopyName ∈ Ts ∧ Cond.native arraycopyName ∈ Ts ∧ Cond.static arraycopyName ∈ Ts ∧ Cond.initialized "java/lang/System" ∈ Ts
  | 1 => Cond.methodLink own (v - 100000) Lib.Math.max.name ∈ Ts ∧ Cond.static Lib.Math.max.name ∈ Ts ∧ Cond.initialized "java/lang/Math" ∈ Ts ∧ Cond.code Lib.Math.max.name Lib.Math.max.code 2 (some .int) ∈ Ts
  | 2 => Cond.methodLink own (v - 200000) Lib.Math.min.name ∈ Ts ∧ Cond.static Lib.Math.min.name ∈ Ts ∧ Cond.initialized "java/lang/Math" ∈ Ts ∧ Cond.code Lib.Math.min.name Lib.Math.min.code 2 (some .int) ∈ Ts
  | _ => False
section YSG
variable {p : Program} {l : Launch} {e : Env} {R : Room} {s : State} {m : MethodId} {args : Array Value} {below : List Frame} {meth : Method} {c : Code} {Q : State → Prop} {kc kz : Nat} {D : va_G} {cl : List vw_C} {ad : Nat → Nat} {cT : Nat → ClassId} {sh : List ys_C} {A : Nat → Prop} {H0 : Heap} {nL : Nat} {mods : List Nat} {g0 : Nat → Nat → Int} {r0 : Nat → Int} {E : Nat} {pc : Nat} {b : ys_B} {fds : ys_F} {lv : List (Nat × ys_V)} {sv : List ys_V} {succ : List (Nat × ys_S)} {cc : ByteArray} {own : String} {Ts : List Cond} {tys : List (ClassId × FieldType)}
theorem ys_kmm {idx fr lo : Nat} {mx : Bool} (hexec : p.tables.exec = Jvm.exec) (hb : c.code = cc) (hml : c.maxLocals = nL) (hts : ∀ w ∈ Ts, w.before args s = true) (hown : s.vm.findClass own = some m.cls) (hfr : fr ≤ R.frames) (hlo : lo ≤ R.locals) (hkk : kc ≤ R.cells ∧ kz ≤ R.slots) (hw : match mx with
    | true => Cond.methodLink own idx Lib.Math.max.name ∈ Ts ∧ Cond.static Lib.Math.max.name ∈ Ts ∧ Cond.initialized "java/lang/Math" ∈ Ts ∧ Cond.code Lib.Math.max.name Lib.Math.max.code 2 (some .int) ∈ Ts
    | false => Cond.methodLink own idx Lib.Math.min.name ∈ Ts ∧ Cond.static Lib.Math.min.name ∈ Ts ∧ Cond.initialized "java/lang/Math" ∈ Ts ∧ Cond.code Lib.Math.min.name Lib.Math.min.code 2 (some .int) ∈ Ts) (hd : decode cc pc = .ok (.invokestatic idx, 3)) (hs : ys_hmm mx fr lo pc b fds lv sv = some succ) (k : ∀ q ∈ succ, ys_W p l e R s m args below meth c Q kc kz D cl ad cT sh A H0 nL mods g0 r0 E q.1 q.2) : ys_W p l e R s m args below meth c Q kc kz D cl ad cT sh A H0 nL mods g0 r0 E pc (b, fds, lv, sv) := by
  unfold ys_hmm at hs
  split at hs
  · rename_i y x t
    split at hs
    · rename_i hc
      rw [Bool.and_eq_true, Bool.and_eq_true, Bool.and_eq_true, decide_eq_true_eq, decide_eq_true_eq] at hc
      obtain ⟨c1, c2, c3, c4⟩ := hc
      have hs := (Option.some.inj hs).symm
      subst hs
      intro r H locs ls st h
      obtain ⟨st1, e1, g1, hy⟩ := ys_rep_pop h
      obtain ⟨st2, e2, g2, hx⟩ := ys_rep_pop g1
      subst e1; subst e2
      have ex := ys_inr32 h.1.1 c1
      have ey := ys_inr32 h.1.1 c2
      have hcat : (st2.map fun v => v.category).sum + 13 ≤ R.locals := by
        rw [g2.2.2.2.2.2, ys_cats]
        exact Nat.le_trans c4 hlo
      have one : ∀ {g : ys_L}, ys_stb b.1.length g → ∀ f ∈ [g], ys_stb b.1.length f := fun hg f hf => by rw [List.mem_singleton.mp hf]; exact hg
      have py := ys_rep_push g2 (.inl (.inl y)) hy
      have px := ys_rep_push g2 (.inl (.inl x)) hx
      cases mx with
      | true =>
        obtain ⟨w1, w2, w3, w4⟩ := hw
        refine va_mmax hexec hb (hml.trans g2.2.2.2.2.1.1.symm) hown (hts _ w1) (hts _ w2) (hts _ w3) (hts _ w4) (Nat.le_trans c3 hfr) hcat hkk.1 hkk.2 hd ?_
        by_cases hlt : Int32.ofInt (ys_ev r x) < Int32.ofInt (ys_ev r y)
        · rw [if_pos hlt]
          rw [Int32.lt_iff_toInt_lt, ex, ey] at hlt
          exact ys_kbr py (ys_fk1 (f := ys_add (ys_sub y x) ([], -1)) (by rw [ys_m1, ys_sub_ev]; omega)) (one (ys_stb_m1 (ys_stb_sub hy hx))) (fun q hq => k q (List.mem_append_left _ hq))
        · rw [if_neg hlt]
          rw [Int32.lt_iff_toInt_lt, ex, ey] at hlt
          exact ys_kbr px (ys_fk1 (f := ys_sub x y) (by rw [ys_sub_ev]; omega)) (one (ys_stb_sub hx hy)) (fun q hq => k q (List.mem_append_right _ hq))
      | false =>
        obtain ⟨w1, w2, w3, w4⟩ := hw
        refine va_mmin hexec hb (hml.trans g2.2.2.2.2.1.1.symm) hown (hts _ w1) (hts _ w2) (hts _ w3) (hts _ w4) (Nat.le_trans c3 hfr) hcat hkk.1 hkk.2 hd ?_
        by_cases hlt : Int32.ofInt (ys_ev r y) < Int32.ofInt (ys_ev r x)
        · rw [if_pos hlt]
          rw [Int32.lt_iff_toInt_lt, ex, ey] at hlt
          exact ys_kbr py (ys_fk1 (f := ys_add (ys_sub x y) ([], -1)) (by rw [ys_m1, ys_sub_ev]; omega)) (one (ys_stb_m1 (ys_stb_sub hx hy))) (fun q hq => k q (List.mem_append_left _ hq))
        · rw [if_neg hlt]
          rw [Int32.lt_iff_toInt_lt, ex, ey] at hlt
          exact ys_kbr px (ys_fk1 (f := ys_sub y x) (by rw [ys_sub_ev]; omega)) (one (ys_stb_sub hy hx)) (fun q hq => k q (List.mem_append_right _ hq))
    · cases hs
  · cases hs
end YSG
/-- the end: one of the contract's ways -/
def ys_hret1 (E : Nat) (b : ys_B) (fds : ys_F) (v : Option ys_V) (a : ys_A) : Bool := match ys_zf a.2.2.1.1 fds.1 with
  | some fp => (match a.2.2.2, v with
    | some x, some y => (ys_mat b fds.2 E a.1 a.2.1 a.2.2.1.2 ((x, y) :: fp)).isSome
    | none, none => (ys_mat b fds.2 E a.1 a.2.1 a.2.2.1.2 fp).isSome
    | _, _ => false)
  | none => false
def ys_hret (E : Nat) (K : ys_K) (b : ys_B) (fds : ys_F) (v : Option ys_V) : Bool := K.2.2.1.any (ys_hret1 E b fds v)
section YSE
variable {p : Program} {l : Launch} {e : Env} {R : Room} {s : State} {m : MethodId} {args : Array Value} {below : List Frame} {meth : Method} {c : Code} {Q : State → Prop} {kc kz : Nat} {D : va_G} {cl : List vw_C} {ad : Nat → Nat} {cT : Nat → ClassId} {sh : List ys_C} {A : Nat → Prop} {H0 : Heap} {nL : Nat} {mods : List Nat} {g0 : Nat → Nat → Int} {r0 : Nat → Int} {E : Nat} {pc : Nat} {b : ys_B} {fds : ys_F} {lv : List (Nat × ys_V)} {sv : List ys_V} {succ : List (Nat × ys_S)} {cc : ByteArray} {own : String} {Ts : List Cond} {tys : List (ClassId × FieldType)}
variable {G : List Cond} {K : ys_K}
theorem ys_kret {v : Option ys_V} {r rr : Nat → Int} {H : Heap} {locs : List Loc} {ls : Array Slot} {st : List Value} {aa : Array Value} (hE : K.2.1.2.1.1.length ≤ E) (hrr : ∀ i, i < K.2.1.2.1.1.length → r0 i = rr i) (hK : va_K D cl tys s) (h : ys_rep D cl ad cT sh (va_A (ys_wK ad cT sh K rr g0) s.heap.size) s.heap nL K.2.2.2 g0 r0 r E (b, fds, lv, sv) H locs ls st) (hs : ys_hret K.2.1.2.1.1.length K b fds v = true) :
    ∀ t : State, t.heap = H → s.WarmedH t.vm → ys_Post D cl ad cT sh tys K rr g0 s.heap.size aa s (.returned (v.map (ys_den ad r))) t := by
  intro t ht hW
  obtain ⟨a, ha, hs1⟩ := List.any_eq_true.mp hs
  clear hs
  obtain ⟨h1, h2, ⟨hEl, hr⟩, ⟨g, hg, hP, hD, hS⟩, -, -⟩ := h
  have key : ∀ (prs : List (ys_V × ys_V)) (fp : List (ys_V × ys_V)) (tt : List ys_L), ys_zf a.2.2.1.1 fds.1 = some fp → (∀ q ∈ fp, q ∈ prs) → ys_mat b fds.2 K.2.1.2.1.1.length a.1 a.2.1 a.2.2.1.2 prs = some tt → (a.2.2.2.map (ys_den ad (ys_val r K.2.1.2.1.1.length tt)) = v.map (ys_den ad r)) → ys_Post D cl ad cT sh tys K rr g0 s.heap.size aa s (.returned (v.map (ys_den ad r))) t := by
    intro prs fp tt hz hsub hm hv
    obtain ⟨-, e2, e3, e4, e5, e6, e7⟩ := ys_mat_ok (ad := ad) h1 hm
    have ew : ys_wld ad cT sh (ys_val r K.2.1.2.1.1.length tt) g a.2.2.1.1 = ys_wld ad cT sh r g fds.1 := ys_wld_eq (ys_zf_ok _ _ _ hz (fun q hq => e5 q (hsub q hq)))
    refine ⟨⟨a, ha, ys_val r K.2.1.2.1.1.length tt, g, fun i hi => ?_, fun i hi => ys_val_high (by omega), e3, e4, ⟨fun kk z hz => ?_, hg.2⟩, ?_, ?_, va_K.moved hW.alike hK, by rw [hv]⟩, hS.F ht⟩
    · rw [ys_val_low hi, hr i (Nat.lt_of_lt_of_le hi hE), hrr i hi]
    · obtain ⟨a0, g1, g2⟩ := e7 kk z hz
      exact ys_rle_ok g2 (hg.1 kk a0 g1)
    · rw [ew, ht]
      exact hP
    · rw [ew]
      exact hD
  unfold ys_hret1 at hs1
  split at hs1
  · rename_i fp hfp
    split at hs1
    · rename_i x y hx
      obtain ⟨tt, htt⟩ := Option.isSome_iff_exists.mp hs1
      refine key _ fp tt hfp (fun q hq => List.mem_cons_of_mem _ hq) htt ?_
      obtain ⟨-, -, -, -, e5, -⟩ := ys_mat_ok (ad := ad) h1 htt
      rw [hx]
      show some _ = some _
      rw [e5 (x, y) List.mem_cons_self]
    · rename_i hx
      obtain ⟨tt, htt⟩ := Option.isSome_iff_exists.mp hs1
      refine key _ fp tt hfp (fun q hq => hq) htt ?_
      rw [hx]
      rfl
    · cases hs1
  · cases hs1
end YSE
end
section
/-! one step, whatever the instruction -/
def ys_cfo32 (op : Int32 → Int32 → Int32) (F : ys_B → ys_L → ys_L → Option (ys_B × ys_L)) (b : ys_B) (x y : ys_L) : Option (ys_B × ys_L) := match x.1, y.1 with
  | [], [] => some (b, ([], (op (Int32.ofInt x.2) (Int32.ofInt y.2)).toInt))
  | _, _ => F b x y
def ys_cfo64 (op : Int64 → Int64 → Int64) (F : ys_B → ys_L → ys_L → Option (ys_B × ys_L)) (b : ys_B) (x y : ys_L) : Option (ys_B × ys_L) := match x.1, y.1 with
  | [], [] => some (b, ([], (op (Int64.ofInt x.2) (Int64.ofInt y.2)).toInt))
  | _, _ => F b x y
def ys_cfoLI (op : Int64 → Int32 → Int64) (F : ys_B → ys_L → ys_L → Option (ys_B × ys_L)) (b : ys_B) (x y : ys_L) : Option (ys_B × ys_L) := match x.1, y.1 with
  | [], [] => some (b, ([], (op (Int64.ofInt x.2) (Int32.ofInt y.2)).toInt))
  | _, _ => F b x y
theorem ys_cfo32_ok {op : Int32 → Int32 → Int32} {F : ys_B → ys_L → ys_L → Option (ys_B × ys_L)} (h : ys_B32 F op (fun _ => True)) : ys_B32 (ys_cfo32 op F) op (fun _ => True) := by
  intro r b x y o hb hs hx hy ho
  unfold ys_cfo32 at ho
  split at ho
  · rename_i h1 h2
    cases Option.some.inj ho
    refine ⟨trivial, ys_Op_same hb hs (ys_stb_cst _) ?_⟩
    show Int32.ofInt (ys_ev r (ys_cst _)) = _
    rw [ys_cst_ev, ys_ev_nil r h1, ys_ev_nil r h2, Int32.ofInt_toInt]
  · exact h r b x y o hb hs hx hy ho
theorem ys_cfo64_ok {op : Int64 → Int64 → Int64} {F : ys_B → ys_L → ys_L → Option (ys_B × ys_L)} (h : ys_B64 F op (fun _ => True)) : ys_B64 (ys_cfo64 op F) op (fun _ => True) := by
  intro r b x y o hb hs hx hy ho
  unfold ys_cfo64 at ho
  split at ho
  · rename_i h1 h2
    cases Option.some.inj ho
    refine ⟨trivial, ys_Op_same hb hs (ys_stb_cst _) ?_⟩
    show Int64.ofInt (ys_ev r (ys_cst _)) = _
    rw [ys_cst_ev, ys_ev_nil r h1, ys_ev_nil r h2, Int64.ofInt_toInt]
  · exact h r b x y o hb hs hx hy ho
theorem ys_cfoLI_ok {op : Int64 → Int32 → Int64} {F : ys_B → ys_L → ys_L → Option (ys_B × ys_L)} (h : ys_BLI F op) : ys_BLI (ys_cfoLI op F) op := by
  intro r b x y o hb hs hx hy ho
  unfold ys_cfoLI at ho
  split at ho
  · rename_i h1 h2
    cases Option.some.inj ho
    refine ys_Op_same hb hs (ys_stb_cst _) ?_
    show Int64.ofInt (ys_ev r (ys_cst _)) = _
    rw [ys_cst_ev, ys_ev_nil r h1, ys_ev_nil r h2, Int64.ofInt_toInt]
  · exact h r b x y o hb hs hx hy ho
def ys_g1 {α : Type} (n k : Nat) (x : Option α) : Option α := if n = k then x else none
theorem ys_g1_ok {α : Type} {n k : Nat} {x : Option α} {y : α} (h : ys_g1 n k x = some y) : n = k ∧ x = some y := by
  unfold ys_g1 at h
  split at h
  · rename_i e
    exact ⟨e, h⟩
  · cases h
abbrev ys_CA : Type := List ((Nat × Bool) × ys_K)
def ys_hinv (fr lo : Nat) (mods : List Nat) (idx : Nat) (st : Bool) (pc : Nat) (b : ys_B) (fds : ys_F) (lv : List (Nat × ys_V)) (sv : List ys_V) : ys_CA → Option (List (Nat × ys_S))
  | [] => none
  | q :: t => if q.1 = (idx, st) then (match ys_hcall fr lo mods q.2 pc b fds lv sv with
    | some x => some x
    | none => ys_hinv fr lo mods idx st pc b fds lv sv t) else ys_hinv fr lo mods idx st pc b fds lv sv t
def ys_hldc (tab : List (Nat × Int)) (idx : Nat) (w : Bool) (pc : Nat) (b : ys_B) (fds : ys_F) (lv : List (Nat × ys_V)) (sv : List ys_V) : Option (List (Nat × ys_S)) := match tab.lookup idx with
  | some z => some [(pc, b, fds, lv, (if w then .inl (.inr ([], z)) else .inl (.inl ([], z))) :: sv)]
  | none => none
def ys_iret (K : ys_K) (b : ys_B) (fds : ys_F) (sv : List ys_V) : Option (List (Nat × ys_S)) := match sv with
  | [.inl (.inl x)] => if (decide (K.1.1.2.2.2 = some .int) || (decide (K.1.1.2.2.2 = some .boolean) && (ys_geb b.1 x 0 && ys_geb b.1 (ys_scale (-1) x) (-1)))) && ys_hret K.2.1.2.1.1.length K b fds (some (.inl (.inl x))) then some [] else none
  | _ => none
def ys_lret (K : ys_K) (b : ys_B) (fds : ys_F) (sv : List ys_V) : Option (List (Nat × ys_S)) := match sv with
  | [.inl (.inr x)] => if decide (K.1.1.2.2.2 = some .long) && ys_hret K.2.1.2.1.1.length K b fds (some (.inl (.inr x))) then some [] else none
  | _ => none
def ys_vret (K : ys_K) (b : ys_B) (fds : ys_F) (sv : List ys_V) : Option (List (Nat × ys_S)) := match sv with
  | [] => if decide (K.1.1.2.2.2 = none) && ys_hret K.2.1.2.1.1.length K b fds none then some [] else none
  | _ => none
def ys_or {α : Type} (x y : Option α) : Option α := match x with
  | some z => some z
  | none => y
def ys_stp (sh : List ys_C) (fl : ys_FL) (ci cj : List (Nat × Int)) (calls : ys_CA) (cps : List Nat) (K : ys_K) (nx : Nat → Option (Instr × Nat)) (pc : Nat) (b : ys_B) (fds : ys_F) (lv : List (Nat × ys_V)) (sv : List ys_V) (i : Instr) (n : Nat) : Option (List (Nat × ys_S)) := match i with
  | .iconst z => ys_g1 n 1 (ys_hpush (pc + 1) b fds lv sv (.inl (.inl ([], z))))
  | .lconst z => ys_g1 n 1 (ys_hpush (pc + 1) b fds lv sv (.inl (.inr ([], ((z : Nat) : Int)))))
  | .bipush z => if -128 ≤ z ∧ z ≤ 127 then ys_g1 n 2 (ys_hpush (pc + 2) b fds lv sv (.inl (.inl ([], z)))) else none
  | .sipush z => if -32768 ≤ z ∧ z ≤ 32767 then ys_g1 n 3 (ys_hpush (pc + 3) b fds lv sv (.inl (.inl ([], z)))) else none
  | .ldc k => ys_g1 n 2 (ys_hldc ci k false (pc + 2) b fds lv sv)
  | .ldc_w k => ys_g1 n 3 (ys_hldc ci k false (pc + 3) b fds lv sv)
  | .ldc2_w k => ys_g1 n 3 (ys_hldc cj k true (pc + 3) b fds lv sv)
  | .iload_n k => ys_g1 n 1 (ys_hload 0 k (pc + 1) b fds lv sv)
  | .iload k => ys_g1 n 2 (ys_hload 0 k (pc + 2) b fds lv sv)
  | .lload_n k => ys_g1 n 1 (ys_hload 1 k (pc + 1) b fds lv sv)
  | .lload k => ys_g1 n 2 (ys_hload 1 k (pc + 2) b fds lv sv)
  | .aload_n k => ys_g1 n 1 (ys_hload 2 k (pc + 1) b fds lv sv)
  | .aload k => ys_g1 n 2 (ys_hload 2 k (pc + 2) b fds lv sv)
  | .istore_n k => ys_g1 n 1 (ys_hstore 0 K.1.1.2.2.1 k (pc + 1) b fds lv sv)
  | .istore k => ys_g1 n 2 (ys_hstore 0 K.1.1.2.2.1 k (pc + 2) b fds lv sv)
  | .lstore_n k => ys_g1 n 1 (ys_hstore 1 K.1.1.2.2.1 k (pc + 1) b fds lv sv)
  | .lstore k => ys_g1 n 2 (ys_hstore 1 K.1.1.2.2.1 k (pc + 2) b fds lv sv)
  | .astore_n k => ys_g1 n 1 (ys_hstore 2 K.1.1.2.2.1 k (pc + 1) b fds lv sv)
  | .astore k => ys_g1 n 2 (ys_hstore 2 K.1.1.2.2.1 k (pc + 2) b fds lv sv)
  | .iinc k z => ys_g1 n 3 (ys_hinc K.1.1.2.2.1 k z pc b fds lv sv)
  | .iadd => ys_g1 n 1 (ys_hb32 (ys_fadd false) pc b fds lv sv)
  | .isub => ys_g1 n 1 (ys_hb32 (ys_fsub false) pc b fds lv sv)
  | .imul => ys_g1 n 1 (ys_hb32 (ys_fmul false) pc b fds lv sv)
  | .iand => ys_g1 n 1 (ys_hb32 (ys_cfo32 (fun x y => x &&& y) (ys_fand false)) pc b fds lv sv)
  | .ior => ys_g1 n 1 (ys_hb32 (ys_cfo32 (fun x y => x ||| y) ys_for) pc b fds lv sv)
  | .ixor => ys_g1 n 1 (ys_hb32 (ys_cfo32 (fun x y => x ^^^ y) ys_fxor) pc b fds lv sv)
  | .ishl => ys_g1 n 1 (ys_hb32 (ys_cfo32 (fun x y => x <<< (y &&& 31)) (ys_fshl false)) pc b fds lv sv)
  | .ishr => ys_g1 n 1 (ys_hb32 (ys_cfo32 (fun x y => x >>> (y &&& 31)) ys_fshr) pc b fds lv sv)
  | .iushr => ys_g1 n 1 (ys_hb32 (ys_cfo32 (fun x y => (x.toUInt32 >>> (y.toUInt32 &&& Int32.toUInt32 31)).toInt32) (ys_fany false)) pc b fds lv sv)
  | .idiv => ys_g1 n 1 (ys_hqs (ys_fdiv false) pc b fds lv sv)
  | .irem => ys_g1 n 1 (ys_hqs (ys_frem false) pc b fds lv sv)
  | .ineg => ys_g1 n 1 (ys_hu32 (ys_fneg false) pc b fds lv sv)
  | .i2b => ys_g1 n 1 (ys_hu32 (ys_fcut 7) pc b fds lv sv)
  | .i2s => ys_g1 n 1 (ys_hu32 (ys_fcut 15) pc b fds lv sv)
  | .i2l => ys_g1 n 1 (ys_hi2l pc b fds lv sv)
  | .l2i => ys_g1 n 1 (ys_hl2i pc b fds lv sv)
  | .ladd => ys_g1 n 1 (ys_hb64 (ys_fadd true) pc b fds lv sv)
  | .lsub => ys_g1 n 1 (ys_hb64 (ys_fsub true) pc b fds lv sv)
  | .lmul => ys_g1 n 1 (ys_hb64 (ys_fmul true) pc b fds lv sv)
  | .land => ys_g1 n 1 (ys_hb64 (ys_cfo64 (fun x y => x &&& y) (ys_fand true)) pc b fds lv sv)
  | .lor => ys_g1 n 1 (ys_hb64 (ys_cfo64 (fun x y => x ||| y) (ys_fany true)) pc b fds lv sv)
  | .lxor => ys_g1 n 1 (ys_hb64 (ys_cfo64 (fun x y => x ^^^ y) (ys_fany true)) pc b fds lv sv)
  | .ldiv => ys_g1 n 1 (ys_hb64 (ys_fdiv true) pc b fds lv sv)
  | .lrem => ys_g1 n 1 (ys_hb64 (ys_frem true) pc b fds lv sv)
  | .lneg => ys_g1 n 1 (ys_hu64 (ys_fneg true) pc b fds lv sv)
  | .lshl => ys_g1 n 1 (ys_hbLI (ys_cfoLI (fun x y => x <<< (y.toInt64 &&& 63)) (ys_fshl true)) pc b fds lv sv)
  | .lshr => ys_g1 n 1 (ys_hbLI (ys_cfoLI (fun x y => x >>> (y.toInt64 &&& 63)) (ys_fany true)) pc b fds lv sv)
  | .lushr => ys_g1 n 1 (ys_hbLI (ys_cfoLI (fun x y => (x.toUInt64 >>> (y.toInt64.toUInt64 &&& Int64.toUInt64 63)).toInt64) (ys_fany true)) pc b fds lv sv)
  | .lcmp => ys_g1 n 1 (ys_hlcmp (nx (pc + 1)) pc b fds lv sv)
  | .if_icmp cd off => ys_g1 n 3 (ys_hcmp cd off pc b fds lv sv)
  | .ifCond cd off => ys_g1 n 3 (ys_hif cd off pc b fds lv sv)
  | .goto off => ys_g1 n 3 (ys_hgoto off pc b fds lv sv)
  | .tableswitch dflt lo hi offs => ys_htab dflt lo hi offs pc b fds lv sv
  | .lookupswitch dflt ps => ys_hlook dflt ps pc b fds lv sv
  | .dup => ys_g1 n 1 (ys_hdup pc b fds lv sv)
  | .dup2 => ys_g1 n 1 (ys_hdup2 pc b fds lv sv)
  | .pop => ys_g1 n 1 (ys_hpop pc b fds lv sv)
  | .pop2 => ys_g1 n 1 (ys_hpop2 pc b fds lv sv)
  | .getfield k => ys_g1 n 3 (ys_hget sh fl k pc b fds lv sv)
  | .putfield k => ys_g1 n 3 (ys_hput sh fl k pc b fds lv sv)
  | .iaload => ys_g1 n 1 (ys_hiald sh pc b fds lv sv)
  | .laload => ys_g1 n 1 (ys_hlald sh pc b fds lv sv)
  | .baload => ys_g1 n 1 (ys_or (ys_hbald sh pc b fds lv sv) (ys_hzald sh pc b fds lv sv))
  | .aaload => ys_g1 n 1 (ys_haald sh pc b fds lv sv)
  | .iastore => ys_g1 n 1 (ys_hiast sh K.2.2.2 pc b fds lv sv)
  | .lastore => ys_g1 n 1 (ys_hlast sh K.2.2.2 pc b fds lv sv)
  | .bastore => ys_g1 n 1 (ys_or (ys_hbast sh K.2.2.2 pc b fds lv sv) (ys_hzast sh K.2.2.2 pc b fds lv sv))
  | .arraylength => ys_g1 n 1 (ys_halen sh pc b fds lv sv)
  | .invokevirtual k => ys_g1 n 3 (ys_hinv K.1.2.1 K.1.2.2 K.2.2.2 k false pc b fds lv sv calls)
  | .invokestatic k => if 100000 ≤ k then none else if cps.contains k && decide (1 ≤ K.1.2.1) then ys_g1 n 3 (ys_hcopy K.1.2.2 sh K.2.2.2 pc b fds lv sv) else if cps.contains (100000 + k) then ys_g1 n 3 (ys_hmm true K.1.2.1 K.1.2.2 pc b fds lv sv) else if cps.contains (200000 + k) then ys_g1 n 3 (ys_hmm false K.1.2.1 K.1.2.2 pc b fds lv sv) else ys_g1 n 3 (ys_hinv K.1.2.1 K.1.2.2 K.2.2.2 k true pc b fds lv sv calls)
  | .ireturn => ys_g1 n 1 (ys_iret K b fds sv)
  | .lreturn => ys_g1 n 1 (ys_lret K b fds sv)
  | .return_ => ys_g1 n 1 (ys_vret K b fds sv)
  | _ => none
def ys_Ty (tys : List (ClassId × FieldType)) (cT : Nat → ClassId) (sh : List ys_C) : Prop := tys[0]? = some (cT 0, .int) ∧ tys[1]? = some (cT 1, .long) ∧ tys[2]? = some (cT 2, .byte) ∧ tys[3]? = some (cT 3, .boolean) ∧ (∀ (k : Nat) (y : Nat × Nat × List Nat), sh[k]? = some (.inr y) → ∃ t, tys[y.1]? = some (cT y.1, t)) ∧ ∀ (k : Nat) (y : Nat × Nat × List Nat), sh[k]? = some (.inr y) → 4 ≤ y.1 → ∃ C, tys[y.1]? = some (cT y.1, .object C)
/-- what the code's links say -/
def ys_Lk (own : String) (Ts : List Cond) (cl : List vw_C) (fl : ys_FL) (ci cj : List (Nat × Int)) (cps : List Nat) : Prop := (∀ idx c j tk, fl.lookup idx = some (c, j, tk) → ys_Fl own Ts cl idx c j tk) ∧ (∀ idx z, ci.lookup idx = some z → Cond.constant own idx (Int32.ofInt z) ∈ Ts) ∧ (∀ idx z, cj.lookup idx = some z → Cond.constantLong own idx (Int64.ofInt z) ∈ Ts) ∧ ∀ v, v ∈ cps → ys_Cp own Ts v
section YSD
variable {p : Program} {l : Launch} {e : Env} {R : Room} {s : State} {m : MethodId} {args : Array Value} {below : List Frame} {meth : Method} {c : Code} {Q : State → Prop} {kc kz : Nat} {D : va_G} {cl : List vw_C} {ad : Nat → Nat} {cT : Nat → ClassId} {sh : List ys_C} {A : Nat → Prop} {H0 : Heap} {nL : Nat} {mods : List Nat} {g0 : Nat → Nat → Int} {r0 : Nat → Int} {E : Nat} {pc : Nat} {b : ys_B} {fds : ys_F} {lv : List (Nat × ys_V)} {sv : List ys_V} {succ : List (Nat × ys_S)} {cc : ByteArray} {own : String} {Ts : List Cond} {tys : List (ClassId × FieldType)}
variable {G : List Cond} {K : ys_K} {fl : ys_FL} {ci cj : List (Nat × Int)} {calls : ys_CA} {cps : List Nat} {nx : Nat → Option (Instr × Nat)} {rr : Nat → Int}
theorem ys_kinv {idx : Nat} {st : Bool} {fr lo : Nat} (S : CallFix p m c cc nL s args Ts own) (hK : va_K D cl tys s) (hA0 : ∀ q, H0.size ≤ q → A q) (hfr : fr ≤ R.frames) (hlo : lo ≤ R.locals) (hkk : kc ≤ R.cells ∧ kz ≤ R.slots) (hd : decode cc pc = .ok (if st = true then .invokestatic idx else .invokevirtual idx, 3)) (k : ∀ q ∈ succ, ys_W p l e R s m args below meth c Q kc kz D cl ad cT sh A H0 nL mods g0 r0 E q.1 q.2) : ∀ (cs : ys_CA), (∀ q ∈ cs, ys_Con l D cl ad cT sh tys G q.2 ∧ ys_CL own Ts cl sh G (if q.1.2 = true then .invokestatic q.1.1 else .invokevirtual q.1.1) q.2) → ys_hinv fr lo mods idx st pc b fds lv sv cs = some succ → ys_W p l e R s m args below meth c Q kc kz D cl ad cT sh A H0 nL mods g0 r0 E pc (b, fds, lv, sv)
  | [], _, hs => by cases hs
  | q :: t, hc, hs => by
    have ht : ∀ x ∈ t, ys_Con l D cl ad cT sh tys G x.2 ∧ ys_CL own Ts cl sh G (if x.1.2 = true then .invokestatic x.1.1 else .invokevirtual x.1.1) x.2 := fun x hx => hc x (List.mem_cons_of_mem _ hx)
    unfold ys_hinv at hs
    split at hs
    · rename_i he
      split at hs
      · rename_i x hx
        cases Option.some.inj hs
        obtain ⟨h1, h2⟩ := hc q List.mem_cons_self
        rw [he] at h2
        exact ys_kcall S hK hA0 h1 h2 hd hfr hlo hkk hx k
      · exact ys_kinv S hK hA0 hfr hlo hkk hd k t ht hs
    · exact ys_kinv S hK hA0 hfr hlo hkk hd k t ht hs
theorem ys_bip {z : Int} (h1 : -128 ≤ z) (h2 : z ≤ 127) : (Int8.ofInt z).toInt32 = Int32.ofInt z := by
  apply Int32.toInt_inj.mp
  rw [Int8.toInt_toInt32, Int8.toInt_ofInt_of_le (by omega) (by omega), Int32.toInt_ofInt_of_le (by omega) (by omega)]
theorem ys_sip {z : Int} (h1 : -32768 ≤ z) (h2 : z ≤ 32767) : (Int16.ofInt z).toInt32 = Int32.ofInt z := by
  apply Int32.toInt_inj.mp
  rw [Int16.toInt_toInt32, Int16.toInt_ofInt_of_le (by omega) (by omega), Int32.toInt_ofInt_of_le (by omega) (by omega)]
theorem ys_ev0 (r : Nat → Int) (z : Int) : ys_ev r (([], z) : ys_L) = z := Int.zero_add z
theorem ys_or_ok {α : Type} {x y : Option α} {z : α} (h : ys_or x y = some z) : x = some z ∨ y = some z := by
  unfold ys_or at h
  split at h
  · exact Or.inl h
  · exact Or.inr h
def ys_isr (i : Instr) : Bool := match i with
  | .ireturn => true
  | .lreturn => true
  | .return_ => true
  | _ => false
set_option maxHeartbeats 4000000 in
theorem ys_stp_gen {i : Instr} {n : Nat} (S : CallFix p m c cc nL s args Ts own) (hnL : K.1.1.2.2.1 = nL) (hmods : K.2.2.2 = mods) (hfr : K.1.2.1 ≤ R.frames) (hlo : K.1.2.2 ≤ R.locals) (hkk : kc ≤ R.cells ∧ kz ≤ R.slots) (hA0 : ∀ q, H0.size ≤ q → A q) (hK : va_K D cl tys s) (hty : ys_Ty tys cT sh) (hLk : ys_Lk own Ts cl fl ci cj cps) (hcalls : ∀ q ∈ calls, ys_Con l D cl ad cT sh tys G q.2 ∧ ys_CL own Ts cl sh G (if q.1.2 = true then .invokestatic q.1.1 else .invokevirtual q.1.1) q.2) (hnx : ∀ pc i, nx pc = some i → decode cc pc = .ok i) (hd : decode cc pc = .ok (i, n))
    (hs : ys_stp sh fl ci cj calls cps K nx pc b fds lv sv i n = some succ) (hret : ys_isr i = true → ys_W p l e R s m args below meth c Q kc kz D cl ad cT sh A H0 nL mods g0 r0 E pc (b, fds, lv, sv))
    (k : ∀ q ∈ succ, ys_W p l e R s m args below meth c Q kc kz D cl ad cT sh A H0 nL mods g0 r0 E q.1 q.2) : ys_W p l e R s m args below meth c Q kc kz D cl ad cT sh A H0 nL mods g0 r0 E pc (b, fds, lv, sv) := by
  subst hnL
  subst hmods
  have hexec := S.1
  have hb := S.2.1
  have hml := S.2.2.1
  have hown := S.2.2.2.1
  have hts := S.2.2.2.2
  obtain ⟨hfl, hci, hcj, hcps⟩ := hLk
  obtain ⟨t0, t1, t2, t3, t4, t5⟩ := hty
  cases i with
  | iconst z =>
    obtain ⟨e0, hs1⟩ := ys_g1_ok hs
    subst e0
    clear hs
    exact ys_kpush (v := .inl (.inl ([], z))) (fun _ => ys_stb_cst _) (fun r H locs ls rest kk => lv_iconst hexec hb hd (by rw [ys_ev0]) kk) hs1 k
  | lconst z =>
    obtain ⟨e0, hs1⟩ := ys_g1_ok hs
    subst e0
    clear hs
    exact ys_kpush (v := .inl (.inr ([], ((z : Nat) : Int)))) (fun _ => ys_stb_cst _) (fun r H locs ls rest kk => lv_lconst hexec hb hd (by rw [ys_ev0, Int64.ofInt_eq_ofNat]) kk) hs1 k
  | bipush z =>
    have hs : (if -128 ≤ z ∧ z ≤ 127 then ys_g1 n 2 (ys_hpush (pc + 2) b fds lv sv (.inl (.inl ([], z)))) else none) = some succ := hs
    split at hs
    · rename_i hz
      obtain ⟨e0, hs1⟩ := ys_g1_ok hs
      subst e0
      clear hs
      exact ys_kpush (v := .inl (.inl ([], z))) (fun _ => ys_stb_cst _) (fun r H locs ls rest kk => lv_bipush hexec hb hd (by rw [ys_ev0]; exact ys_bip hz.1 hz.2) kk) hs1 k
    · cases hs
  | sipush z =>
    have hs : (if -32768 ≤ z ∧ z ≤ 32767 then ys_g1 n 3 (ys_hpush (pc + 3) b fds lv sv (.inl (.inl ([], z)))) else none) = some succ := hs
    split at hs
    · rename_i hz
      obtain ⟨e0, hs1⟩ := ys_g1_ok hs
      subst e0
      clear hs
      exact ys_kpush (v := .inl (.inl ([], z))) (fun _ => ys_stb_cst _) (fun r H locs ls rest kk => lv_sipush hexec hb hd (by rw [ys_ev0]; exact ys_sip hz.1 hz.2) kk) hs1 k
    · cases hs
  | ldc x =>
    obtain ⟨e0, hs1⟩ := ys_g1_ok hs
    subst e0
    clear hs
    unfold ys_hldc at hs1
    split at hs1
    · rename_i z hz
      exact ys_kpush (v := .inl (.inl ([], z))) (fun _ => ys_stb_cst _) (fun r H locs ls rest kk => lv_ldc hexec hb hown (hts _ (hci _ _ hz)) hd (by rw [← ys_ev0 r z]; exact kk)) hs1 k
    · cases hs1
  | ldc_w x =>
    obtain ⟨e0, hs1⟩ := ys_g1_ok hs
    subst e0
    clear hs
    unfold ys_hldc at hs1
    split at hs1
    · rename_i z hz
      exact ys_kpush (v := .inl (.inl ([], z))) (fun _ => ys_stb_cst _) (fun r H locs ls rest kk => lv_ldcw hexec hb hown (hts _ (hci _ _ hz)) hd (by rw [← ys_ev0 r z]; exact kk)) hs1 k
    · cases hs1
  | ldc2_w x =>
    obtain ⟨e0, hs1⟩ := ys_g1_ok hs
    subst e0
    clear hs
    unfold ys_hldc at hs1
    split at hs1
    · rename_i z hz
      exact ys_kpush (v := .inl (.inr ([], z))) (fun _ => ys_stb_cst _) (fun r H locs ls rest kk => lv_ldc2 hexec hb hown (hts _ (hcj _ _ hz)) hd (by rw [← ys_ev0 r z]; exact kk)) hs1 k
    · cases hs1

  | iload_n x =>
    obtain ⟨e0, hs1⟩ := ys_g1_ok hs
    subst e0
    clear hs
    exact ys_kload (fun r v H locs ls rest hk hl kk => by
      obtain ⟨y, rfl⟩ := ys_kind0 hk
      exact lv_iload_n hexec hb hd rfl hl kk) hs1 k
  | lload_n x =>
    obtain ⟨e0, hs1⟩ := ys_g1_ok hs
    subst e0
    clear hs
    exact ys_kload (fun r v H locs ls rest hk hl kk => by
      obtain ⟨y, rfl⟩ := ys_kind1 hk
      exact lv_lload_n hexec hb hd rfl hl kk) hs1 k
  | aload_n x =>
    obtain ⟨e0, hs1⟩ := ys_g1_ok hs
    subst e0
    clear hs
    exact ys_kload (fun r v H locs ls rest hk hl kk => by
      obtain ⟨y, rfl⟩ := ys_kind2 hk
      exact lv_aload_n hexec hb hd rfl hl kk) hs1 k
  | iload x =>
    obtain ⟨e0, hs1⟩ := ys_g1_ok hs
    subst e0
    clear hs
    exact ys_kload (fun r v H locs ls rest hk hl kk => by
      obtain ⟨y, rfl⟩ := ys_kind0 hk
      exact lv_iload hexec hb hd hl kk) hs1 k
  | lload x =>
    obtain ⟨e0, hs1⟩ := ys_g1_ok hs
    subst e0
    clear hs
    exact ys_kload (fun r v H locs ls rest hk hl kk => by
      obtain ⟨y, rfl⟩ := ys_kind1 hk
      exact lv_lload hexec hb hd hl kk) hs1 k
  | aload x =>
    obtain ⟨e0, hs1⟩ := ys_g1_ok hs
    subst e0
    clear hs
    exact ys_kload (fun r v H locs ls rest hk hl kk => by
      obtain ⟨y, rfl⟩ := ys_kind2 hk
      exact lv_aload hexec hb hd hl kk) hs1 k
  | istore_n x =>
    obtain ⟨e0, hs1⟩ := ys_g1_ok hs
    subst e0
    clear hs
    exact ys_kstore (fun r v H locs ls rest hk hl hi kk => by
      obtain ⟨y, rfl⟩ := ys_kind0 hk
      exact lv_istore_n (lv' := ys_lvs ad r (ys_st1 lv x (.inl (.inl y)))) hexec hb hd rfl hl hi (ys_st1_lvs ad r lv x (.inl (.inl y))).symm kk) hs1 k
  | lstore_n x =>
    obtain ⟨e0, hs1⟩ := ys_g1_ok hs
    subst e0
    clear hs
    exact ys_kstore (fun r v H locs ls rest hk hl hi kk => by
      obtain ⟨y, rfl⟩ := ys_kind1 hk
      exact lv_lstore_n (lv' := ys_lvs ad r (ys_st2 lv x (.inl (.inr y)))) hexec hb hd rfl hl hi (ys_st2_lvs ad r lv x (.inl (.inr y))).symm kk) hs1 k
  | astore_n x =>
    obtain ⟨e0, hs1⟩ := ys_g1_ok hs
    subst e0
    clear hs
    exact ys_kstore (fun r v H locs ls rest hk hl hi kk => by
      obtain ⟨y, rfl⟩ := ys_kind2 hk
      exact lv_astore_n (lv' := ys_lvs ad r (ys_st1 lv x (.inr (some y)))) hexec hb hd rfl hl hi (ys_st1_lvs ad r lv x (.inr (some y))).symm kk) hs1 k
  | istore x =>
    obtain ⟨e0, hs1⟩ := ys_g1_ok hs
    subst e0
    clear hs
    exact ys_kstore (fun r v H locs ls rest hk hl hi kk => by
      obtain ⟨y, rfl⟩ := ys_kind0 hk
      exact lv_istore (lv' := ys_lvs ad r (ys_st1 lv x (.inl (.inl y)))) hexec hb hd hl hi (ys_st1_lvs ad r lv x (.inl (.inl y))).symm kk) hs1 k
  | lstore x =>
    obtain ⟨e0, hs1⟩ := ys_g1_ok hs
    subst e0
    clear hs
    exact ys_kstore (fun r v H locs ls rest hk hl hi kk => by
      obtain ⟨y, rfl⟩ := ys_kind1 hk
      exact lv_lstore (lv' := ys_lvs ad r (ys_st2 lv x (.inl (.inr y)))) hexec hb hd hl hi (ys_st2_lvs ad r lv x (.inl (.inr y))).symm kk) hs1 k
  | astore x =>
    obtain ⟨e0, hs1⟩ := ys_g1_ok hs
    subst e0
    clear hs
    exact ys_kstore (fun r v H locs ls rest hk hl hi kk => by
      obtain ⟨y, rfl⟩ := ys_kind2 hk
      exact lv_astore (lv' := ys_lvs ad r (ys_st1 lv x (.inr (some y)))) hexec hb hd hl hi (ys_st1_lvs ad r lv x (.inr (some y))).symm kk) hs1 k
  | iinc x z =>
    obtain ⟨e0, hs1⟩ := ys_g1_ok hs
    subst e0
    clear hs
    exact ys_kinc hexec hb hd hs1 k
  | iadd =>
    obtain ⟨e0, hs1⟩ := ys_g1_ok hs
    subst e0
    clear hs
    exact ys_kb32 ys_fadd32 (fun X Y H locs ls rest hok kk => lv_iadd hexec hb hd kk) hs1 k
  | isub =>
    obtain ⟨e0, hs1⟩ := ys_g1_ok hs
    subst e0
    clear hs
    exact ys_kb32 ys_fsub32 (fun X Y H locs ls rest hok kk => lv_isub hexec hb hd kk) hs1 k
  | imul =>
    obtain ⟨e0, hs1⟩ := ys_g1_ok hs
    subst e0
    clear hs
    exact ys_kb32 ys_fmul32 (fun X Y H locs ls rest hok kk => lv_imul hexec hb hd kk) hs1 k
  | iand =>
    obtain ⟨e0, hs1⟩ := ys_g1_ok hs
    subst e0
    clear hs
    exact ys_kb32 (ys_cfo32_ok ys_fand32) (fun X Y H locs ls rest hok kk => lv_iand hexec hb hd kk) hs1 k
  | ior =>
    obtain ⟨e0, hs1⟩ := ys_g1_ok hs
    subst e0
    clear hs
    exact ys_kb32 (ys_cfo32_ok ys_or32) (fun X Y H locs ls rest hok kk => lv_ior hexec hb hd kk) hs1 k
  | ixor =>
    obtain ⟨e0, hs1⟩ := ys_g1_ok hs
    subst e0
    clear hs
    exact ys_kb32 (ys_cfo32_ok ys_fxor32) (fun X Y H locs ls rest hok kk => lv_ixor hexec hb hd kk) hs1 k
  | ishl =>
    obtain ⟨e0, hs1⟩ := ys_g1_ok hs
    subst e0
    clear hs
    exact ys_kb32 (ys_cfo32_ok ys_fshl32) (fun X Y H locs ls rest hok kk => lv_ishl hexec hb hd kk) hs1 k
  | ishr =>
    obtain ⟨e0, hs1⟩ := ys_g1_ok hs
    subst e0
    clear hs
    exact ys_kb32 (ys_cfo32_ok ys_fshr32) (fun X Y H locs ls rest hok kk => lv_ishr hexec hb hd kk) hs1 k
  | iushr =>
    obtain ⟨e0, hs1⟩ := ys_g1_ok hs
    subst e0
    clear hs
    exact ys_kb32 (ys_cfo32_ok (ys_fany32 _)) (fun X Y H locs ls rest hok kk => lv_iushr hexec hb hd rfl kk) hs1 k
  | idiv =>
    obtain ⟨e0, hs1⟩ := ys_g1_ok hs
    subst e0
    clear hs
    exact ys_kqs ys_fdiv32 (fun X Y H locs ls rest hok kk => lv_idiv hexec hb hd hok kk) hs1 k
  | irem =>
    obtain ⟨e0, hs1⟩ := ys_g1_ok hs
    subst e0
    clear hs
    exact ys_kqs ys_frem32 (fun X Y H locs ls rest hok kk => lv_irem hexec hb hd hok kk) hs1 k
  | ladd =>
    obtain ⟨e0, hs1⟩ := ys_g1_ok hs
    subst e0
    clear hs
    exact ys_kb64 ys_fadd64 (fun X Y H locs ls rest hok kk => lv_ladd hexec hb hd kk) hs1 k
  | lsub =>
    obtain ⟨e0, hs1⟩ := ys_g1_ok hs
    subst e0
    clear hs
    exact ys_kb64 ys_fsub64 (fun X Y H locs ls rest hok kk => lv_lsub hexec hb hd kk) hs1 k
  | lmul =>
    obtain ⟨e0, hs1⟩ := ys_g1_ok hs
    subst e0
    clear hs
    exact ys_kb64 ys_fmul64 (fun X Y H locs ls rest hok kk => lv_lmul hexec hb hd kk) hs1 k
  | land =>
    obtain ⟨e0, hs1⟩ := ys_g1_ok hs
    subst e0
    clear hs
    exact ys_kb64 (ys_cfo64_ok ys_fand64) (fun X Y H locs ls rest hok kk => lv_land hexec hb hd kk) hs1 k
  | lor =>
    obtain ⟨e0, hs1⟩ := ys_g1_ok hs
    subst e0
    clear hs
    exact ys_kb64 (ys_cfo64_ok (ys_fany64 _)) (fun X Y H locs ls rest hok kk => lv_lor hexec hb hd kk) hs1 k
  | lxor =>
    obtain ⟨e0, hs1⟩ := ys_g1_ok hs
    subst e0
    clear hs
    exact ys_kb64 (ys_cfo64_ok (ys_fany64 _)) (fun X Y H locs ls rest hok kk => lv_lxor hexec hb hd kk) hs1 k
  | ldiv =>
    obtain ⟨e0, hs1⟩ := ys_g1_ok hs
    subst e0
    clear hs
    exact ys_kb64 ys_fdiv64 (fun X Y H locs ls rest hok kk => lv_ldiv hexec hb hd hok kk) hs1 k
  | lrem =>
    obtain ⟨e0, hs1⟩ := ys_g1_ok hs
    subst e0
    clear hs
    exact ys_kb64 ys_frem64 (fun X Y H locs ls rest hok kk => lv_lrem hexec hb hd hok kk) hs1 k
  | lshl =>
    obtain ⟨e0, hs1⟩ := ys_g1_ok hs
    subst e0
    clear hs
    exact ys_kbLI (ys_cfoLI_ok ys_fshl64) (fun X Y H locs ls rest kk => lv_lshl hexec hb hd rfl kk) hs1 k
  | lshr =>
    obtain ⟨e0, hs1⟩ := ys_g1_ok hs
    subst e0
    clear hs
    exact ys_kbLI (ys_cfoLI_ok (ys_fanyLI _)) (fun X Y H locs ls rest kk => lv_lshr hexec hb hd rfl kk) hs1 k
  | lushr =>
    obtain ⟨e0, hs1⟩ := ys_g1_ok hs
    subst e0
    clear hs
    exact ys_kbLI (ys_cfoLI_ok (ys_fanyLI _)) (fun X Y H locs ls rest kk => lv_lushr hexec hb hd rfl kk) hs1 k
  | ineg =>
    obtain ⟨e0, hs1⟩ := ys_g1_ok hs
    subst e0
    clear hs
    exact ys_ku32 (fun r b x h1 h2 h3 => ys_fneg32 h1 h2 h3) (fun X H locs ls rest kk => lv_ineg hexec hb hd kk) hs1 k
  | i2b =>
    obtain ⟨e0, hs1⟩ := ys_g1_ok hs
    subst e0
    clear hs
    exact ys_ku32 (fun r b x h1 h2 h3 => ys_fi2b h1 h2 h3) (fun X H locs ls rest kk => lv_i2b hexec hb hd rfl kk) hs1 k
  | i2s =>
    obtain ⟨e0, hs1⟩ := ys_g1_ok hs
    subst e0
    clear hs
    exact ys_ku32 (fun r b x h1 h2 h3 => ys_fi2s h1 h2 h3) (fun X H locs ls rest kk => lv_i2s hexec hb hd rfl kk) hs1 k
  | lneg =>
    obtain ⟨e0, hs1⟩ := ys_g1_ok hs
    subst e0
    clear hs
    exact ys_ku64 (fun r b x h1 h2 h3 => ys_fneg64 h1 h2 h3) (fun X H locs ls rest kk => lv_lneg hexec hb hd kk) hs1 k
  | i2l =>
    obtain ⟨e0, hs1⟩ := ys_g1_ok hs
    subst e0
    clear hs
    exact ys_ki2l hexec hb hd hs1 k
  | l2i =>
    obtain ⟨e0, hs1⟩ := ys_g1_ok hs
    subst e0
    clear hs
    exact ys_kl2i hexec hb hd hs1 k
  | lcmp =>
    obtain ⟨e0, hs1⟩ := ys_g1_ok hs
    subst e0
    clear hs
    exact ys_klcmp hexec hb hd (fun i hi => hnx _ _ hi) hs1 k
  | if_icmp cd off =>
    obtain ⟨e0, hs1⟩ := ys_g1_ok hs
    subst e0
    clear hs
    exact ys_kcmp hexec hb hd hs1 k
  | ifCond cd off =>
    obtain ⟨e0, hs1⟩ := ys_g1_ok hs
    subst e0
    clear hs
    exact ys_kif hexec hb hd hs1 k
  | goto off =>
    obtain ⟨e0, hs1⟩ := ys_g1_ok hs
    subst e0
    clear hs
    exact ys_kgoto hexec hb hd hs1 k
  | tableswitch dflt lo hi offs => exact ys_ktab hexec hb hd hs k
  | lookupswitch dflt ps => exact ys_klook hexec hb hd hs k
  | dup =>
    obtain ⟨e0, hs1⟩ := ys_g1_ok hs
    subst e0
    clear hs
    exact ys_kdup hexec hb hd hs1 k
  | dup2 =>
    obtain ⟨e0, hs1⟩ := ys_g1_ok hs
    subst e0
    clear hs
    exact ys_kdup2 hexec hb hd hs1 k
  | pop =>
    obtain ⟨e0, hs1⟩ := ys_g1_ok hs
    subst e0
    clear hs
    exact ys_kpop hexec hb hd hs1 k
  | pop2 =>
    obtain ⟨e0, hs1⟩ := ys_g1_ok hs
    subst e0
    clear hs
    exact ys_kpop2 hexec hb hd hs1 k
  | getfield x =>
    obtain ⟨e0, hs1⟩ := ys_g1_ok hs
    subst e0
    clear hs
    exact ys_kget hexec hb hts hown hK hfl hd hs1 k
  | putfield x =>
    obtain ⟨e0, hs1⟩ := ys_g1_ok hs
    subst e0
    clear hs
    exact ys_kput hexec hb hts hown hK hfl hd hs1 k
  | iaload =>
    obtain ⟨e0, hs1⟩ := ys_g1_ok hs
    subst e0
    clear hs
    exact ys_kiald hexec hb hK t0 hd hs1 k
  | laload =>
    obtain ⟨e0, hs1⟩ := ys_g1_ok hs
    subst e0
    clear hs
    exact ys_klald hexec hb hK t1 hd hs1 k
  | baload =>
    obtain ⟨e0, hs1⟩ := ys_g1_ok hs
    subst e0
    clear hs
    rcases ys_or_ok hs1 with hs1 | hs1
    · exact ys_kbald hexec hb hK t2 hd hs1 k
    · exact ys_kzald hexec hb hK t3 hd hs1 k
  | aaload =>
    obtain ⟨e0, hs1⟩ := ys_g1_ok hs
    subst e0
    clear hs
    exact ys_kaald hexec hb hK t5 hd hs1 k
  | iastore =>
    obtain ⟨e0, hs1⟩ := ys_g1_ok hs
    subst e0
    clear hs
    exact ys_kiast hexec hb hK t0 hd hs1 k
  | lastore =>
    obtain ⟨e0, hs1⟩ := ys_g1_ok hs
    subst e0
    clear hs
    exact ys_klast hexec hb hK t1 hd hs1 k
  | bastore =>
    obtain ⟨e0, hs1⟩ := ys_g1_ok hs
    subst e0
    clear hs
    rcases ys_or_ok hs1 with hs1 | hs1
    · exact ys_kbast hexec hb hK t2 hd hs1 k
    · exact ys_kzast hexec hb hK t3 hd hs1 k
  | arraylength =>
    obtain ⟨e0, hs1⟩ := ys_g1_ok hs
    subst e0
    clear hs
    exact ys_kalen hexec hb hK t4 hd hs1 k
  | invokevirtual x =>
    obtain ⟨e0, hs1⟩ := ys_g1_ok hs
    subst e0
    clear hs
    exact ys_kinv (st := false) S hK hA0 hfr hlo hkk hd k calls hcalls hs1
  | invokestatic x =>
    have hs : (if 100000 ≤ x then none else if cps.contains x && decide (1 ≤ K.1.2.1) then ys_g1 n 3 (ys_hcopy K.1.2.2 sh K.2.2.2 pc b fds lv sv) else if cps.contains (100000 + x) then ys_g1 n 3 (ys_hmm true K.1.2.1 K.1.2.2 pc b fds lv sv) else if cps.contains (200000 + x) then ys_g1 n 3 (ys_hmm false K.1.2.1 K.1.2.2 pc b fds lv sv) else ys_g1 n 3 (ys_hinv K.1.2.1 K.1.2.2 K.2.2.2 x true pc b fds lv sv calls)) = some succ := hs
    split at hs
    · cases hs
    rename_i hx5
    split at hs
    · rename_i hc
      rw [Bool.and_eq_true, decide_eq_true_eq] at hc
      obtain ⟨e0, hs1⟩ := ys_g1_ok hs
      subst e0
      have hw := hcps x (by simpa using hc.1)
      unfold ys_Cp at hw
      rw [show x / 100000 = 0 by omega] at hw
      obtain ⟨w1, w2, w3, w4⟩ := hw
      exact ys_kcopy hexec hb hml hts hown hK t0 t1 (Nat.le_trans hc.2 hfr) hlo w1 w2 w3 w4 hd hs1 k
    split at hs
    · rename_i hc
      obtain ⟨e0, hs1⟩ := ys_g1_ok hs
      subst e0
      have hw := hcps (100000 + x) (by simpa using hc)
      unfold ys_Cp at hw
      rw [show (100000 + x) / 100000 = 1 by omega, show 100000 + x - 100000 = x by omega] at hw
      exact ys_kmm (mx := true) hexec hb hml hts hown hfr hlo hkk hw hd hs1 k
    split at hs
    · rename_i hc
      obtain ⟨e0, hs1⟩ := ys_g1_ok hs
      subst e0
      have hw := hcps (200000 + x) (by simpa using hc)
      unfold ys_Cp at hw
      rw [show (200000 + x) / 100000 = 2 by omega, show 200000 + x - 200000 = x by omega] at hw
      exact ys_kmm (mx := false) hexec hb hml hts hown hfr hlo hkk hw hd hs1 k
    obtain ⟨e0, hs1⟩ := ys_g1_ok hs
    subst e0
    exact ys_kinv (st := true) S hK hA0 hfr hlo hkk hd k calls hcalls hs1
  | ireturn => exact hret rfl
  | lreturn => exact hret rfl
  | return_ => exact hret rfl
  | _ => cases hs
set_option maxHeartbeats 4000000 in
theorem ys_stp_ok {{i : Instr}} {{n : Nat}} (S : CallFix p m c K.1.1.2.1 K.1.1.2.2.1 s args (ys_ws G K) own) (hr : meth.sig.returnType = K.1.1.2.2.2) (hlocks : meth.locks = false) (hK : va_K D cl tys s) (hty : ys_Ty tys cT sh) (hLk : ys_Lk own (ys_ws G K) cl fl ci cj cps) (hcalls : ∀ q ∈ calls, ys_Con l D cl ad cT sh tys G q.2 ∧ ys_CL own (ys_ws G K) cl sh G (if q.1.2 = true then .invokestatic q.1.1 else .invokevirtual q.1.1) q.2) (hnx : ∀ pc i, nx pc = some i → decode K.1.1.2.1 pc = .ok i) (hE : K.2.1.2.1.1.length ≤ E) (hrr : ∀ i, i < K.2.1.2.1.1.length → r0 i = rr i) (hd : decode K.1.1.2.1 pc = .ok (i, n))
    (hs : ys_stp sh fl ci cj calls cps K nx pc b fds lv sv i n = some succ)
    (k : ∀ q ∈ succ, ys_W p l e (ys_rm K) s m args below meth c (MQ below (ys_Post D cl ad cT sh tys K rr g0 s.heap.size) args s 0 0 (va_A (ys_wK ad cT sh K rr g0) s.heap.size)) 0 0 D cl ad cT sh (va_A (ys_wK ad cT sh K rr g0) s.heap.size) s.heap K.1.1.2.2.1 K.2.2.2 g0 r0 E q.1 q.2) :
    ys_W p l e (ys_rm K) s m args below meth c (MQ below (ys_Post D cl ad cT sh tys K rr g0 s.heap.size) args s 0 0 (va_A (ys_wK ad cT sh K rr g0) s.heap.size)) 0 0 D cl ad cT sh (va_A (ys_wK ad cT sh K rr g0) s.heap.size) s.heap K.1.1.2.2.1 K.2.2.2 g0 r0 E pc (b, fds, lv, sv) := by
  have hexec := S.1
  have hb := S.2.1
  refine ys_stp_gen S rfl rfl (Nat.le_refl _) (Nat.le_refl _) ⟨Nat.le_refl _, Nat.le_refl _⟩ (fun q h => Or.inr h) hK hty hLk hcalls hnx hd hs (fun hi => ?_) k
  clear k
  cases i with
  | ireturn =>
    obtain ⟨e0, hs1⟩ := ys_g1_ok hs
    subst e0
    clear hs
    unfold ys_iret at hs1
    split at hs1
    · rename_i x
      split at hs1
      · rename_i hc
        rw [Bool.and_eq_true] at hc
        intro r H locs ls st h
        have hq := ys_kret (aa := args) hE hrr hK h hc.2
        have hst : st = [.int (Int32.ofInt (ys_ev r x))] := h.2.2.2.2.2
        have hf : ∀ q ∈ locs, va_A (ys_wK ad cT sh K rr g0) s.heap.size q.base := h.2.2.2.1.choose_spec.2.2.2.2.2
        rw [hst]
        rcases (Bool.or_eq_true _ _).mp hc.1 with h1 | h1
        · exact W.iret hexec hb (hr.trans (of_decide_eq_true h1)) hq hf hd hlocks
        · rw [Bool.and_eq_true, Bool.and_eq_true] at h1
          have g1 := ys_geb_le h.1.1 h1.2.1
          have g2 := ys_geb_le h.1.1 h1.2.2
          rw [ys_scale_ev] at g2
          refine W.zret (ty := .boolean) hexec hb (hr.trans (of_decide_eq_true h1.1)) ?_ hq hf hd hlocks
          show Value.int (Int32.ofInt (ys_ev r x) &&& 1) = Value.int (Int32.ofInt (ys_ev r x))
          rcases ys_01 g1 (show ys_ev r x ≤ 1 by omega) with q | q <;> rw [q] <;> rfl
      · cases hs1
    · cases hs1
  | lreturn =>
    obtain ⟨e0, hs1⟩ := ys_g1_ok hs
    subst e0
    clear hs
    unfold ys_lret at hs1
    split at hs1
    · rename_i x
      split at hs1
      · rename_i hc
        rw [Bool.and_eq_true] at hc
        intro r H locs ls st h
        have hq := ys_kret (aa := args) hE hrr hK h hc.2
        have hst : st = [.long (Int64.ofInt (ys_ev r x))] := h.2.2.2.2.2
        have hf : ∀ q ∈ locs, va_A (ys_wK ad cT sh K rr g0) s.heap.size q.base := h.2.2.2.1.choose_spec.2.2.2.2.2
        rw [hst]
        exact W.lret hexec hb (hr.trans (of_decide_eq_true hc.1)) hq hf hd hlocks
      · cases hs1
    · cases hs1
  | return_ =>
    obtain ⟨e0, hs1⟩ := ys_g1_ok hs
    subst e0
    clear hs
    unfold ys_vret at hs1
    split at hs1
    · split at hs1
      · rename_i hc
        rw [Bool.and_eq_true] at hc
        intro r H locs ls st h
        have hq := ys_kret (aa := args) hE hrr hK h hc.2
        have hst : st = [] := h.2.2.2.2.2
        have hf : ∀ q ∈ locs, va_A (ys_wK ad cT sh K rr g0) s.heap.size q.base := h.2.2.2.1.choose_spec.2.2.2.2.2
        rw [hst]
        exact W.vret hexec hb (hr.trans (of_decide_eq_true hc.1)) hq hf hd hlocks
      · cases hs1
    · cases hs1
  | _ => cases hi
end YSD
end
section
/-! a whole method, by its loops' heads -/
abbrev ys_T : Type := ys_E × List ys_L × ys_F × List (Nat × ys_V) × List ys_V × ys_L
def ys_sT (B : ys_B) (T : ys_T) : ys_S := ((B.1 ++ T.1, B.2 ++ T.2.1), T.2.2.1, T.2.2.2.1, T.2.2.2.2.1)
def ys_zl (lv : List (Nat × ys_V)) : List (Nat × ys_V) → Option (List (ys_V × ys_V))
  | [] => some []
  | q :: t => match lv.lookup q.1, ys_zl lv t with
    | some w, some x => some ((q.2, w) :: x)
    | _, _ => none
def ys_cck (E : Nat) (mo : Option ys_L) (b : ys_B) (fds : ys_F) (lv : List (Nat × ys_V)) (sv : List ys_V) (T : ys_T) : Bool := match ys_zf T.2.2.1.1 fds.1, ys_zl lv T.2.2.2.1 with
  | some fp, some lp => if T.2.2.2.2.1.length = sv.length then (match ys_mat b fds.2 E T.1 T.2.1 T.2.2.1.2 (lp ++ (T.2.2.2.2.1.zip sv ++ fp)) with
    | some t => (match mo with
      | none => true
      | some m0 => ys_ge b.1 b.2 2 (ys_add (ys_sub m0 (ys_put E t T.2.2.2.2.2)) ([], -1)))
    | none => false) else false
  | _, _ => false
def ys_bV (n : Nat) (v : ys_V) : Bool := match v with
  | .inl (.inl x) => ys_bel n x
  | .inl (.inr x) => ys_bel n x
  | .inr _ => true
def ys_scb (S : ys_S) : Bool := S.1.2.all (ys_bel S.1.1.length) && (S.2.1.1.all (fun w => w.all (ys_bV S.1.1.length)) && (S.2.2.1.all (fun q => ys_bV S.1.1.length q.2) && S.2.2.2.all (ys_bV S.1.1.length)))
theorem ys_bV_ok {n : Nat} {v : ys_V} (h : ys_bV n v = true) : ys_stV n v := by
  rcases v with (x | x) | x
  · exact ys_stb_bel h
  · exact ys_stb_bel h
  · trivial
theorem ys_scb_ok {S : ys_S} (h : ys_scb S = true) : ys_sc S := by
  unfold ys_scb at h
  rw [Bool.and_eq_true, Bool.and_eq_true, Bool.and_eq_true] at h
  obtain ⟨h1, h2, h3, h4⟩ := h
  refine ⟨fun f hf => ys_stb_bel (List.all_eq_true.mp h1 f hf), fun w hw v hv => ys_bV_ok (List.all_eq_true.mp (List.all_eq_true.mp h2 w hw) v hv), fun q hq => ys_bV_ok (List.all_eq_true.mp h3 q hq), fun v hv => ys_bV_ok (List.all_eq_true.mp h4 v hv)⟩
theorem ys_zl_ok {ad : Nat → Nat} {r r' : Nat → Int} {ls : Array Slot} {nL : Nat} {lv : List (Nat × ys_V)} (h : lv_has ls nL (ys_lvs ad r lv)) : ∀ (x : List (Nat × ys_V)) (y : List (ys_V × ys_V)), ys_zl lv x = some y → (∀ q ∈ y, ys_den ad r' q.1 = ys_den ad r q.2) → ∀ q ∈ ys_lvs ad r' x, ls[q.1]? = some (.val q.2)
  | [], y, hz, hd, q, hq => by cases hq
  | (i, v) :: t, y, hz, hd, q, hq => by
    unfold ys_zl at hz
    split at hz
    · rename_i w z hw ht
      cases Option.some.inj hz
      rcases List.mem_cons.mp hq with e1 | e1
      · rw [e1]
        show ls[i]? = some (.val (ys_den ad r' v))
        rw [hd (v, w) List.mem_cons_self]
        exact h.2.2 (i, ys_den ad r w) (List.mem_map.mpr ⟨(i, w), ys_find_mem lv i w hw, rfl⟩)
      · exact ys_zl_ok h t z ht (fun q hq => hd q (List.mem_cons_of_mem _ hq)) q e1
    · cases hz
def ys_run (sh : List ys_C) (fl : ys_FL) (ci cj : List (Nat × Int)) (calls : ys_CA) (cps : List Nat) (K : ys_K) (nx : Nat → Option (Instr × Nat)) (cuts : List (Nat × ys_T)) (mo : Option ys_L) : Nat → Bool → Nat → ys_S → Bool
  | 0, _, _, _ => false
  | n + 1, f, pc, S => if !f && cuts.any (fun q => q.1 == pc) then cuts.any (fun q => q.1 == pc && ys_cck K.2.1.2.1.1.length mo S.1 S.2.1 S.2.2.1 S.2.2.2 q.2) else (match nx pc with
    | none => false
    | some i => (match ys_stp sh fl ci cj calls cps K nx pc S.1 S.2.1 S.2.2.1 S.2.2.2 i.1 i.2 with
      | none => false
      | some x => x.all (fun q => ys_run sh fl ci cj calls cps K nx cuts mo n false q.1 q.2)))
section YSN
variable {p : Program} {l : Launch} {e : Env} {R : Room} {s : State} {m : MethodId} {args : Array Value} {below : List Frame} {meth : Method} {c : Code} {Q : State → Prop} {kc kz : Nat} {D : va_G} {cl : List vw_C} {ad : Nat → Nat} {cT : Nat → ClassId} {sh : List ys_C} {A : Nat → Prop} {H0 : Heap} {nL : Nat} {mods : List Nat} {g0 : Nat → Nat → Int} {r0 : Nat → Int} {E : Nat} {pc : Nat} {b : ys_B} {fds : ys_F} {lv : List (Nat × ys_V)} {sv : List ys_V} {succ : List (Nat × ys_S)} {cc : ByteArray} {own : String} {Ts : List Cond} {tys : List (ClassId × FieldType)}
variable {G : List Cond} {K : ys_K} {fl : ys_FL} {ci cj : List (Nat × Int)} {calls : ys_CA} {cps : List Nat} {nx : Nat → Option (Instr × Nat)} {rr : Nat → Int} {cuts : List (Nat × ys_T)} {mo : Option ys_L}
theorem ys_cck_ok {T : ys_T} {r : Nat → Int} {H : Heap} {locs : List Loc} {ls : Array Slot} {st : List Value} (hE : K.2.1.2.1.1.length ≤ E) (hrr : ∀ i, i < K.2.1.2.1.1.length → r0 i = rr i) (hB : ys_okB rr K.2.1.2.1) (hBs : ys_scB K.2.1.2.1) (hT : ys_scb (ys_sT K.2.1.2.1 T) = true) (h : ys_rep D cl ad cT sh (va_A (ys_wK ad cT sh K rr g0) s.heap.size) s.heap K.1.1.2.2.1 K.2.2.2 g0 r0 r E (b, fds, lv, sv) H locs ls st) (hc : ys_cck K.2.1.2.1.1.length mo b fds lv sv T = true) :
    ∃ r2 : Nat → Int, ys_rep D cl ad cT sh (va_A (ys_wK ad cT sh K rr g0) s.heap.size) s.heap K.1.1.2.2.1 K.2.2.2 g0 rr r2 K.2.1.2.1.1.length (ys_sT K.2.1.2.1 T) H locs ls st ∧ ∀ m0, mo = some m0 → ys_ev r2 T.2.2.2.2.2 < ys_ev r m0 := by
  unfold ys_cck at hc
  split at hc
  · rename_i fp lp hfp hlp
    split at hc
    · rename_i hsl
      split at hc
      · rename_i t hm
        obtain ⟨h1, h2, ⟨hEl, hr⟩, ⟨g, hg, hP, hD, hS⟩, hlv, hst⟩ := h
        obtain ⟨-, e2, e3, e4, e5, e6, e7⟩ := ys_mat_ok (ad := ad) h1 hm
        have hlow : ∀ i, i < K.2.1.2.1.1.length → ys_val r K.2.1.2.1.1.length t i = rr i := fun i hi => by rw [ys_val_low hi, hr i (Nat.lt_of_lt_of_le hi hE), hrr i hi]
        have ew : ys_wld ad cT sh (ys_val r K.2.1.2.1.1.length t) g T.2.2.1.1 = ys_wld ad cT sh r g fds.1 := ys_wld_eq (ys_zf_ok _ _ _ hfp (fun q hq => e5 q (List.mem_append_right _ (List.mem_append_right _ hq))))
        refine ⟨ys_val r K.2.1.2.1.1.length t, ⟨⟨fun i q hi => ?_, fun f hf => ?_⟩, ys_scb_ok hT, ⟨?_, hlow⟩, ⟨g, ⟨fun kk z hz => ?_, hg.2⟩, ?_, ?_, hS⟩, ⟨hlv.1, hlv.2.1, ?_⟩, ?_⟩, fun m0 hm0 => ?_⟩
        · have hi : (K.2.1.2.1.1 ++ T.1)[i]? = some q := hi
          by_cases hl : i < K.2.1.2.1.1.length
          · rw [List.getElem?_append_left hl] at hi
            rw [hlow i hl]
            exact hB.1 i q hi
          · rw [List.getElem?_append_right (by omega)] at hi
            have := e3 _ q hi
            rw [show K.2.1.2.1.1.length + (i - K.2.1.2.1.1.length) = i by omega] at this
            exact this
        · rcases List.mem_append.mp hf with q | q
          · rw [hBs f q _ rr hlow]
            exact hB.2 f q
          · exact e4 f q
        · show K.2.1.2.1.1.length ≤ (K.2.1.2.1.1 ++ T.1).length
          rw [List.length_append]
          omega
        · obtain ⟨a0, g1, g2⟩ := e7 kk z hz
          exact ys_rle_ok g2 (hg.1 kk a0 g1)
        · show va_P D cl (ys_wld ad cT sh (ys_val r K.2.1.2.1.1.length t) g T.2.2.1.1) H
          rw [ew]
          exact hP
        · show va_D _ (ys_wld ad cT sh (ys_val r K.2.1.2.1.1.length t) g T.2.2.1.1)
          rw [ew]
          exact hD
        · exact ys_zl_ok hlv _ _ hlp (fun q hq => e5 q (List.mem_append_left _ hq))
        · rw [hst]
          exact (ys_zip_map _ _ hsl (fun q hq => e5 q (List.mem_append_right _ (List.mem_append_left _ hq)))).symm
        · subst hm0
          have := ys_ge_le h1.1 h1.2 _ _ hc
          rw [ys_m1, ys_sub_ev, ys_put_ev] at this
          omega
      · cases hc
    · cases hc
  · cases hc
theorem ys_run_ok (S : CallFix p m c K.1.1.2.1 K.1.1.2.2.1 s args (ys_ws G K) own) (hr : meth.sig.returnType = K.1.1.2.2.2) (hlocks : meth.locks = false) (hK : va_K D cl tys s) (hty : ys_Ty tys cT sh) (hLk : ys_Lk own (ys_ws G K) cl fl ci cj cps) (hcalls : ∀ q ∈ calls, ys_Con l D cl ad cT sh tys G q.2 ∧ ys_CL own (ys_ws G K) cl sh G (if q.1.2 = true then .invokestatic q.1.1 else .invokevirtual q.1.1) q.2) (hnx : ∀ pc i, nx pc = some i → decode K.1.1.2.1 pc = .ok i) (hE : K.2.1.2.1.1.length ≤ E) (hrr : ∀ i, i < K.2.1.2.1.1.length → r0 i = rr i) (hB : ys_okB rr K.2.1.2.1) (hBs : ys_scB K.2.1.2.1) (hT : ∀ q ∈ cuts, ys_scb (ys_sT K.2.1.2.1 q.2) = true) (hmo : ∀ m0, mo = some m0 → ys_stb E m0)
    (hcut : ∀ q ∈ cuts, ∀ (r2 : Nat → Int) (H : Heap) (locs : List Loc) (ls : Array Slot) (st : List Value), ys_rep D cl ad cT sh (va_A (ys_wK ad cT sh K rr g0) s.heap.size) s.heap K.1.1.2.2.1 K.2.2.2 g0 rr r2 K.2.1.2.1.1.length (ys_sT K.2.1.2.1 q.2) H locs ls st → (∀ m0, mo = some m0 → ys_ev r2 q.2.2.2.2.2.2 < ys_ev r0 m0) → W p l e (ys_rm K) s m args below meth c H locs 0 0 (MQ below (ys_Post D cl ad cT sh tys K rr g0 s.heap.size) args s 0 0 (va_A (ys_wK ad cT sh K rr g0) s.heap.size)) (F0 m q.1 ls st)) :
    ∀ (n : Nat) (f : Bool) (pc : Nat) (x : ys_S), ys_run sh fl ci cj calls cps K nx cuts mo n f pc x = true → ys_W p l e (ys_rm K) s m args below meth c (MQ below (ys_Post D cl ad cT sh tys K rr g0 s.heap.size) args s 0 0 (va_A (ys_wK ad cT sh K rr g0) s.heap.size)) 0 0 D cl ad cT sh (va_A (ys_wK ad cT sh K rr g0) s.heap.size) s.heap K.1.1.2.2.1 K.2.2.2 g0 r0 E pc x
  | 0, f, pc, x, h => by cases h
  | n + 1, f, pc, x, h => by
    unfold ys_run at h
    split at h
    · obtain ⟨q, hq, h1⟩ := List.any_eq_true.mp h
      rw [Bool.and_eq_true, beq_iff_eq] at h1
      intro r H locs ls st hrep
      obtain ⟨r2, h2, h3⟩ := ys_cck_ok hE hrr hB hBs (hT q hq) (b := x.1) (fds := x.2.1) (lv := x.2.2.1) (sv := x.2.2.2) hrep h1.2
      have h4 := hcut q hq r2 H locs ls st h2 (fun m0 hm0 => by
        have := h3 m0 hm0
        rw [hmo m0 hm0 r r0 hrep.2.2.1.2] at this
        exact this)
      rw [h1.1] at h4
      exact h4
    · split at h
      · cases h
      · rename_i i hi
        split at h
        · cases h
        · rename_i y hy
          exact ys_stp_ok (b := x.1) (fds := x.2.1) (lv := x.2.2.1) (sv := x.2.2.2) S hr hlocks hK hty hLk hcalls hnx hE hrr (hnx pc i hi) hy (fun q hq => ys_run_ok S hr hlocks hK hty hLk hcalls hnx hE hrr hB hBs hT hmo hcut n false q.1 q.2 (List.all_eq_true.mp h q hq))
end YSN
def ys_args : Nat → List ys_V → List (Nat × ys_V)
  | _, [] => []
  | i, v :: t => (i, v) :: ys_args (if ys_cat v = 2 then i + 2 else i + 1) t
theorem ys_args_lvs (ad : Nat → Nat) (r : Nat → Int) : ∀ (x : List ys_V) (i : Nat), ys_lvs ad r (ys_args i x) = lv_args i (x.map (ys_den ad r))
  | [], i => rfl
  | v :: t, i => by
    show (i, ys_den ad r v) :: ys_lvs ad r (ys_args (if ys_cat v = 2 then i + 2 else i + 1) t) = (i, ys_den ad r v) :: lv_args (if (ys_den ad r v).category = 2 then i + 2 else i + 1) (t.map (ys_den ad r))
    rw [ys_cat_den, ys_args_lvs ad r t]
theorem ys_sl_len (ad : Nat → Nat) (r : Nat → Int) : ∀ (x : List ys_V), (lg_sl (x.map (ys_den ad r))).length = (x.map ys_cat).sum
  | [] => rfl
  | v :: t => by
    have ih := ys_sl_len ad r t
    unfold lg_sl at ih ⊢
    rw [List.map_cons, List.flatMap_cons, List.length_append, ih, List.map_cons, List.sum_cons, ys_cat_den]
    congr 1
    rcases v with (y | y) | y
    · rfl
    · rfl
    · rfl
def ys_S0 (K : ys_K) : ys_S := (K.2.1.2.1, K.2.1.2.2, ys_args 0 K.2.1.1, [])
abbrev ys_Q : Type := List (Nat × (Instr × Nat)) × (ys_FL × List (Nat × Int) × List (Nat × Int) × List Nat) × List (Nat × ys_T)
def ys_chk (sh : List ys_C) (calls : ys_CA) (K : ys_K) (Z : ys_Q) (n : Nat) : Bool := ys_scb (ys_S0 K) && (decide ((K.2.1.1.map ys_cat).sum ≤ K.1.1.2.2.1) && (ys_run sh Z.2.1.1 Z.2.1.2.1 Z.2.1.2.2.1 calls Z.2.1.2.2.2 K (fun pc => Z.1.lookup pc) Z.2.2 none n true 0 (ys_S0 K) && Z.2.2.all (fun q => ys_scb (ys_sT K.2.1.2.1 q.2) && (ys_geb (K.2.1.2.1.1 ++ q.2.1) q.2.2.2.2.2.2 0 && (ys_bel (K.2.1.2.1.1 ++ q.2.1).length q.2.2.2.2.2.2 && (match ys_ass (K.2.1.2.1.1 ++ q.2.1, K.2.1.2.1.2 ++ q.2.2.1) q.2.2.1 with
  | some b => ys_run sh Z.2.1.1 Z.2.1.2.1 Z.2.1.2.2.1 calls Z.2.1.2.2.2 K (fun pc => Z.1.lookup pc) Z.2.2 (some q.2.2.2.2.2.2) n true q.1 (b, (ys_sT K.2.1.2.1 q.2).2)
  | none => true))))))
theorem ys_lk3 {α : Type} : ∀ (x : List (Nat × α)) (i : Nat) (v : α), x.lookup i = some v → (i, v) ∈ x
  | [], i, v, h => by cases h
  | (j, w) :: t, i, v, h => by
    unfold List.lookup at h
    cases hc : i == j with
    | true =>
      rw [hc] at h
      cases h
      rw [beq_iff_eq] at hc
      rw [hc]
      exact List.mem_cons_self
    | false =>
      rw [hc] at h
      exact List.mem_cons_of_mem _ (ys_lk3 t i v h)
theorem ys_method {l : Launch} {D : va_G} {cl : List vw_C} {ad : Nat → Nat} {cT : Nat → ClassId} {sh : List ys_C} {tys : List (ClassId × FieldType)} {G : List Cond} {K : ys_K} {calls : ys_CA} {Z : ys_Q} (n : Nat) (hy : plainName K.1.1.1.cls = true) (hcode : ∀ q ∈ Z.1, decode K.1.1.2.1 q.1 = .ok q.2) (hty : ys_Ty tys cT sh) (hLk : ys_Lk K.1.1.1.cls (ys_ws G K) cl Z.2.1.1 Z.2.1.2.1 Z.2.1.2.2.1 Z.2.1.2.2.2) (hcalls : ∀ q ∈ calls, ys_Con l D cl ad cT sh tys G q.2 ∧ ys_CL K.1.1.1.cls (ys_ws G K) cl sh G (if q.1.2 = true then .invokestatic q.1.1 else .invokevirtual q.1.1) q.2) (hchk : ys_chk sh calls K Z n = true) : ys_Con l D cl ad cT sh tys G K := by
  intro rr g0 sz hB har
  unfold ys_chk at hchk
  rw [Bool.and_eq_true, Bool.and_eq_true, Bool.and_eq_true, decide_eq_true_eq] at hchk
  obtain ⟨c1, c2, c3, c4⟩ := hchk
  refine Met.ofW (cc := K.1.1.2.1) (maxL := K.1.1.2.2.1) (ret := K.1.1.2.2.2) hy rfl ?_
  intro p e s m args below meth c s₁ Bd hml hv
  obtain ⟨hargs, hsz, hP, hK, hD0⟩ := hv
  subst hargs
  subst hsz
  have hlocks := Bd.notSynchronized
  have S : CallFix p m c K.1.1.2.1 K.1.1.2.2.1 s (K.2.1.1.map (ys_den ad rr)).toArray (ys_ws G K) K.1.1.1.cls := ⟨Bd.exec, Bd.bytes, hml, findClass_of_methodNamed Bd.named, atoms_spec (ws := ys_ws G K) Bd.pre⟩
  have hsc0 := ys_scb_ok c1
  have hnx : ∀ pc i, (fun pc => Z.1.lookup pc) pc = some i → decode K.1.1.2.1 pc = .ok i := fun pc i hi => hcode (pc, i) (ys_lk3 _ _ _ hi)
  have hT : ∀ q ∈ Z.2.2, ys_scb (ys_sT K.2.1.2.1 q.2) = true := fun q hq => by
    have := List.all_eq_true.mp c4 q hq
    rw [Bool.and_eq_true] at this
    exact this.1
  have claim : ∀ (N : Nat), ∀ q ∈ Z.2.2, ∀ (r2 : Nat → Int) (H : Heap) (locs : List Loc) (ls : Array Slot) (st : List Value), ys_rep D cl ad cT sh (va_A (ys_wK ad cT sh K rr g0) s.heap.size) s.heap K.1.1.2.2.1 K.2.2.2 g0 rr r2 K.2.1.2.1.1.length (ys_sT K.2.1.2.1 q.2) H locs ls st → ys_ev r2 q.2.2.2.2.2.2 < (N : Int) → W p l e (ys_rm K) s m (K.2.1.1.map (ys_den ad rr)).toArray below meth c H locs 0 0 (MQ below (ys_Post D cl ad cT sh tys K rr g0 s.heap.size) (K.2.1.1.map (ys_den ad rr)).toArray s 0 0 (va_A (ys_wK ad cT sh K rr g0) s.heap.size)) (F0 m q.1 ls st) := by
    intro N
    induction N with
    | zero =>
      intro q hq r2 H locs ls st hrep hlt
      have := List.all_eq_true.mp c4 q hq
      rw [Bool.and_eq_true, Bool.and_eq_true] at this
      have h0 := ys_geb_le hrep.1.1 this.2.1
      omega
    | succ N ih =>
      intro q hq r2 H locs ls st hrep hlt
      have hc := List.all_eq_true.mp c4 q hq
      rw [Bool.and_eq_true, Bool.and_eq_true, Bool.and_eq_true] at hc
      have hEl : K.2.1.2.1.1.length ≤ (K.2.1.2.1.1 ++ q.2.1).length := by
        rw [List.length_append]
        omega
      have hrun := ys_run_ok (r0 := r2) (E := (K.2.1.2.1.1 ++ q.2.1).length) (rr := rr) (g0 := g0) S Bd.returns hlocks hK hty hLk hcalls hnx hEl (fun i hi => hrep.2.2.1.2 i hi) hB hsc0.1 hT (mo := some q.2.2.2.2.2.2) (fun m0 hm0 => by
        cases hm0
        exact ys_stb_bel hc.2.2.1) (fun q' hq' r3 H' locs' ls' st' hrep' hlt' => ih q' hq' r3 H' locs' ls' st' hrep' (by
          have := hlt' _ rfl
          omega)) n true q.1
      have hfk : ys_fk r2 q.2.2.1 := fun f hf => hrep.1.2 f (List.mem_append_right _ hf)
      obtain ⟨b', eb, hb'⟩ := ys_ass_ok q.2.2.1 hrep.1 hfk
      have hl' := ys_ass_len q.2.2.1 eb
      have hcr := hc.2.2.2
      rw [show ys_ass (K.2.1.2.1.1 ++ q.2.1, K.2.1.2.1.2 ++ q.2.2.1) q.2.2.1 = some b' from eb] at hcr
      have hrep' : ys_rep D cl ad cT sh (va_A (ys_wK ad cT sh K rr g0) s.heap.size) s.heap K.1.1.2.2.1 K.2.2.2 g0 r2 r2 (K.2.1.2.1.1 ++ q.2.1).length (ys_sT K.2.1.2.1 q.2) H locs ls st := ⟨hrep.1, hrep.2.1, ⟨Nat.le_refl _, fun _ _ => rfl⟩, hrep.2.2.2⟩
      exact hrun (b', (ys_sT K.2.1.2.1 q.2).2) hcr r2 H locs ls st (ys_rep_ext hrep' (fun _ _ => rfl) hb' (Nat.le_of_eq hl'.symm) (ys_ass_sc q.2.2.1 rfl hrep.2.1.1 (fun f hf => hrep.2.1.1 f (List.mem_append_right _ hf)) eb))
  have hrun := ys_run_ok (r0 := rr) (E := K.2.1.2.1.1.length) (rr := rr) (g0 := g0) S Bd.returns hlocks hK hty hLk hcalls hnx (Nat.le_refl _) (fun _ _ => rfl) hB hsc0.1 hT (mo := none) (fun m0 hm0 => by cases hm0) (fun q hq r2 H locs ls st hrep _ => claim ((ys_ev r2 q.2.2.2.2.2.2).toNat + 1) q hq r2 H locs ls st hrep (by omega)) n true 0 (ys_S0 K) c3
  rw [lg_entry_eq]
  have hl := lv_entry (K.2.1.1.map (ys_den ad rr)) (n := K.1.1.2.2.1) (by rw [ys_sl_len]; exact c2)
  refine hrun rr s.heap [] _ [] ⟨hB, hsc0, ⟨Nat.le_refl _, fun _ _ => rfl⟩, ⟨g0, ⟨har, fun _ _ => rfl⟩, hP, hD0.self, va_S.rf⟩, ?_, rfl⟩
  rw [show ys_lvs ad rr (ys_S0 K).2.2.1 = lv_args 0 (K.2.1.1.map (ys_den ad rr)) from ys_args_lvs ad rr K.2.1.1 0]
  exact hl
end
section
/-! what is done on a way with arrays and products: reads and products name a symbol, writes change what an array holds -/
abbrev yt_G : Type := Nat → Nat → Int
abbrev yt_Ev : Type := ((Nat × ys_L × Nat) ⊕ (Nat × ys_L × ys_L)) ⊕ ((Nat × ys_L × ys_L) ⊕ ((Nat × Nat × List ys_L × List Nat × List Nat) ⊕ (Nat × Nat × ys_L × ys_L × ys_L)))
abbrev yt_Tb : Type := Nat → Nat → (Nat → Int) → yt_G → yt_G → Prop
def yt_e (em : List Nat) (k : Nat) : Nat := em.getD k 100000
def yt_sub (em : List Nat) (g : yt_G) : yt_G := fun k => g (yt_e em k)
def yt_ok (tb : yt_Tb) (r : Nat → Int) (v : yt_Ev) (g g' : yt_G) : Prop := match v with
  | .inl (.inl q) => g' = g ∧ r q.2.2 = g q.1 (ys_ev r q.2.1).toNat
  | .inl (.inr q) => g' = g ∧ r q.1 = ys_ev r q.2.1 * ys_ev r q.2.2
  | .inr (.inl q) => g' = ys_gup g q.1 (ys_ev r q.2.1).toNat (ys_ev r q.2.2)
  | .inr (.inr (.inl q)) => tb q.1 q.2.1 (ys_val r 0 q.2.2.1) (yt_sub q.2.2.2.1 g) (yt_sub q.2.2.2.1 g') ∧ ∀ j, j ∉ q.2.2.2.2 → g' j = g j
  | .inr (.inr (.inr q)) => g' = ys_gcp g q.1 q.2.1 (ys_ev r q.2.2.1).toNat (ys_ev r q.2.2.2.1).toNat (ys_ev r q.2.2.2.2).toNat
def yt_h (tb : yt_Tb) (r : Nat → Int) (gi : yt_G) : List yt_Ev → yt_G → Prop
  | [], g => g = gi
  | v :: h, g => ∃ g', yt_h tb r gi h g' ∧ yt_ok tb r v g' g
/-- what the symbols below n settle -/
def yt_sc (n : Nat) (v : yt_Ev) : Prop := match v with
  | .inl (.inl q) => ys_stb n q.2.1 ∧ q.2.2 < n
  | .inl (.inr q) => q.1 < n ∧ ys_stb n q.2.1 ∧ ys_stb n q.2.2
  | .inr (.inl q) => ys_stb n q.2.1 ∧ ys_stb n q.2.2
  | .inr (.inr (.inl q)) => ∀ x ∈ q.2.2.1, ys_stb n x
  | .inr (.inr (.inr q)) => ys_stb n q.2.2.1 ∧ ys_stb n q.2.2.2.1 ∧ ys_stb n q.2.2.2.2
theorem yt_sc_mono {n m : Nat} (hm : n ≤ m) : ∀ {v : yt_Ev}, yt_sc n v → yt_sc m v
  | .inl (.inl _), h => ⟨ys_stb_mono h.1 hm, Nat.lt_of_lt_of_le h.2 hm⟩
  | .inl (.inr _), h => ⟨Nat.lt_of_lt_of_le h.1 hm, ys_stb_mono h.2.1 hm, ys_stb_mono h.2.2 hm⟩
  | .inr (.inl _), h => ⟨ys_stb_mono h.1 hm, ys_stb_mono h.2 hm⟩
  | .inr (.inr (.inl _)), h => fun x hx => ys_stb_mono (h x hx) hm
  | .inr (.inr (.inr _)), h => ⟨ys_stb_mono h.1 hm, ys_stb_mono h.2.1 hm, ys_stb_mono h.2.2 hm⟩
theorem yt_val_cong {r r' : Nat → Int} {n : Nat} (hr : ∀ i, i < n → r i = r' i) {t : List ys_L} (ht : ∀ x ∈ t, ys_stb n x) : ys_val r 0 t = ys_val r' 0 t := funext fun i => ys_stb_at (Nat.zero_le _) ht i r r' hr
theorem yt_ok_cong {tb : yt_Tb} {r r' : Nat → Int} {n : Nat} (hr : ∀ i, i < n → r i = r' i) {g g' : yt_G} : ∀ {v : yt_Ev}, yt_sc n v → yt_ok tb r v g g' → yt_ok tb r' v g g'
  | .inl (.inl q), h, k => ⟨k.1, by rw [← hr _ h.2, ← h.1 r r' hr]; exact k.2⟩
  | .inl (.inr q), h, k => ⟨k.1, by rw [← hr _ h.1, ← h.2.1 r r' hr, ← h.2.2 r r' hr]; exact k.2⟩
  | .inr (.inl q), h, k => by
    have k : g' = ys_gup g q.1 (ys_ev r q.2.1).toNat (ys_ev r q.2.2) := k
    show g' = ys_gup g q.1 (ys_ev r' q.2.1).toNat (ys_ev r' q.2.2)
    rw [← h.1 r r' hr, ← h.2 r r' hr]
    exact k
  | .inr (.inr (.inl q)), h, k => ⟨by rw [← yt_val_cong hr h]; exact k.1, k.2⟩
  | .inr (.inr (.inr q)), h, k => by
    have k : g' = ys_gcp g q.1 q.2.1 (ys_ev r q.2.2.1).toNat (ys_ev r q.2.2.2.1).toNat (ys_ev r q.2.2.2.2).toNat := k
    show g' = ys_gcp g q.1 q.2.1 (ys_ev r' q.2.2.1).toNat (ys_ev r' q.2.2.2.1).toNat (ys_ev r' q.2.2.2.2).toNat
    rw [← h.1 r r' hr, ← h.2.1 r r' hr, ← h.2.2 r r' hr]
    exact k
theorem yt_h_cong {tb : yt_Tb} {r r' : Nat → Int} {n : Nat} (hr : ∀ i, i < n → r i = r' i) {gi : yt_G} : ∀ {h : List yt_Ev} {g : yt_G}, (∀ v ∈ h, yt_sc n v) → yt_h tb r gi h g → yt_h tb r' gi h g
  | [], _, _, k => k
  | v :: h, g, hs, k => by
    obtain ⟨g', k1, k2⟩ := k
    exact ⟨g', yt_h_cong hr (fun w hw => hs w (List.mem_cons_of_mem _ hw)) k1, yt_ok_cong hr (hs v List.mem_cons_self) k2⟩
/-- an element that was read, and not written since -/
def yt_mem (k : Nat) (x : ys_L) : List yt_Ev → Option Nat
  | [] => none
  | .inl (.inl q) :: h => if q.1 = k ∧ q.2.1 = x then some q.2.2 else yt_mem k x h
  | .inl (.inr _) :: h => yt_mem k x h
  | .inr (.inl q) :: h => if q.1 = k then none else yt_mem k x h
  | .inr (.inr (.inl q)) :: h => if q.2.2.2.2.contains k then none else yt_mem k x h
  | .inr (.inr (.inr q)) :: h => if q.2.1 = k then none else yt_mem k x h
theorem yt_mem_ok {tb : yt_Tb} {r : Nat → Int} {gi : yt_G} {k : Nat} {x : ys_L} {n : Nat} : ∀ (h : List yt_Ev) (g : yt_G), yt_mem k x h = some n → yt_h tb r gi h g → r n = g k (ys_ev r x).toNat
  | [], g, e, _ => by cases e
  | .inl (.inl q) :: h, g, e, k2 => by
    obtain ⟨g', k1, k3, k4⟩ := k2
    unfold yt_mem at e
    rw [k3]
    split at e
    · rename_i hq
      cases Option.some.inj e
      rw [← hq.1, ← hq.2]
      exact k4
    · exact yt_mem_ok h g' e k1
  | .inl (.inr q) :: h, g, e, k2 => by
    obtain ⟨g', k1, k3, k4⟩ := k2
    unfold yt_mem at e
    rw [k3]
    exact yt_mem_ok h g' e k1
  | .inr (.inl q) :: h, g, e, k2 => by
    obtain ⟨g', k1, k3⟩ := k2
    have k3 : g = ys_gup g' q.1 (ys_ev r q.2.1).toNat (ys_ev r q.2.2) := k3
    unfold yt_mem at e
    split at e
    · cases e
    · rename_i hq
      rw [yt_mem_ok h g' e k1, k3]
      unfold ys_gup
      rw [if_neg (fun z => hq z.symm)]
  | .inr (.inr (.inl q)) :: h, g, e, k2 => by
    obtain ⟨g', k1, k3⟩ := k2
    unfold yt_mem at e
    split at e
    · cases e
    · rename_i hq
      rw [yt_mem_ok h g' e k1, k3.2 k (fun z => hq (List.contains_iff_mem.mpr z))]
  | .inr (.inr (.inr q)) :: h, g, e, k2 => by
    obtain ⟨g', k1, k3⟩ := k2
    have k3 : g = ys_gcp g' q.1 q.2.1 (ys_ev r q.2.2.1).toNat (ys_ev r q.2.2.2.1).toNat (ys_ev r q.2.2.2.2).toNat := k3
    unfold yt_mem at e
    split at e
    · cases e
    · rename_i hq
      rw [yt_mem_ok h g' e k1, k3]
      unfold ys_gcp
      rw [if_neg (fun z => hq z.symm)]
section YTX
variable (p : Program) (l : Launch) (e : Env) (R : Room) (s : State) (m : MethodId) (args : Array Value) (below : List Frame) (meth : Method) (c : Code) (Q : State → Prop) (kc kz : Nat) (D : va_G) (cl : List vw_C) (ad : Nat → Nat) (cT : Nat → ClassId) (sh : List ys_C) (A : Nat → Prop) (H0 : Heap) (nL : Nat) (mods : List Nat) (g0 : yt_G) (r0 : Nat → Int) (E : Nat) (tb : yt_Tb) (gi : yt_G)
/-- from here on all goes well, for whatever the words so far may stand for -/
def yt_X (h : List yt_Ev) (pc : Nat) (S : ys_S) : Prop := ∀ (r : Nat → Int) (g : yt_G) (H : Heap) (locs : List Loc) (ls : Array Slot) (st : List Value), ys_rep D cl ad cT sh A H0 nL [] g r0 r E S H locs ls st → yt_h tb r gi h g → (∀ v ∈ h, yt_sc S.1.1.length v) → (∀ k, k ∉ mods → g k = g0 k) → W p l e R s m args below meth c H locs kc kz Q (F0 m pc ls st)
end YTX
section YTY
variable {p : Program} {l : Launch} {e : Env} {R : Room} {s : State} {m : MethodId} {args : Array Value} {below : List Frame} {meth : Method} {c : Code} {Q : State → Prop} {kc kz : Nat} {D : va_G} {cl : List vw_C} {ad : Nat → Nat} {cT : Nat → ClassId} {sh : List ys_C} {A : Nat → Prop} {H0 : Heap} {nL : Nat} {mods : List Nat} {g0 : yt_G} {r0 : Nat → Int} {E : Nat} {tb : yt_Tb} {gi : yt_G} {h : List yt_Ev} {pc : Nat} {b : ys_B} {fds : ys_F} {lv : List (Nat × ys_V)} {sv : List ys_V} {succ : List (Nat × ys_S)} {cc : ByteArray} {own : String} {Ts : List Cond} {tys : List (ClassId × FieldType)}
variable {K : ys_K} {fl : ys_FL} {ci cj : List (Nat × Int)} {cps : List Nat} {nx : Nat → Option (Instr × Nat)}
/-- the same contents, and other symbols behind those that were -/
theorem yt_next {r r' : Nat → Int} {g : yt_G} {H H' : Heap} {locs locs' : List Loc} {ls ls' : Array Slot} {st st' : List Value} {S : ys_S} {pc' : Nat} (hrep : ys_rep D cl ad cT sh A H0 nL [] g r0 r E (b, fds, lv, sv) H locs ls st) (hh : yt_h tb r gi h g) (hsc : ∀ v ∈ h, yt_sc b.1.length v) (hm : ∀ k, k ∉ mods → g k = g0 k) (k : yt_X p l e R s m args below meth c Q kc kz D cl ad cT sh A H0 nL mods g0 r0 E tb gi h pc' S) (hrep' : ys_rep D cl ad cT sh A H0 nL [] g r r' b.1.length S H' locs' ls' st') : W p l e R s m args below meth c H' locs' kc kz Q (F0 m pc' ls' st') := by
  obtain ⟨h1, h2, ⟨hE, hr⟩, h3⟩ := hrep'
  have hE0 : E ≤ b.1.length := hrep.2.2.1.1
  refine k r' g H' locs' ls' st' ⟨h1, h2, ⟨Nat.le_trans hE0 hE, fun i hi => (hr i (Nat.lt_of_lt_of_le hi hE0)).trans (hrep.2.2.1.2 i hi)⟩, h3⟩ (yt_h_cong (fun i hi => (hr i hi).symm) hsc hh) (fun v hv => yt_sc_mono hE (hsc v hv)) hm
theorem yt_self {r : Nat → Int} {g : yt_G} {H : Heap} {locs : List Loc} {ls : Array Slot} {st : List Value} (hrep : ys_rep D cl ad cT sh A H0 nL [] g r0 r E (b, fds, lv, sv) H locs ls st) : ys_rep D cl ad cT sh A H0 nL [] g r r b.1.length (b, fds, lv, sv) H locs ls st := ⟨hrep.1, hrep.2.1, ⟨Nat.le_refl _, fun _ _ => rfl⟩, hrep.2.2.2⟩
/-- a step that the first engine knows, and that writes no array -/
theorem yt_plain {i : Instr} {n : Nat} (S : CallFix p m c cc nL s args Ts own) (hnL : K.1.1.2.2.1 = nL) (hmods : K.2.2.2 = []) (hfr : K.1.2.1 ≤ R.frames) (hlo : K.1.2.2 ≤ R.locals) (hkk : kc ≤ R.cells ∧ kz ≤ R.slots) (hA0 : ∀ q, H0.size ≤ q → A q) (hK : va_K D cl tys s) (hty : ys_Ty tys cT sh) (hLk : ys_Lk own Ts cl fl ci cj cps) (hnx : ∀ pc i, nx pc = some i → decode cc pc = .ok i) (hd : decode cc pc = .ok (i, n)) (hs : ys_stp sh fl ci cj [] cps K nx pc b fds lv sv i n = some succ) (hni : ys_isr i = false)
    (k : ∀ q ∈ succ, yt_X p l e R s m args below meth c Q kc kz D cl ad cT sh A H0 nL mods g0 r0 E tb gi h q.1 q.2) : yt_X p l e R s m args below meth c Q kc kz D cl ad cT sh A H0 nL mods g0 r0 E tb gi h pc (b, fds, lv, sv) := by
  intro r g H locs ls st hrep hh hsc hm
  exact ys_stp_gen (l := l) (e := e) (below := below) (meth := meth) (Q := Q) (ad := ad) (mods := []) (g0 := g) (r0 := r) (E := b.1.length) (G := []) (calls := []) S hnL hmods hfr hlo hkk hA0 hK hty hLk (fun q hq => absurd hq List.not_mem_nil) hnx hd hs (fun z => by rw [hni] at z; cases z) (fun q hq r' H' locs' ls' st' hrep' => yt_next hrep hh hsc hm (k q hq) hrep') r H locs ls st (yt_self hrep)
end YTY
end
section
/-! arrays, exactly -/
abbrev yt_U : Type := Nat × ys_S × List yt_Ev
def yt_mk (w : Bool) (x : ys_L) : ys_V := match w with
  | true => .inl (.inr x)
  | false => .inl (.inl x)
def yt_vl (w : Bool) (z : Int) : Value := match w with
  | true => .long (Int64.ofInt z)
  | false => .int (Int32.ofInt z)
theorem yt_mk_den {ad : Nat → Nat} {r : Nat → Int} {w : Bool} {x : ys_L} : ys_den ad r (yt_mk w x) = yt_vl w (ys_ev r x) := by
  cases w <;> rfl
theorem yt_mk_st {n : Nat} {w : Bool} {x : ys_L} (h : ys_stb n x) : ys_stV n (yt_mk w x) := by
  cases w <;> exact h
def yt_hld (kd : Nat) (w : Bool) (sh : List ys_C) (h : List yt_Ev) (pc : Nat) (b : ys_B) (fds : ys_F) (lv : List (Nat × ys_V)) (sv : List ys_V) : Option (List yt_U) := match sv with
  | .inl (.inl x) :: .inr (some k) :: t => (match sh[k]?, fds.2[k]? with
    | some (.inr y), some a => if decide (y.1 = kd) && ys_inb b x y.2.1 then (match yt_mem k x h with
      | some n => if n < b.1.length then some [(pc + 1, (b, fds, lv, yt_mk w (ys_sym n) :: t), h)] else none
      | none => (match ys_spl b.1 a x with
        | some i => some ((ys_cut3 pc b x i (fds, lv, .inl (.inl x) :: .inr (some k) :: t)).map fun q => (q.1, q.2, h))
        | none => if (ys_rd b.1 a x).1 = (ys_rd b.1 a x).2 then some [(pc + 1, (b, fds, lv, yt_mk w ([], (ys_rd b.1 a x).1) :: t), h)] else some [(pc + 1, ((b.1 ++ [ys_rd b.1 a x], b.2), fds, lv, yt_mk w (ys_sym b.1.length) :: t), .inl (.inl (k, x, b.1.length)) :: h)])) else none
    | _, _ => none)
  | _ => none
section YTA
variable {p : Program} {l : Launch} {e : Env} {R : Room} {s : State} {m : MethodId} {args : Array Value} {below : List Frame} {meth : Method} {c : Code} {Q : State → Prop} {kc kz : Nat} {D : va_G} {cl : List vw_C} {ad : Nat → Nat} {cT : Nat → ClassId} {sh : List ys_C} {A : Nat → Prop} {H0 : Heap} {nL : Nat} {mods : List Nat} {g0 : yt_G} {r0 : Nat → Int} {E : Nat} {tb : yt_Tb} {gi : yt_G} {h : List yt_Ev} {pc : Nat} {b : ys_B} {fds : ys_F} {lv : List (Nat × ys_V)} {sv : List ys_V} {succ : List yt_U} {cc : ByteArray} {own : String} {Ts : List Cond} {tys : List (ClassId × FieldType)}
/-- what an exact state holds -/
theorem yt_wd {r : Nat → Int} {g : yt_G} {S : ys_S} {H : Heap} {locs : List Loc} {ls : Array Slot} {st : List Value} (hrep : ys_rep D cl ad cT sh A H0 nL [] g r0 r E S H locs ls st) : (∀ (k : Nat) (a : ys_R), S.2.1.2[k]? = some a → ys_rok a (g k)) ∧ va_P D cl (ys_wld ad cT sh r g S.2.1.1) H ∧ va_D A (ys_wld ad cT sh r g S.2.1.1) ∧ va_S A H0 H locs := by
  obtain ⟨g', hg, hP, hD, hS⟩ := hrep.2.2.2.1
  have e1 : g' = g := funext fun k => hg.2 k List.not_mem_nil
  rw [e1] at hg hP hD
  exact ⟨hg.1, hP, hD, hS⟩
theorem yt_kld {kd : Nat} {w : Bool} (hrow : ∀ (x : ys_L) (k : Nat) (y : Nat × Nat × List Nat) (r : Nat → Int) (g : yt_G) (H : Heap) (locs : List Loc) (ls : Array Slot) (st2 : List Value) (n : Nat), sh[k]? = some (.inr y) → y.1 = kd → va_P D cl (ys_wld ad cT sh r g fds.1) H → vp_in (Int32.ofInt (ys_ev r x)) y.2.1 → (Int32.ofInt (ys_ev r x)).toNatClampNeg = n → W p l e R s m args below meth c H locs kc kz Q (F0 m (pc + 1) ls (yt_vl w (g k n) :: st2)) → W p l e R s m args below meth c H locs kc kz Q (F0 m pc ls (.int (Int32.ofInt (ys_ev r x)) :: .ref (ad k) :: st2)))
    (hs : yt_hld kd w sh h pc b fds lv sv = some succ) (k : ∀ q ∈ succ, yt_X p l e R s m args below meth c Q kc kz D cl ad cT sh A H0 nL mods g0 r0 E tb gi q.2.2 q.1 q.2.1) : yt_X p l e R s m args below meth c Q kc kz D cl ad cT sh A H0 nL mods g0 r0 E tb gi h pc (b, fds, lv, sv) := by
  unfold yt_hld at hs
  split at hs
  · rename_i x kk t
    split at hs
    · rename_i y a hsh har
      split at hs
      · rename_i hc
        rw [Bool.and_eq_true, decide_eq_true_eq] at hc
        obtain ⟨hkd, hin⟩ := hc
        intro r g H locs ls st hrep hh hsc hm
        obtain ⟨st1, e1, g1, hx⟩ := ys_rep_pop hrep
        obtain ⟨st2, e2, g2, -⟩ := ys_rep_pop g1
        obtain ⟨hg, hP, hD, hS⟩ := yt_wd hrep
        obtain ⟨n, e3, hn, hvi, e4⟩ := ys_inb_ok hrep.1 hin
        have e5 : (ys_ev r x).toNat = n := by rw [e3]; rfl
        split at hs
        · rename_i n0 hmem
          split at hs
          · rename_i hlt
            cases Option.some.inj hs
            subst e1; subst e2
            refine hrow x kk y r g H locs ls st2 n hsh hkd hP hvi e4 ?_
            have h1 := yt_mem_ok h g hmem hh
            rw [e5] at h1
            have k1 := k _ List.mem_cons_self r g H locs ls _ (ys_rep_push g2 (yt_mk w (ys_sym n0)) (yt_mk_st (ys_stb_sym hlt))) hh hsc hm
            rw [yt_mk_den, ys_sym_ev, h1] at k1
            exact k1
          · cases hs
        · split at hs
          · rename_i i hi
            cases Option.some.inj hs
            exact ys_kcut3 (p := p) (l := l) (e := e) (R := R) (s := s) (m := m) (args := args) (below := below) (meth := meth) (c := c) (Q := Q) (kc := kc) (kz := kz) (yt_self hrep) (hrep.2.1.2.2.2 (.inl (.inl x)) List.mem_cons_self) (fun q hq r' H' locs' ls' st' hrep' => yt_next hrep hh hsc hm (k _ (List.mem_map.mpr ⟨q, hq, rfl⟩)) hrep')
          · have hrd : (ys_rd b.1 a x).1 ≤ g kk n ∧ g kk n ≤ (ys_rd b.1 a x).2 := ys_rd_ok hrep.1.1 (hg kk a har) e3
            split at hs
            · rename_i heq
              cases Option.some.inj hs
              subst e1; subst e2
              refine hrow x kk y r g H locs ls st2 n hsh hkd hP hvi e4 ?_
              have k1 := k _ List.mem_cons_self r g H locs ls _ (ys_rep_push g2 (yt_mk w ([], (ys_rd b.1 a x).1)) (yt_mk_st (ys_stb_cst _))) hh hsc hm
              have e6 : ys_ev r (([], (ys_rd b.1 a x).1) : ys_L) = g kk n := by
                rw [ys_ev0]
                omega
              rw [yt_mk_den, e6] at k1
              exact k1
            · cases Option.some.inj hs
              subst e1; subst e2
              refine hrow x kk y r g H locs ls st2 n hsh hkd hP hvi e4 ?_
              have hok := ys_new_ok hrep.1 hrep.2.1.1 hrd
              have hll : b.1.length ≤ (b.1 ++ [ys_rd b.1 a x]).length := by rw [List.length_append]; omega
              have hlt : b.1.length < (b.1 ++ [ys_rd b.1 a x]).length := by rw [List.length_append, List.length_singleton]; omega
              have g3 := ys_rep_ext g2 (r' := ys_up r b.1.length (g kk n)) (b' := (b.1 ++ [ys_rd b.1 a x], b.2)) ys_up_lt hok hll (ys_scB_new hrep.2.1.1)
              have hx : ys_stb b.1.length x := hx
              have hcg : ∀ i, i < b.1.length → r i = ys_up r b.1.length (g kk n) i := fun i hi => (ys_up_lt i hi).symm
              have k1 := k _ List.mem_cons_self (ys_up r b.1.length (g kk n)) g H locs ls _ (ys_rep_push g3 (yt_mk w (ys_sym b.1.length)) (yt_mk_st (ys_stb_sym hlt))) ⟨g, yt_h_cong hcg hsc hh, rfl, by
                show ys_up r b.1.length (g kk n) b.1.length = g kk (ys_ev (ys_up r b.1.length (g kk n)) x).toNat
                rw [ys_up_at, ← hx r _ hcg, e5]⟩ (fun v hv => by
                  rcases List.mem_cons.mp hv with q | q
                  · rw [q]
                    exact ⟨ys_stb_mono hx hll, hlt⟩
                  · exact yt_sc_mono hll (hsc v q)) hm
              rw [yt_mk_den, ys_sym_ev, ys_up_at] at k1
              exact k1
      · cases hs
    · cases hs
  · cases hs
theorem yt_kild (hexec : p.tables.exec = Jvm.exec) (hb : c.code = cc) (hK : va_K D cl tys s) (hty : tys[0]? = some (cT 0, .int)) (hd : decode cc pc = .ok (.iaload, 1)) (hs : yt_hld 0 false sh h pc b fds lv sv = some succ) (k : ∀ q ∈ succ, yt_X p l e R s m args below meth c Q kc kz D cl ad cT sh A H0 nL mods g0 r0 E tb gi q.2.2 q.1 q.2.1) : yt_X p l e R s m args below meth c Q kc kz D cl ad cT sh A H0 nL mods g0 r0 E tb gi h pc (b, fds, lv, sv) := by
  refine yt_kld (kd := 0) (w := false) (fun x kk y r g H locs ls st2 n hsh hkd hP hvi e4 hW => ?_) hs k
  have hw := ys_wld_get (ad := ad) (cT := cT) (r := r) (g := g) (fds := fds.1) hsh
  obtain ⟨kd, len, tg⟩ := y
  have hkd : kd = 0 := hkd
  subst hkd
  refine va_iald hexec hb hK hP kk 0 (f := fun j => Int32.ofInt (g kk j)) hw hty hvi hd ?_
  rw [e4]
  exact hW
theorem yt_klld (hexec : p.tables.exec = Jvm.exec) (hb : c.code = cc) (hK : va_K D cl tys s) (hty : tys[1]? = some (cT 1, .long)) (hd : decode cc pc = .ok (.laload, 1)) (hs : yt_hld 1 true sh h pc b fds lv sv = some succ) (k : ∀ q ∈ succ, yt_X p l e R s m args below meth c Q kc kz D cl ad cT sh A H0 nL mods g0 r0 E tb gi q.2.2 q.1 q.2.1) : yt_X p l e R s m args below meth c Q kc kz D cl ad cT sh A H0 nL mods g0 r0 E tb gi h pc (b, fds, lv, sv) := by
  refine yt_kld (kd := 1) (w := true) (fun x kk y r g H locs ls st2 n hsh hkd hP hvi e4 hW => ?_) hs k
  have hw := ys_wld_get (ad := ad) (cT := cT) (r := r) (g := g) (fds := fds.1) hsh
  obtain ⟨kd, len, tg⟩ := y
  have hkd : kd = 1 := hkd
  subst hkd
  refine va_lald hexec hb hK hP kk 1 (f := fun j => Int64.ofInt (g kk j)) hw hty hvi hd ?_
  rw [e4]
  exact hW
theorem yt_kbld (hexec : p.tables.exec = Jvm.exec) (hb : c.code = cc) (hK : va_K D cl tys s) (hty : tys[2]? = some (cT 2, .byte)) (hd : decode cc pc = .ok (.baload, 1)) (hs : yt_hld 2 false sh h pc b fds lv sv = some succ) (k : ∀ q ∈ succ, yt_X p l e R s m args below meth c Q kc kz D cl ad cT sh A H0 nL mods g0 r0 E tb gi q.2.2 q.1 q.2.1) : yt_X p l e R s m args below meth c Q kc kz D cl ad cT sh A H0 nL mods g0 r0 E tb gi h pc (b, fds, lv, sv) := by
  refine yt_kld (kd := 2) (w := false) (fun x kk y r g H locs ls st2 n hsh hkd hP hvi e4 hW => ?_) hs k
  have hw := ys_wld_get (ad := ad) (cT := cT) (r := r) (g := g) (fds := fds.1) hsh
  obtain ⟨kd, len, tg⟩ := y
  have hkd : kd = 2 := hkd
  subst hkd
  refine va_bald hexec hb hK hP kk 2 (f := fun j => Int32.ofInt (g kk j)) hw hty hvi hd ?_
  rw [e4]
  exact hW
theorem yt_kzld (hexec : p.tables.exec = Jvm.exec) (hb : c.code = cc) (hK : va_K D cl tys s) (hty : tys[3]? = some (cT 3, .boolean)) (hd : decode cc pc = .ok (.baload, 1)) (hs : yt_hld 3 false sh h pc b fds lv sv = some succ) (k : ∀ q ∈ succ, yt_X p l e R s m args below meth c Q kc kz D cl ad cT sh A H0 nL mods g0 r0 E tb gi q.2.2 q.1 q.2.1) : yt_X p l e R s m args below meth c Q kc kz D cl ad cT sh A H0 nL mods g0 r0 E tb gi h pc (b, fds, lv, sv) := by
  refine yt_kld (kd := 3) (w := false) (fun x kk y r g H locs ls st2 n hsh hkd hP hvi e4 hW => ?_) hs k
  have hw := ys_wld_get (ad := ad) (cT := cT) (r := r) (g := g) (fds := fds.1) hsh
  obtain ⟨kd, len, tg⟩ := y
  have hkd : kd = 3 := hkd
  subst hkd
  refine va_zald hexec hb hK hP kk 3 (f := fun j => Int32.ofInt (g kk j)) hw hty hvi hd ?_
  rw [e4]
  exact hW
end YTA
def yt_hst (kd : Nat) (w : Bool) (q0 : Int × Int) (sh : List ys_C) (mods : List Nat) (h : List yt_Ev) (pc : Nat) (b : ys_B) (fds : ys_F) (lv : List (Nat × ys_V)) (sv : List ys_V) : Option (List yt_U) := match sv with
  | v :: .inl (.inl x) :: .inr (some k) :: t => (match (match w, v with
      | false, .inl (.inl z) => some z
      | true, .inl (.inr z) => some z
      | _, _ => none), sh[k]?, fds.2[k]? with
    | some z, some (.inr y), some a => (match ys_ivl b.1 z with
      | some q => if decide (y.1 = kd) && (ys_inb b x y.2.1 && (decide (k ∈ mods) && (decide (q0.1 ≤ q.1) && decide (q.2 ≤ q0.2)))) then some [(pc + 1, (b, (fds.1, fds.2.set k (ys_wr b.1 a x q)), lv, t), .inr (.inl (k, x, z)) :: h)] else none
      | none => none)
    | _, _, _ => none)
  | _ => none
section YTB
variable {p : Program} {l : Launch} {e : Env} {R : Room} {s : State} {m : MethodId} {args : Array Value} {below : List Frame} {meth : Method} {c : Code} {Q : State → Prop} {kc kz : Nat} {D : va_G} {cl : List vw_C} {ad : Nat → Nat} {cT : Nat → ClassId} {sh : List ys_C} {A : Nat → Prop} {H0 : Heap} {nL : Nat} {mods : List Nat} {g0 : yt_G} {r0 : Nat → Int} {E : Nat} {tb : yt_Tb} {gi : yt_G} {h : List yt_Ev} {pc : Nat} {b : ys_B} {fds : ys_F} {lv : List (Nat × ys_V)} {sv : List ys_V} {succ : List yt_U} {cc : ByteArray} {own : String} {Ts : List Cond} {tys : List (ClassId × FieldType)}
theorem yt_kst {kd : Nat} {w : Bool} {q0 : Int × Int} (hrow : ∀ (x z : ys_L) (k : Nat) (y : Nat × Nat × List Nat) (r : Nat → Int) (g : yt_G) (H : Heap) (locs : List Loc) (ls : Array Slot) (st2 : List Value) (n : Nat), sh[k]? = some (.inr y) → y.1 = kd → (q0.1 ≤ ys_ev r z ∧ ys_ev r z ≤ q0.2) → va_P D cl (ys_wld ad cT sh r g fds.1) H → va_D A (ys_wld ad cT sh r g fds.1) → va_S A H0 H locs → vp_in (Int32.ofInt (ys_ev r x)) y.2.1 → (Int32.ofInt (ys_ev r x)).toNatClampNeg = n → (∀ (H1 : Heap) (locs1 : List Loc), va_P D cl (ys_wld ad cT sh r (ys_gup g k n (ys_ev r z)) fds.1) H1 → va_D A (ys_wld ad cT sh r (ys_gup g k n (ys_ev r z)) fds.1) → va_S A H0 H1 locs1 → W p l e R s m args below meth c H1 locs1 kc kz Q (F0 m (pc + 1) ls st2)) → W p l e R s m args below meth c H locs kc kz Q (F0 m pc ls (yt_vl w (ys_ev r z) :: .int (Int32.ofInt (ys_ev r x)) :: .ref (ad k) :: st2)))
    (hs : yt_hst kd w q0 sh mods h pc b fds lv sv = some succ) (k : ∀ q ∈ succ, yt_X p l e R s m args below meth c Q kc kz D cl ad cT sh A H0 nL mods g0 r0 E tb gi q.2.2 q.1 q.2.1) : yt_X p l e R s m args below meth c Q kc kz D cl ad cT sh A H0 nL mods g0 r0 E tb gi h pc (b, fds, lv, sv) := by
  unfold yt_hst at hs
  split at hs
  · rename_i v x kk t
    split at hs
    · rename_i z y a hz hsh har
      split at hs
      · rename_i q hiv
        split at hs
        · rename_i hc
          simp only [Bool.and_eq_true, decide_eq_true_eq] at hc
          obtain ⟨hkd, hin, hmk, hq⟩ := hc
          cases Option.some.inj hs
          have k := k _ List.mem_cons_self
          intro r g H locs ls st hrep hh hsc hm
          obtain ⟨st1, e1, g1, hvs⟩ := ys_rep_pop hrep
          obtain ⟨st2, e2, g2, hx⟩ := ys_rep_pop g1
          obtain ⟨st3, e3, g3, -⟩ := ys_rep_pop g2
          obtain ⟨hg, hP, hD, hS⟩ := yt_wd hrep
          obtain ⟨n, e4, hn, hvi, e5⟩ := ys_inb_ok hrep.1 hin
          have hzq := ys_ivl_ok hrep.1.1 hiv
          have hv : v = yt_mk w z := by
            split at hz
            · cases Option.some.inj hz
              rfl
            · cases Option.some.inj hz
              rfl
            · cases hz
          have hzs : ys_stb b.1.length z := by
            rw [hv] at hvs
            cases w <;> exact hvs
          rw [hv, yt_mk_den] at e1
          subst e1; subst e2; subst e3
          refine hrow x z kk y r g H locs ls st3 n hsh hkd (by omega) hP hD hS hvi e5 fun H1 locs1 hP1 hD1 hS1 => ?_
          obtain ⟨q1, ⟨s0, s1, s2, s3⟩, q2, -, q4, q5⟩ := g3
          refine k r (ys_gup g kk n (ys_ev r z)) H1 locs1 ls st3 ⟨q1, ⟨s0, s1, s2, s3⟩, q2, ⟨_, ⟨fun i w2 hi => ?_, fun _ _ => rfl⟩, hP1, hD1, hS1⟩, q4, q5⟩ ⟨g, hh, by
            show ys_gup g kk n (ys_ev r z) = ys_gup g kk (ys_ev r x).toNat (ys_ev r z)
            rw [e4]
            rfl⟩ (fun v hv => ?_) (fun i hi => ?_)
          · by_cases hk : i = kk
            · subst hk
              have hl : i < fds.2.length := (List.getElem?_eq_some_iff.mp har).1
              have hi : (fds.2.set i (ys_wr b.1 a x q))[i]? = some w2 := hi
              rw [List.getElem?_set_self hl] at hi
              cases hi
              have e6 : ys_gup g i n (ys_ev r z) i = fun j => if j = n then ys_ev r z else g i j := if_pos rfl
              rw [e6]
              exact ys_wr_ok hrep.1.1 (hg i a har) e4 hzq
            · have hi : (fds.2.set kk (ys_wr b.1 a x q))[i]? = some w2 := hi
              rw [List.getElem?_set_ne (Ne.symm hk)] at hi
              have e6 : ys_gup g kk n (ys_ev r z) i = g i := if_neg hk
              rw [e6]
              exact hg i w2 hi
          · rcases List.mem_cons.mp hv with q | q
            · rw [q]
              exact ⟨hx, hzs⟩
            · exact hsc v q
          · have hk : i ≠ kk := fun e => hi (e ▸ hmk)
            have e6 : ys_gup g kk n (ys_ev r z) i = g i := if_neg hk
            rw [e6]
            exact hm i hi
        · cases hs
      · cases hs
    · cases hs
  · cases hs
theorem yt_kist (hexec : p.tables.exec = Jvm.exec) (hb : c.code = cc) (hK : va_K D cl tys s) (hty : tys[0]? = some (cT 0, .int)) (hd : decode cc pc = .ok (.iastore, 1)) (hs : yt_hst 0 false ((-9223372036854775808), 9223372036854775808) sh mods h pc b fds lv sv = some succ) (k : ∀ q ∈ succ, yt_X p l e R s m args below meth c Q kc kz D cl ad cT sh A H0 nL mods g0 r0 E tb gi q.2.2 q.1 q.2.1) : yt_X p l e R s m args below meth c Q kc kz D cl ad cT sh A H0 nL mods g0 r0 E tb gi h pc (b, fds, lv, sv) := by
  refine yt_kst (kd := 0) (w := false) (fun x z kk y r g H locs ls st2 n hsh hkd hq hP hD hS hvi e5 hW => ?_) hs k
  have hw := ys_wld_get (ad := ad) (cT := cT) (r := r) (g := g) (fds := fds.1) hsh
  obtain ⟨kd, len, tg⟩ := y
  have hkd : kd = 0 := hkd
  subst hkd
  refine va_iast hexec hb hK hP hD hS kk 0 (f := fun j => Int32.ofInt (g kk j)) hw hty hvi hd fun H1 locs1 hP1 hD1 hS1 => ?_
  have ew := ys_wld_set (ad := ad) (cT := cT) (r := r) (g := g) (g' := ys_gup g kk n (ys_ev r z)) (fds := fds.1) (fds' := fds.1) hsh (fun i hi => ⟨if_neg hi, rfl⟩)
  have ef : (fun j => Int32.ofInt (ys_gup g kk n (ys_ev r z) kk j)) = upd (fun j => Int32.ofInt (g kk j)) (Int32.ofInt (ys_ev r x)).toNatClampNeg (Int32.ofInt (ys_ev r z)) := by
    rw [e5]
    funext j
    unfold ys_gup upd
    rw [if_pos rfl]
    by_cases hj : j = n
    · rw [if_pos hj, if_pos hj]
    · rw [if_neg hj, if_neg hj]
  have ec : ys_cel ad cT r (ys_gup g kk n (ys_ev r z)) kk (.inr (0, len, tg)) (fds.1.getD kk []) = (ad kk, .inl (cT 0, len, .inl (upd (fun j => Int32.ofInt (g kk j)) (Int32.ofInt (ys_ev r x)).toNatClampNeg (Int32.ofInt (ys_ev r z))))) := by
    show ((ad kk, Sum.inl (cT 0, len, Sum.inl (fun j => Int32.ofInt (ys_gup g kk n (ys_ev r z) kk j)))) : Nat × va_E) = _
    rw [ef]
  rw [ec] at ew
  exact hW H1 locs1 (by rw [ew]; exact hP1) (by rw [ew]; exact hD1) hS1
theorem yt_klst (hexec : p.tables.exec = Jvm.exec) (hb : c.code = cc) (hK : va_K D cl tys s) (hty : tys[1]? = some (cT 1, .long)) (hd : decode cc pc = .ok (.lastore, 1)) (hs : yt_hst 1 true ((-9223372036854775808), 9223372036854775808) sh mods h pc b fds lv sv = some succ) (k : ∀ q ∈ succ, yt_X p l e R s m args below meth c Q kc kz D cl ad cT sh A H0 nL mods g0 r0 E tb gi q.2.2 q.1 q.2.1) : yt_X p l e R s m args below meth c Q kc kz D cl ad cT sh A H0 nL mods g0 r0 E tb gi h pc (b, fds, lv, sv) := by
  refine yt_kst (kd := 1) (w := true) (fun x z kk y r g H locs ls st2 n hsh hkd hq hP hD hS hvi e5 hW => ?_) hs k
  have hw := ys_wld_get (ad := ad) (cT := cT) (r := r) (g := g) (fds := fds.1) hsh
  obtain ⟨kd, len, tg⟩ := y
  have hkd : kd = 1 := hkd
  subst hkd
  refine va_last hexec hb hK hP hD hS kk 1 (f := fun j => Int64.ofInt (g kk j)) hw hty hvi hd fun H1 locs1 hP1 hD1 hS1 => ?_
  have ew := ys_wld_set (ad := ad) (cT := cT) (r := r) (g := g) (g' := ys_gup g kk n (ys_ev r z)) (fds := fds.1) (fds' := fds.1) hsh (fun i hi => ⟨if_neg hi, rfl⟩)
  have ef : (fun j => Int64.ofInt (ys_gup g kk n (ys_ev r z) kk j)) = vp_updL (fun j => Int64.ofInt (g kk j)) (Int32.ofInt (ys_ev r x)).toNatClampNeg (Int64.ofInt (ys_ev r z)) := by
    rw [e5]
    funext j
    unfold ys_gup vp_updL
    rw [if_pos rfl]
    by_cases hj : j = n
    · rw [if_pos hj, if_pos hj]
    · rw [if_neg hj, if_neg hj]
  have ec : ys_cel ad cT r (ys_gup g kk n (ys_ev r z)) kk (.inr (1, len, tg)) (fds.1.getD kk []) = (ad kk, .inl (cT 1, len, .inr (.inl (vp_updL (fun j => Int64.ofInt (g kk j)) (Int32.ofInt (ys_ev r x)).toNatClampNeg (Int64.ofInt (ys_ev r z)))))) := by
    show ((ad kk, Sum.inl (cT 1, len, Sum.inr (Sum.inl (fun j => Int64.ofInt (ys_gup g kk n (ys_ev r z) kk j))))) : Nat × va_E) = _
    rw [ef]
  rw [ec] at ew
  exact hW H1 locs1 (by rw [ew]; exact hP1) (by rw [ew]; exact hD1) hS1
theorem yt_kbst (hexec : p.tables.exec = Jvm.exec) (hb : c.code = cc) (hK : va_K D cl tys s) (hty : tys[2]? = some (cT 2, .byte)) (hd : decode cc pc = .ok (.bastore, 1)) (hs : yt_hst 2 false ((-128), 127) sh mods h pc b fds lv sv = some succ) (k : ∀ q ∈ succ, yt_X p l e R s m args below meth c Q kc kz D cl ad cT sh A H0 nL mods g0 r0 E tb gi q.2.2 q.1 q.2.1) : yt_X p l e R s m args below meth c Q kc kz D cl ad cT sh A H0 nL mods g0 r0 E tb gi h pc (b, fds, lv, sv) := by
  refine yt_kst (kd := 2) (w := false) (fun x z kk y r g H locs ls st2 n hsh hkd hq hP hD hS hvi e5 hW => ?_) hs k
  have hw := ys_wld_get (ad := ad) (cT := cT) (r := r) (g := g) (fds := fds.1) hsh
  obtain ⟨kd, len, tg⟩ := y
  have hkd : kd = 2 := hkd
  subst hkd
  refine va_bast hexec hb hK hP hD hS kk 2 (f := fun j => Int32.ofInt (g kk j)) hw hty hvi hd fun H1 locs1 hP1 hD1 hS1 => ?_
  have ew := ys_wld_set (ad := ad) (cT := cT) (r := r) (g := g) (g' := ys_gup g kk n (ys_ev r z)) (fds := fds.1) (fds' := fds.1) hsh (fun i hi => ⟨if_neg hi, rfl⟩)
  have ef : (fun j => Int32.ofInt (ys_gup g kk n (ys_ev r z) kk j)) = upd (fun j => Int32.ofInt (g kk j)) (Int32.ofInt (ys_ev r x)).toNatClampNeg (vp_nar .byte (Int32.ofInt (ys_ev r z))) := by
    rw [e5]
    funext j
    unfold ys_gup upd
    rw [if_pos rfl]
    by_cases hj : j = n
    · rw [if_pos hj, if_pos hj]
      exact (ys_nar_b hq.1 hq.2).symm
    · rw [if_neg hj, if_neg hj]
  have ec : ys_cel ad cT r (ys_gup g kk n (ys_ev r z)) kk (.inr (2, len, tg)) (fds.1.getD kk []) = (ad kk, .inl (cT 2, len, .inl (upd (fun j => Int32.ofInt (g kk j)) (Int32.ofInt (ys_ev r x)).toNatClampNeg (vp_nar .byte (Int32.ofInt (ys_ev r z)))))) := by
    show ((ad kk, Sum.inl (cT 2, len, Sum.inl (fun j => Int32.ofInt (ys_gup g kk n (ys_ev r z) kk j)))) : Nat × va_E) = _
    rw [ef]
  rw [ec] at ew
  exact hW H1 locs1 (by rw [ew]; exact hP1) (by rw [ew]; exact hD1) hS1
theorem yt_kzst (hexec : p.tables.exec = Jvm.exec) (hb : c.code = cc) (hK : va_K D cl tys s) (hty : tys[3]? = some (cT 3, .boolean)) (hd : decode cc pc = .ok (.bastore, 1)) (hs : yt_hst 3 false (0, 1) sh mods h pc b fds lv sv = some succ) (k : ∀ q ∈ succ, yt_X p l e R s m args below meth c Q kc kz D cl ad cT sh A H0 nL mods g0 r0 E tb gi q.2.2 q.1 q.2.1) : yt_X p l e R s m args below meth c Q kc kz D cl ad cT sh A H0 nL mods g0 r0 E tb gi h pc (b, fds, lv, sv) := by
  refine yt_kst (kd := 3) (w := false) (fun x z kk y r g H locs ls st2 n hsh hkd hq hP hD hS hvi e5 hW => ?_) hs k
  have hw := ys_wld_get (ad := ad) (cT := cT) (r := r) (g := g) (fds := fds.1) hsh
  obtain ⟨kd, len, tg⟩ := y
  have hkd : kd = 3 := hkd
  subst hkd
  refine va_zast hexec hb hK hP hD hS kk 3 (f := fun j => Int32.ofInt (g kk j)) hw hty hvi hd fun H1 locs1 hP1 hD1 hS1 => ?_
  have ew := ys_wld_set (ad := ad) (cT := cT) (r := r) (g := g) (g' := ys_gup g kk n (ys_ev r z)) (fds := fds.1) (fds' := fds.1) hsh (fun i hi => ⟨if_neg hi, rfl⟩)
  have ef : (fun j => Int32.ofInt (ys_gup g kk n (ys_ev r z) kk j)) = upd (fun j => Int32.ofInt (g kk j)) (Int32.ofInt (ys_ev r x)).toNatClampNeg (vp_nar .boolean (Int32.ofInt (ys_ev r z))) := by
    rw [e5]
    funext j
    unfold ys_gup upd
    rw [if_pos rfl]
    by_cases hj : j = n
    · rw [if_pos hj, if_pos hj]
      exact (ys_nar_z hq.1 hq.2).symm
    · rw [if_neg hj, if_neg hj]
  have ec : ys_cel ad cT r (ys_gup g kk n (ys_ev r z)) kk (.inr (3, len, tg)) (fds.1.getD kk []) = (ad kk, .inl (cT 3, len, .inl (upd (fun j => Int32.ofInt (g kk j)) (Int32.ofInt (ys_ev r x)).toNatClampNeg (vp_nar .boolean (Int32.ofInt (ys_ev r z)))))) := by
    show ((ad kk, Sum.inl (cT 3, len, Sum.inl (fun j => Int32.ofInt (ys_gup g kk n (ys_ev r z) kk j)))) : Nat × va_E) = _
    rw [ef]
  rw [ec] at ew
  exact hW H1 locs1 (by rw [ew]; exact hP1) (by rw [ew]; exact hD1) hS1
/-- a part of one array into another -/
def yt_hcp (lo : Nat) (sh : List ys_C) (mods : List Nat) (h : List yt_Ev) (pc : Nat) (b : ys_B) (fds : ys_F) (lv : List (Nat × ys_V)) (sv : List ys_V) : Option (List yt_U) := match sv with
  | .inl (.inl n) :: .inl (.inl dp) :: .inr (some kd) :: .inl (.inl sp) :: .inr (some ks) :: t => (match sh[kd]?, sh[ks]?, fds.2[kd]?, fds.2[ks]? with
    | some (.inr yd), some (.inr ys), some ad, some as => if (decide (yd.1 = 0) || decide (yd.1 = 1)) && (decide (ys.1 = yd.1) && (ys_prt b dp n yd.2.1 && (ys_prt b sp n ys.2.1 && (decide (kd ∈ mods) && decide ((t.map ys_cat).sum + ys_ncw ≤ lo))))) then some [(pc + 3, (b, (fds.1, fds.2.set kd (ys_hul (ys_alh ad.2 ad.1) (ys_alh as.2 as.1), [])), lv, t), .inr (.inr (.inr (ks, kd, sp, dp, n))) :: h)] else none
    | _, _, _, _ => none)
  | _ => none
theorem yt_ncl {b : ys_B} {r : Nat → Int} (hb : ys_okB r b) {x n : ys_L} {len : Nat} (hc : ys_prt b x n len = true) : (Int32.ofInt (ys_ev r x)).toNatClampNeg = (ys_ev r x).toNat ∧ (Int32.ofInt (ys_ev r n)).toNatClampNeg = (ys_ev r n).toNat := by
  unfold ys_prt at hc
  rw [Bool.and_eq_true, Bool.and_eq_true] at hc
  have e1 := ys_inr32 hb.1 hc.1
  have e2 := ys_inr32 hb.1 hc.2.1
  exact ⟨by show (Int32.ofInt (ys_ev r x)).toInt.toNat = _; rw [e1], by show (Int32.ofInt (ys_ev r n)).toInt.toNat = _; rw [e2]⟩
theorem yt_kcp {idx lo : Nat} (hexec : p.tables.exec = Jvm.exec) (hb : c.code = cc) (hml : c.maxLocals = nL) (hts : ∀ w ∈ Ts, w.before args s = true) (hown : s.vm.findClass own = some m.cls) (hK : va_K D cl tys s) (hty0 : tys[0]? = some (cT 0, .int)) (hty1 : tys[1]? = some (cT 1, .long)) (hfr : 1 ≤ R.frames) (hlo : lo ≤ R.locals) (hw1 : Cond.methodLink own idx arraycopyName ∈ Ts) (hw2 : Cond.native arraycopyName ∈ Ts) (hw3 : Cond.static arraycopyName ∈ Ts) (hw4 : Cond.initialized "java/lang/System" ∈ Ts) (hd : decode cc pc = .ok (.invokestatic idx, 3)) (hs : yt_hcp lo sh mods h pc b fds lv sv = some succ) (k : ∀ q ∈ succ, yt_X p l e R s m args below meth c Q kc kz D cl ad cT sh A H0 nL mods g0 r0 E tb gi q.2.2 q.1 q.2.1) : yt_X p l e R s m args below meth c Q kc kz D cl ad cT sh A H0 nL mods g0 r0 E tb gi h pc (b, fds, lv, sv) := by
  unfold yt_hcp at hs
  split at hs
  · rename_i n dp kd sp ks t
    split at hs
    · rename_i yd ys aD aS hshd hshs hard hars
      split at hs
      · rename_i hc
        simp only [Bool.and_eq_true, Bool.or_eq_true, decide_eq_true_eq] at hc
        obtain ⟨hkd, hks, hpd, hps, hmk, hlw⟩ := hc
        cases Option.some.inj hs
        have k := k _ List.mem_cons_self
        intro r g H locs ls st hrep hh hsc hm
        obtain ⟨st1, e1, g1, hn⟩ := ys_rep_pop hrep
        obtain ⟨st2, e2, g2, hdp⟩ := ys_rep_pop g1
        obtain ⟨st3, e3, g3, -⟩ := ys_rep_pop g2
        obtain ⟨st4, e4, g4, hsp⟩ := ys_rep_pop g3
        obtain ⟨st5, e5, g5, -⟩ := ys_rep_pop g4
        subst e1; subst e2; subst e3; subst e4; subst e5
        obtain ⟨hg, hP, hD, hS⟩ := yt_wd hrep
        obtain ⟨q1, ⟨s0, s1, s2, s3⟩, q2, -, q4, q5⟩ := g5
        obtain ⟨p1, p2, p3⟩ := ys_prt_ok hrep.1 hpd
        obtain ⟨p4, -, p6⟩ := ys_prt_ok hrep.1 hps
        obtain ⟨c1, c2⟩ := yt_ncl hrep.1 hpd
        obtain ⟨c3, -⟩ := yt_ncl hrep.1 hps
        have hwd := ys_wld_get (ad := ad) (cT := cT) (r := r) (g := g) (fds := fds.1) hshd
        have hws := ys_wld_get (ad := ad) (cT := cT) (r := r) (g := g) (fds := fds.1) hshs
        have hrest : (st5.map fun v => v.category).sum + (nativeFrameWords "java/lang/System" "arraycopy" 5 + 11) ≤ R.locals := by
          rw [q5, ys_cats]
          exact Nat.le_trans hlw hlo
        obtain ⟨kdd, ld, td⟩ := yd
        obtain ⟨kss, lsn, tss⟩ := ys
        have hks : kss = kdd := hks
        subst hks
        obtain ⟨G1, eG⟩ : ∃ G1 : yt_G, G1 = ys_gcp g ks kd (ys_ev r sp).toNat (ys_ev r dp).toNat (ys_ev r n).toNat := ⟨_, rfl⟩
        have fin : ∀ (H1 : Heap) (locs1 : List Loc), va_P D cl (ys_wld ad cT sh r G1 fds.1) H1 → va_D A (ys_wld ad cT sh r G1 fds.1) → va_S A H0 H1 locs1 → W p l e R s m args below meth c H1 locs1 kc kz Q (F0 m (pc + 3) ls st5) := by
          intro H1 locs1 hP1 hD1 hS1
          refine k r G1 H1 locs1 ls _ ⟨q1, ⟨s0, s1, s2, s3⟩, q2, ⟨_, ⟨fun i w hi => ?_, fun _ _ => rfl⟩, hP1, hD1, hS1⟩, q4, q5⟩ ⟨g, hh, eG⟩ (fun v hv => ?_) (fun i hi => ?_)
          · by_cases hk : i = kd
            · subst hk
              have hl : i < fds.2.length := (List.getElem?_eq_some_iff.mp hard).1
              have hi : (fds.2.set i (ys_hul (ys_alh aD.2 aD.1) (ys_alh aS.2 aS.1), []))[i]? = some w := hi
              rw [List.getElem?_set_self hl] at hi
              cases hi
              intro j
              show (ys_hul (ys_alh aD.2 aD.1) (ys_alh aS.2 aS.1)).1 ≤ G1 i j ∧ G1 i j ≤ (ys_hul (ys_alh aD.2 aD.1) (ys_alh aS.2 aS.1)).2
              rw [eG]
              unfold ys_gcp
              rw [if_pos rfl]
              unfold va_cpy
              split
              · exact ys_hul_r (ys_alh_ok (hg ks aS hars) _)
              · exact ys_hul_l (ys_alh_ok (hg i aD hard) j)
            · have hi : (fds.2.set kd (ys_hul (ys_alh aD.2 aD.1) (ys_alh aS.2 aS.1), []))[i]? = some w := hi
              rw [List.getElem?_set_ne (Ne.symm hk)] at hi
              have e6 : G1 i = g i := by rw [eG]; exact if_neg hk
              rw [e6]
              exact hg i w hi
          · rcases List.mem_cons.mp hv with q | q
            · rw [q]
              exact ⟨hsp, hdp, hn⟩
            · exact hsc v q
          · have hk : i ≠ kd := fun e => hi (e ▸ hmk)
            have e6 : G1 i = g i := by rw [eG]; exact if_neg hk
            rw [e6]
            exact hm i hi
        have ew := ys_wld_set (ad := ad) (cT := cT) (r := r) (g := g) (g' := G1) (fds := fds.1) (fds' := fds.1) hshd (fun i hi => ⟨by rw [eG]; exact if_neg hi, rfl⟩)
        have hml2 : c.maxLocals = ls.size := hml.trans q4.1.symm
        rcases hkd with hk0 | hk1
        · have hk0 : kss = 0 := hk0
          subst hk0
          refine va_copyi hexec hb hml2 hown (hts _ hw1) (hts _ hw2) (hts _ hw3) (hts _ hw4) hK hP hD hS ks kd 0 0 (f := fun j => Int32.ofInt (g ks j)) (g := fun j => Int32.ofInt (g kd j)) hws hwd hty0 hty0 rfl p4 p1 p2 p6 p3 (fun i _ => rfl) hfr hrest hd fun H1 locs1 hP1 hD1 hS1 => ?_
          rw [c1, c2, c3] at hP1 hD1
          have ef : (fun j => Int32.ofInt (G1 kd j)) = va_cpy (fun j => Int32.ofInt (g ks j)) (fun j => Int32.ofInt (g kd j)) (ys_ev r sp).toNat (ys_ev r dp).toNat (ys_ev r n).toNat := by
            funext j
            rw [eG]
            unfold ys_gcp
            rw [if_pos rfl]
            unfold va_cpy
            split <;> rfl
          have ec : ys_cel ad cT r G1 kd (.inr (0, ld, td)) (fds.1.getD kd []) = (ad kd, .inl (cT 0, ld, .inl (va_cpy (fun j => Int32.ofInt (g ks j)) (fun j => Int32.ofInt (g kd j)) (ys_ev r sp).toNat (ys_ev r dp).toNat (ys_ev r n).toNat))) := by
            show ((ad kd, Sum.inl (cT 0, ld, Sum.inl (fun j => Int32.ofInt (G1 kd j)))) : Nat × va_E) = _
            rw [ef]
          rw [ec] at ew
          exact fin H1 locs1 (by rw [ew]; exact hP1) (by rw [ew]; exact hD1) hS1
        · have hk1 : kss = 1 := hk1
          subst hk1
          refine va_copyl hexec hb hml2 hown (hts _ hw1) (hts _ hw2) (hts _ hw3) (hts _ hw4) hK hP hD hS ks kd 1 1 (f := fun j => Int64.ofInt (g ks j)) (g := fun j => Int64.ofInt (g kd j)) hws hwd hty1 hty1 rfl p4 p1 p2 p6 p3 (fun i _ => rfl) hfr hrest hd fun H1 locs1 hP1 hD1 hS1 => ?_
          rw [c1, c2, c3] at hP1 hD1
          have ef : (fun j => Int64.ofInt (G1 kd j)) = va_cpy (fun j => Int64.ofInt (g ks j)) (fun j => Int64.ofInt (g kd j)) (ys_ev r sp).toNat (ys_ev r dp).toNat (ys_ev r n).toNat := by
            funext j
            rw [eG]
            unfold ys_gcp
            rw [if_pos rfl]
            unfold va_cpy
            split <;> rfl
          have ec : ys_cel ad cT r G1 kd (.inr (1, ld, td)) (fds.1.getD kd []) = (ad kd, .inl (cT 1, ld, .inr (.inl (va_cpy (fun j => Int64.ofInt (g ks j)) (fun j => Int64.ofInt (g kd j)) (ys_ev r sp).toNat (ys_ev r dp).toNat (ys_ev r n).toNat)))) := by
            show ((ad kd, Sum.inl (cT 1, ld, Sum.inr (Sum.inl (fun j => Int64.ofInt (G1 kd j))))) : Nat × va_E) = _
            rw [ef]
          rw [ec] at ew
          exact fin H1 locs1 (by rw [ew]; exact hP1) (by rw [ew]; exact hD1) hS1
      · cases hs
    · cases hs
  · cases hs
end YTB
end
section
/-! numbers by cases: a new symbol, facts, what the number is, whether it is the product -/
abbrev yt_Br : Type := (Int × Int) × List ys_L × ys_L × Bool
def yt_num (w : Bool) (pc : Nat) (b : ys_B) (fds : ys_F) (lv : List (Nat × ys_V)) (t : List ys_V) (h : List yt_Ev) (x y : ys_L) (brs : List yt_Br) : List yt_U := brs.flatMap fun br => match ys_ass (b.1 ++ [br.1], b.2) br.2.1 with
  | some b' => [(pc, (b', fds, lv, yt_mk w br.2.2.1 :: t), if br.2.2.2 = true then .inl (.inr (b.1.length, x, y)) :: h else h)]
  | none => []
def yt_bst (n : Nat) (br : yt_Br) : Prop := (∀ f ∈ br.2.1, ys_stb (n + 1) f) ∧ ys_stb (n + 1) br.2.2.1
def yt_sel (w : Bool) (n : Nat) (r : Nat → Int) (x y : ys_L) (V : Value) (br : yt_Br) (z : Int) : Prop := (br.1.1 ≤ z ∧ z ≤ br.1.2) ∧ ys_fk (ys_up r n z) br.2.1 ∧ yt_vl w (ys_ev (ys_up r n z) br.2.2.1) = V ∧ (br.2.2.2 = true → z = ys_ev r x * ys_ev r y)
section YTN
variable {p : Program} {l : Launch} {e : Env} {R : Room} {s : State} {m : MethodId} {args : Array Value} {below : List Frame} {meth : Method} {c : Code} {Q : State → Prop} {kc kz : Nat} {D : va_G} {cl : List vw_C} {ad : Nat → Nat} {cT : Nat → ClassId} {sh : List ys_C} {A : Nat → Prop} {H0 : Heap} {nL : Nat} {mods : List Nat} {g0 : yt_G} {r0 : Nat → Int} {E : Nat} {tb : yt_Tb} {gi : yt_G} {h : List yt_Ev} {pc : Nat} {b : ys_B} {fds : ys_F} {lv : List (Nat × ys_V)} {sv : List ys_V} {succ : List yt_U} {cc : ByteArray} {own : String} {Ts : List Cond} {tys : List (ClassId × FieldType)}
theorem yt_knum {w : Bool} {pc' : Nat} {x y : ys_L} {brs : List yt_Br} {t : List ys_V} {r : Nat → Int} {g : yt_G} {H : Heap} {locs : List Loc} {ls : Array Slot} {st : List Value} {V : Value} (hrep : ys_rep D cl ad cT sh A H0 nL [] g r0 r E (b, fds, lv, t) H locs ls st) (hh : yt_h tb r gi h g) (hsc : ∀ v ∈ h, yt_sc b.1.length v) (hm : ∀ k, k ∉ mods → g k = g0 k) (hx : ys_stb b.1.length x) (hy : ys_stb b.1.length y) (hst : ∀ br ∈ brs, yt_bst b.1.length br) (hsel : ∃ br ∈ brs, ∃ z, yt_sel w b.1.length r x y V br z) (k : ∀ q ∈ yt_num w pc' b fds lv t h x y brs, yt_X p l e R s m args below meth c Q kc kz D cl ad cT sh A H0 nL mods g0 r0 E tb gi q.2.2 q.1 q.2.1) : W p l e R s m args below meth c H locs kc kz Q (F0 m pc' ls (V :: st)) := by
  obtain ⟨br, hbr, z, hz, hf, hV, hev⟩ := hsel
  obtain ⟨hs1, hs2⟩ := hst br hbr
  have hok := ys_new_ok hrep.1 hrep.2.1.1 hz
  have hl0 : (b.1 ++ [br.1]).length = b.1.length + 1 := by rw [List.length_append, List.length_singleton]
  obtain ⟨b', eb, hb'⟩ := ys_ass_ok br.2.1 hok hf
  have hl : b'.1.length = b.1.length + 1 := (ys_ass_len _ eb).trans hl0
  have hsc' := ys_ass_sc (n := b.1.length + 1) br.2.1 hl0 (ys_scB_new hrep.2.1.1) hs1 eb
  have g3 := ys_rep_ext hrep (r' := ys_up r b.1.length z) (b' := b') ys_up_lt hb' (by rw [hl]; omega) hsc'
  have hmem : ((pc', (b', fds, lv, yt_mk w br.2.2.1 :: t), if br.2.2.2 = true then .inl (.inr (b.1.length, x, y)) :: h else h) : yt_U) ∈ yt_num w pc' b fds lv t h x y brs := by
    refine List.mem_flatMap.mpr ⟨br, hbr, ?_⟩
    rw [eb]
    exact List.mem_cons_self
  have hcg : ∀ i, i < b.1.length → r i = ys_up r b.1.length z i := fun i hi => (ys_up_lt i hi).symm
  have hle : b.1.length ≤ b'.1.length := by rw [hl]; omega
  have k1 := k _ hmem (ys_up r b.1.length z) g H locs ls _ (ys_rep_push g3 (yt_mk w br.2.2.1) (yt_mk_st (by rw [hl]; exact hs2))) (by
    dsimp only
    split
    · rename_i he
      refine ⟨g, yt_h_cong hcg hsc hh, rfl, ?_⟩
      show ys_up r b.1.length z b.1.length = ys_ev (ys_up r b.1.length z) x * ys_ev (ys_up r b.1.length z) y
      rw [ys_up_at, ← hx r _ hcg, ← hy r _ hcg]
      exact hev he
    · exact yt_h_cong hcg hsc hh) (fun v hv => by
      dsimp only at hv
      split at hv
      · rcases List.mem_cons.mp hv with q | q
        · rw [q]
          exact ⟨by show b.1.length < b'.1.length; omega, ys_stb_mono hx hle, ys_stb_mono hy hle⟩
        · exact yt_sc_mono hle (hsc v q)
      · exact yt_sc_mono hle (hsc v hv)) hm
  rw [yt_mk_den, hV] at k1
  exact k1
end YTN
/-- facts in short -/
def yt_ge0 (n : Nat) (fs : List ys_L) : Prop := ∀ f ∈ fs, ys_stb (n + 1) f
theorem yt_fk2 {r : Nat → Int} {f g : ys_L} (h1 : 0 ≤ ys_ev r f) (h2 : 0 ≤ ys_ev r g) : ys_fk r [f, g] := fun q hq => by
  rcases List.mem_cons.mp hq with e | e
  · rw [e]; exact h1
  · rw [List.mem_singleton.mp e]; exact h2
theorem yt_fk3 {r : Nat → Int} {f g k : ys_L} (h1 : 0 ≤ ys_ev r f) (h2 : 0 ≤ ys_ev r g) (h3 : 0 ≤ ys_ev r k) : ys_fk r [f, g, k] := fun q hq => by
  rcases List.mem_cons.mp hq with e | e
  · rw [e]; exact h1
  · exact yt_fk2 h2 h3 q e
theorem yt_all1 {n : Nat} {f : ys_L} (h1 : ys_stb n f) : ∀ q ∈ [f], ys_stb n q := fun q hq => by rw [List.mem_singleton.mp hq]; exact h1
theorem yt_all2 {n : Nat} {f g : ys_L} (h1 : ys_stb n f) (h2 : ys_stb n g) : ∀ q ∈ [f, g], ys_stb n q := fun q hq => by
  rcases List.mem_cons.mp hq with e | e
  · rw [e]; exact h1
  · exact yt_all1 h2 q e
theorem yt_all3 {n : Nat} {f g k : ys_L} (h1 : ys_stb n f) (h2 : ys_stb n g) (h3 : ys_stb n k) : ∀ q ∈ [f, g, k], ys_stb n q := fun q hq => by
  rcases List.mem_cons.mp hq with e | e
  · rw [e]; exact h1
  · exact yt_all2 h2 h3 q e
def yt_m1 (f : ys_L) : ys_L := ys_add f ([], -1)
theorem yt_m1_ev {r : Nat → Int} {f : ys_L} : ys_ev r (yt_m1 f) = ys_ev r f - 1 := ys_m1 r f
def yt_ng (f : ys_L) : ys_L := ys_scale (-1) f
theorem yt_ng_ev {r : Nat → Int} {f : ys_L} : ys_ev r (yt_ng f) = -ys_ev r f := by
  unfold yt_ng
  rw [ys_scale_ev]
  omega
theorem yt_up_ev {r : Nat → Int} {n : Nat} {z : Int} {x : ys_L} (hx : ys_stb n x) : ys_ev (ys_up r n z) x = ys_ev r x := hx _ _ fun i hi => ys_up_lt i hi
theorem yt_up_sym {r : Nat → Int} {n : Nat} {z : Int} : ys_ev (ys_up r n z) (ys_sym n) = z := by rw [ys_sym_ev, ys_up_at]
/-- what is left of a division, by the signs -/
def yt_brem (b : ys_B) (x y : ys_L) : Option (List yt_Br) := match ys_low b.1 y, ys_high b.1 y with
  | some ly, some hy => if ys_inr true b.1 x && ys_inr true b.1 y then
      (if 1 ≤ ly then some [((0, 0), [x, yt_m1 (ys_sub y x)], x, false), ((0, hy), [ys_sub x y, yt_m1 (ys_sub y (ys_sym b.1.length)), ys_sub (ys_sub x y) (ys_sym b.1.length)], ys_sym b.1.length, false), ((-hy, 0), [yt_m1 (yt_ng x), yt_m1 (ys_add (ys_sym b.1.length) y), ys_sub (ys_sym b.1.length) x], ys_sym b.1.length, false)]
      else if hy ≤ -1 then some [((0, -ly), [x, yt_m1 (ys_sub (yt_ng y) (ys_sym b.1.length)), ys_sub x (ys_sym b.1.length)], ys_sym b.1.length, false), ((ly, 0), [yt_m1 (yt_ng x), yt_m1 (ys_sub (ys_sym b.1.length) y), ys_sub (ys_sym b.1.length) x], ys_sym b.1.length, false)]
      else none) else none
  | _, _ => none
theorem yt_rem64 {x y : Int} (hx : -9223372036854775808 ≤ x ∧ x ≤ 9223372036854775807) (hy : -9223372036854775808 ≤ y ∧ y ≤ 9223372036854775807) : Int64.ofInt x - Int64.ofInt x / Int64.ofInt y * Int64.ofInt y = Int64.ofInt (x.tmod y) := by
  have hd : Int64.ofInt x / Int64.ofInt y = Int64.ofInt (x.tdiv y) := by
    apply Int64.toInt_inj.mp
    rw [Int64.toInt_div, Int64.toInt_ofInt_of_le (by omega) (by omega), Int64.toInt_ofInt_of_le (by omega) (by omega), Int64.toInt_ofInt]
  rw [hd, ← Int64.ofInt_mul, ← Int64.ofInt_sub, Int.tmod_def, Int.mul_comm y]
theorem yt_emod_big {x y : Int} (hy : 1 ≤ y) (hxy : y ≤ x) : x % y ≤ x - y := by
  have h1 := Int.emod_add_mul_ediv x y
  have h2 : 1 ≤ x / y := Int.le_ediv_of_mul_le (by omega) (by omega)
  have h3 := Int.mul_le_mul_of_nonneg_left h2 (show (0 : Int) ≤ y by omega)
  omega
theorem yt_brem_ok {b : ys_B} {x y : ys_L} {brs : List yt_Br} (hs : yt_brem b x y = some brs) (hx : ys_stb b.1.length x) (hy : ys_stb b.1.length y) {r : Nat → Int} (hb : ys_okB r b) : ys_ev r y ≠ 0 ∧ (ys_mn true ≤ ys_ev r y ∧ ys_ev r y ≤ ys_mx true) ∧ (∀ br ∈ brs, yt_bst b.1.length br) ∧ ∃ br ∈ brs, ∃ z, yt_sel true b.1.length r x y (.long (Int64.ofInt (ys_ev r x) - Int64.ofInt (ys_ev r x) / Int64.ofInt (ys_ev r y) * Int64.ofInt (ys_ev r y))) br z := by
  have sx := ys_stb_mono hx (Nat.le_succ _)
  have sy := ys_stb_mono hy (Nat.le_succ _)
  have sn : ys_stb (b.1.length + 1) (ys_sym b.1.length) := ys_stb_sym (Nat.lt_succ_self _)
  unfold yt_brem at hs
  split at hs
  · rename_i ly hyy hl hu
    split at hs
    · rename_i hc
      rw [Bool.and_eq_true] at hc
      have rx := ys_inr_ok hb.1 hc.1
      have ry := ys_inr_ok hb.1 hc.2
      rw [ys_mn_t, ys_mx_t] at rx ry
      have l1 := ys_low_le hb.1 hl
      have l2 := ys_high_le hb.1 hu
      have hrem := yt_rem64 rx ry
      rw [hrem]
      split at hs
      · rename_i hp
        cases Option.some.inj hs
        refine ⟨by omega, ys_inr_ok hb.1 hc.2, ?_, ?_⟩
        · intro br hbr
          rcases List.mem_cons.mp hbr with q | hbr
          · rw [q]
            exact ⟨yt_all2 sx (ys_stb_m1 (ys_stb_sub sy sx)), sx⟩
          rcases List.mem_cons.mp hbr with q | hbr
          · rw [q]
            exact ⟨yt_all3 (ys_stb_sub sx sy) (ys_stb_m1 (ys_stb_sub sy sn)) (ys_stb_sub (ys_stb_sub sx sy) sn), sn⟩
          · rw [List.mem_singleton.mp hbr]
            exact ⟨yt_all3 (ys_stb_m1 (ys_stb_scale _ sx)) (ys_stb_m1 (ys_stb_add sn sy)) (ys_stb_sub sn sx), sn⟩
        · by_cases h0 : 0 ≤ ys_ev r x
          · have e1 : (ys_ev r x).tmod (ys_ev r y) = ys_ev r x % ys_ev r y := Int.tmod_eq_emod_of_nonneg h0
            have e2 := Int.emod_nonneg (ys_ev r x) (b := ys_ev r y) (by omega)
            have e3 := Int.emod_lt_of_pos (ys_ev r x) (b := ys_ev r y) (by omega)
            by_cases hlt : ys_ev r x < ys_ev r y
            · refine ⟨_, List.mem_cons_self, 0, ⟨Int.le_refl 0, Int.le_refl 0⟩, yt_fk2 ?_ ?_, ?_, fun z => by cases z⟩
              · rw [yt_up_ev hx]; exact h0
              · rw [yt_m1_ev, ys_sub_ev, yt_up_ev hx, yt_up_ev hy]; omega
              · show Value.long (Int64.ofInt (ys_ev _ x)) = _
                rw [yt_up_ev hx, e1, Int.emod_eq_of_lt h0 hlt]
            · have e4 := yt_emod_big (x := ys_ev r x) (y := ys_ev r y) (by omega) (by omega)
              refine ⟨_, List.mem_cons_of_mem _ List.mem_cons_self, ys_ev r x % ys_ev r y, ⟨e2, by show _ ≤ hyy; omega⟩, yt_fk3 ?_ ?_ ?_, ?_, fun z => by cases z⟩
              · rw [ys_sub_ev, yt_up_ev hx, yt_up_ev hy]; omega
              · rw [yt_m1_ev, ys_sub_ev, yt_up_ev hy, yt_up_sym]; omega
              · rw [ys_sub_ev, ys_sub_ev, yt_up_ev hx, yt_up_ev hy, yt_up_sym]; omega
              · show Value.long (Int64.ofInt (ys_ev _ (ys_sym b.1.length))) = _
                rw [yt_up_sym, e1]
          · have e1 : (ys_ev r x).tmod (ys_ev r y) = -((-ys_ev r x) % ys_ev r y) := by
              have := Int.neg_tmod (-ys_ev r x) (ys_ev r y)
              rw [Int.neg_neg, Int.tmod_eq_emod_of_nonneg (show 0 ≤ -ys_ev r x by omega)] at this
              exact this
            have e2 := Int.emod_nonneg (-ys_ev r x) (b := ys_ev r y) (by omega)
            have e3 := Int.emod_lt_of_pos (-ys_ev r x) (b := ys_ev r y) (by omega)
            have e4 : (-ys_ev r x) % ys_ev r y ≤ -ys_ev r x := by
              by_cases hlt : -ys_ev r x < ys_ev r y
              · rw [Int.emod_eq_of_lt (by omega) hlt]
                omega
              · have := yt_emod_big (x := -ys_ev r x) (y := ys_ev r y) (by omega) (by omega)
                omega
            refine ⟨_, List.mem_cons_of_mem _ (List.mem_cons_of_mem _ List.mem_cons_self), -((-ys_ev r x) % ys_ev r y), ⟨by show -hyy ≤ _; omega, by show _ ≤ (0 : Int); omega⟩, yt_fk3 ?_ ?_ ?_, ?_, fun z => by cases z⟩
            · rw [yt_m1_ev, yt_ng_ev, yt_up_ev hx]; omega
            · rw [yt_m1_ev, ys_add_ev, yt_up_ev hy, yt_up_sym]; omega
            · rw [ys_sub_ev, yt_up_ev hx, yt_up_sym]; omega
            · show Value.long (Int64.ofInt (ys_ev _ (ys_sym b.1.length))) = _
              rw [yt_up_sym, e1]
      · split at hs
        · rename_i hp
          cases Option.some.inj hs
          refine ⟨by omega, ys_inr_ok hb.1 hc.2, ?_, ?_⟩
          · intro br hbr
            rcases List.mem_cons.mp hbr with q | hbr
            · rw [q]
              exact ⟨yt_all3 sx (ys_stb_m1 (ys_stb_sub (ys_stb_scale _ sy) sn)) (ys_stb_sub sx sn), sn⟩
            · rw [List.mem_singleton.mp hbr]
              exact ⟨yt_all3 (ys_stb_m1 (ys_stb_scale _ sx)) (ys_stb_m1 (ys_stb_sub sn sy)) (ys_stb_sub sn sx), sn⟩
          · have e0 : (ys_ev r x).tmod (ys_ev r y) = (ys_ev r x).tmod (-ys_ev r y) := (Int.tmod_neg _ _).symm
            rw [e0]
            by_cases h0 : 0 ≤ ys_ev r x
            · have e1 : (ys_ev r x).tmod (-ys_ev r y) = ys_ev r x % (-ys_ev r y) := Int.tmod_eq_emod_of_nonneg h0
              have e2 := Int.emod_nonneg (ys_ev r x) (b := -ys_ev r y) (by omega)
              have e3 := Int.emod_lt_of_pos (ys_ev r x) (b := -ys_ev r y) (by omega)
              have e4 : ys_ev r x % (-ys_ev r y) ≤ ys_ev r x := by
                by_cases hlt : ys_ev r x < -ys_ev r y
                · rw [Int.emod_eq_of_lt h0 hlt]
                  omega
                · have := yt_emod_big (x := ys_ev r x) (y := -ys_ev r y) (by omega) (by omega)
                  omega
              refine ⟨_, List.mem_cons_self, ys_ev r x % (-ys_ev r y), ⟨e2, by show _ ≤ -ly; omega⟩, yt_fk3 ?_ ?_ ?_, ?_, fun z => by cases z⟩
              · rw [yt_up_ev hx]; exact h0
              · rw [yt_m1_ev, ys_sub_ev, yt_ng_ev, yt_up_ev hy, yt_up_sym]; omega
              · rw [ys_sub_ev, yt_up_ev hx, yt_up_sym]; omega
              · show Value.long (Int64.ofInt (ys_ev _ (ys_sym b.1.length))) = _
                rw [yt_up_sym, e1]
            · have e1 : (ys_ev r x).tmod (-ys_ev r y) = -((-ys_ev r x) % (-ys_ev r y)) := by
                have := Int.neg_tmod (-ys_ev r x) (-ys_ev r y)
                rw [Int.neg_neg, Int.tmod_eq_emod_of_nonneg (show 0 ≤ -ys_ev r x by omega)] at this
                exact this
              have e2 := Int.emod_nonneg (-ys_ev r x) (b := -ys_ev r y) (by omega)
              have e3 := Int.emod_lt_of_pos (-ys_ev r x) (b := -ys_ev r y) (by omega)
              have e4 : (-ys_ev r x) % (-ys_ev r y) ≤ -ys_ev r x := by
                by_cases hlt : -ys_ev r x < -ys_ev r y
                · rw [Int.emod_eq_of_lt (by omega) hlt]
                  omega
                · have := yt_emod_big (x := -ys_ev r x) (y := -ys_ev r y) (by omega) (by omega)
                  omega
              refine ⟨_, List.mem_cons_of_mem _ List.mem_cons_self, -((-ys_ev r x) % (-ys_ev r y)), ⟨by show ly ≤ _; omega, by show _ ≤ (0 : Int); omega⟩, yt_fk3 ?_ ?_ ?_, ?_, fun z => by cases z⟩
              · rw [yt_m1_ev, yt_ng_ev, yt_up_ev hx]; omega
              · rw [yt_m1_ev, ys_sub_ev, yt_up_ev hy, yt_up_sym]; omega
              · rw [ys_sub_ev, yt_up_ev hx, yt_up_sym]; omega
              · show Value.long (Int64.ofInt (ys_ev _ (ys_sym b.1.length))) = _
                rw [yt_up_sym, e1]
        · cases hs
    · cases hs
  · cases hs
/-- a quotient by what is above 0 -/
def yt_bdiv (b : ys_B) (x y : ys_L) : Option (List yt_Br) := match ys_low b.1 y, ys_low b.1 x, ys_high b.1 x with
  | some ly, some lx, some hx => if ys_inr true b.1 x && (ys_inr true b.1 y && decide (1 ≤ ly)) then some [((0, 0), [x, yt_m1 (ys_sub y x)], ([], 0), false), ((1, hx), [ys_sub x y, ys_sub x (ys_sym b.1.length)], ys_sym b.1.length, false), ((lx, 0), [yt_m1 (yt_ng x), ys_sub (ys_sym b.1.length) x], ys_sym b.1.length, false)] else none
  | _, _, _ => none
theorem yt_div64 {x y : Int} (hx : -9223372036854775808 ≤ x ∧ x ≤ 9223372036854775807) (hy : -9223372036854775808 ≤ y ∧ y ≤ 9223372036854775807) : Int64.ofInt x / Int64.ofInt y = Int64.ofInt (x.tdiv y) := by
  apply Int64.toInt_inj.mp
  rw [Int64.toInt_div, Int64.toInt_ofInt_of_le (by omega) (by omega), Int64.toInt_ofInt_of_le (by omega) (by omega), Int64.toInt_ofInt]
theorem yt_bdiv_ok {b : ys_B} {x y : ys_L} {brs : List yt_Br} (hs : yt_bdiv b x y = some brs) (hx : ys_stb b.1.length x) (hy : ys_stb b.1.length y) {r : Nat → Int} (hb : ys_okB r b) : ys_ev r y ≠ 0 ∧ (ys_mn true ≤ ys_ev r y ∧ ys_ev r y ≤ ys_mx true) ∧ (∀ br ∈ brs, yt_bst b.1.length br) ∧ ∃ br ∈ brs, ∃ z, yt_sel true b.1.length r x y (.long (Int64.ofInt (ys_ev r x) / Int64.ofInt (ys_ev r y))) br z := by
  have sx := ys_stb_mono hx (Nat.le_succ _)
  have sy := ys_stb_mono hy (Nat.le_succ _)
  have sn : ys_stb (b.1.length + 1) (ys_sym b.1.length) := ys_stb_sym (Nat.lt_succ_self _)
  unfold yt_bdiv at hs
  split at hs
  · rename_i ly lx hxx hl hlx hu
    split at hs
    · rename_i hc
      rw [Bool.and_eq_true, Bool.and_eq_true, decide_eq_true_eq] at hc
      obtain ⟨c1, c2, hp⟩ := hc
      have rx := ys_inr_ok hb.1 c1
      have ry := ys_inr_ok hb.1 c2
      rw [ys_mn_t, ys_mx_t] at rx ry
      have l1 := ys_low_le hb.1 hl
      have l2 := ys_high_le hb.1 hu
      have l3 := ys_low_le hb.1 hlx
      rw [yt_div64 rx ry]
      cases Option.some.inj hs
      refine ⟨by omega, ys_inr_ok hb.1 c2, ?_, ?_⟩
      · intro br hbr
        rcases List.mem_cons.mp hbr with q | hbr
        · rw [q]
          exact ⟨yt_all2 sx (ys_stb_m1 (ys_stb_sub sy sx)), ys_stb_cst 0⟩
        rcases List.mem_cons.mp hbr with q | hbr
        · rw [q]
          exact ⟨yt_all2 (ys_stb_sub sx sy) (ys_stb_sub sx sn), sn⟩
        · rw [List.mem_singleton.mp hbr]
          exact ⟨yt_all2 (ys_stb_m1 (ys_stb_scale _ sx)) (ys_stb_sub sn sx), sn⟩
      · by_cases h0 : 0 ≤ ys_ev r x
        · have e1 : (ys_ev r x).tdiv (ys_ev r y) = ys_ev r x / ys_ev r y := Int.tdiv_eq_ediv_of_nonneg h0
          by_cases hlt : ys_ev r x < ys_ev r y
          · refine ⟨_, List.mem_cons_self, 0, ⟨Int.le_refl 0, Int.le_refl 0⟩, yt_fk2 ?_ ?_, ?_, fun z => by cases z⟩
            · rw [yt_up_ev hx]; exact h0
            · rw [yt_m1_ev, ys_sub_ev, yt_up_ev hx, yt_up_ev hy]; omega
            · show Value.long (Int64.ofInt (ys_ev _ (([], 0) : ys_L))) = _
              rw [ys_ev0, e1, Int.ediv_eq_zero_of_lt h0 hlt]
          · have e2 : 1 ≤ ys_ev r x / ys_ev r y := Int.le_ediv_of_mul_le (by omega) (by omega)
            have e3 := Int.ediv_le_self (ys_ev r y) h0
            refine ⟨_, List.mem_cons_of_mem _ List.mem_cons_self, ys_ev r x / ys_ev r y, ⟨e2, by show _ ≤ hxx; omega⟩, yt_fk2 ?_ ?_, ?_, fun z => by cases z⟩
            · rw [ys_sub_ev, yt_up_ev hx, yt_up_ev hy]; omega
            · rw [ys_sub_ev, yt_up_ev hx, yt_up_sym]; omega
            · show Value.long (Int64.ofInt (ys_ev _ (ys_sym b.1.length))) = _
              rw [yt_up_sym, e1]
        · have e1 : (ys_ev r x).tdiv (ys_ev r y) = -((-ys_ev r x) / ys_ev r y) := by
            have := Int.neg_tdiv (-ys_ev r x) (ys_ev r y)
            rw [Int.neg_neg, Int.tdiv_eq_ediv_of_nonneg (show 0 ≤ -ys_ev r x by omega)] at this
            exact this
          have e2 := Int.ediv_nonneg (a := -ys_ev r x) (b := ys_ev r y) (by omega) (by omega)
          have e3 := Int.ediv_le_self (a := -ys_ev r x) (ys_ev r y) (by omega)
          refine ⟨_, List.mem_cons_of_mem _ (List.mem_cons_of_mem _ List.mem_cons_self), -((-ys_ev r x) / ys_ev r y), ⟨by show lx ≤ _; omega, by show _ ≤ (0 : Int); omega⟩, yt_fk2 ?_ ?_, ?_, fun z => by cases z⟩
          · rw [yt_m1_ev, yt_ng_ev, yt_up_ev hx]; omega
          · rw [ys_sub_ev, yt_up_ev hx, yt_up_sym]; omega
          · show Value.long (Int64.ofInt (ys_ev _ (ys_sym b.1.length))) = _
            rw [yt_up_sym, e1]
    · cases hs
  · cases hs
/-- a product, by the bounds of both -/
def yt_mi (a b : Int) : Int := if a ≤ b then a else b
def yt_ma (a b : Int) : Int := if a ≤ b then b else a
def yt_pr (lx hx ly hy : Int) : Int × Int := (yt_mi (yt_mi (lx * ly) (lx * hy)) (yt_mi (hx * ly) (hx * hy)), yt_ma (yt_ma (lx * ly) (lx * hy)) (yt_ma (hx * ly) (hx * hy)))
def yt_sq (lx hx : Int) : Int × Int := (if 0 ≤ lx then lx * lx else if hx ≤ 0 then hx * hx else 0, yt_ma (lx * lx) (hx * hx))
theorem yt_mul1 {l h x y : Int} (h1 : l ≤ x) (h2 : x ≤ h) : yt_mi (l * y) (h * y) ≤ x * y ∧ x * y ≤ yt_ma (l * y) (h * y) := by
  unfold yt_mi yt_ma
  by_cases hy : 0 ≤ y
  · have a1 := Int.mul_le_mul_of_nonneg_right h1 hy
    have a2 := Int.mul_le_mul_of_nonneg_right h2 hy
    split <;> omega
  · have a1 := Int.mul_le_mul_of_nonpos_right h1 (show y ≤ 0 by omega)
    have a2 := Int.mul_le_mul_of_nonpos_right h2 (show y ≤ 0 by omega)
    split <;> omega
theorem yt_pr_ok {lx hx ly hy x y : Int} (h1 : lx ≤ x) (h2 : x ≤ hx) (h3 : ly ≤ y) (h4 : y ≤ hy) : (yt_pr lx hx ly hy).1 ≤ x * y ∧ x * y ≤ (yt_pr lx hx ly hy).2 := by
  have a := yt_mul1 (y := y) h1 h2
  have b := yt_mul1 (y := lx) h3 h4
  have c := yt_mul1 (y := hx) h3 h4
  rw [Int.mul_comm ly lx, Int.mul_comm hy lx, Int.mul_comm y lx] at b
  rw [Int.mul_comm ly hx, Int.mul_comm hy hx, Int.mul_comm y hx] at c
  unfold yt_pr
  dsimp only
  generalize yt_mi (lx * ly) (lx * hy) = m1 at *
  generalize yt_mi (hx * ly) (hx * hy) = m2 at *
  generalize yt_ma (lx * ly) (lx * hy) = m3 at *
  generalize yt_ma (hx * ly) (hx * hy) = m4 at *
  unfold yt_mi yt_ma at *
  split at a <;> split <;> split <;> omega
theorem yt_sq_ok {lx hx x : Int} (h1 : lx ≤ x) (h2 : x ≤ hx) : (yt_sq lx hx).1 ≤ x * x ∧ x * x ≤ (yt_sq lx hx).2 := by
  unfold yt_sq yt_ma
  dsimp only
  by_cases h0 : 0 ≤ x
  · have a1 := Int.mul_le_mul h2 h2 h0 (show 0 ≤ hx by omega)
    have a2 := Int.mul_nonneg h0 h0
    refine ⟨?_, by split <;> omega⟩
    split
    · rename_i hl
      exact Int.mul_le_mul h1 h1 hl h0
    · split
      · rename_i hh
        have : hx = 0 := by omega
        rw [this]
        omega
      · exact a2
  · have a0 : x * x = (-x) * (-x) := (Int.neg_mul_neg x x).symm
    have b0 : lx * lx = (-lx) * (-lx) := (Int.neg_mul_neg lx lx).symm
    have a1 := Int.mul_le_mul (show -x ≤ -lx by omega) (show -x ≤ -lx by omega) (show 0 ≤ -x by omega) (show 0 ≤ -lx by omega)
    rw [← a0, ← b0] at a1
    have a2 := Int.mul_nonneg (show 0 ≤ -x by omega) (show 0 ≤ -x by omega)
    rw [← a0] at a2
    refine ⟨?_, by split <;> omega⟩
    split
    · omega
    · split
      · rename_i hh
        have c0 : hx * hx = (-hx) * (-hx) := (Int.neg_mul_neg hx hx).symm
        rw [a0, c0]
        exact Int.mul_le_mul (show -hx ≤ -x by omega) (show -hx ≤ -x by omega) (show 0 ≤ -hx by omega) (show 0 ≤ -x by omega)
      · exact a2
def yt_pb (x y : ys_L) (q t : Int × Int) : Int × Int := if x = y then yt_sq q.1 q.2 else yt_pr q.1 q.2 t.1 t.2
def yt_bmul (w : Bool) (b : ys_B) (x y : ys_L) : Option (List yt_Br) := match ys_ivl b.1 x, ys_ivl b.1 y with
  | some q, some t => if ys_mn w ≤ (yt_pb x y q t).1 ∧ (yt_pb x y q t).2 ≤ ys_mx w then some [(yt_pb x y q t, [], ys_sym b.1.length, true)] else none
  | _, _ => none
theorem yt_bmul_ok {w : Bool} {b : ys_B} {x y : ys_L} {brs : List yt_Br} (hs : yt_bmul w b x y = some brs) {r : Nat → Int} (hb : ys_okB r b) : (∀ br ∈ brs, yt_bst b.1.length br) ∧ ∃ br ∈ brs, ∃ z, yt_sel w b.1.length r x y (yt_vl w (ys_ev r x * ys_ev r y)) br z := by
  have sn : ys_stb (b.1.length + 1) (ys_sym b.1.length) := ys_stb_sym (Nat.lt_succ_self _)
  unfold yt_bmul at hs
  split at hs
  · rename_i q t hq ht
    have h1 := ys_ivl_ok hb.1 hq
    have h2 := ys_ivl_ok hb.1 ht
    split at hs
    · have hs := (Option.some.inj hs).symm
      subst hs
      refine ⟨fun br hbr => ?_, _, List.mem_cons_self, ys_ev r x * ys_ev r y, ?_, fun f hf => absurd hf List.not_mem_nil, ?_, fun _ => rfl⟩
      · rw [List.mem_singleton.mp hbr]
        exact ⟨fun f hf => absurd hf List.not_mem_nil, sn⟩
      · show (yt_pb x y q t).1 ≤ _ ∧ _ ≤ (yt_pb x y q t).2
        unfold yt_pb
        split
        · rename_i e
          rw [← e]
          exact yt_sq_ok h1.1 h1.2
        · exact yt_pr_ok h1.1 h1.2 h2.1 h2.2
      · show yt_vl w (ys_ev _ (ys_sym b.1.length)) = _
        rw [yt_up_sym]
    · cases hs
  · cases hs
/-- bits of two that are not below 0 -/
def yt_band (b : ys_B) (x y : ys_L) : Option (List yt_Br) := match ys_nnb false b.1 y with
  | some u => if ys_geb b.1 x 0 && ys_inr false b.1 x then some [((0, u), [ys_sub y (ys_sym b.1.length), ys_sub x (ys_sym b.1.length)], ys_sym b.1.length, false)] else some [((0, u), [ys_sub y (ys_sym b.1.length)], ys_sym b.1.length, false)]
  | none => none
theorem yt_and_comm32 (x y : Int32) : x &&& y = y &&& x := by
  apply Int32.toBitVec_inj.mp
  rw [Int32.toBitVec_and, Int32.toBitVec_and, BitVec.and_comm]
theorem yt_band_ok {b : ys_B} {x y : ys_L} {brs : List yt_Br} (hs : yt_band b x y = some brs) (hx : ys_stb b.1.length x) (hy : ys_stb b.1.length y) {r : Nat → Int} (hb : ys_okB r b) : (∀ br ∈ brs, yt_bst b.1.length br) ∧ ∃ br ∈ brs, ∃ z, yt_sel false b.1.length r x y (.int (Int32.ofInt (ys_ev r x) &&& Int32.ofInt (ys_ev r y))) br z := by
  have sx := ys_stb_mono hx (Nat.le_succ _)
  have sy := ys_stb_mono hy (Nat.le_succ _)
  have sn : ys_stb (b.1.length + 1) (ys_sym b.1.length) := ys_stb_sym (Nat.lt_succ_self _)
  unfold yt_band at hs
  split at hs
  · rename_i u hu
    obtain ⟨e1, e2, e3⟩ := ys_nnb32 hb.1 hu
    obtain ⟨a1, a2⟩ := ys_and32 (Int32.ofInt (ys_ev r x)) (y := Int32.ofInt (ys_ev r y)) (by rw [e1]; exact e2)
    rw [e1] at a2
    split at hs
    · rename_i hc
      rw [Bool.and_eq_true] at hc
      have ex := ys_inr32 hb.1 hc.2
      have e4 := ys_geb_le hb.1 hc.1
      obtain ⟨-, a3⟩ := ys_and32 (Int32.ofInt (ys_ev r y)) (y := Int32.ofInt (ys_ev r x)) (by rw [ex]; exact e4)
      rw [ex, yt_and_comm32] at a3
      cases Option.some.inj hs
      refine ⟨fun br hbr => ?_, _, List.mem_cons_self, (Int32.ofInt (ys_ev r x) &&& Int32.ofInt (ys_ev r y)).toInt, ⟨a1, by show _ ≤ u; omega⟩, yt_fk2 ?_ ?_, ?_, fun z => by cases z⟩
      · rw [List.mem_singleton.mp hbr]
        exact ⟨yt_all2 (ys_stb_sub sy sn) (ys_stb_sub sx sn), sn⟩
      · rw [ys_sub_ev, yt_up_ev hy, yt_up_sym]; omega
      · rw [ys_sub_ev, yt_up_ev hx, yt_up_sym]; omega
      · show Value.int (Int32.ofInt (ys_ev _ (ys_sym b.1.length))) = _
        rw [yt_up_sym, Int32.ofInt_toInt]
    · cases Option.some.inj hs
      refine ⟨fun br hbr => ?_, _, List.mem_cons_self, (Int32.ofInt (ys_ev r x) &&& Int32.ofInt (ys_ev r y)).toInt, ⟨a1, by show _ ≤ u; omega⟩, ys_fk1 ?_, ?_, fun z => by cases z⟩
      · rw [List.mem_singleton.mp hbr]
        exact ⟨yt_all1 (ys_stb_sub sy sn), sn⟩
      · rw [ys_sub_ev, yt_up_ev hy, yt_up_sym]; omega
      · show Value.int (Int32.ofInt (ys_ev _ (ys_sym b.1.length))) = _
        rw [yt_up_sym, Int32.ofInt_toInt]
  · cases hs
/-- how far from 0 -/
def yt_babs (w : Bool) (b : ys_B) (x : ys_L) : Option (List yt_Br) := if ys_inr w b.1 x then (if ys_geb b.1 x (ys_mn w + 1) then some [((0, 0), [x], x, false), ((0, 0), [yt_m1 (yt_ng x)], yt_ng x, false)] else some [((0, 0), [x], x, false), ((0, 0), [yt_m1 (yt_ng x), ys_sub x ([], ys_mn w + 1)], yt_ng x, false), ((0, 0), [ys_sub ([], ys_mn w) x], ([], ys_mn w), false)]) else none
theorem yt_babs_ok {w : Bool} {b : ys_B} {x : ys_L} {brs : List yt_Br} (hs : yt_babs w b x = some brs) (hx : ys_stb b.1.length x) {r : Nat → Int} (hb : ys_okB r b) {V : Value} (hV1 : 0 ≤ ys_ev r x → V = yt_vl w (ys_ev r x)) (hV2 : ys_ev r x < 0 → V = yt_vl w (-ys_ev r x)) (hV3 : ys_ev r x = ys_mn w → V = yt_vl w (ys_mn w)) : (ys_mn w ≤ ys_ev r x ∧ ys_ev r x ≤ ys_mx w) ∧ (∀ br ∈ brs, yt_bst b.1.length br) ∧ ∃ br ∈ brs, ∃ z, yt_sel w b.1.length r x x V br z := by
  have sx := ys_stb_mono hx (Nat.le_succ _)
  unfold yt_babs at hs
  split at hs
  · rename_i hc
    have rx := ys_inr_ok hb.1 hc
    refine ⟨rx, ?_⟩
    split at hs
    · cases Option.some.inj hs
      refine ⟨fun br hbr => ?_, ?_⟩
      · rcases List.mem_cons.mp hbr with q | hbr
        · rw [q]
          exact ⟨yt_all1 sx, sx⟩
        · rw [List.mem_singleton.mp hbr]
          exact ⟨yt_all1 (ys_stb_m1 (ys_stb_scale _ sx)), ys_stb_scale _ sx⟩
      · by_cases h0 : 0 ≤ ys_ev r x
        · refine ⟨_, List.mem_cons_self, 0, ⟨Int.le_refl 0, Int.le_refl 0⟩, ys_fk1 ?_, ?_, fun z => by cases z⟩
          · rw [yt_up_ev hx]; exact h0
          · dsimp only
            rw [yt_up_ev hx, hV1 h0]
        · refine ⟨_, List.mem_cons_of_mem _ List.mem_cons_self, 0, ⟨Int.le_refl 0, Int.le_refl 0⟩, ys_fk1 ?_, ?_, fun z => by cases z⟩
          · rw [yt_m1_ev, yt_ng_ev, yt_up_ev hx]; omega
          · dsimp only
            rw [yt_ng_ev, yt_up_ev hx, hV2 (by omega)]
    · cases Option.some.inj hs
      refine ⟨fun br hbr => ?_, ?_⟩
      · rcases List.mem_cons.mp hbr with q | hbr
        · rw [q]
          exact ⟨yt_all1 sx, sx⟩
        rcases List.mem_cons.mp hbr with q | hbr
        · rw [q]
          exact ⟨yt_all2 (ys_stb_m1 (ys_stb_scale _ sx)) (ys_stb_sub sx (ys_stb_cst _)), ys_stb_scale _ sx⟩
        · rw [List.mem_singleton.mp hbr]
          exact ⟨yt_all1 (ys_stb_sub (ys_stb_cst _) sx), ys_stb_cst _⟩
      · by_cases h0 : 0 ≤ ys_ev r x
        · refine ⟨_, List.mem_cons_self, 0, ⟨Int.le_refl 0, Int.le_refl 0⟩, ys_fk1 ?_, ?_, fun z => by cases z⟩
          · rw [yt_up_ev hx]; exact h0
          · dsimp only
            rw [yt_up_ev hx, hV1 h0]
        · by_cases h1 : ys_ev r x = ys_mn w
          · refine ⟨_, List.mem_cons_of_mem _ (List.mem_cons_of_mem _ List.mem_cons_self), 0, ⟨Int.le_refl 0, Int.le_refl 0⟩, ys_fk1 ?_, ?_, fun z => by cases z⟩
            · rw [ys_sub_ev, yt_up_ev hx, ys_ev0]; omega
            · dsimp only
              rw [ys_ev0, hV3 h1]
          · refine ⟨_, List.mem_cons_of_mem _ List.mem_cons_self, 0, ⟨Int.le_refl 0, Int.le_refl 0⟩, yt_fk2 ?_ ?_, ?_, fun z => by cases z⟩
            · rw [yt_m1_ev, yt_ng_ev, yt_up_ev hx]; omega
            · rw [ys_sub_ev, yt_up_ev hx, ys_ev0]; omega
            · dsimp only
              rw [yt_ng_ev, yt_up_ev hx, hV2 (by omega)]
  · cases hs
end
section
/-! a call by a contract over a part of the world -/
def yt_rV (em : List Nat) (v : ys_V) : ys_V := match v with
  | .inl x => .inl x
  | .inr none => .inr none
  | .inr (some j) => .inr (some (yt_e em j))
theorem yt_rV_den {ad : Nat → Nat} {r : Nat → Int} {em : List Nat} (v : ys_V) : ys_den ad r (yt_rV em v) = ys_den (fun k => ad (yt_e em k)) r v := by
  rcases v with (x | x) | x
  · rfl
  · rfl
  · cases x <;> rfl
theorem yt_rV_st {n : Nat} {em : List Nat} {v : ys_V} (h : ys_stV n v) : ys_stV n (yt_rV em v) := by
  rcases v with (x | x) | x
  · exact h
  · exact h
  · cases x <;> trivial
theorem yt_rV_cat {em : List Nat} {v : ys_V} : ys_cat (yt_rV em v) = ys_cat v := by
  rcases v with (x | x) | x
  · rfl
  · rfl
  · cases x <;> rfl
/-- where a cell stands among others -/
def yt_ix (j : Nat) : Nat → List Nat → Option Nat
  | _, [] => none
  | i, x :: t => if x = j then some i else yt_ix j (i + 1) t
theorem yt_ix_some {j k : Nat} : ∀ (l : List Nat) (i : Nat), yt_ix j i l = some k → ∃ n, k = i + n ∧ l[n]? = some j
  | [], i, h => by cases h
  | x :: t, i, h => by
    unfold yt_ix at h
    split at h
    · rename_i e
      cases Option.some.inj h
      exact ⟨0, rfl, by rw [e]; rfl⟩
    · obtain ⟨n, h1, h2⟩ := yt_ix_some t (i + 1) h
      exact ⟨n + 1, by omega, h2⟩
theorem yt_ix_none {j : Nat} : ∀ (l : List Nat) (i : Nat), yt_ix j i l = none → j ∉ l
  | [], i, _ => List.not_mem_nil
  | x :: t, i, h => by
    unfold yt_ix at h
    split at h
    · cases h
    · rename_i e
      intro hm
      rcases List.mem_cons.mp hm with q | q
      · exact e q.symm
      · exact yt_ix_none t (i + 1) h q
def yt_shok1 (em : List Nat) (c' : ys_C) (c : Option ys_C) : Bool := match c', c with
  | .inl ci, some (.inl cj) => decide (ci = cj)
  | .inr a, some (.inr a2) => decide (a2 = (a.1, a.2.1, a.2.2.map (yt_e em)))
  | _, _ => false
def yt_shok (em : List Nat) (sh' sh : List ys_C) : Bool := decide (em.length = sh'.length) && (va_nd em && (decide (sh.length ≤ 100000) && (sh'.zip em).all (fun q => yt_shok1 em q.1 sh[q.2]?)))
theorem yt_con_eq {ad : Nat → Nat} {em : List Nat} {f : Nat → Int} {a : Nat × Nat × List Nat} : ys_con (fun k => ad (yt_e em k)) f a = ys_con ad f (a.1, a.2.1, a.2.2.map (yt_e em)) := by
  unfold ys_con
  have e1 : (fun j : Nat => (a.2.2[j]?).map fun k => ad (yt_e em k)) = fun j : Nat => ((a.2.2.map (yt_e em))[j]?).map ad := by
    funext j
    rw [List.getElem?_map, Option.map_map]
    rfl
  rw [e1]
theorem yt_cel_eq {ad : Nat → Nat} {cT : Nat → ClassId} {em : List Nat} {r r' : Nat → Int} {g g' : yt_G} {k j : Nat} {c c' : ys_C} {fs fs' : List ys_V} (hc : yt_shok1 em c' (some c) = true) (hj : yt_e em k = j) (hg : g' k = g j) (hf : fs'.map (ys_den (fun k => ad (yt_e em k)) r') = fs.map (ys_den ad r)) : ys_cel (fun k => ad (yt_e em k)) cT r' g' k c' fs' = ys_cel ad cT r g j c fs := by
  subst hj
  cases c' with
  | inl ci =>
    cases c with
    | inl cj =>
      have e1 : ci = cj := of_decide_eq_true hc
      show (ad (yt_e em k), Sum.inr (ci, _)) = (ad (yt_e em k), Sum.inr (cj, _))
      rw [hf, e1]
    | inr a2 => cases hc
  | inr a =>
    cases c with
    | inl cj => cases hc
    | inr a2 =>
      have e1 : a2 = (a.1, a.2.1, a.2.2.map (yt_e em)) := of_decide_eq_true hc
      subst e1
      show (ad (yt_e em k), Sum.inl (cT a.1, ys_con (fun k => ad (yt_e em k)) (g' k) a)) = (ad (yt_e em k), Sum.inl (cT a.1, ys_con ad (g (yt_e em k)) (a.1, a.2.1, a.2.2.map (yt_e em))))
      rw [hg, yt_con_eq]
theorem yt_shok_ok {em : List Nat} {sh' sh : List ys_C} (h : yt_shok em sh' sh = true) : em.length = sh'.length ∧ va_nd em = true ∧ sh.length ≤ 100000 ∧ ∀ (k : Nat) (c' : ys_C), sh'[k]? = some c' → ∃ c, em[k]? = some (yt_e em k) ∧ sh[yt_e em k]? = some c ∧ yt_shok1 em c' (some c) = true := by
  unfold yt_shok at h
  rw [Bool.and_eq_true, Bool.and_eq_true, Bool.and_eq_true, decide_eq_true_eq, decide_eq_true_eq] at h
  obtain ⟨h1, h2, h3, h4⟩ := h
  refine ⟨h1, h2, h3, fun k c' hk => ?_⟩
  have hlt : k < em.length := by
    have := (List.getElem?_eq_some_iff.mp hk).1
    omega
  have e1 : em[k]? = some (yt_e em k) := by
    unfold yt_e
    rw [List.getD_eq_getElem?_getD, List.getElem?_eq_getElem hlt]
    rfl
  have e2 : (sh'.zip em)[k]? = some (c', yt_e em k) := by
    rw [List.getElem?_zip_eq_some]
    exact ⟨hk, e1⟩
  have e3 := List.all_eq_true.mp h4 _ (List.mem_of_getElem? e2)
  dsimp only at e3
  cases hc : sh[yt_e em k]? with
  | none =>
    rw [hc] at e3
    cases c' <;> cases e3
  | some c =>
    rw [hc] at e3
    exact ⟨c, e1, rfl, e3⟩
theorem yt_wld_sub {ad : Nat → Nat} {cT : Nat → ClassId} {em : List Nat} {sh' sh : List ys_C} (h : yt_shok em sh' sh = true) {r r' : Nat → Int} {g : yt_G} {F F' : List (List ys_V)} (hf : ∀ k, k < em.length → (F'.getD k []).map (ys_den (fun k => ad (yt_e em k)) r') = (F.getD (yt_e em k) []).map (ys_den ad r)) (k : Nat) (q : Nat × va_E) (hq : (ys_wld (fun k => ad (yt_e em k)) cT sh' r' (yt_sub em g) F')[k]? = some q) : (ys_wld ad cT sh r g F)[yt_e em k]? = some q := by
  obtain ⟨h1, h2, h3, h4⟩ := yt_shok_ok h
  have hlt : k < sh'.length := by
    have := (List.getElem?_eq_some_iff.mp hq).1
    rw [ys_wld_len] at this
    exact this
  obtain ⟨c, e1, e2, e3⟩ := h4 k _ (List.getElem?_eq_getElem hlt)
  rw [ys_wld_get (List.getElem?_eq_getElem hlt)] at hq
  rw [ys_wld_get e2, ← hq]
  congr 1
  exact (yt_cel_eq e3 rfl rfl (hf k (by omega))).symm
/-- rows put back among the others -/
def yt_bk {α : Type} (em : List Nat) (rows old : List α) : List α := (List.range old.length).filterMap fun j => match yt_ix j 0 em with
  | some k => rows[k]?
  | none => old[j]?
def yt_bkl {α : Type} (em : List Nat) (rows old : List α) : Bool := decide (rows.length = em.length) && em.all (fun j => decide (j < old.length))
theorem yt_fm {α β : Type} {f : α → Option β} : ∀ (l : List α), (∀ x ∈ l, (f x).isSome = true) → ∀ i : Nat, (l.filterMap f)[i]? = (l[i]?).bind f
  | [], _, i => by simp
  | x :: t, h, i => by
    obtain ⟨y, hy⟩ := Option.isSome_iff_exists.mp (h x List.mem_cons_self)
    rw [List.filterMap_cons, hy]
    cases i with
    | zero => simp [hy]
    | succ i =>
      rw [List.getElem?_cons_succ, List.getElem?_cons_succ]
      exact yt_fm t (fun z hz => h z (List.mem_cons_of_mem _ hz)) i
theorem yt_bk_get {α : Type} {em : List Nat} {rows old : List α} (h : yt_bkl em rows old = true) (j : Nat) (hj : j < old.length) : (yt_bk em rows old)[j]? = match yt_ix j 0 em with
    | some k => rows[k]?
    | none => old[j]? := by
  unfold yt_bkl at h
  rw [Bool.and_eq_true, decide_eq_true_eq] at h
  unfold yt_bk
  rw [yt_fm, List.getElem?_range hj]
  · rfl
  · intro x hx
    have hx := List.mem_range.mp hx
    cases hc : yt_ix x 0 em with
    | none =>
      show (old[x]?).isSome = true
      rw [List.getElem?_eq_getElem hx]
      rfl
    | some k =>
      obtain ⟨n, e1, e2⟩ := yt_ix_some em 0 hc
      have := (List.getElem?_eq_some_iff.mp e2).1
      show (rows[k]?).isSome = true
      rw [List.getElem?_eq_getElem (by omega)]
      rfl
theorem yt_bk_len {α : Type} {em : List Nat} {rows old : List α} (h : yt_bkl em rows old = true) : (yt_bk em rows old).length = old.length := by
  have h1 : ∀ j, j < old.length → (yt_bk em rows old)[j]?.isSome = true := fun j hj => by
    rw [yt_bk_get h j hj]
    unfold yt_bkl at h
    rw [Bool.and_eq_true, decide_eq_true_eq] at h
    cases hc : yt_ix j 0 em with
    | none =>
      show (old[j]?).isSome = true
      rw [List.getElem?_eq_getElem hj]
      rfl
    | some k =>
      obtain ⟨n, e1, e2⟩ := yt_ix_some em 0 hc
      have := (List.getElem?_eq_some_iff.mp e2).1
      show (rows[k]?).isSome = true
      rw [List.getElem?_eq_getElem (by omega)]
      rfl
  have h2 : (yt_bk em rows old).length ≤ old.length := by
    unfold yt_bk
    refine Nat.le_trans (List.length_filterMap_le _ _) ?_
    rw [List.length_range]
    exact Nat.le_refl _
  rcases Nat.lt_or_ge (yt_bk em rows old).length old.length with q | q
  · have h3 := h1 _ q
    rw [List.getElem?_eq_none (Nat.le_refl _)] at h3
    cases h3
  · omega
def yt_gb (em : List Nat) (g g1 : yt_G) : yt_G := fun j => match yt_ix j 0 em with
  | some k => g1 k
  | none => g j
theorem yt_gb_sub {em : List Nat} {g g1 : yt_G} {n : Nat} (hn : va_nd em = true) (hl : ∀ j ∈ em, j < n) (hn2 : n ≤ 100000) {mods : List Nat} (hm : ∀ k ∈ mods, k < em.length) (hg : ∀ k, k ∉ mods → g1 k = yt_sub em g k) : yt_sub em (yt_gb em g g1) = g1 := by
  funext k
  show yt_gb em g g1 (yt_e em k) = g1 k
  unfold yt_gb
  by_cases hk : k < em.length
  · have e1 : em[k]? = some (yt_e em k) := by
      unfold yt_e
      rw [List.getD_eq_getElem?_getD, List.getElem?_eq_getElem hk]
      rfl
    cases hc : yt_ix (yt_e em k) 0 em with
    | none => exact absurd (List.mem_of_getElem? e1) (yt_ix_none em 0 hc)
    | some i =>
      obtain ⟨n, e2, e3⟩ := yt_ix_some em 0 hc
      have e4 := va_nd_inj em hn n k _ e3 e1
      show g1 i = g1 k
      rw [e2, e4, Nat.zero_add]
  · have e1 : yt_e em k = 100000 := by
      unfold yt_e
      rw [List.getD_eq_getElem?_getD, List.getElem?_eq_none (by omega)]
      rfl
    have h2 := hg k (fun h => hk (hm k h))
    cases hc : yt_ix (yt_e em k) 0 em with
    | none =>
      show g (yt_e em k) = g1 k
      rw [h2]
      rfl
    | some i =>
      obtain ⟨n2, e2, e3⟩ := yt_ix_some em 0 hc
      have := hl _ (List.mem_of_getElem? e3)
      omega
/-! contracts with words of their own: what must hold ahead, what holds behind -/
abbrev yt_Ps : Type := (Nat → Int) → yt_G → Prop
abbrev yt_Ph : Type := Nat → (Nat → Int) → yt_G → yt_G → Prop
section YTK
variable (l : Launch) (D : va_G) (cl : List vw_C) (cT : Nat → ClassId) (tys : List (ClassId × FieldType)) (G : List Cond)
def yt_Alt (ad : Nat → Nat) (sh : List ys_C) (K : ys_K) (Ph : yt_Ph) (r0 : Nat → Int) (g0 : yt_G) (sz : Nat) (i : Nat) (a : ys_A) (oc : Outcome) (t : State) : Prop := ∃ (r1 : Nat → Int) (g1 : yt_G), ((∀ i, i < K.2.1.2.1.1.length → r1 i = r0 i) ∧ (∀ i, K.2.1.2.1.1.length + a.1.length ≤ i → r1 i = 0) ∧ (∀ (j : Nat) (q : Int × Int), a.1[j]? = some q → q.1 ≤ r1 (K.2.1.2.1.1.length + j) ∧ r1 (K.2.1.2.1.1.length + j) ≤ q.2) ∧ ys_fk r1 a.2.1 ∧ ys_gok K.2.2.2 a.2.2.1.2 g0 g1 ∧ va_P D cl (ys_wld ad cT sh r1 g1 a.2.2.1.1) t.heap ∧ va_D (va_A (ys_wK ad cT sh K r0 g0) sz) (ys_wld ad cT sh r1 g1 a.2.2.1.1) ∧ va_K D cl tys t ∧ oc = .returned (a.2.2.2.map (ys_den ad r1))) ∧ Ph i r1 g0 g1
def yt_Post (ad : Nat → Nat) (sh : List ys_C) (K : ys_K) (Ph : yt_Ph) (r0 : Nat → Int) (g0 : yt_G) (sz : Nat) : Array Value → State → Outcome → State → Prop := fun _ st oc t => (∃ (i : Nat) (a : ys_A), K.2.2.1[i]? = some a ∧ yt_Alt D cl cT tys ad sh K Ph r0 g0 sz i a oc t) ∧ va_F (va_A (ys_wK ad cT sh K r0 g0) sz) st t
def yt_Con (sh : List ys_C) (K : ys_K) (Ps : yt_Ps) (Ph : yt_Ph) : Prop := ∀ (ad : Nat → Nat) (r0 : Nat → Int) (g0 : yt_G) (sz : Nat), ys_okB r0 K.2.1.2.1 → (∀ i, K.2.1.2.1.1.length ≤ i → r0 i = 0) → (∀ (k : Nat) (a : ys_R), K.2.1.2.2.2[k]? = some a → ys_rok a (g0 k)) → Ps r0 g0 → Met l K.1.1.1 (ys_ws G K) (ys_rm K) (ys_Pre D cl ad cT sh tys K r0 g0 sz) (yt_Post D cl cT tys ad sh K Ph r0 g0 sz) 0 0 (va_A (ys_wK ad cT sh K r0 g0) sz)
end YTK
/-- the state behind a call -/
def yt_dR : ys_R := ((0, 0), [])
def yt_aft (pc : Nat) (b : ys_B) (fds : ys_F) (lv : List (Nat × ys_V)) (rest : List ys_V) (h : List yt_Ev) (d : Nat) (em : List Nat) (K : ys_K) (t : List ys_L) (i : Nat) (a : ys_A) : List yt_U := match ys_ass (b.1 ++ a.1, b.2) (a.2.1.map (ys_put 0 (ys_tau b.1.length t a))) with
  | some b' => [(pc, (b', (yt_bk em (a.2.2.1.1.map (fun w => w.map fun v => yt_rV em (ys_pV 0 (ys_tau b.1.length t a) v))) fds.1, yt_bk em (ys_arm K.2.2.2 0 (em.map fun k => fds.2.getD k yt_dR) a.2.2.1.2) fds.2), lv, a.2.2.2.toList.map (fun v => yt_rV em (ys_pV 0 (ys_tau b.1.length t a) v)) ++ rest), if d = 0 ∧ K.2.2.2 = [] then h else .inr (.inr (.inl (d, i, ys_tau b.1.length t a, em, K.2.2.2.map (yt_e em)))) :: h)]
  | none => []
def yt_al (em : List Nat) (sh' : List ys_C) (fds : ys_F) (K : ys_K) (a : ys_A) : Bool := decide (a.2.2.1.1.length = sh'.length) && decide (a.2.2.1.2.length = sh'.length)
abbrev yt_CE : Type := ((Nat × Bool) × (Nat × Bool × List Nat)) × (List ys_C × ys_K)
def yt_ats (pc : Nat) (b : ys_B) (fds : ys_F) (lv : List (Nat × ys_V)) (rest : List ys_V) (h : List yt_Ev) (d : Nat) (em : List Nat) (K : ys_K) (t : List ys_L) : Nat → List ys_A → List yt_U
  | _, [] => []
  | i, a :: x => yt_aft pc b fds lv rest h d em K t i a ++ yt_ats pc b fds lv rest h d em K t (i + 1) x
theorem yt_ats_mem {pc : Nat} {b : ys_B} {fds : ys_F} {lv : List (Nat × ys_V)} {rest : List ys_V} {h : List yt_Ev} {d : Nat} {em : List Nat} {K : ys_K} {t : List ys_L} : ∀ (x : List ys_A) (i j : Nat) (a : ys_A), x[j]? = some a → ∀ q ∈ yt_aft pc b fds lv rest h d em K t (i + j) a, q ∈ yt_ats pc b fds lv rest h d em K t i x
  | [], i, j, a, hj, q, hq => by cases hj
  | a0 :: x, i, 0, a, hj, q, hq => by
    cases hj
    exact List.mem_append_left _ hq
  | a0 :: x, i, j + 1, a, hj, q, hq => List.mem_append_right _ (yt_ats_mem x (i + 1) j a hj q (by rw [show i + 1 + j = i + (j + 1) by omega]; exact hq))
def yt_hcall (fr lo : Nat) (mods : List Nat) (C : yt_CE) (h : List yt_Ev) (pc : Nat) (b : ys_B) (fds : ys_F) (lv : List (Nat × ys_V)) (sv : List ys_V) : Option (List ys_L × List yt_U) := match ys_zf (C.2.2.2.1.2.2.1.map fun w => w.map (yt_rV C.1.2.2.2)) (C.1.2.2.2.map fun k => fds.1.getD k []) with
  | some fp => if decide (C.2.2.2.1.1.length ≤ sv.length) && (decide (((sv.drop C.2.2.2.1.1.length).map ys_cat).sum ≤ 8) && (decide (C.2.2.1.2.1 + 1 ≤ fr) && (decide (8 + (C.2.2.1.1.2.2.1 + 11) + C.2.2.1.2.2 ≤ lo) && (C.2.2.2.2.2.all (fun k => mods.contains (yt_e C.1.2.2.2 k) && decide (k < C.1.2.2.2.length)) && (C.2.2.2.2.1.all (fun a => decide (a.2.2.1.1.length = C.1.2.2.2.length) && decide (a.2.2.1.2.length = C.1.2.2.2.length)) && C.1.2.2.2.all (fun j => decide (j < fds.1.length) && decide (j < fds.2.length))))))) then (match ys_mat b (C.1.2.2.2.map fun k => fds.2.getD k yt_dR) 0 C.2.2.2.1.2.1.1 C.2.2.2.1.2.1.2 C.2.2.2.1.2.2.2 ((C.2.2.2.1.1.map (yt_rV C.1.2.2.2)).zip (sv.take C.2.2.2.1.1.length).reverse ++ fp) with
      | some t => some (t, yt_ats (pc + 3) b fds lv (sv.drop C.2.2.2.1.1.length) h C.1.2.1 C.1.2.2.2 C.2.2 t 0 C.2.2.2.2.1)
      | none => none) else none
  | none => none
section YTC
variable {p : Program} {l : Launch} {e : Env} {R : Room} {s : State} {m : MethodId} {args : Array Value} {below : List Frame} {meth : Method} {c : Code} {Q : State → Prop} {kc kz : Nat} {D : va_G} {cl : List vw_C} {ad : Nat → Nat} {cT : Nat → ClassId} {sh : List ys_C} {A : Nat → Prop} {H0 : Heap} {nL : Nat} {mods : List Nat} {g0 : yt_G} {r0 : Nat → Int} {E : Nat} {tb : yt_Tb} {gi : yt_G} {h : List yt_Ev} {pc : Nat} {b : ys_B} {fds : ys_F} {lv : List (Nat × ys_V)} {sv : List ys_V} {cc : ByteArray} {own : String} {Ts : List Cond} {tys : List (ClassId × FieldType)}
variable {G : List Cond} {K : ys_K} {sh' : List ys_C} {em : List Nat} {d : Nat}
theorem yt_kaft {t : List ys_L} {i : Nat} {a : ys_A} {r : Nat → Int} {g : yt_G} {H H1 : Heap} {locs locs1 : List Loc} {ls : Array Slot} {st : List Value} {v : Option Value} {t1 : State} (hrep : ys_rep D cl ad cT sh A H0 nL [] g r0 r E (b, fds, lv, sv) H locs ls st) (hh : yt_h tb r gi h g) (hsc : ∀ v ∈ h, yt_sc b.1.length v) (hm0 : ∀ k, k ∉ mods → g k = g0 k) (hsh : yt_shok em sh' sh = true) (hshl : sh.length = fds.1.length) (ht : ∀ x ∈ t, ys_stb b.1.length x) (hlen : t.length = K.2.1.2.1.1.length) (hm : ∀ k, k ∈ K.2.2.2 → yt_e em k ∈ mods ∧ k < em.length) (hal : a.2.2.1.1.length = em.length ∧ a.2.2.1.2.length = em.length) (hel : ∀ j ∈ em, j < fds.1.length ∧ j < fds.2.length) (hA : yt_Alt D cl cT tys (fun k => ad (yt_e em k)) sh' K (tb d) (ys_val r 0 t) (yt_sub em g) H.size i a (.returned v) t1) (hH1 : t1.heap = H1) (hkeep : ∀ q, q < H.size → ¬ (∃ j ∈ em, q = ad j) → H1[q]? = H[q]?) (hS1 : va_S A H0 H1 locs1) (k : ∀ q ∈ yt_aft pc b fds lv sv h d em K t i a, yt_X p l e R s m args below meth c Q kc kz D cl ad cT sh A H0 nL mods g0 r0 E tb gi q.2.2 q.1 q.2.1) : W p l e R s m args below meth c H1 locs1 kc kz Q (F0 m pc ls (v.toList ++ st)) := by
  obtain ⟨r1, g1, ⟨a1, a2, a3, a4, a5, a6, a7, a8, a9⟩, aP⟩ := hA
  obtain ⟨hl1, hnd, hl2, hcl⟩ := yt_shok_ok hsh
  obtain ⟨hg, hP, hD, hS⟩ := yt_wd hrep
  obtain ⟨r', hr'⟩ : ∃ r' : Nat → Int, r' = fun i => if i < b.1.length then r i else r1 (t.length + (i - b.1.length)) := ⟨_, rfl⟩
  have hlo : ∀ i, i < b.1.length → r' i = r i := fun i hi => by rw [hr']; exact if_pos hi
  have hhi : ∀ j, r' (b.1.length + j) = r1 (t.length + j) := fun j => by
    rw [hr']
    show (if b.1.length + j < b.1.length then _ else _) = _
    rw [if_neg (by omega), show b.1.length + j - b.1.length = j by omega]
  have hv : ys_val r' 0 (ys_tau b.1.length t a) = r1 := by
    funext i
    show ys_ev r' (ys_at 0 (ys_tau b.1.length t a) i) = r1 i
    unfold ys_at
    rw [if_neg (by omega), Nat.sub_zero, ys_tau_get]
    by_cases h1 : i < t.length
    · rw [if_pos h1]
      have e1 : ys_val r 0 t i = ys_ev r (t.getD i ([], 0)) := by
        show ys_ev r (ys_at 0 t i) = _
        unfold ys_at
        rw [if_neg (by omega), Nat.sub_zero]
      have hmem : ys_stb b.1.length (t.getD i ([], 0)) := by
        rw [List.getD_eq_getElem?_getD, List.getElem?_eq_getElem h1]
        exact ht _ (List.getElem_mem h1)
      rw [hmem r' r hlo, ← e1, a1 i (by omega)]
    · rw [if_neg h1]
      by_cases h2 : i < t.length + a.1.length
      · rw [if_pos h2, ys_sym_ev, hhi, show t.length + (i - t.length) = i by omega]
      · rw [if_neg h2, a2 i (by omega)]
        rfl
  have hlen2 : (b.1 ++ a.1).length = b.1.length + a.1.length := List.length_append
  have hok : ys_okB r' (b.1 ++ a.1, b.2) := by
    refine ⟨fun i w hi => ?_, fun f hf => ?_⟩
    · by_cases hl : i < b.1.length
      · rw [List.getElem?_append_left hl] at hi
        rw [hlo i hl]
        exact hrep.1.1 i w hi
      · rw [List.getElem?_append_right (by omega)] at hi
        have e2 := hhi (i - b.1.length)
        rw [show b.1.length + (i - b.1.length) = i by omega] at e2
        rw [e2, hlen]
        exact a3 _ w hi
    · rw [hrep.2.1.1 f hf r' r hlo]
      exact hrep.1.2 f hf
  have hfk : ys_fk r' (a.2.1.map (ys_put 0 (ys_tau b.1.length t a))) := by
    intro f hf
    obtain ⟨f0, hf0, e0⟩ := List.mem_map.mp hf
    rw [← e0, ys_put_ev, hv]
    exact a4 f0 hf0
  have htt : ∀ x ∈ ys_tau b.1.length t a, ys_stb (b.1.length + a.1.length) x := by
    intro x hx
    unfold ys_tau at hx
    rcases List.mem_append.mp hx with q | q
    · exact ys_stb_mono (ht x q) (by omega)
    · obtain ⟨j, hj, e0⟩ := List.mem_map.mp q
      rw [← e0]
      exact ys_stb_sym (by have := List.mem_range.mp hj; omega)
  obtain ⟨b', eb, hb'⟩ := ys_ass_ok _ hok hfk
  have hl' := ys_ass_len _ eb
  have hl' : b'.1.length = b.1.length + a.1.length := hl'.trans hlen2
  have hscb : ys_scB ((b.1 ++ a.1, b.2) : ys_B) := fun f hf => by
    show ys_stb (b.1 ++ a.1).length f
    rw [hlen2]
    exact ys_stb_mono (m := b.1.length + a.1.length) (hrep.2.1.1 f hf) (Nat.le_add_right _ _)
  have hsc' := ys_ass_sc (n := b.1.length + a.1.length) _ hlen2 hscb (fun f hf => by
    obtain ⟨f0, hf0, e0⟩ := List.mem_map.mp hf
    rw [← e0]
    exact ys_stb_put (by omega) htt f0) eb
  unfold yt_aft at k
  rw [eb] at k
  have k := k _ List.mem_cons_self
  obtain ⟨rows, erows⟩ : ∃ rows : List (List ys_V), rows = a.2.2.1.1.map (fun w => w.map fun v => yt_rV em (ys_pV 0 (ys_tau b.1.length t a) v)) := ⟨_, rfl⟩
  obtain ⟨ars, ears⟩ : ∃ ars : List ys_R, ars = ys_arm K.2.2.2 0 (em.map fun k => fds.2.getD k yt_dR) a.2.2.1.2 := ⟨_, rfl⟩
  rw [← erows, ← ears] at k
  have hrl : rows.length = em.length := by rw [erows, List.length_map]; exact hal.1
  have hb1 : yt_bkl em rows fds.1 = true := by
    unfold yt_bkl
    rw [Bool.and_eq_true, decide_eq_true_eq]
    exact ⟨hrl, List.all_eq_true.mpr fun j hj => decide_eq_true (hel j hj).1⟩
  have harl : ars.length = em.length := by
    rw [ears]
    have : ∀ (x y : List ys_R) (i : Nat), x.length = y.length → (ys_arm K.2.2.2 i x y).length = y.length := by
      intro x
      induction x with
      | nil => intro y i h; cases y with
        | nil => rfl
        | cons _ _ => cases h
      | cons x0 x ih => intro y i h; cases y with
        | nil => cases h
        | cons y0 y =>
          unfold ys_arm
          rw [List.length_cons, List.length_cons, ih y (i + 1) (by simpa using h)]
    rw [this _ _ _ (by rw [List.length_map]; exact hal.2.symm), hal.2]
  have hb2 : yt_bkl em ars fds.2 = true := by
    unfold yt_bkl
    rw [Bool.and_eq_true, decide_eq_true_eq]
    exact ⟨harl, List.all_eq_true.mpr fun j hj => decide_eq_true (hel j hj).2⟩
  obtain ⟨g2, eg2⟩ : ∃ g2 : yt_G, g2 = yt_gb em g g1 := ⟨_, rfl⟩
  have hsub : yt_sub em g2 = g1 := by
    rw [eg2]
    exact yt_gb_sub (n := sh.length) hnd (fun j hj => by rw [hshl]; exact (hel j hj).1) hl2 (fun k hk => (hm k hk).2) (fun k hk => a5.2 k hk)
  have hg2n : ∀ j, j ∉ em → g2 j = g j := fun j hj => by
    rw [eg2]
    show yt_gb em g g1 j = g j
    unfold yt_gb
    cases hc : yt_ix j 0 em with
    | none => rfl
    | some k =>
      obtain ⟨n, -, e2⟩ := yt_ix_some em 0 hc
      exact absurd (List.mem_of_getElem? e2) hj
  have hg2m : ∀ j, j ∉ K.2.2.2.map (yt_e em) → g2 j = g j := fun j hj => by
    by_cases hje : j ∈ em
    · obtain ⟨k, hk⟩ := List.getElem?_of_mem hje
      have e1 : yt_e em k = j := by
        unfold yt_e
        rw [List.getD_eq_getElem?_getD, hk]
        rfl
      have e2 : g2 (yt_e em k) = g1 k := congrFun hsub k
      rw [e1] at e2
      rw [e2, a5.2 k (fun hq => hj (List.mem_map.mpr ⟨k, hq, e1⟩))]
      show g (yt_e em k) = g j
      rw [e1]
    · exact hg2n j hje
  have hrow : ∀ kk, (rows.getD kk []).map (ys_den ad r') = (a.2.2.1.1.getD kk []).map (ys_den (fun k => ad (yt_e em k)) r1) := by
    intro kk
    rw [erows, List.getD_eq_getElem?_getD, List.getD_eq_getElem?_getD, List.getElem?_map]
    cases a.2.2.1.1[kk]? with
    | none => rfl
    | some w =>
      show (w.map fun v => yt_rV em (ys_pV 0 (ys_tau b.1.length t a) v)).map (ys_den ad r') = w.map (ys_den (fun k => ad (yt_e em k)) r1)
      rw [List.map_map]
      apply List.map_congr_left
      intro x _
      show ys_den ad r' (yt_rV em (ys_pV 0 _ x)) = _
      rw [yt_rV_den, ys_pV_den, hv]
  obtain ⟨-, ⟨s0, s1, s2, s3⟩, ⟨hE, hr0⟩, -, q4, q5⟩ := hrep
  have hst : v.toList ++ st = (a.2.2.2.toList.map (fun v => yt_rV em (ys_pV 0 (ys_tau b.1.length t a) v)) ++ sv).map (ys_den ad r') := by
    rw [List.map_append, q5]
    have e3 : v = a.2.2.2.map (ys_den (fun k => ad (yt_e em k)) r1) := by
      have := a9
      cases this
      rfl
    congr 1
    · rw [e3]
      cases a.2.2.2 with
      | none => rfl
      | some x =>
        show [ys_den (fun k => ad (yt_e em k)) r1 x] = [ys_den ad r' (yt_rV em (ys_pV 0 _ x))]
        rw [yt_rV_den, ys_pV_den, hv]
    · exact List.map_congr_left fun x hx => ys_den_cong (fun i hi => (hlo i hi).symm) (s3 x hx)
  -- the world behind the call, cell by cell
  have hcell : ∀ (j : Nat) (q : Nat × va_E), (ys_wld ad cT sh r' g2 (yt_bk em rows fds.1))[j]? = some q → (∃ k : Nat, yt_e em k = j ∧ k < em.length ∧ (ys_wld (fun k => ad (yt_e em k)) cT sh' r1 g1 a.2.2.1.1)[k]? = some q) ∨ (j ∉ em ∧ (ys_wld ad cT sh r g fds.1)[j]? = some q) := by
    intro j q hq
    have hj : j < sh.length := by
      have := (List.getElem?_eq_some_iff.mp hq).1
      rw [ys_wld_len] at this
      exact this
    have hshj := List.getElem?_eq_getElem hj
    rw [ys_wld_get hshj] at hq
    have hgd : (yt_bk em rows fds.1).getD j [] = (match yt_ix j 0 em with
        | some k => rows[k]?
        | none => fds.1[j]?).getD [] := by
      rw [List.getD_eq_getElem?_getD, yt_bk_get hb1 j (by omega)]
    cases hc : yt_ix j 0 em with
    | none =>
      right
      rw [hc] at hgd
      refine ⟨yt_ix_none em 0 hc, ?_⟩
      rw [ys_wld_get hshj, ← hq]
      congr 1
      have e1 : (yt_bk em rows fds.1).getD j [] = fds.1.getD j [] := by
        rw [hgd, List.getD_eq_getElem?_getD]
      rw [e1]
      have e2 : (fds.1.getD j []).map (ys_den ad r) = (fds.1.getD j []).map (ys_den ad r') := by
        apply List.map_congr_left
        intro x hx
        refine ys_den_cong (fun i hi => (hlo i hi).symm) ?_
        rw [List.getD_eq_getElem?_getD] at hx
        cases hcc : fds.1[j]? with
        | none => rw [hcc] at hx; cases hx
        | some w => rw [hcc] at hx; exact s1 w (List.mem_of_getElem? hcc) x hx
      unfold ys_cel
      cases sh[j] with
      | inl ci =>
        show (ad j, Sum.inr (ci, _)) = (ad j, Sum.inr (ci, _))
        rw [e2]
      | inr a =>
        show (ad j, Sum.inl (cT a.1, ys_con ad (g j) a)) = (ad j, Sum.inl (cT a.1, ys_con ad (g2 j) a))
        rw [hg2n j (yt_ix_none em 0 hc)]
    | some k =>
      left
      obtain ⟨n, e1, e2⟩ := yt_ix_some em 0 hc
      rw [Nat.zero_add] at e1
      subst e1
      have hk := (List.getElem?_eq_some_iff.mp e2).1
      have e3 : yt_e em k = j := by
        unfold yt_e
        rw [List.getD_eq_getElem?_getD, e2]
        rfl
      refine ⟨k, e3, hk, ?_⟩
      have hsk := List.getElem?_eq_getElem (show k < sh'.length by omega)
      obtain ⟨c2, f1, f2, f3⟩ := hcl k _ hsk
      rw [e3, hshj] at f2
      rw [ys_wld_get hsk, ← hq]
      congr 1
      have e4 : sh[j] = c2 := Option.some.inj f2
      rw [e4]
      refine yt_cel_eq f3 e3 ?_ ?_
      · have := congrFun hsub k
        rw [← this]
        show g2 (yt_e em k) = g2 j
        rw [e3]
      · rw [hgd, hc]
        show _ = ((rows[k]?).getD []).map (ys_den ad r')
        rw [← List.getD_eq_getElem?_getD, hrow k]
  have hP2 : va_P D cl (ys_wld ad cT sh r' g2 (yt_bk em rows fds.1)) H1 := by
    intro j q hq
    rcases hcell j q hq with ⟨k, e1, e2, e3⟩ | ⟨e1, e2⟩
    · rw [← hH1]
      exact a6 k q e3
    · have h1 := hP j q e2
      refine h1.kept (hkeep q.1 h1.lt fun hx => ?_)
      obtain ⟨j2, hj2, e3⟩ := hx
      have hj2l : j2 < sh.length := by rw [hshl]; exact (hel j2 hj2).1
      have e4 := ys_wld_get (ad := ad) (cT := cT) (r := r) (g := g) (fds := fds.1) (List.getElem?_eq_getElem hj2l)
      have e5 := hD.1 j j2 q _ e2 e4 e3
      exact e1 (e5 ▸ hj2)
  have hD2 : va_D A (ys_wld ad cT sh r' g2 (yt_bk em rows fds.1)) := by
    have hadr : ∀ (j : Nat) (q : Nat × va_E), (ys_wld ad cT sh r' g2 (yt_bk em rows fds.1))[j]? = some q → ∃ q0, (ys_wld ad cT sh r g fds.1)[j]? = some q0 ∧ q0.1 = q.1 := by
      intro j q hq
      have hj : j < sh.length := by
        have := (List.getElem?_eq_some_iff.mp hq).1
        rw [ys_wld_len] at this
        exact this
      rw [ys_wld_get (List.getElem?_eq_getElem hj)] at hq
      refine ⟨_, ys_wld_get (List.getElem?_eq_getElem hj), ?_⟩
      rw [← Option.some.inj hq]
      rfl
    refine ⟨fun i j x y hi hj hxy => ?_, fun k q hk => ?_⟩
    · obtain ⟨x0, f1, f2⟩ := hadr i x hi
      obtain ⟨y0, f3, f4⟩ := hadr j y hj
      exact hD.1 i j x0 y0 f1 f3 (by rw [f2, f4]; exact hxy)
    · obtain ⟨x0, f1, f2⟩ := hadr k q hk
      rw [← f2]
      exact hD.2 k x0 f1
  have hars2 : ∀ (kk : Nat) (z : ys_R), (yt_bk em ars fds.2)[kk]? = some z → ys_rok z (g2 kk) := by
    intro j z hz
    have hj : j < fds.2.length := by
      have := (List.getElem?_eq_some_iff.mp hz).1
      rw [yt_bk_len hb2] at this
      exact this
    rw [yt_bk_get hb2 j hj] at hz
    cases hc : yt_ix j 0 em with
    | none =>
      rw [hc] at hz
      rw [hg2n j (yt_ix_none em 0 hc)]
      exact hg j z hz
    | some k =>
      rw [hc] at hz
      have hz : ars[k]? = some z := hz
      obtain ⟨n, e1, e2⟩ := yt_ix_some em 0 hc
      rw [Nat.zero_add] at e1
      subst e1
      have e3 : yt_e em k = j := by
        unfold yt_e
        rw [List.getD_eq_getElem?_getD, e2]
        rfl
      have e4 : g2 j = g1 k := by
        rw [← e3]
        exact congrFun hsub k
      rw [e4]
      rw [ears] at hz
      rcases ys_arm_get _ _ _ 0 k z hz with ⟨-, h2⟩ | ⟨h1, h2⟩
      · exact a5.1 k z h2
      · rw [Nat.zero_add] at h1
        rw [a5.2 k h1]
        show ys_rok z (g (yt_e em k))
        rw [e3]
        rw [List.getElem?_map, e2] at h2
        have h2 : some (fds.2.getD j yt_dR) = some z := h2
        refine hg j z ?_
        rw [← h2, List.getD_eq_getElem?_getD, List.getElem?_eq_getElem hj]
        rfl
  have hE' : E ≤ b'.1.length := by
    rw [hl']
    exact Nat.le_trans hE (by show b.1.length ≤ _; omega)
  have hbk1 : ∀ w ∈ yt_bk em rows fds.1, ∀ v ∈ w, ys_stV b'.1.length v := by
    intro w hw x hx
    obtain ⟨j, hj⟩ := List.getElem?_of_mem hw
    have hjl : j < fds.1.length := by
      have := (List.getElem?_eq_some_iff.mp hj).1
      rw [yt_bk_len hb1] at this
      exact this
    rw [yt_bk_get hb1 j hjl] at hj
    rw [hl']
    cases hc : yt_ix j 0 em with
    | none =>
      rw [hc] at hj
      exact ys_stV_mono (s1 w (List.mem_of_getElem? hj) x hx) (by show b.1.length ≤ _; omega)
    | some k =>
      rw [hc] at hj
      have hj : rows[k]? = some w := hj
      rw [erows] at hj
      obtain ⟨w0, -, e0⟩ := List.mem_map.mp (List.mem_of_getElem? hj)
      rw [← e0] at hx
      obtain ⟨x0, -, e1⟩ := List.mem_map.mp hx
      rw [← e1]
      exact yt_rV_st (ys_pV_st (by omega) htt x0)
  have hk2 : ∀ kk, kk ∉ mods → g2 kk = g0 kk := fun kk hkk => by
    rw [hg2m kk (fun hx => by
      obtain ⟨k0, h1, h2⟩ := List.mem_map.mp hx
      exact hkk (h2 ▸ (hm k0 h1).1))]
    exact hm0 kk hkk
  have hh2 := yt_h_cong (fun i hi => (hlo i hi).symm) hsc hh
  have hle : b.1.length ≤ b'.1.length := by rw [hl']; omega
  refine k r' g2 H1 locs1 ls _ ⟨hb', ⟨hsc', hbk1, fun q hq => ?_, fun x hx => ?_⟩, ⟨hE', fun i hi => (hlo i (Nat.lt_of_lt_of_le hi hE)).trans (hr0 i hi)⟩, ⟨g2, ⟨hars2, fun _ _ => rfl⟩, hP2, hD2, hS1⟩, ?_, hst⟩ ?_ (fun x hx => ?_) hk2
  · exact ys_stV_mono (s2 q hq) hle
  · show ys_stV b'.1.length _
    rw [hl']
    rcases List.mem_append.mp hx with q | q
    · obtain ⟨x0, -, e1⟩ := List.mem_map.mp q
      rw [← e1]
      exact yt_rV_st (ys_pV_st (by omega) htt x0)
    · exact ys_stV_mono (s3 x q) (by show b.1.length ≤ _; omega)
  · have e4 : ys_lvs ad r lv = ys_lvs ad r' lv := List.map_congr_left fun q hq => by rw [ys_den_cong (fun i hi => (hlo i hi).symm) (s2 q hq)]
    exact e4 ▸ q4
  · dsimp only
    split
    · rename_i hde
      have e5 : g2 = g := funext fun j => hg2m j (by rw [hde.2]; exact List.not_mem_nil)
      rw [e5]
      exact hh2
    · exact ⟨g, hh2, by
        show tb d i (ys_val r' 0 (ys_tau b.1.length t a)) (yt_sub em g) (yt_sub em g2)
        rw [hv, hsub]
        exact aP, hg2m⟩
  · dsimp only at hx
    split at hx
    · exact yt_sc_mono hle (hsc x hx)
    · rcases List.mem_cons.mp hx with q | q
      · rw [q]
        show ∀ y ∈ ys_tau b.1.length t a, ys_stb b'.1.length y
        rw [hl']
        exact htt
      · exact yt_sc_mono hle (hsc x q)
theorem yt_kcall {i : Instr} {fr lo : Nat} {C : yt_CE} {t : List ys_L} {succ : List yt_U} {Ps : yt_Ps} (S : CallFix p m c cc nL s args Ts own) (hK : va_K D cl tys s) (hA0 : ∀ q, H0.size ≤ q → A q) (hcon : yt_Con l D cl cT tys G C.2.1 C.2.2 Ps (tb C.1.2.1)) (hCL : ys_CL own Ts cl C.2.1 G i C.2.2) (hsh : yt_shok C.1.2.2.2 C.2.1 sh = true) (hshl : sh.length = fds.1.length) (hd : decode cc pc = .ok (i, 3)) (hfr : fr ≤ R.frames) (hlo : lo ≤ R.locals) (hkk : kc ≤ R.cells ∧ kz ≤ R.slots) (hs : yt_hcall fr lo mods C h pc b fds lv sv = some (t, succ)) (hps : ∀ (r : Nat → Int) (g : yt_G), ys_okB r b → (∀ i, i < E → r i = r0 i) → yt_h tb r gi h g → Ps (ys_val r 0 t) (yt_sub C.1.2.2.2 g)) (k : ∀ q ∈ succ, yt_X p l e R s m args below meth c Q kc kz D cl ad cT sh A H0 nL mods g0 r0 E tb gi q.2.2 q.1 q.2.1) : yt_X p l e R s m args below meth c Q kc kz D cl ad cT sh A H0 nL mods g0 r0 E tb gi h pc (b, fds, lv, sv) := by
  obtain ⟨⟨⟨idx0, st0⟩, d, hp, em⟩, sh', K⟩ := C
  dsimp only at hcon hCL hsh hps
  unfold yt_hcall at hs
  dsimp only at hs
  split at hs
  · rename_i fp hfp
    split at hs
    · rename_i hc
      simp only [Bool.and_eq_true, decide_eq_true_eq] at hc
      obtain ⟨c1, c2, c3, c4, c5, c6, c7⟩ := hc
      split at hs
      · rename_i t0 hmat
        cases Option.some.inj hs
        intro r g H locs ls st hrep hh hsc hm0
        obtain ⟨et, e2, e3, e4, e5, e6, e7⟩ := ys_mat_ok (ad := ad) hrep.1 hmat
        obtain ⟨hg, hP, hD, hS⟩ := yt_wd hrep
        obtain ⟨hl1, hnd, hl2, hcl⟩ := yt_shok_ok hsh
        have hel : ∀ j ∈ em, j < fds.1.length ∧ j < fds.2.length := fun j hj => by
          have := List.all_eq_true.mp c7 j hj
          rw [Bool.and_eq_true, decide_eq_true_eq, decide_eq_true_eq] at this
          exact this
        have hsv : sv = sv.take K.2.1.1.length ++ sv.drop K.2.1.1.length := (List.take_append_drop _ _).symm
        have hst2 : ∀ q ∈ (K.2.1.1.map (yt_rV em)).zip (sv.take K.2.1.1.length).reverse ++ fp, ys_stV b.1.length q.2 := by
          intro q hq
          rcases List.mem_append.mp hq with g1 | g1
          · exact hrep.2.1.2.2.2 _ (List.mem_of_mem_take (List.mem_reverse.mp (List.of_mem_zip g1).2))
          · obtain ⟨w, h1, h2⟩ := ys_zf_mem _ _ _ hfp q g1
            obtain ⟨j, hj, e0⟩ := List.mem_map.mp h1
            rw [← e0, List.getD_eq_getElem?_getD] at h2
            cases hcc : fds.1[j]? with
            | none => rw [hcc] at h2; cases h2
            | some w => rw [hcc] at h2; exact hrep.2.1.2.1 w (List.mem_of_getElem? hcc) _ h2
        have htst : ∀ x ∈ t, ys_stb b.1.length x := by
          rw [et]
          exact ys_col_st _ _ hst2
        have hrows : ∀ k, k < em.length → (K.2.1.2.2.1.getD k []).map (ys_den (fun k => ad (yt_e em k)) (ys_val r 0 t)) = (fds.1.getD (yt_e em k) []).map (ys_den ad r) := by
          intro k hk
          have h1 := ys_zf_ok (ad := ad) (r := r) (r' := ys_val r 0 t) _ _ _ hfp (fun q hq => e5 q (List.mem_append_right _ hq)) k
          have h2 : (em.map fun k => fds.1.getD k []).getD k [] = fds.1.getD (yt_e em k) [] := by
            unfold yt_e
            rw [List.getD_eq_getElem?_getD, List.getElem?_map, List.getElem?_eq_getElem hk, List.getD_eq_getElem?_getD (l := em), List.getElem?_eq_getElem hk]
            rfl
          rw [h2] at h1
          rw [← h1, List.getD_eq_getElem?_getD, List.getD_eq_getElem?_getD, List.getElem?_map]
          cases K.2.1.2.2.1[k]? with
          | none => rfl
          | some w =>
            show w.map _ = (w.map (yt_rV em)).map (ys_den ad (ys_val r 0 t))
            rw [List.map_map]
            apply List.map_congr_left
            intro x _
            exact (yt_rV_den x).symm
        have hby := yt_wld_sub (ad := ad) (cT := cT) (r := r) (r' := ys_val r 0 t) (g := g) (F := fds.1) (F' := K.2.1.2.2.1) hsh hrows
        have hargs : K.2.1.1.map (ys_den (fun k => ad (yt_e em k)) (ys_val r 0 t)) = ((sv.take K.2.1.1.length).reverse).map (ys_den ad r) := by
          have h1 := ys_zip_map (ad := ad) (r := r) (r' := ys_val r 0 t) (K.2.1.1.map (yt_rV em)) (sv.take K.2.1.1.length).reverse (by rw [List.length_map, List.length_reverse, List.length_take]; omega) (fun q hq => e5 q (List.mem_append_left _ hq))
          rw [← h1, List.map_map]
          apply List.map_congr_left
          intro x _
          exact (yt_rV_den x).symm
        have hokB : ys_okB (ys_val r 0 t) K.2.1.2.1 := ⟨fun j q hj => by
          have := e3 j q hj
          rw [Nat.zero_add] at this
          exact this, e4⟩
        have har : ∀ (kk : Nat) (a : ys_R), K.2.1.2.2.2[kk]? = some a → ys_rok a (yt_sub em g kk) := fun kk a ha => by
          obtain ⟨a0, h1, h2⟩ := e7 kk a ha
          rw [List.getElem?_map] at h1
          cases hc : em[kk]? with
          | none => rw [hc] at h1; cases h1
          | some j =>
            rw [hc] at h1
            have h1 : some (fds.2.getD j yt_dR) = some a0 := h1
            have hj := (hel j (List.mem_of_getElem? hc)).2
            have e1 : yt_e em kk = j := by
              unfold yt_e
              rw [List.getD_eq_getElem?_getD, hc]
              rfl
            show ys_rok a (g (yt_e em kk))
            rw [e1]
            refine ys_rle_ok h2 (hg j a0 ?_)
            rw [← h1, List.getD_eq_getElem?_getD, List.getElem?_eq_getElem hj]
            rfl
        have hM := hcon (fun k => ad (yt_e em k)) (ys_val r 0 t) (yt_sub em g) H.size hokB (fun i hi => ys_val_high (by omega)) har (hps r g hrep.1 hrep.2.2.1.2 hh)
        have hP' : va_P D cl (ys_wK (fun k => ad (yt_e em k)) cT sh' K (ys_val r 0 t) (yt_sub em g)) H := hP.by _ hby
        have hD' : va_D A (ys_wK (fun k => ad (yt_e em k)) cT sh' K (ys_val r 0 t) (yt_sub em g)) := by
          refine hD.by _ hby fun i j hi hj hij => ?_
          have hi : i < em.length := by
            have hi : i < (ys_wld (fun k => ad (yt_e em k)) cT sh' (ys_val r 0 t) (yt_sub em g) K.2.1.2.2.1).length := hi
            rw [ys_wld_len] at hi
            omega
          have hj : j < em.length := by
            have hj : j < (ys_wld (fun k => ad (yt_e em k)) cT sh' (ys_val r 0 t) (yt_sub em g) K.2.1.2.2.1).length := hj
            rw [ys_wld_len] at hj
            omega
          have f1 : ∀ i, i < em.length → em[i]? = some (yt_e em i) := fun i hi => by
            unfold yt_e
            rw [List.getD_eq_getElem?_getD, List.getElem?_eq_getElem hi]
            rfl
          exact va_nd_inj em hnd i j (yt_e em i) (f1 i hi) (by rw [hij]; exact f1 j hj)
        have hadd : ∀ q, (∃ (k : Nat) (x : va_E), (ys_wK (fun k => ad (yt_e em k)) cT sh' K (ys_val r 0 t) (yt_sub em g))[k]? = some (q, x)) → ∃ j ∈ em, q = ad j := by
          intro q ⟨kk, x, hx⟩
          have hlt : kk < sh'.length := by
            have := (List.getElem?_eq_some_iff.mp hx).1
            have this : kk < (ys_wld (fun k => ad (yt_e em k)) cT sh' (ys_val r 0 t) (yt_sub em g) K.2.1.2.2.1).length := this
            rw [ys_wld_len] at this
            exact this
          have hx : (ys_wld (fun k => ad (yt_e em k)) cT sh' (ys_val r 0 t) (yt_sub em g) K.2.1.2.2.1)[kk]? = some (q, x) := hx
          rw [ys_wld_get (List.getElem?_eq_getElem hlt)] at hx
          have e1 : em[kk]? = some (yt_e em kk) := by
            unfold yt_e
            rw [List.getD_eq_getElem?_getD, List.getElem?_eq_getElem (by omega)]
            rfl
          refine ⟨yt_e em kk, List.mem_of_getElem? e1, ?_⟩
          have := congrArg Prod.fst (Option.some.inj hx)
          exact this.symm
        have hF : ∀ q, va_A (ys_wK (fun k => ad (yt_e em k)) cT sh' K (ys_val r 0 t) (yt_sub em g)) H.size q → A q := by
          intro q hq
          rcases hq with ⟨kk, x, hx⟩ | hq
          · exact hD'.2 kk (q, x) hx
          · exact hA0 q (Nat.le_trans hS.1 hq)
        have hpre : ∀ U : State, U.heap = H → s.WarmedH U.vm → ys_Pre D cl (fun k => ad (yt_e em k)) cT sh' tys K (ys_val r 0 t) (yt_sub em g) H.size (K.2.1.1.map (ys_den (fun k => ad (yt_e em k)) (ys_val r 0 t))).toArray U := fun U hU hW => ⟨rfl, by rw [hU], by rw [hU]; exact hP', va_K.moved hW.alike hK, hD'.weaken (fun _ _ _ _ => trivial)⟩
        have hrest : 2 * (F0 m pc ls st).monitorRoom + (((sv.drop K.2.1.1.length).map (ys_den ad r)).map fun v => v.category).sum ≤ 8 := lv_room (rest := st) (by rw [ys_cats]; exact c2)
        have hfull : st = (K.2.1.1.map (ys_den (fun k => ad (yt_e em k)) (ys_val r 0 t))).reverse ++ (sv.drop K.2.1.1.length).map (ys_den ad r) := by
          rw [hargs, ← List.map_reverse, List.reverse_reverse, ← List.map_append, ← hsv]
          exact hrep.2.2.2.2.2
        have hgo : va_Run p l e R s m args below meth c H locs kc kz 0 0 (F0 m pc ls st) ((sv.drop K.2.1.1.length).map (ys_den ad r)) (yt_Post D cl cT tys (fun k => ad (yt_e em k)) sh' K (tb d) (ys_val r 0 t) (yt_sub em g) H.size (K.2.1.1.map (ys_den (fun k => ad (yt_e em k)) (ys_val r 0 t))).toArray) (va_A (ys_wK (fun k => ad (yt_e em k)) cT sh' K (ys_val r 0 t) (yt_sub em g)) H.size) := by
          rcases hCL with ⟨idx, k1, ci, C, T, N, as, ei, ea, h1, h2, h3, h4⟩ | ⟨idx, ei, h3, h4⟩
          · subst ei
            have hw := ys_wld_get (ad := fun k => ad (yt_e em k)) (cT := cT) (r := ys_val r 0 t) (g := yt_sub em g) (fds := K.2.1.2.2.1) h1
            rw [ea] at hpre hfull ⊢
            rw [List.map_cons] at hpre hfull ⊢
            rw [List.reverse_cons, List.append_assoc] at hfull
            have hlen : (as.map (ys_den (fun k => ad (yt_e em k)) (ys_val r 0 t))).length = as.length := List.length_map _
            exact va_runV (C := C) (b := ad (yt_e em k1)) (As := as.map (ys_den (fun k => ad (yt_e em k)) (ys_val r 0 t))) S hM (cwV as.length S.2.2.2.2 h3 rfl rfl rfl h4 ⟨Nat.le_trans c3 hfr, Nat.le_trans c4 hlo⟩) ⟨ys_blind, va_recv hK hP' h2 hw, hpre⟩ rfl hlen hrep.2.2.2.2.1.1 hfull (by rw [ea] at hrest; exact hrest) hd hkk
          · subst ei
            exact va_runS (As := K.2.1.1.map (ys_den (fun k => ad (yt_e em k)) (ys_val r 0 t))) S hM (va_cwS K.2.1.1.length S.2.2.2.2 h3 rfl rfl rfl h4 ⟨Nat.le_trans c3 hfr, Nat.le_trans c4 hlo⟩) ⟨ys_blind, hpre⟩ rfl (List.length_map _) hrep.2.2.2.2.1.1 hfull hrest hd hkk
        intro T hT X
        obtain ⟨v, st₀, t1, T', L, h0, X', hL, f1, f2, ⟨⟨ia, a, ha, hAlt⟩, hz, hk⟩, stp⟩ := hgo T hT X
        rw [h0] at hz hk
        have hrep2 : ys_rep D cl ad cT sh A H0 nL [] g r0 r E (b, fds, lv, sv.drop K.2.1.1.length) H locs ls ((sv.drop K.2.1.1.length).map (ys_den ad r)) := by
          obtain ⟨q1, ⟨s0, s1, s2, s3⟩, q2, q3, q4, q5⟩ := hrep
          exact ⟨q1, ⟨s0, s1, s2, fun x hx => s3 x (List.mem_of_mem_drop hx)⟩, q2, q3, q4, rfl⟩
        have hm : ∀ kk, kk ∈ K.2.2.2 → yt_e em kk ∈ mods ∧ kk < em.length := fun kk hkk => by
          have := List.all_eq_true.mp c5 kk hkk
          rw [Bool.and_eq_true, decide_eq_true_eq] at this
          exact ⟨List.contains_iff_mem.mp this.1, this.2⟩
        have hal : a.2.2.1.1.length = em.length ∧ a.2.2.1.2.length = em.length := by
          have := List.all_eq_true.mp c6 a (List.mem_of_getElem? ha)
          rw [Bool.and_eq_true, decide_eq_true_eq, decide_eq_true_eq] at this
          exact this
        have hkeep : ∀ q, q < H.size → ¬ (∃ j ∈ em, q = ad j) → T'.heap[q]? = H[q]? := fun q h1 h2 => by
          rw [f1]
          refine hk q h1 fun z => ?_
          rcases z with z | z
          · exact h2 (hadd q z)
          · omega
        obtain ⟨t2, a1, b1⟩ := yt_kaft (H1 := T'.heap) (locs1 := locs ++ L) (sh' := sh') hrep2 hh hsc hm0 hsh hshl htst e2 hm hal hel hAlt f1.symm hkeep ⟨Nat.le_trans hS.1 (by rw [f1]; exact hz), fun q h1 h2 => by rw [f1, hk q (Nat.lt_of_lt_of_le h1 hS.1) (fun z => h2 (hF q z))]; exact hS.2.1 q h1 h2, fun q hq => by
          rcases List.mem_append.mp hq with g1 | g1
          · exact hS.2.2 q g1
          · exact hF _ (hL q g1)⟩ (fun q hq => k q (yt_ats_mem _ 0 ia a ha q (by rw [Nat.zero_add]; exact hq))) T' rfl X'
        exact ⟨t2, stp t2 a1, b1⟩
      · cases hs
    · cases hs
  · cases hs
end YTC
end
section
/-! one step of the second engine -/
def yt_un (w : Bool) (v : ys_V) : Option ys_L := match w, v with
  | false, .inl (.inl z) => some z
  | true, .inl (.inr z) => some z
  | _, _ => none
theorem yt_un_ok {w : Bool} {v : ys_V} {z : ys_L} (h : yt_un w v = some z) : v = yt_mk w z := by
  unfold yt_un at h
  split at h
  · cases Option.some.inj h
    rfl
  · cases Option.some.inj h
    rfl
  · cases h
theorem yt_mk_sti {n : Nat} {w : Bool} {x : ys_L} (h : ys_stV n (yt_mk w x)) : ys_stb n x := by
  cases w <;> exact h
def yt_hbin (w : Bool) (F : ys_B → ys_L → ys_L → Option (List yt_Br)) (h : List yt_Ev) (pc : Nat) (b : ys_B) (fds : ys_F) (lv : List (Nat × ys_V)) (sv : List ys_V) : Option (List yt_U) := match sv with
  | vy :: vx :: t => (match yt_un w vy, yt_un w vx with
    | some y, some x => (match F b x y with
      | some brs => some (yt_num w (pc + 1) b fds lv t h x y brs)
      | none => none)
    | _, _ => none)
  | _ => none
def yt_hone (w : Bool) (k : Nat) (F : ys_B → ys_L → Option (List yt_Br)) (fr lo : Nat) (h : List yt_Ev) (pc : Nat) (b : ys_B) (fds : ys_F) (lv : List (Nat × ys_V)) (sv : List ys_V) : Option (List yt_U) := match sv with
  | vx :: t => (match yt_un w vx with
    | some x => (match F b x with
      | some brs => if decide (1 ≤ fr) && decide ((t.map ys_cat).sum + k ≤ lo) then some (yt_num w (pc + 3) b fds lv t h x x brs) else none
      | none => none)
    | none => none)
  | _ => none
/-- the greater of two longs -/
def yt_bmax (b : ys_B) (x y : ys_L) : Option (List yt_Br) := if ys_inr true b.1 x && ys_inr true b.1 y then some [((0, 0), [yt_m1 (ys_sub x y)], x, false), ((0, 0), [ys_sub y x], y, false)] else none
def yt_hmx (fr lo : Nat) (h : List yt_Ev) (pc : Nat) (b : ys_B) (fds : ys_F) (lv : List (Nat × ys_V)) (sv : List ys_V) : Option (List yt_U) := match sv with
  | vy :: vx :: t => (match yt_un true vy, yt_un true vx with
    | some y, some x => (match yt_bmax b x y with
      | some brs => if decide (1 ≤ fr) && decide ((t.map ys_cat).sum + 15 ≤ lo) then some (yt_num true (pc + 3) b fds lv t h x y brs) else none
      | none => none)
    | _, _ => none)
  | _ => none
def yt_Cq (own : String) (Ts : List Cond) (v : Nat) : Prop := match v / 100000 with
  | 3 => Cond.methodLink own (v - 300000) Lib.Math.abs.name ∈ Ts ∧ Cond.static Lib.Math.abs.name ∈ Ts ∧ Cond.initialized "java/lang/Math" ∈ Ts ∧ Cond.code Lib.Math.abs.name Lib.Math.abs.code 1 (some .int) ∈ Ts
  | 4 => Cond.methodLink own (v - 400000) Lib.MathLoose.abs_long.x ∈ Ts ∧ Cond.static Lib.MathLoose.abs_long.x ∈ Ts ∧ Cond.initialized "java/lang/Math" ∈ Ts ∧ Cond.code Lib.MathLoose.abs_long.x Lib.MathLoose.abs_long.code 2 (some .long) ∈ Ts
  | 5 => Cond.methodLink own (v - 500000) Lib.MathLoose.max_long.x ∈ Ts ∧ Cond.static Lib.MathLoose.max_long.x ∈ Ts ∧ Cond.initialized "java/lang/Math" ∈ Ts ∧ Cond.code Lib.MathLoose.max_long.x Lib.MathLoose.max_long.code 4 (some .long) ∈ Ts
  | _ => False
abbrev yt_O : Type := Nat × List ys_L × List Nat
def yt_inv (fr lo : Nat) (mods : List Nat) (sh : List ys_C) (idx : Nat) (st : Bool) (h : List yt_Ev) (pc : Nat) (b : ys_B) (fds : ys_F) (lv : List (Nat × ys_V)) (sv : List ys_V) : List yt_CE → Option (List yt_U × List yt_O)
  | [] => none
  | C :: t => if C.1.1 = (idx, st) then (match yt_hcall fr lo mods C h pc b fds lv sv with
    | some o => if sh.length = fds.1.length then some (o.2, if C.1.2.2.1 = true then [(C.1.2.1, o.1, C.1.2.2.2)] else []) else none
    | none => yt_inv fr lo mods sh idx st h pc b fds lv sv t) else yt_inv fr lo mods sh idx st h pc b fds lv sv t
def yt_p (x : Option (List yt_U)) : Option (List yt_U × List yt_O) := match x with
  | some y => some (y, [])
  | none => none
def yt_pl (h : List yt_Ev) (x : Option (List (Nat × ys_S))) : Option (List yt_U × List yt_O) := match x with
  | some y => some (y.map (fun q => (q.1, q.2, h)), [])
  | none => none
theorem yt_p_ok {x : Option (List yt_U)} {o : List yt_U × List yt_O} (h : yt_p x = some o) : x = some o.1 := by
  unfold yt_p at h
  split at h
  · cases Option.some.inj h
    rfl
  · cases h
theorem yt_pl_ok {e : List yt_Ev} {x : Option (List (Nat × ys_S))} {o : List yt_U × List yt_O} (h : yt_pl e x = some o) : ∃ y, x = some y ∧ o.1 = y.map fun q => (q.1, q.2, e) := by
  unfold yt_pl at h
  split at h
  · rename_i y
    cases Option.some.inj h
    exact ⟨y, rfl, rfl⟩
  · cases h
def yt_K0 (K : ys_K) : ys_K := (K.1, K.2.1, ([], []))
def yt_nc (F : ys_B → ys_L → ys_L → Option (List yt_Br)) (b : ys_B) (x y : ys_L) : Option (List yt_Br) := if y.1 = [] then none else F b x y
def yt_nc2 (F : ys_B → ys_L → ys_L → Option (List yt_Br)) (b : ys_B) (x y : ys_L) : Option (List yt_Br) := if x.1 = [] then none else if y.1 = [] then none else F b x y
theorem yt_nc_ok {F : ys_B → ys_L → ys_L → Option (List yt_Br)} {b : ys_B} {x y : ys_L} {o : List yt_Br} (h : yt_nc F b x y = some o) : F b x y = some o := by
  unfold yt_nc at h
  split at h
  · cases h
  · exact h
theorem yt_nc2_ok {F : ys_B → ys_L → ys_L → Option (List yt_Br)} {b : ys_B} {x y : ys_L} {o : List yt_Br} (h : yt_nc2 F b x y = some o) : F b x y = some o := by
  unfold yt_nc2 at h
  split at h
  · cases h
  · split at h
    · cases h
    · exact h
def yt_step (sh : List ys_C) (fl : ys_FL) (ci cj : List (Nat × Int)) (calls : List yt_CE) (cps cqs : List Nat) (K : ys_K) (nx : Nat → Option (Instr × Nat)) (h : List yt_Ev) (pc : Nat) (b : ys_B) (fds : ys_F) (lv : List (Nat × ys_V)) (sv : List ys_V) (i : Instr) (n : Nat) : Option (List yt_U × List yt_O) := match i with
  | .iaload => ys_g1 n 1 (yt_p (yt_hld 0 false sh h pc b fds lv sv))
  | .laload => ys_g1 n 1 (yt_p (yt_hld 1 true sh h pc b fds lv sv))
  | .baload => ys_g1 n 1 (ys_or (yt_p (yt_hld 2 false sh h pc b fds lv sv)) (yt_p (yt_hld 3 false sh h pc b fds lv sv)))
  | .iastore => ys_g1 n 1 (yt_p (yt_hst 0 false (-9223372036854775808, 9223372036854775808) sh K.2.2.2 h pc b fds lv sv))
  | .lastore => ys_g1 n 1 (yt_p (yt_hst 1 true (-9223372036854775808, 9223372036854775808) sh K.2.2.2 h pc b fds lv sv))
  | .bastore => ys_g1 n 1 (ys_or (yt_p (yt_hst 2 false (-128, 127) sh K.2.2.2 h pc b fds lv sv)) (yt_p (yt_hst 3 false (0, 1) sh K.2.2.2 h pc b fds lv sv)))
  | .lrem => ys_or (ys_g1 n 1 (yt_p (yt_hbin true (yt_nc yt_brem) h pc b fds lv sv))) (yt_pl h (ys_stp sh fl ci cj [] cps (yt_K0 K) nx pc b fds lv sv .lrem n))
  | .ldiv => ys_or (ys_g1 n 1 (yt_p (yt_hbin true (yt_nc yt_bdiv) h pc b fds lv sv))) (yt_pl h (ys_stp sh fl ci cj [] cps (yt_K0 K) nx pc b fds lv sv .ldiv n))
  | .lmul => ys_or (ys_g1 n 1 (yt_p (yt_hbin true (yt_nc2 (yt_bmul true)) h pc b fds lv sv))) (yt_pl h (ys_stp sh fl ci cj [] cps (yt_K0 K) nx pc b fds lv sv .lmul n))
  | .imul => ys_or (ys_g1 n 1 (yt_p (yt_hbin false (yt_nc2 (yt_bmul false)) h pc b fds lv sv))) (yt_pl h (ys_stp sh fl ci cj [] cps (yt_K0 K) nx pc b fds lv sv .imul n))
  | .iand => ys_or (ys_g1 n 1 (yt_p (yt_hbin false (yt_nc2 yt_band) h pc b fds lv sv))) (yt_pl h (ys_stp sh fl ci cj [] cps (yt_K0 K) nx pc b fds lv sv .iand n))
  | .invokevirtual k => ys_g1 n 3 (yt_inv K.1.2.1 K.1.2.2 K.2.2.2 sh k false h pc b fds lv sv calls)
  | .invokestatic k => if 100000 ≤ k then none else if cps.contains k then (if 1 ≤ K.1.2.1 then ys_g1 n 3 (yt_p (yt_hcp K.1.2.2 sh K.2.2.2 h pc b fds lv sv)) else none) else if cqs.contains (300000 + k) then ys_g1 n 3 (yt_p (yt_hone false 13 (yt_babs false) K.1.2.1 K.1.2.2 h pc b fds lv sv)) else if cqs.contains (400000 + k) then ys_g1 n 3 (yt_p (yt_hone true 13 (yt_babs true) K.1.2.1 K.1.2.2 h pc b fds lv sv)) else if cqs.contains (500000 + k) then ys_g1 n 3 (yt_p (yt_hmx K.1.2.1 K.1.2.2 h pc b fds lv sv)) else if cps.contains (100000 + k) || cps.contains (200000 + k) then yt_pl h (ys_stp sh fl ci cj [] cps (yt_K0 K) nx pc b fds lv sv (.invokestatic k) n) else ys_g1 n 3 (yt_inv K.1.2.1 K.1.2.2 K.2.2.2 sh k true h pc b fds lv sv calls)
  | i => if ys_isr i = true then none else yt_pl h (ys_stp sh fl ci cj [] cps (yt_K0 K) nx pc b fds lv sv i n)
section YTS
variable {p : Program} {l : Launch} {e : Env} {R : Room} {s : State} {m : MethodId} {args : Array Value} {below : List Frame} {meth : Method} {c : Code} {Q : State → Prop} {kc kz : Nat} {D : va_G} {cl : List vw_C} {ad : Nat → Nat} {cT : Nat → ClassId} {sh : List ys_C} {A : Nat → Prop} {H0 : Heap} {nL : Nat} {mods : List Nat} {g0 : yt_G} {r0 : Nat → Int} {E : Nat} {tb : yt_Tb} {gi : yt_G} {h : List yt_Ev} {pc : Nat} {b : ys_B} {fds : ys_F} {lv : List (Nat × ys_V)} {sv : List ys_V} {succ : List yt_U} {cc : ByteArray} {own : String} {Ts : List Cond} {tys : List (ClassId × FieldType)}
theorem yt_kbin {w : Bool} {F : ys_B → ys_L → ys_L → Option (List yt_Br)} {OK : (Nat → Int) → ys_L → ys_L → Prop} {V : (Nat → Int) → ys_L → ys_L → Value} (hF : ∀ (r : Nat → Int) (x y : ys_L) (brs : List yt_Br), F b x y = some brs → ys_stb b.1.length x → ys_stb b.1.length y → ys_okB r b → OK r x y ∧ (∀ br ∈ brs, yt_bst b.1.length br) ∧ ∃ br ∈ brs, ∃ z, yt_sel w b.1.length r x y (V r x y) br z) (hrow : ∀ (r : Nat → Int) (x y : ys_L) (H : Heap) (locs : List Loc) (ls : Array Slot) (rest : List Value), OK r x y → W p l e R s m args below meth c H locs kc kz Q (F0 m (pc + 1) ls (V r x y :: rest)) → W p l e R s m args below meth c H locs kc kz Q (F0 m pc ls (yt_vl w (ys_ev r y) :: yt_vl w (ys_ev r x) :: rest))) (hs : yt_hbin w F h pc b fds lv sv = some succ) (k : ∀ q ∈ succ, yt_X p l e R s m args below meth c Q kc kz D cl ad cT sh A H0 nL mods g0 r0 E tb gi q.2.2 q.1 q.2.1) : yt_X p l e R s m args below meth c Q kc kz D cl ad cT sh A H0 nL mods g0 r0 E tb gi h pc (b, fds, lv, sv) := by
  unfold yt_hbin at hs
  split at hs
  · rename_i vy vx t
    split at hs
    · rename_i y x hy hx
      split at hs
      · rename_i brs hb
        have hs := (Option.some.inj hs).symm
        subst hs
        intro r g H locs ls st hrep hh hsc hm
        obtain ⟨st1, e1, g1, sy⟩ := ys_rep_pop hrep
        obtain ⟨st2, e2, g2, sx⟩ := ys_rep_pop g1
        rw [yt_un_ok hy, yt_mk_den] at e1
        rw [yt_un_ok hx, yt_mk_den] at e2
        rw [yt_un_ok hy] at sy
        rw [yt_un_ok hx] at sx
        subst e1; subst e2
        have sx := yt_mk_sti sx
        have sy := yt_mk_sti sy
        obtain ⟨h1, h2, h3⟩ := hF r x y brs hb sx sy hrep.1
        exact hrow r x y H locs ls st2 h1 (yt_knum g2 hh hsc hm sx sy h2 h3 k)
      · cases hs
    · cases hs
  · cases hs
theorem yt_kone {w : Bool} {kk fr lo : Nat} {F : ys_B → ys_L → Option (List yt_Br)} {V : (Nat → Int) → ys_L → Value} (hfr : fr ≤ R.frames) (hlo : lo ≤ R.locals) (hF : ∀ (r : Nat → Int) (x : ys_L) (brs : List yt_Br), F b x = some brs → ys_stb b.1.length x → ys_okB r b → (∀ br ∈ brs, yt_bst b.1.length br) ∧ ∃ br ∈ brs, ∃ z, yt_sel w b.1.length r x x (V r x) br z) (hrow : ∀ (r : Nat → Int) (x : ys_L) (H : Heap) (locs : List Loc) (ls : Array Slot) (rest : List Value), ls.size = nL → 1 ≤ R.frames → (rest.map fun v => v.category).sum + kk ≤ R.locals → W p l e R s m args below meth c H locs kc kz Q (F0 m (pc + 3) ls (V r x :: rest)) → W p l e R s m args below meth c H locs kc kz Q (F0 m pc ls (yt_vl w (ys_ev r x) :: rest))) (hs : yt_hone w kk F fr lo h pc b fds lv sv = some succ) (k : ∀ q ∈ succ, yt_X p l e R s m args below meth c Q kc kz D cl ad cT sh A H0 nL mods g0 r0 E tb gi q.2.2 q.1 q.2.1) : yt_X p l e R s m args below meth c Q kc kz D cl ad cT sh A H0 nL mods g0 r0 E tb gi h pc (b, fds, lv, sv) := by
  unfold yt_hone at hs
  split at hs
  · rename_i vx t
    split at hs
    · rename_i x hx
      split at hs
      · rename_i brs hb
        split at hs
        · rename_i hc
          rw [Bool.and_eq_true, decide_eq_true_eq, decide_eq_true_eq] at hc
          have hs := (Option.some.inj hs).symm
          subst hs
          intro r g H locs ls st hrep hh hsc hm
          obtain ⟨st1, e1, g1, sx⟩ := ys_rep_pop hrep
          rw [yt_un_ok hx, yt_mk_den] at e1
          rw [yt_un_ok hx] at sx
          subst e1
          have sx := yt_mk_sti sx
          obtain ⟨h2, h3⟩ := hF r x brs hb sx hrep.1
          refine hrow r x H locs ls st1 g1.2.2.2.2.1.1 (Nat.le_trans hc.1 hfr) ?_ (yt_knum g1 hh hsc hm sx sx h2 h3 k)
          rw [g1.2.2.2.2.2, ys_cats]
          exact Nat.le_trans hc.2 hlo
        · cases hs
      · cases hs
    · cases hs
  · cases hs
theorem yt_kmx {fr lo idx : Nat} (hexec : p.tables.exec = Jvm.exec) (hb : c.code = cc) (hml : c.maxLocals = nL) (hts : ∀ w ∈ Ts, w.before args s = true) (hown : s.vm.findClass own = some m.cls) (hfr : fr ≤ R.frames) (hlo : lo ≤ R.locals) (hkk : kc ≤ R.cells ∧ kz ≤ R.slots) (hw : Cond.methodLink own idx Lib.MathLoose.max_long.x ∈ Ts ∧ Cond.static Lib.MathLoose.max_long.x ∈ Ts ∧ Cond.initialized "java/lang/Math" ∈ Ts ∧ Cond.code Lib.MathLoose.max_long.x Lib.MathLoose.max_long.code 4 (some .long) ∈ Ts) (hd : decode cc pc = .ok (.invokestatic idx, 3)) (hs : yt_hmx fr lo h pc b fds lv sv = some succ) (k : ∀ q ∈ succ, yt_X p l e R s m args below meth c Q kc kz D cl ad cT sh A H0 nL mods g0 r0 E tb gi q.2.2 q.1 q.2.1) : yt_X p l e R s m args below meth c Q kc kz D cl ad cT sh A H0 nL mods g0 r0 E tb gi h pc (b, fds, lv, sv) := by
  unfold yt_hmx at hs
  split at hs
  · rename_i vy vx t
    split at hs
    · rename_i y x hy hx
      split at hs
      · rename_i brs hbr
        split at hs
        · rename_i hc
          rw [Bool.and_eq_true, decide_eq_true_eq, decide_eq_true_eq] at hc
          have hs := (Option.some.inj hs).symm
          subst hs
          intro r g H locs ls st hrep hh hsc hm
          obtain ⟨st1, e1, g1, sy⟩ := ys_rep_pop hrep
          obtain ⟨st2, e2, g2, sx⟩ := ys_rep_pop g1
          rw [yt_un_ok hy, yt_mk_den] at e1
          rw [yt_un_ok hx, yt_mk_den] at e2
          rw [yt_un_ok hy] at sy
          rw [yt_un_ok hx] at sx
          subst e1; subst e2
          have sx := yt_mk_sti sx
          have sy := yt_mk_sti sy
          have sx1 := ys_stb_mono sx (Nat.le_succ _)
          have sy1 := ys_stb_mono sy (Nat.le_succ _)
          unfold yt_bmax at hbr
          split at hbr
          · rename_i hi
            rw [Bool.and_eq_true] at hi
            have ex := ys_inr64 hrep.1.1 hi.1
            have ey := ys_inr64 hrep.1.1 hi.2
            have hbr := (Option.some.inj hbr).symm
            subst hbr
            obtain ⟨w1, w2, w3, w4⟩ := hw
            refine va_mmax_long hexec hb (hml.trans g2.2.2.2.2.1.1.symm) hown (hts _ w1) (hts _ w2) (hts _ w3) (hts _ w4) (Nat.le_trans hc.1 hfr) (by rw [g2.2.2.2.2.2, ys_cats]; exact Nat.le_trans hc.2 hlo) hkk.1 hkk.2 hd (x := Int64.ofInt (ys_ev r x)) (y := Int64.ofInt (ys_ev r y)) ?_
            refine yt_knum g2 hh hsc hm sx sy (fun br hbr => ?_) ?_ k
            · rcases List.mem_cons.mp hbr with q | hbr
              · rw [q]
                exact ⟨yt_all1 (ys_stb_m1 (ys_stb_sub sx1 sy1)), sx1⟩
              · rw [List.mem_singleton.mp hbr]
                exact ⟨yt_all1 (ys_stb_sub sy1 sx1), sy1⟩
            · by_cases hlt : Int64.ofInt (ys_ev r y) < Int64.ofInt (ys_ev r x)
              · rw [if_pos hlt]
                rw [Int64.lt_iff_toInt_lt, ex, ey] at hlt
                refine ⟨_, List.mem_cons_self, 0, ⟨Int.le_refl 0, Int.le_refl 0⟩, ys_fk1 ?_, ?_, fun z => by cases z⟩
                · rw [yt_m1_ev, ys_sub_ev, yt_up_ev sx, yt_up_ev sy]; omega
                · show Value.long (Int64.ofInt (ys_ev _ x)) = _
                  rw [yt_up_ev sx]
              · rw [if_neg hlt]
                rw [Int64.lt_iff_toInt_lt, ex, ey] at hlt
                refine ⟨_, List.mem_cons_of_mem _ List.mem_cons_self, 0, ⟨Int.le_refl 0, Int.le_refl 0⟩, ys_fk1 ?_, ?_, fun z => by cases z⟩
                · rw [ys_sub_ev, yt_up_ev sx, yt_up_ev sy]; omega
                · show Value.long (Int64.ofInt (ys_ev _ y)) = _
                  rw [yt_up_ev sy]
          · cases hbr
        · cases hs
      · cases hs
    · cases hs
  · cases hs
theorem yt_abs64 {z : Int} (h : ys_mn true ≤ z ∧ z ≤ ys_mx true) : (0 ≤ z → (if 0 < Int64.ofInt z then Int64.ofInt z else -Int64.ofInt z) = Int64.ofInt z) ∧ (z < 0 → (if 0 < Int64.ofInt z then Int64.ofInt z else -Int64.ofInt z) = Int64.ofInt (-z)) := by
  rw [ys_mn_t, ys_mx_t] at h
  have e : (Int64.ofInt z).toInt = z := Int64.toInt_ofInt_of_le (by omega) (by omega)
  have e0 : (0 : Int64).toInt = 0 := rfl
  refine ⟨fun h0 => ?_, fun h0 => ?_⟩
  · split
    · rfl
    · rename_i hn
      rw [Int64.lt_iff_toInt_lt, e, e0] at hn
      have : z = 0 := by omega
      rw [this]
      rfl
  · rw [if_neg (by rw [Int64.lt_iff_toInt_lt, e, e0]; omega), Int64.ofInt_neg]
theorem yt_abs32 {z : Int} (h : ys_mn false ≤ z ∧ z ≤ ys_mx false) : (0 ≤ z → (if 0 ≤ Int32.ofInt z then Int32.ofInt z else 0 - Int32.ofInt z) = Int32.ofInt z) ∧ (z < 0 → (if 0 ≤ Int32.ofInt z then Int32.ofInt z else 0 - Int32.ofInt z) = Int32.ofInt (-z)) := by
  rw [ys_mn_f, ys_mx_f] at h
  have e : (Int32.ofInt z).toInt = z := Int32.toInt_ofInt_of_le (by omega) (by omega)
  have e0 : (0 : Int32).toInt = 0 := rfl
  refine ⟨fun h0 => ?_, fun h0 => ?_⟩
  · rw [if_pos (by rw [Int32.le_iff_toInt_le, e, e0]; exact h0)]
  · rw [if_neg (by rw [Int32.le_iff_toInt_le, e, e0]; omega), Int32.ofInt_neg, Int32.zero_sub]
variable {G : List Cond} {pt : Nat → yt_Ps} {calls : List yt_CE} {K : ys_K} {fl : ys_FL} {ci cj : List (Nat × Int)} {cps cqs : List Nat} {nx : Nat → Option (Instr × Nat)}
theorem yt_kinv {idx : Nat} {st : Bool} {fr lo : Nat} {o : List yt_U × List yt_O} (S : CallFix p m c cc nL s args Ts own) (hK : va_K D cl tys s) (hA0 : ∀ q, H0.size ≤ q → A q) (hfr : fr ≤ R.frames) (hlo : lo ≤ R.locals) (hkk : kc ≤ R.cells ∧ kz ≤ R.slots) (hd : decode cc pc = .ok (if st = true then .invokestatic idx else .invokevirtual idx, 3)) (hob : ∀ q ∈ o.2, ∀ (r : Nat → Int) (g : yt_G), ys_okB r b → (∀ i, i < E → r i = r0 i) → yt_h tb r gi h g → pt q.1 (ys_val r 0 q.2.1) (yt_sub q.2.2 g)) (k : ∀ q ∈ o.1, yt_X p l e R s m args below meth c Q kc kz D cl ad cT sh A H0 nL mods g0 r0 E tb gi q.2.2 q.1 q.2.1) : ∀ (cs : List yt_CE), (∀ C ∈ cs, yt_Con l D cl cT tys G C.2.1 C.2.2 (pt C.1.2.1) (tb C.1.2.1) ∧ ys_CL own Ts cl C.2.1 G (if C.1.1.2 = true then .invokestatic C.1.1.1 else .invokevirtual C.1.1.1) C.2.2 ∧ yt_shok C.1.2.2.2 C.2.1 sh = true ∧ (C.1.2.2.1 = false → ∀ r g, pt C.1.2.1 r g)) → yt_inv fr lo mods sh idx st h pc b fds lv sv cs = some o → yt_X p l e R s m args below meth c Q kc kz D cl ad cT sh A H0 nL mods g0 r0 E tb gi h pc (b, fds, lv, sv)
  | [], _, hs => by cases hs
  | C :: t, hc, hs => by
    have ht : ∀ x ∈ t, yt_Con l D cl cT tys G x.2.1 x.2.2 (pt x.1.2.1) (tb x.1.2.1) ∧ ys_CL own Ts cl x.2.1 G (if x.1.1.2 = true then .invokestatic x.1.1.1 else .invokevirtual x.1.1.1) x.2.2 ∧ yt_shok x.1.2.2.2 x.2.1 sh = true ∧ (x.1.2.2.1 = false → ∀ r g, pt x.1.2.1 r g) := fun x hx => hc x (List.mem_cons_of_mem _ hx)
    unfold yt_inv at hs
    split at hs
    · rename_i he
      split at hs
      · rename_i x hx
        split at hs
        · rename_i hl
          have hs := (Option.some.inj hs).symm
          subst hs
          obtain ⟨h1, h2, h3, h4⟩ := hc C List.mem_cons_self
          rw [he] at h2
          refine yt_kcall (t := x.1) (succ := x.2) S hK hA0 h1 h2 h3 hl hd hfr hlo hkk hx (fun r g q1 q2 q3 => ?_) k
          cases hp : C.1.2.2.1 with
          | false => exact h4 hp _ _
          | true => exact hob (C.1.2.1, x.1, C.1.2.2.2) (by rw [hp]; exact List.mem_cons_self) r g q1 q2 q3
        · cases hs
      · exact yt_kinv S hK hA0 hfr hlo hkk hd hob k t ht hs
    · exact yt_kinv S hK hA0 hfr hlo hkk hd hob k t ht hs
set_option maxHeartbeats 4000000 in
theorem yt_step_ok {i : Instr} {n : Nat} {o : List yt_U × List yt_O} (S : CallFix p m c cc nL s args Ts own) (hnL : K.1.1.2.2.1 = nL) (hmods : K.2.2.2 = mods) (hfr : K.1.2.1 ≤ R.frames) (hlo : K.1.2.2 ≤ R.locals) (hkk : kc ≤ R.cells ∧ kz ≤ R.slots) (hA0 : ∀ q, H0.size ≤ q → A q) (hK : va_K D cl tys s) (hty : ys_Ty tys cT sh) (hLk : ys_Lk own Ts cl fl ci cj cps) (hCq : ∀ v, v ∈ cqs → yt_Cq own Ts v) (hcalls : ∀ C ∈ calls, yt_Con l D cl cT tys G C.2.1 C.2.2 (pt C.1.2.1) (tb C.1.2.1) ∧ ys_CL own Ts cl C.2.1 G (if C.1.1.2 = true then .invokestatic C.1.1.1 else .invokevirtual C.1.1.1) C.2.2 ∧ yt_shok C.1.2.2.2 C.2.1 sh = true ∧ (C.1.2.2.1 = false → ∀ r g, pt C.1.2.1 r g)) (hnx : ∀ pc i, nx pc = some i → decode cc pc = .ok i) (hd : decode cc pc = .ok (i, n)) (hs : yt_step sh fl ci cj calls cps cqs K nx h pc b fds lv sv i n = some o) (hob : ∀ q ∈ o.2, ∀ (r : Nat → Int) (g : yt_G), ys_okB r b → (∀ i, i < E → r i = r0 i) → yt_h tb r gi h g → pt q.1 (ys_val r 0 q.2.1) (yt_sub q.2.2 g)) (k : ∀ q ∈ o.1, yt_X p l e R s m args below meth c Q kc kz D cl ad cT sh A H0 nL mods g0 r0 E tb gi q.2.2 q.1 q.2.1) : yt_X p l e R s m args below meth c Q kc kz D cl ad cT sh A H0 nL mods g0 r0 E tb gi h pc (b, fds, lv, sv) := by
  subst hnL
  subst hmods
  have hexec := S.1
  have hb := S.2.1
  have hml := S.2.2.1
  have hown := S.2.2.2.1
  have hts := S.2.2.2.2
  obtain ⟨t0, t1, t2, t3, t4, t5⟩ := hty
  have hpl : ∀ {j : Instr}, decode cc pc = .ok (j, n) → ys_isr j = false → yt_pl h (ys_stp sh fl ci cj [] cps (yt_K0 K) nx pc b fds lv sv j n) = some o → yt_X p l e R s m args below meth c Q kc kz D cl ad cT sh A H0 K.1.1.2.2.1 K.2.2.2 g0 r0 E tb gi h pc (b, fds, lv, sv) := by
    intro j hdj hj hp
    obtain ⟨y, h1, h2⟩ := yt_pl_ok hp
    exact yt_plain (K := yt_K0 K) S rfl rfl hfr hlo hkk hA0 hK ⟨t0, t1, t2, t3, t4, t5⟩ hLk hnx hdj h1 hj (fun q hq => k (q.1, q.2, h) (by rw [h2]; exact List.mem_map.mpr ⟨q, hq, rfl⟩))
  cases i with
  | iaload =>
    obtain ⟨e0, hs1⟩ := ys_g1_ok hs
    subst e0
    exact yt_kild hexec hb hK t0 hd (yt_p_ok hs1) k
  | laload =>
    obtain ⟨e0, hs1⟩ := ys_g1_ok hs
    subst e0
    exact yt_klld hexec hb hK t1 hd (yt_p_ok hs1) k
  | baload =>
    obtain ⟨e0, hs1⟩ := ys_g1_ok hs
    subst e0
    rcases ys_or_ok hs1 with hs2 | hs2
    · exact yt_kbld hexec hb hK t2 hd (yt_p_ok hs2) k
    · exact yt_kzld hexec hb hK t3 hd (yt_p_ok hs2) k
  | iastore =>
    obtain ⟨e0, hs1⟩ := ys_g1_ok hs
    subst e0
    exact yt_kist hexec hb hK t0 hd (yt_p_ok hs1) k
  | lastore =>
    obtain ⟨e0, hs1⟩ := ys_g1_ok hs
    subst e0
    exact yt_klst hexec hb hK t1 hd (yt_p_ok hs1) k
  | bastore =>
    obtain ⟨e0, hs1⟩ := ys_g1_ok hs
    subst e0
    rcases ys_or_ok hs1 with hs2 | hs2
    · exact yt_kbst hexec hb hK t2 hd (yt_p_ok hs2) k
    · exact yt_kzst hexec hb hK t3 hd (yt_p_ok hs2) k
  | lrem =>
    rcases ys_or_ok hs with hs1 | hs1
    · obtain ⟨e0, hs2⟩ := ys_g1_ok hs1
      subst e0
      refine yt_kbin (w := true) (OK := fun r _ y => ys_ev r y ≠ 0 ∧ (ys_mn true ≤ ys_ev r y ∧ ys_ev r y ≤ ys_mx true)) (V := fun r x y => .long (Int64.ofInt (ys_ev r x) - Int64.ofInt (ys_ev r x) / Int64.ofInt (ys_ev r y) * Int64.ofInt (ys_ev r y))) (fun r x y brs hF sx sy hbb => ?_) (fun r x y H locs ls rest hok kk => lv_lrem hexec hb hd (ys_ne64 hok.1 hok.2) kk) (yt_p_ok hs2) k
      obtain ⟨h1, h2, h3⟩ := yt_brem_ok (yt_nc_ok hF) sx sy hbb
      exact ⟨⟨h1, h2⟩, h3⟩
    · exact hpl hd rfl hs1
  | ldiv =>
    rcases ys_or_ok hs with hs1 | hs1
    · obtain ⟨e0, hs2⟩ := ys_g1_ok hs1
      subst e0
      refine yt_kbin (w := true) (OK := fun r _ y => ys_ev r y ≠ 0 ∧ (ys_mn true ≤ ys_ev r y ∧ ys_ev r y ≤ ys_mx true)) (V := fun r x y => .long (Int64.ofInt (ys_ev r x) / Int64.ofInt (ys_ev r y))) (fun r x y brs hF sx sy hbb => ?_) (fun r x y H locs ls rest hok kk => lv_ldiv hexec hb hd (ys_ne64 hok.1 hok.2) kk) (yt_p_ok hs2) k
      obtain ⟨h1, h2, h3⟩ := yt_bdiv_ok (yt_nc_ok hF) sx sy hbb
      exact ⟨⟨h1, h2⟩, h3⟩
    · exact hpl hd rfl hs1
  | lmul =>
    rcases ys_or_ok hs with hs1 | hs1
    · obtain ⟨e0, hs2⟩ := ys_g1_ok hs1
      subst e0
      refine yt_kbin (OK := fun _ _ _ => True) (V := fun r x y => yt_vl true (ys_ev r x * ys_ev r y)) (fun r x y brs hF sx sy hbb => ⟨trivial, yt_bmul_ok (yt_nc2_ok hF) hbb⟩) (fun r x y H locs ls rest _ kk => lv_lmul hexec hb hd ?_) (yt_p_ok hs2) k
      rw [← Int64.ofInt_mul]
      exact kk
    · exact hpl hd rfl hs1
  | imul =>
    rcases ys_or_ok hs with hs1 | hs1
    · obtain ⟨e0, hs2⟩ := ys_g1_ok hs1
      subst e0
      refine yt_kbin (OK := fun _ _ _ => True) (V := fun r x y => yt_vl false (ys_ev r x * ys_ev r y)) (fun r x y brs hF sx sy hbb => ⟨trivial, yt_bmul_ok (yt_nc2_ok hF) hbb⟩) (fun r x y H locs ls rest _ kk => lv_imul hexec hb hd ?_) (yt_p_ok hs2) k
      rw [← Int32.ofInt_mul]
      exact kk
    · exact hpl hd rfl hs1
  | iand =>
    rcases ys_or_ok hs with hs1 | hs1
    · obtain ⟨e0, hs2⟩ := ys_g1_ok hs1
      subst e0
      exact yt_kbin (OK := fun _ _ _ => True) (V := fun r x y => .int (Int32.ofInt (ys_ev r x) &&& Int32.ofInt (ys_ev r y))) (fun r x y brs hF sx sy hbb => ⟨trivial, yt_band_ok (yt_nc2_ok hF) sx sy hbb⟩) (fun r x y H locs ls rest _ kk => lv_iand hexec hb hd kk) (yt_p_ok hs2) k
    · exact hpl hd rfl hs1
  | invokevirtual idx =>
    obtain ⟨e0, hs1⟩ := ys_g1_ok hs
    subst e0
    exact yt_kinv (st := false) S hK hA0 hfr hlo hkk hd hob k calls hcalls hs1
  | invokestatic idx =>
    unfold yt_step at hs
    dsimp only at hs
    split at hs
    · cases hs
    · split at hs
      · rename_i hc
        split at hs
        · rename_i hf1
          obtain ⟨e0, hs1⟩ := ys_g1_ok hs
          subst e0
          have hq := hLk.2.2.2 idx (List.contains_iff_mem.mp hc)
          unfold ys_Cp at hq
          rw [show idx / 100000 = 0 by omega] at hq
          obtain ⟨w1, w2, w3, w4⟩ := hq
          exact yt_kcp hexec hb hml hts hown hK t0 t1 (Nat.le_trans hf1 hfr) hlo w1 w2 w3 w4 hd (yt_p_ok hs1) k
        · cases hs
      · split at hs
        · rename_i hc
          obtain ⟨e0, hs1⟩ := ys_g1_ok hs
          subst e0
          have hq := hCq _ (List.contains_iff_mem.mp hc)
          unfold yt_Cq at hq
          rw [show (300000 + idx) / 100000 = 3 by omega, show 300000 + idx - 300000 = idx by omega] at hq
          obtain ⟨w1, w2, w3, w4⟩ := hq
          refine yt_kone (w := false) (V := fun r x => .int (if 0 ≤ Int32.ofInt (ys_ev r x) then Int32.ofInt (ys_ev r x) else 0 - Int32.ofInt (ys_ev r x))) hfr hlo (fun r x brs hF sx hbb => ?_) (fun r x H locs ls rest h1 h2 h3 kk => va_mabs hexec hb (hml.trans h1.symm) hown (hts _ w1) (hts _ w2) (hts _ w3) (hts _ w4) h2 h3 hkk.1 hkk.2 hd kk) (yt_p_ok hs1) k
          have hr : ys_mn false ≤ ys_ev r x ∧ ys_ev r x ≤ ys_mx false := by
            unfold yt_babs at hF
            split at hF
            · rename_i hi
              exact ys_inr_ok hbb.1 hi
            · cases hF
          obtain ⟨a1, a2⟩ := yt_abs32 hr
          refine (yt_babs_ok hF sx hbb (fun h0 => ?_) (fun h0 => ?_) (fun h0 => ?_)).2
          · rw [a1 h0]; rfl
          · rw [a2 h0]; rfl
          · rw [h0]; rfl
        · split at hs
          · rename_i hc
            obtain ⟨e0, hs1⟩ := ys_g1_ok hs
            subst e0
            have hq := hCq _ (List.contains_iff_mem.mp hc)
            unfold yt_Cq at hq
            rw [show (400000 + idx) / 100000 = 4 by omega, show 400000 + idx - 400000 = idx by omega] at hq
            obtain ⟨w1, w2, w3, w4⟩ := hq
            refine yt_kone (w := true) (V := fun r x => .long (if 0 < Int64.ofInt (ys_ev r x) then Int64.ofInt (ys_ev r x) else -Int64.ofInt (ys_ev r x))) hfr hlo (fun r x brs hF sx hbb => ?_) (fun r x H locs ls rest h1 h2 h3 kk => va_mabs_long hexec hb (hml.trans h1.symm) hown (hts _ w1) (hts _ w2) (hts _ w3) (hts _ w4) h2 h3 hkk.1 hkk.2 hd kk) (yt_p_ok hs1) k
            have hr : ys_mn true ≤ ys_ev r x ∧ ys_ev r x ≤ ys_mx true := by
              unfold yt_babs at hF
              split at hF
              · rename_i hi
                exact ys_inr_ok hbb.1 hi
              · cases hF
            obtain ⟨a1, a2⟩ := yt_abs64 hr
            refine (yt_babs_ok hF sx hbb (fun h0 => ?_) (fun h0 => ?_) (fun h0 => ?_)).2
            · rw [a1 h0]; rfl
            · rw [a2 h0]; rfl
            · rw [h0]; rfl
          · split at hs
            · rename_i hc
              obtain ⟨e0, hs1⟩ := ys_g1_ok hs
              subst e0
              have hq := hCq _ (List.contains_iff_mem.mp hc)
              unfold yt_Cq at hq
              rw [show (500000 + idx) / 100000 = 5 by omega, show 500000 + idx - 500000 = idx by omega] at hq
              exact yt_kmx hexec hb hml hts hown hfr hlo hkk hq hd (yt_p_ok hs1) k
            · split at hs
              · exact hpl hd rfl hs
              · obtain ⟨e0, hs1⟩ := ys_g1_ok hs
                subst e0
                exact yt_kinv (st := true) S hK hA0 hfr hlo hkk hd hob k calls hcalls hs1
  | ireturn => cases hs
  | lreturn => cases hs
  | return_ => cases hs
  | freturn => exact hpl hd rfl hs
  | _ => exact hpl hd rfl hs
end YTS
end
section
/-! runs and methods; where words are wanted, a list of conditions to be shown by hand -/
abbrev yt_T : Type := ys_T × List ys_L × Bool
abbrev yt_VC : Type := Nat × ys_B × List ys_L × List Nat × List yt_Ev
def yt_cck (E : Nat) (mo : Option ys_L) (b : ys_B) (fds : ys_F) (lv : List (Nat × ys_V)) (sv : List ys_V) (T : ys_T) : Option (List ys_L) := match ys_zf T.2.2.1.1 fds.1, ys_zl lv T.2.2.2.1 with
  | some fp, some lp => if T.2.2.2.2.1.length = sv.length then (match ys_mat b fds.2 E T.1 T.2.1 T.2.2.1.2 (lp ++ (T.2.2.2.2.1.zip sv ++ fp)) with
    | some t => (match mo with
      | none => some t
      | some m0 => if ys_ge b.1 b.2 2 (ys_add (ys_sub m0 (ys_put E t T.2.2.2.2.2)) ([], -1)) = true then some t else none)
    | none => none) else none
  | _, _ => none
def yt_fc (E : Nat) (mo : Option ys_L) (b : ys_B) (fds : ys_F) (lv : List (Nat × ys_V)) (sv : List ys_V) (h : List yt_Ev) (pc : Nat) : Nat → List (Nat × yt_T) → Option (List yt_VC)
  | _, [] => none
  | j, q :: x => if q.1 = pc then (match yt_cck E mo b fds lv sv q.2.1 with
    | some t => some (if (q.2.2.2 || !q.2.2.1.isEmpty) = true then [(j, b, t, [], h)] else [])
    | none => yt_fc E mo b fds lv sv h pc (j + 1) x) else yt_fc E mo b fds lv sv h pc (j + 1) x
theorem yt_fc_ok {E : Nat} {mo : Option ys_L} {b : ys_B} {fds : ys_F} {lv : List (Nat × ys_V)} {sv : List ys_V} {h : List yt_Ev} {pc : Nat} {vs : List yt_VC} : ∀ (x : List (Nat × yt_T)) (i : Nat), yt_fc E mo b fds lv sv h pc i x = some vs → ∃ (j : Nat) (q : Nat × yt_T) (t : List ys_L), x[j]? = some q ∧ q.1 = pc ∧ yt_cck E mo b fds lv sv q.2.1 = some t ∧ vs = if (q.2.2.2 || !q.2.2.1.isEmpty) = true then [(i + j, b, t, [], h)] else []
  | [], i, hs => by cases hs
  | q :: x, i, hs => by
    unfold yt_fc at hs
    split at hs
    · rename_i he
      split at hs
      · rename_i t ht
        exact ⟨0, q, t, rfl, he, ht, (Option.some.inj hs).symm⟩
      · obtain ⟨j, q', t, h1, h2, h3, h4⟩ := yt_fc_ok x (i + 1) hs
        exact ⟨j + 1, q', t, h1, h2, h3, by rw [h4, show i + 1 + j = i + (j + 1) by omega]⟩
    · obtain ⟨j, q', t, h1, h2, h3, h4⟩ := yt_fc_ok x (i + 1) hs
      exact ⟨j + 1, q', t, h1, h2, h3, by rw [h4, show i + 1 + j = i + (j + 1) by omega]⟩
def yt_ret1 (E : Nat) (b : ys_B) (fds : ys_F) (v : Option ys_V) (a : ys_A) : Option (List ys_L) := match ys_zf a.2.2.1.1 fds.1 with
  | some fp => (match a.2.2.2, v with
    | some x, some y => ys_mat b fds.2 E a.1 a.2.1 a.2.2.1.2 ((x, y) :: fp)
    | none, none => ys_mat b fds.2 E a.1 a.2.1 a.2.2.1.2 fp
    | _, _ => none)
  | none => none
def yt_ret2 (E : Nat) (b : ys_B) (fds : ys_F) (v : Option ys_V) (h : List yt_Ev) (sa : List Bool) : Nat → List ys_A → Option (List yt_VC)
  | _, [] => none
  | i, a :: x => match yt_ret1 E b fds v a with
    | some t => some (if sa.getD i false = true then [(1000 + i, b, t, [], h)] else [])
    | none => yt_ret2 E b fds v h sa (i + 1) x
theorem yt_ret2_ok {E : Nat} {b : ys_B} {fds : ys_F} {v : Option ys_V} {h : List yt_Ev} {sa : List Bool} {vs : List yt_VC} : ∀ (x : List ys_A) (i : Nat), yt_ret2 E b fds v h sa i x = some vs → ∃ (j : Nat) (a : ys_A) (t : List ys_L), x[j]? = some a ∧ yt_ret1 E b fds v a = some t ∧ vs = if sa.getD (i + j) false = true then [(1000 + (i + j), b, t, [], h)] else []
  | [], i, hs => by cases hs
  | a :: x, i, hs => by
    unfold yt_ret2 at hs
    split at hs
    · rename_i t ht
      exact ⟨0, a, t, rfl, ht, (Option.some.inj hs).symm⟩
    · obtain ⟨j, a', t, h1, h2, h3⟩ := yt_ret2_ok x (i + 1) hs
      exact ⟨j + 1, a', t, h1, h2, by rw [h3, show i + 1 + j = i + (j + 1) by omega]⟩
def yt_rt (K : ys_K) (sa : List Bool) (b : ys_B) (fds : ys_F) (sv : List ys_V) (h : List yt_Ev) (i : Instr) (n : Nat) : Option (List yt_VC) := match i with
  | .ireturn => (match sv with
    | [.inl (.inl x)] => if decide (n = 1) && (decide (K.1.1.2.2.2 = some .int) || (decide (K.1.1.2.2.2 = some .boolean) && (ys_geb b.1 x 0 && ys_geb b.1 (ys_scale (-1) x) (-1)))) then yt_ret2 K.2.1.2.1.1.length b fds (some (.inl (.inl x))) h sa 0 K.2.2.1 else none
    | _ => none)
  | .lreturn => (match sv with
    | [.inl (.inr x)] => if decide (n = 1) && decide (K.1.1.2.2.2 = some .long) then yt_ret2 K.2.1.2.1.1.length b fds (some (.inl (.inr x))) h sa 0 K.2.2.1 else none
    | _ => none)
  | .return_ => (match sv with
    | [] => if decide (n = 1) && decide (K.1.1.2.2.2 = none) then yt_ret2 K.2.1.2.1.1.length b fds none h sa 0 K.2.2.1 else none
    | _ => none)
  | _ => none
def yt_all {α : Type} (f : α → Option (List yt_VC)) : List α → Option (List yt_VC)
  | [] => some []
  | a :: t => match f a, yt_all f t with
    | some x, some y => some (x ++ y)
    | _, _ => none
theorem yt_all_ok {α : Type} {f : α → Option (List yt_VC)} : ∀ (l : List α) (vs : List yt_VC), yt_all f l = some vs → ∀ a ∈ l, ∃ x, f a = some x ∧ ∀ v ∈ x, v ∈ vs
  | [], vs, _, a, ha => by cases ha
  | b :: t, vs, hs, a, ha => by
    unfold yt_all at hs
    split at hs
    · rename_i x y hx hy
      cases Option.some.inj hs
      rcases List.mem_cons.mp ha with q | q
      · rw [q]
        exact ⟨x, hx, fun v hv => List.mem_append_left _ hv⟩
      · obtain ⟨x', h1, h2⟩ := yt_all_ok t y hy a q
        exact ⟨x', h1, fun v hv => List.mem_append_right _ (h2 v hv)⟩
    · cases hs
def yt_run (sh : List ys_C) (fl : ys_FL) (ci cj : List (Nat × Int)) (calls : List yt_CE) (cps cqs : List Nat) (K : ys_K) (nx : Nat → Option (Instr × Nat)) (cuts : List (Nat × yt_T)) (sa : List Bool) (mo : Option ys_L) : Nat → Bool → Nat → ys_S → List yt_Ev → Option (List yt_VC)
  | 0, _, _, _, _ => none
  | n + 1, f, pc, S, h => if !f && cuts.any (fun q => q.1 == pc) then yt_fc K.2.1.2.1.1.length mo S.1 S.2.1 S.2.2.1 S.2.2.2 h pc 0 cuts else (match nx pc with
    | none => none
    | some i => if ys_isr i.1 = true then yt_rt K sa S.1 S.2.1 S.2.2.2 h i.1 i.2 else (match yt_step sh fl ci cj calls cps cqs K nx h pc S.1 S.2.1 S.2.2.1 S.2.2.2 i.1 i.2 with
      | none => none
      | some o => (match yt_all (fun q => yt_run sh fl ci cj calls cps cqs K nx cuts sa mo n false q.1 q.2.1 q.2.2) o.1 with
        | some vs => some (o.2.map (fun q => (2000 + q.1, S.1, q.2.1, q.2.2, h)) ++ vs)
        | none => none)))
def yt_cap (E : Nat) (r : Nat → Int) : Nat → Int := fun i => if i < E then r i else 0
theorem yt_cap_eq {E : Nat} {r r0 : Nat → Int} (h : ∀ i, i < E → r i = r0 i) (hz : ∀ i, E ≤ i → r0 i = 0) : yt_cap E r = r0 := by
  funext i
  unfold yt_cap
  split
  · rename_i hi
    exact h i hi
  · rw [hz i (by omega)]
section YTH
variable (tb : yt_Tb) (K : ys_K) (cuts : List (Nat × yt_T)) (Ga : Nat → yt_G → (Nat → Int) → yt_G → Prop) (Ph : yt_Ph) (pt : Nat → yt_Ps)
def yt_dd (g0 : yt_G) (v : yt_VC) (r : Nat → Int) (g : yt_G) : Prop := if v.1 < 1000 then (∃ q, cuts[v.1]? = some q ∧ ys_fk (ys_val r K.2.1.2.1.1.length v.2.2.1) q.2.2.1 ∧ Ga v.1 g0 (ys_val r K.2.1.2.1.1.length v.2.2.1) g) else if v.1 < 2000 then Ph (v.1 - 1000) (ys_val r K.2.1.2.1.1.length v.2.2.1) g0 g else pt (v.1 - 2000) (ys_val r 0 v.2.2.1) (yt_sub v.2.2.2.1 g)
def yt_hold (E' : Nat) (ars : List ys_R) (Gs : yt_G → (Nat → Int) → yt_G → Prop) (v : yt_VC) : Prop := ∀ (g0 : yt_G) (r : Nat → Int) (gi g : yt_G), ys_okB r v.2.1 → yt_h tb r gi v.2.2.2.2 g → (∀ (k : Nat) (a : ys_R), ars[k]? = some a → ys_rok a (gi k)) → (∀ k, k ∉ K.2.2.2 → gi k = g0 k) → Gs g0 (yt_cap E' r) gi → yt_dd K cuts Ga Ph pt g0 v r g
end YTH
section YTR
variable {p : Program} {l : Launch} {e : Env} {R : Room} {s : State} {m : MethodId} {args : Array Value} {below : List Frame} {meth : Method} {c : Code} {Q : State → Prop} {kc kz : Nat} {D : va_G} {cl : List vw_C} {ad : Nat → Nat} {cT : Nat → ClassId} {sh : List ys_C} {A : Nat → Prop} {H0 : Heap} {nL : Nat} {mods : List Nat} {g0 : yt_G} {r0 : Nat → Int} {E : Nat} {tb : yt_Tb} {gi : yt_G} {h : List yt_Ev} {pc : Nat} {b : ys_B} {fds : ys_F} {lv : List (Nat × ys_V)} {sv : List ys_V} {cc : ByteArray} {own : String} {Ts : List Cond} {tys : List (ClassId × FieldType)}
variable {G : List Cond} {pt : Nat → yt_Ps} {calls : List yt_CE} {K : ys_K} {fl : ys_FL} {ci cj : List (Nat × Int)} {cps cqs : List Nat} {nx : Nat → Option (Instr × Nat)} {rr : Nat → Int} {cuts : List (Nat × yt_T)} {sa : List Bool} {mo : Option ys_L} {Ga : Nat → yt_G → (Nat → Int) → yt_G → Prop} {Ph : yt_Ph}
theorem yt_cck_ok {T : ys_T} {t : List ys_L} {r : Nat → Int} {g : yt_G} {H : Heap} {locs : List Loc} {ls : Array Slot} {st : List Value} (hE : K.2.1.2.1.1.length ≤ E) (hrr : ∀ i, i < K.2.1.2.1.1.length → r0 i = rr i) (hB : ys_okB rr K.2.1.2.1) (hBs : ys_scB K.2.1.2.1) (hT : ys_scb (ys_sT K.2.1.2.1 T) = true) (h : ys_rep D cl ad cT sh A H0 nL [] g r0 r E (b, fds, lv, sv) H locs ls st) (hc : yt_cck K.2.1.2.1.1.length mo b fds lv sv T = some t) :
    ys_rep D cl ad cT sh A H0 nL [] g rr (ys_val r K.2.1.2.1.1.length t) K.2.1.2.1.1.length (ys_sT K.2.1.2.1 T) H locs ls st ∧ t.length = T.1.length ∧ ∀ m0, mo = some m0 → ys_ev (ys_val r K.2.1.2.1.1.length t) T.2.2.2.2.2 < ys_ev r m0 := by
  unfold yt_cck at hc
  split at hc
  · rename_i fp lp hfp hlp
    split at hc
    · rename_i hsl
      split at hc
      · rename_i t0 hm
        have hm0 : t0 = t ∧ ∀ m0, mo = some m0 → ys_ge b.1 b.2 2 (ys_add (ys_sub m0 (ys_put K.2.1.2.1.1.length t0 T.2.2.2.2.2)) ([], -1)) = true := by
          split at hc
          · exact ⟨Option.some.inj hc, fun m0 hm0 => by cases hm0⟩
          · rename_i m0
            split at hc
            · rename_i hq
              exact ⟨Option.some.inj hc, fun m1 hm1 => by cases hm1; exact hq⟩
            · cases hc
        obtain ⟨et, hmm⟩ := hm0
        subst et
        obtain ⟨h1, h2, ⟨hEl, hr⟩, ⟨g', hg, hP, hD, hS⟩, hlv, hst⟩ := h
        obtain ⟨-, e2, e3, e4, e5, e6, e7⟩ := ys_mat_ok (ad := ad) h1 hm
        have hlow : ∀ i, i < K.2.1.2.1.1.length → ys_val r K.2.1.2.1.1.length t0 i = rr i := fun i hi => by rw [ys_val_low hi, hr i (Nat.lt_of_lt_of_le hi hE), hrr i hi]
        have ew : ys_wld ad cT sh (ys_val r K.2.1.2.1.1.length t0) g' T.2.2.1.1 = ys_wld ad cT sh r g' fds.1 := ys_wld_eq (ys_zf_ok _ _ _ hfp (fun q hq => e5 q (List.mem_append_right _ (List.mem_append_right _ hq))))
        refine ⟨⟨⟨fun i q hi => ?_, fun f hf => ?_⟩, ys_scb_ok hT, ⟨?_, hlow⟩, ⟨g', ⟨fun kk z hz => ?_, hg.2⟩, ?_, ?_, hS⟩, ⟨hlv.1, hlv.2.1, ?_⟩, ?_⟩, e2, fun m0 hm0 => ?_⟩
        · have hi : (K.2.1.2.1.1 ++ T.1)[i]? = some q := hi
          by_cases hl : i < K.2.1.2.1.1.length
          · rw [List.getElem?_append_left hl] at hi
            rw [hlow i hl]
            exact hB.1 i q hi
          · rw [List.getElem?_append_right (by omega)] at hi
            have := e3 _ q hi
            rw [show K.2.1.2.1.1.length + (i - K.2.1.2.1.1.length) = i by omega] at this
            exact this
        · rcases List.mem_append.mp hf with q | q
          · rw [hBs f q _ rr hlow]
            exact hB.2 f q
          · exact e4 f q
        · show K.2.1.2.1.1.length ≤ (K.2.1.2.1.1 ++ T.1).length
          rw [List.length_append]
          omega
        · obtain ⟨a0, g1, g2⟩ := e7 kk z hz
          exact ys_rle_ok g2 (hg.1 kk a0 g1)
        · show va_P D cl (ys_wld ad cT sh (ys_val r K.2.1.2.1.1.length t0) g' T.2.2.1.1) H
          rw [ew]
          exact hP
        · show va_D _ (ys_wld ad cT sh (ys_val r K.2.1.2.1.1.length t0) g' T.2.2.1.1)
          rw [ew]
          exact hD
        · exact ys_zl_ok hlv _ _ hlp (fun q hq => e5 q (List.mem_append_left _ hq))
        · rw [hst]
          exact (ys_zip_map _ _ hsl (fun q hq => e5 q (List.mem_append_right _ (List.mem_append_left _ hq)))).symm
        · have := ys_ge_le h1.1 h1.2 _ _ (hmm m0 hm0)
          rw [ys_m1, ys_sub_ev, ys_put_ev] at this
          omega
      · cases hc
    · cases hc
  · cases hc
theorem yt_kret {v : Option ys_V} {a : ys_A} {i : Nat} {tt : List ys_L} {r : Nat → Int} {g : yt_G} {H : Heap} {locs : List Loc} {ls : Array Slot} {st : List Value} {aa : Array Value} (hE : K.2.1.2.1.1.length ≤ E) (hrr : ∀ i, i < K.2.1.2.1.1.length → r0 i = rr i) (hK : va_K D cl tys s) (h : ys_rep D cl ad cT sh (va_A (ys_wK ad cT sh K rr g0) s.heap.size) s.heap nL [] g r0 r E (b, fds, lv, sv) H locs ls st) (hm0 : ∀ k, k ∉ K.2.2.2 → g k = g0 k) (ha : K.2.2.1[i]? = some a) (hs1 : yt_ret1 K.2.1.2.1.1.length b fds v a = some tt) (hPh : Ph i (ys_val r K.2.1.2.1.1.length tt) g0 g) :
    ∀ t : State, t.heap = H → s.WarmedH t.vm → yt_Post D cl cT tys ad sh K Ph rr g0 s.heap.size aa s (.returned (v.map (ys_den ad r))) t := by
  intro t ht hW
  obtain ⟨hg, hP, hD, hS⟩ := yt_wd h
  obtain ⟨h1, h2, ⟨hEl, hr⟩, -, -, -⟩ := h
  have key : ∀ (prs : List (ys_V × ys_V)) (fp : List (ys_V × ys_V)), ys_zf a.2.2.1.1 fds.1 = some fp → (∀ q ∈ fp, q ∈ prs) → ys_mat b fds.2 K.2.1.2.1.1.length a.1 a.2.1 a.2.2.1.2 prs = some tt → (a.2.2.2.map (ys_den ad (ys_val r K.2.1.2.1.1.length tt)) = v.map (ys_den ad r)) → yt_Post D cl cT tys ad sh K Ph rr g0 s.heap.size aa s (.returned (v.map (ys_den ad r))) t := by
    intro prs fp hz hsub hm hv
    obtain ⟨-, e2, e3, e4, e5, e6, e7⟩ := ys_mat_ok (ad := ad) h1 hm
    have ew : ys_wld ad cT sh (ys_val r K.2.1.2.1.1.length tt) g a.2.2.1.1 = ys_wld ad cT sh r g fds.1 := ys_wld_eq (ys_zf_ok _ _ _ hz (fun q hq => e5 q (hsub q hq)))
    refine ⟨⟨i, a, ha, ys_val r K.2.1.2.1.1.length tt, g, ⟨fun i hi => ?_, fun i hi => ys_val_high (by omega), e3, e4, ⟨fun kk z hz => ?_, hm0⟩, ?_, ?_, va_K.moved hW.alike hK, by rw [hv]⟩, hPh⟩, hS.F ht⟩
    · rw [ys_val_low hi, hr i (Nat.lt_of_lt_of_le hi hE), hrr i hi]
    · obtain ⟨a0, g1, g2⟩ := e7 kk z hz
      exact ys_rle_ok g2 (hg kk a0 g1)
    · rw [ew, ht]
      exact hP
    · rw [ew]
      exact hD
  unfold yt_ret1 at hs1
  split at hs1
  · rename_i fp hfp
    split at hs1
    · rename_i x y hx
      refine key _ fp hfp (fun q hq => List.mem_cons_of_mem _ hq) hs1 ?_
      obtain ⟨-, -, -, -, e5, -⟩ := ys_mat_ok (ad := ad) h1 hs1
      rw [hx]
      show some _ = some _
      rw [e5 (x, y) List.mem_cons_self]
    · rename_i hx
      refine key _ fp hfp (fun q hq => hq) hs1 ?_
      rw [hx]
      rfl
    · cases hs1
  · cases hs1
theorem yt_run_ok {ars : List ys_R} {Gs : yt_G → (Nat → Int) → yt_G → Prop} (S : CallFix p m c K.1.1.2.1 K.1.1.2.2.1 s args (ys_ws G K) own) (hr : meth.sig.returnType = K.1.1.2.2.2) (hlocks : meth.locks = false) (hK : va_K D cl tys s) (hty : ys_Ty tys cT sh) (hLk : ys_Lk own (ys_ws G K) cl fl ci cj cps) (hCq : ∀ v, v ∈ cqs → yt_Cq own (ys_ws G K) v) (hcalls : ∀ C ∈ calls, yt_Con l D cl cT tys G C.2.1 C.2.2 (pt C.1.2.1) (tb C.1.2.1) ∧ ys_CL own (ys_ws G K) cl C.2.1 G (if C.1.1.2 = true then .invokestatic C.1.1.1 else .invokevirtual C.1.1.1) C.2.2 ∧ yt_shok C.1.2.2.2 C.2.1 sh = true ∧ (C.1.2.2.1 = false → ∀ r g, pt C.1.2.1 r g)) (hnx : ∀ pc i, nx pc = some i → decode K.1.1.2.1 pc = .ok i) (hE : K.2.1.2.1.1.length ≤ E) (hrr : ∀ i, i < K.2.1.2.1.1.length → r0 i = rr i) (hB : ys_okB rr K.2.1.2.1) (hBs : ys_scB K.2.1.2.1) (hz : ∀ i, E ≤ i → r0 i = 0) (hT : ∀ q ∈ cuts, ys_scb (ys_sT K.2.1.2.1 q.2.1) = true) (hmo : ∀ m0, mo = some m0 → ys_stb E m0)
    (hars : ∀ (k : Nat) (a : ys_R), ars[k]? = some a → ys_rok a (gi k)) (hgi : ∀ k, k ∉ K.2.2.2 → gi k = g0 k) (hGs : Gs g0 r0 gi) (hcn : cuts.length ≤ 1000) (han : K.2.2.1.length ≤ 1000) (hns : ∀ (j : Nat) (q : Nat × yt_T), cuts[j]? = some q → q.2.2.2 = false → ∀ g0 r g, Ga j g0 r g) (hsa : ∀ i, sa.getD i false = false → ∀ r g g', Ph i r g g')
    (hcut : ∀ (j : Nat) (q : Nat × yt_T), cuts[j]? = some q → ∀ (r2 : Nat → Int) (g : yt_G) (H : Heap) (locs : List Loc) (ls : Array Slot) (st : List Value), ys_rep D cl ad cT sh (va_A (ys_wK ad cT sh K rr g0) s.heap.size) s.heap K.1.1.2.2.1 [] g rr r2 K.2.1.2.1.1.length (ys_sT K.2.1.2.1 q.2.1) H locs ls st → ys_fk r2 q.2.2.1 → Ga j g0 r2 g → (∀ i, K.2.1.2.1.1.length + q.2.1.1.length ≤ i → r2 i = 0) → (∀ k, k ∉ K.2.2.2 → g k = g0 k) → (∀ m0, mo = some m0 → ys_ev r2 q.2.1.2.2.2.2.2 < ys_ev r0 m0) → W p l e (ys_rm K) s m args below meth c H locs 0 0 (MQ below (yt_Post D cl cT tys ad sh K Ph rr g0 s.heap.size) args s 0 0 (va_A (ys_wK ad cT sh K rr g0) s.heap.size)) (F0 m q.1 ls st)) :
    ∀ (n : Nat) (f : Bool) (pc : Nat) (x : ys_S) (h : List yt_Ev) (vs : List yt_VC), yt_run sh fl ci cj calls cps cqs K nx cuts sa mo n f pc x h = some vs → (∀ v ∈ vs, yt_hold tb K cuts Ga Ph pt E ars Gs v) → yt_X p l e (ys_rm K) s m args below meth c (MQ below (yt_Post D cl cT tys ad sh K Ph rr g0 s.heap.size) args s 0 0 (va_A (ys_wK ad cT sh K rr g0) s.heap.size)) 0 0 D cl ad cT sh (va_A (ys_wK ad cT sh K rr g0) s.heap.size) s.heap K.1.1.2.2.1 K.2.2.2 g0 r0 E tb gi h pc x
  | 0, f, pc, x, h, vs, hs, hv => by cases hs
  | n + 1, f, pc, x, h, vs, hs, hv => by
    have hexec := S.1
    have hb := S.2.1
    unfold yt_run at hs
    split at hs
    · obtain ⟨j, q, t, h1, h2, h3, h4⟩ := yt_fc_ok _ _ hs
      intro r g H locs ls st hrep hh hsc hm
      obtain ⟨k1, k2, k3⟩ := yt_cck_ok hE hrr hB hBs (hT q (List.mem_of_getElem? h1)) (b := x.1) (fds := x.2.1) (lv := x.2.2.1) (sv := x.2.2.2) hrep h3
      have hcap := yt_cap_eq hrep.2.2.1.2 hz
      have hfg : ys_fk (ys_val r K.2.1.2.1.1.length t) q.2.2.1 ∧ Ga j g0 (ys_val r K.2.1.2.1.1.length t) g := by
        by_cases hf : (q.2.2.2 || !q.2.2.1.isEmpty) = true
        · rw [if_pos hf] at h4
          have h5 := hv _ (h4 ▸ List.mem_cons_self) g0 r gi g hrep.1 hh hars hgi (by rw [hcap]; exact hGs)
          unfold yt_dd at h5
          have hj := (List.getElem?_eq_some_iff.mp h1).1
          rw [if_pos (show 0 + j < 1000 by omega)] at h5
          obtain ⟨q', e1, e2, e3⟩ := h5
          have e1 : cuts[0 + j]? = some q' := e1
          rw [Nat.zero_add, h1] at e1
          cases e1
          have e3 : Ga (0 + j) g0 (ys_val r K.2.1.2.1.1.length t) g := e3
          rw [Nat.zero_add] at e3
          exact ⟨e2, e3⟩
        · have hf : (q.2.2.2 || !q.2.2.1.isEmpty) = false := by simpa using hf
          rw [Bool.or_eq_false_iff] at hf
          have e1 : q.2.2.1 = [] := by
            have := hf.2
            cases hq : q.2.2.1 with
            | nil => rfl
            | cons a t => rw [hq] at this; cases this
          rw [e1]
          exact ⟨fun f hf => absurd hf List.not_mem_nil, hns j q h1 hf.1 _ _ _⟩
      have h6 := hcut j q h1 (ys_val r K.2.1.2.1.1.length t) g H locs ls st k1 hfg.1 hfg.2 (fun i hi => ys_val_high (by omega)) hm (fun m0 hm0 => by
        have := k3 m0 hm0
        rw [hmo m0 hm0 r r0 hrep.2.2.1.2] at this
        exact this)
      rw [h2] at h6
      exact h6
    · split at hs
      · cases hs
      · rename_i i hi
        have hd := hnx pc i hi
        split at hs
        · intro r g H locs ls st hrep hh hsc hm
          have hcap := yt_cap_eq hrep.2.2.1.2 hz
          have hf : ∀ q ∈ locs, va_A (ys_wK ad cT sh K rr g0) s.heap.size q.base := (yt_wd hrep).2.2.2.2.2
          have fin : ∀ v : Option ys_V, yt_ret2 K.2.1.2.1.1.length x.1 x.2.1 v h sa 0 K.2.2.1 = some vs → ∀ t : State, t.heap = H → s.WarmedH t.vm → yt_Post D cl cT tys ad sh K Ph rr g0 s.heap.size args s (.returned (v.map (ys_den ad r))) t := by
            intro v hv2
            obtain ⟨j, a, t, h1, h2, h3⟩ := yt_ret2_ok _ _ hv2
            refine yt_kret (b := x.1) (fds := x.2.1) (lv := x.2.2.1) (sv := x.2.2.2) hE hrr hK hrep hm h1 h2 ?_
            by_cases hc : sa.getD (0 + j) false = true
            · rw [if_pos hc] at h3
              have h5 := hv _ (h3 ▸ List.mem_cons_self) g0 r gi g hrep.1 hh hars hgi (by rw [hcap]; exact hGs)
              unfold yt_dd at h5
              have hj := (List.getElem?_eq_some_iff.mp h1).1
              rw [if_neg (show ¬ 1000 + (0 + j) < 1000 by omega), if_pos (show 1000 + (0 + j) < 2000 by omega)] at h5
              have h5 : Ph (1000 + (0 + j) - 1000) (ys_val r K.2.1.2.1.1.length t) g0 g := h5
              rw [show 1000 + (0 + j) - 1000 = j by omega] at h5
              exact h5
            · rw [Nat.zero_add] at hc
              exact hsa j (by simpa using hc) _ _ _
          unfold yt_rt at hs
          split at hs
          · rename_i hins
            split at hs
            · rename_i y hy
              split at hs
              · rename_i hc
                rw [Bool.and_eq_true, decide_eq_true_eq] at hc
                have hq := fin _ hs
                have hst : st = [.int (Int32.ofInt (ys_ev r y))] := by
                  have := hrep.2.2.2.2.2
                  rw [hy] at this
                  exact this
                have hd : decode K.1.1.2.1 pc = .ok (.ireturn, 1) := by
                  rw [hd, ← hins, ← hc.1]
                rw [hst]
                rcases (Bool.or_eq_true _ _).mp hc.2 with h1 | h1
                · exact W.iret hexec hb (hr.trans (of_decide_eq_true h1)) hq hf hd hlocks
                · rw [Bool.and_eq_true, Bool.and_eq_true] at h1
                  have g1 := ys_geb_le hrep.1.1 h1.2.1
                  have g2 := ys_geb_le hrep.1.1 h1.2.2
                  rw [ys_scale_ev] at g2
                  refine W.zret (ty := .boolean) hexec hb (hr.trans (of_decide_eq_true h1.1)) ?_ hq hf hd hlocks
                  show Value.int (Int32.ofInt (ys_ev r y) &&& 1) = Value.int (Int32.ofInt (ys_ev r y))
                  rcases ys_01 g1 (show ys_ev r y ≤ 1 by omega) with q | q <;> rw [q] <;> rfl
              · cases hs
            · cases hs
          · rename_i hins
            split at hs
            · rename_i y hy
              split at hs
              · rename_i hc
                rw [Bool.and_eq_true, decide_eq_true_eq] at hc
                have hq := fin _ hs
                have hst : st = [.long (Int64.ofInt (ys_ev r y))] := by
                  have := hrep.2.2.2.2.2
                  rw [hy] at this
                  exact this
                have hd : decode K.1.1.2.1 pc = .ok (.lreturn, 1) := by
                  rw [hd, ← hins, ← hc.1]
                rw [hst]
                exact W.lret hexec hb (hr.trans (of_decide_eq_true hc.2)) hq hf hd hlocks
              · cases hs
            · cases hs
          · rename_i hins
            split at hs
            · rename_i hy
              split at hs
              · rename_i hc
                rw [Bool.and_eq_true, decide_eq_true_eq] at hc
                have hq := fin _ hs
                have hst : st = [] := by
                  have := hrep.2.2.2.2.2
                  rw [hy] at this
                  exact this
                have hd : decode K.1.1.2.1 pc = .ok (.return_, 1) := by
                  rw [hd, ← hins, ← hc.1]
                rw [hst]
                exact W.vret hexec hb (hr.trans (of_decide_eq_true hc.2)) hq hf hd hlocks
              · cases hs
            · cases hs
          · cases hs
        · split at hs
          · cases hs
          · rename_i o ho
            split at hs
            · rename_i vs' hvs
              have hs := (Option.some.inj hs).symm
              subst hs
              refine yt_step_ok (b := x.1) (fds := x.2.1) (lv := x.2.2.1) (sv := x.2.2.2) S rfl rfl (Nat.le_refl _) (Nat.le_refl _) ⟨Nat.le_refl _, Nat.le_refl _⟩ (fun q h => Or.inr h) hK hty hLk hCq hcalls hnx hd ho (fun q hq r g q1 q2 q3 => ?_) (fun q hq => ?_)
              · have h5 := hv (2000 + q.1, x.1, q.2.1, q.2.2, h) (List.mem_append_left _ (List.mem_map.mpr ⟨q, hq, rfl⟩)) g0 r gi g q1 q3 hars hgi (by rw [yt_cap_eq q2 hz]; exact hGs)
                unfold yt_dd at h5
                rw [if_neg (show ¬ 2000 + q.1 < 1000 by omega), if_neg (show ¬ 2000 + q.1 < 2000 by omega)] at h5
                have h5 : pt (2000 + q.1 - 2000) (ys_val r 0 q.2.1) (yt_sub q.2.2 g) := h5
                rw [show 2000 + q.1 - 2000 = q.1 by omega] at h5
                exact h5
              · obtain ⟨y, h1, h2⟩ := yt_all_ok _ _ hvs q hq
                exact yt_run_ok S hr hlocks hK hty hLk hCq hcalls hnx hE hrr hB hBs hz hT hmo hars hgi hGs hcn han hns hsa hcut n false q.1 q.2.1 q.2.2 y h1 (fun v hv2 => hv v (List.mem_append_right _ (h2 v hv2)))
            · cases hs
end YTR
/-! alike or not, for the lists of conditions -/
def yt_dS {α β : Type} (a : DecidableEq α) (b : DecidableEq β) : DecidableEq (α ⊕ β) := fun x y => match x, y with
  | .inl u, .inl v => (match a u v with
    | isTrue h => isTrue (by rw [h])
    | isFalse h => isFalse (fun e => h (Sum.inl.inj e)))
  | .inr u, .inr v => (match b u v with
    | isTrue h => isTrue (by rw [h])
    | isFalse h => isFalse (fun e => h (Sum.inr.inj e)))
  | .inl _, .inr _ => isFalse (fun e => by cases e)
  | .inr _, .inl _ => isFalse (fun e => by cases e)
def yt_dL : DecidableEq ys_L := inferInstance
def yt_dLs : DecidableEq (List ys_L) := @instDecidableEqList _ yt_dL
def yt_dNs : DecidableEq (List Nat) := inferInstance
def yt_dP {α β : Type} (a : DecidableEq α) (b : DecidableEq β) : DecidableEq (α × β) := @instDecidableEqProd _ _ a b
def yt_d1 : DecidableEq (Nat × ys_L × Nat) := yt_dP instDecidableEqNat (yt_dP yt_dL instDecidableEqNat)
def yt_d2 : DecidableEq (Nat × ys_L × ys_L) := yt_dP instDecidableEqNat (yt_dP yt_dL yt_dL)
def yt_d4 : DecidableEq (Nat × Nat × List ys_L × List Nat × List Nat) := yt_dP instDecidableEqNat (yt_dP instDecidableEqNat (yt_dP yt_dLs (yt_dP yt_dNs yt_dNs)))
def yt_d5 : DecidableEq (Nat × Nat × ys_L × ys_L × ys_L) := yt_dP instDecidableEqNat (yt_dP instDecidableEqNat (yt_dP yt_dL (yt_dP yt_dL yt_dL)))
def yt_dEv : DecidableEq yt_Ev := yt_dS (yt_dS yt_d1 yt_d2) (yt_dS yt_d2 (yt_dS yt_d4 yt_d5))
def yt_dH : DecidableEq (List yt_Ev) := @instDecidableEqList _ yt_dEv
def yt_dB : DecidableEq ys_B := inferInstance
def yt_dVC : DecidableEq yt_VC := yt_dP instDecidableEqNat (yt_dP yt_dB (yt_dP yt_dLs (yt_dP yt_dNs yt_dH)))
def yt_dVs : DecidableEq (List yt_VC) := @instDecidableEqList _ yt_dVC
def yt_beq (x : Option (List yt_VC)) (y : List yt_VC) : Bool := match x with
  | some z => @decide (z = y) (yt_dVs z y)
  | none => false
theorem yt_beq_ok {x : Option (List yt_VC)} {y : List yt_VC} (h : yt_beq x y = true) : x = some y := by
  unfold yt_beq at h
  split at h
  · rename_i z
    rw [@of_decide_eq_true _ (yt_dVs z y) h]
  · cases h
/-- code; links: fields, ints, longs, copies, other members of the library; loop heads; which ends have words -/
abbrev yt_Q : Type := List (Nat × (Instr × Nat)) × (ys_FL × List (Nat × Int) × List (Nat × Int) × List Nat × List Nat) × List (Nat × yt_T) × List Bool
def yt_cks (sh : List ys_C) (calls : List yt_CE) (K : ys_K) (Z : yt_Q) (n : Nat) (vs : List (List yt_VC)) : Nat → List (Nat × yt_T) → Bool
  | _, [] => true
  | j, q :: x => (ys_scb (ys_sT K.2.1.2.1 q.2.1) && (q.2.2.1.all (ys_bel (K.2.1.2.1.1 ++ q.2.1.1).length) && (ys_geb (K.2.1.2.1.1 ++ q.2.1.1) q.2.1.2.2.2.2.2 0 && (ys_bel (K.2.1.2.1.1 ++ q.2.1.1).length q.2.1.2.2.2.2.2 && (match ys_ass (K.2.1.2.1.1 ++ q.2.1.1, K.2.1.2.1.2 ++ q.2.1.2.1) (q.2.1.2.1 ++ q.2.2.1) with
    | some b => yt_beq (yt_run sh Z.2.1.1 Z.2.1.2.1 Z.2.1.2.2.1 calls Z.2.1.2.2.2.1 Z.2.1.2.2.2.2 K (fun pc => Z.1.lookup pc) Z.2.2.1 Z.2.2.2 (some q.2.1.2.2.2.2.2) n true q.1 (b, (ys_sT K.2.1.2.1 q.2.1).2) []) (vs.getD (j + 1) [])
    | none => true))))) && yt_cks sh calls K Z n vs (j + 1) x
def yt_chk (sh : List ys_C) (calls : List yt_CE) (K : ys_K) (Z : yt_Q) (n : Nat) (vs : List (List yt_VC)) : Bool := ys_scb (ys_S0 K) && (decide ((K.2.1.1.map ys_cat).sum ≤ K.1.1.2.2.1) && (decide (Z.2.2.1.length ≤ 1000) && (decide (K.2.2.1.length ≤ 1000) && (yt_beq (yt_run sh Z.2.1.1 Z.2.1.2.1 Z.2.1.2.2.1 calls Z.2.1.2.2.2.1 Z.2.1.2.2.2.2 K (fun pc => Z.1.lookup pc) Z.2.2.1 Z.2.2.2 none n true 0 (ys_S0 K) []) (vs.getD 0 []) && yt_cks sh calls K Z n vs 0 Z.2.2.1))))
theorem yt_cks_ok {sh : List ys_C} {calls : List yt_CE} {K : ys_K} {Z : yt_Q} {n : Nat} {vs : List (List yt_VC)} : ∀ (x : List (Nat × yt_T)) (i : Nat), yt_cks sh calls K Z n vs i x = true → ∀ (j : Nat) (q : Nat × yt_T), x[j]? = some q → ys_scb (ys_sT K.2.1.2.1 q.2.1) = true ∧ (∀ f ∈ q.2.2.1, ys_bel (K.2.1.2.1.1 ++ q.2.1.1).length f = true) ∧ ys_geb (K.2.1.2.1.1 ++ q.2.1.1) q.2.1.2.2.2.2.2 0 = true ∧ ys_bel (K.2.1.2.1.1 ++ q.2.1.1).length q.2.1.2.2.2.2.2 = true ∧ ∀ b, ys_ass (K.2.1.2.1.1 ++ q.2.1.1, K.2.1.2.1.2 ++ q.2.1.2.1) (q.2.1.2.1 ++ q.2.2.1) = some b → yt_run sh Z.2.1.1 Z.2.1.2.1 Z.2.1.2.2.1 calls Z.2.1.2.2.2.1 Z.2.1.2.2.2.2 K (fun pc => Z.1.lookup pc) Z.2.2.1 Z.2.2.2 (some q.2.1.2.2.2.2.2) n true q.1 (b, (ys_sT K.2.1.2.1 q.2.1).2) [] = some (vs.getD (i + j + 1) [])
  | [], i, _, j, q, hq => by cases hq
  | q0 :: x, i, h, j, q, hq => by
    unfold yt_cks at h
    rw [Bool.and_eq_true] at h
    cases j with
    | zero =>
      cases hq
      have h := h.1
      rw [Bool.and_eq_true, Bool.and_eq_true, Bool.and_eq_true, Bool.and_eq_true] at h
      obtain ⟨h1, h2, h3, h4, h5⟩ := h
      refine ⟨h1, fun f hf => List.all_eq_true.mp h2 f hf, h3, h4, fun b hb => ?_⟩
      rw [hb] at h5
      exact yt_beq_ok h5
    | succ j =>
      have := yt_cks_ok x (i + 1) h.2 j q hq
      rw [show i + 1 + j + 1 = i + (j + 1) + 1 by omega] at this
      exact this
theorem yt_method {l : Launch} {D : va_G} {cl : List vw_C} {cT : Nat → ClassId} {sh : List ys_C} {tys : List (ClassId × FieldType)} {G : List Cond} {K : ys_K} {calls : List yt_CE} {Z : yt_Q} {tb : yt_Tb} {pt : Nat → yt_Ps} {Ps : yt_Ps} {Ph : yt_Ph} {Ga : Nat → yt_G → (Nat → Int) → yt_G → Prop} {vs : List (List yt_VC)} (n : Nat) (hy : plainName K.1.1.1.cls = true) (hcode : ∀ q ∈ Z.1, decode K.1.1.2.1 q.1 = .ok q.2) (hty : ys_Ty tys cT sh) (hLk : ys_Lk K.1.1.1.cls (ys_ws G K) cl Z.2.1.1 Z.2.1.2.1 Z.2.1.2.2.1 Z.2.1.2.2.2.1) (hCq : ∀ v, v ∈ Z.2.1.2.2.2.2 → yt_Cq K.1.1.1.cls (ys_ws G K) v) (hcalls : ∀ C ∈ calls, yt_Con l D cl cT tys G C.2.1 C.2.2 (pt C.1.2.1) (tb C.1.2.1) ∧ ys_CL K.1.1.1.cls (ys_ws G K) cl C.2.1 G (if C.1.1.2 = true then .invokestatic C.1.1.1 else .invokevirtual C.1.1.1) C.2.2 ∧ yt_shok C.1.2.2.2 C.2.1 sh = true ∧ (C.1.2.2.1 = false → ∀ r g, pt C.1.2.1 r g)) (hns : ∀ (j : Nat) (q : Nat × yt_T), Z.2.2.1[j]? = some q → q.2.2.2 = false → ∀ g0 r g, Ga j g0 r g) (hsa : ∀ i, Z.2.2.2.getD i false = false → ∀ r g g', Ph i r g g') (hchk : yt_chk sh calls K Z n vs = true)
    (hv0 : ∀ v ∈ vs.getD 0 [], yt_hold tb K Z.2.2.1 Ga Ph pt K.2.1.2.1.1.length K.2.1.2.2.2 (fun g0 r g => Ps r g0 ∧ g = g0) v) (hv : ∀ (j : Nat) (q : Nat × yt_T), Z.2.2.1[j]? = some q → ∀ v ∈ vs.getD (j + 1) [], yt_hold tb K Z.2.2.1 Ga Ph pt (K.2.1.2.1.1.length + q.2.1.1.length) q.2.1.2.2.1.2 (Ga j) v) : yt_Con l D cl cT tys G sh K Ps Ph := by
  intro ad rr g0 sz hB hz har hPs
  unfold yt_chk at hchk
  rw [Bool.and_eq_true, Bool.and_eq_true, Bool.and_eq_true, Bool.and_eq_true, Bool.and_eq_true, decide_eq_true_eq, decide_eq_true_eq, decide_eq_true_eq] at hchk
  obtain ⟨c1, c2, c3, c4, c5, c6⟩ := hchk
  have c5 := yt_beq_ok c5
  have c6 := yt_cks_ok _ _ c6
  refine Met.ofW (cc := K.1.1.2.1) (maxL := K.1.1.2.2.1) (ret := K.1.1.2.2.2) hy rfl ?_
  intro p e s m args below meth c s₁ Bd hml hvv
  obtain ⟨hargs, hsz, hP, hK, hD0⟩ := hvv
  subst hargs
  subst hsz
  have hlocks := Bd.notSynchronized
  have S : CallFix p m c K.1.1.2.1 K.1.1.2.2.1 s (K.2.1.1.map (ys_den ad rr)).toArray (ys_ws G K) K.1.1.1.cls := ⟨Bd.exec, Bd.bytes, hml, findClass_of_methodNamed Bd.named, atoms_spec (ws := ys_ws G K) Bd.pre⟩
  have hsc0 := ys_scb_ok c1
  have hnx : ∀ pc i, (fun pc => Z.1.lookup pc) pc = some i → decode K.1.1.2.1 pc = .ok i := fun pc i hi => hcode (pc, i) (ys_lk3 _ _ _ hi)
  have hT : ∀ q ∈ Z.2.2.1, ys_scb (ys_sT K.2.1.2.1 q.2.1) = true := fun q hq => by
    obtain ⟨j, hj⟩ := List.getElem?_of_mem hq
    exact (c6 j q hj).1
  have claim : ∀ (N : Nat) (j : Nat) (q : Nat × yt_T), Z.2.2.1[j]? = some q → ∀ (r2 : Nat → Int) (g : yt_G) (H : Heap) (locs : List Loc) (ls : Array Slot) (st : List Value), ys_rep D cl ad cT sh (va_A (ys_wK ad cT sh K rr g0) s.heap.size) s.heap K.1.1.2.2.1 [] g rr r2 K.2.1.2.1.1.length (ys_sT K.2.1.2.1 q.2.1) H locs ls st → ys_fk r2 q.2.2.1 → Ga j g0 r2 g → (∀ i, K.2.1.2.1.1.length + q.2.1.1.length ≤ i → r2 i = 0) → (∀ k, k ∉ K.2.2.2 → g k = g0 k) → ys_ev r2 q.2.1.2.2.2.2.2 < (N : Int) → W p l e (ys_rm K) s m (K.2.1.1.map (ys_den ad rr)).toArray below meth c H locs 0 0 (MQ below (yt_Post D cl cT tys ad sh K Ph rr g0 s.heap.size) (K.2.1.1.map (ys_den ad rr)).toArray s 0 0 (va_A (ys_wK ad cT sh K rr g0) s.heap.size)) (F0 m q.1 ls st) := by
    intro N
    induction N with
    | zero =>
      intro j q hq r2 g H locs ls st hrep _ _ _ _ hlt
      have h0 := ys_geb_le hrep.1.1 (c6 j q hq).2.2.1
      omega
    | succ N ih =>
      intro j q hq r2 g H locs ls st hrep hfk hGa hz2 hgm hlt
      obtain ⟨d1, d2, d3, d4, d5⟩ := c6 j q hq
      have hlen : (K.2.1.2.1.1 ++ q.2.1.1).length = K.2.1.2.1.1.length + q.2.1.1.length := List.length_append
      have hfk2 : ys_fk r2 (q.2.1.2.1 ++ q.2.2.1) := fun f hf => by
        rcases List.mem_append.mp hf with z | z
        · exact hrep.1.2 f (List.mem_append_right _ z)
        · exact hfk f z
      obtain ⟨b', eb, hb'⟩ := ys_ass_ok (q.2.1.2.1 ++ q.2.2.1) hrep.1 hfk2
      have hl' := ys_ass_len _ eb
      have hrun := yt_run_ok (r0 := r2) (E := K.2.1.2.1.1.length + q.2.1.1.length) (rr := rr) (g0 := g0) (gi := g) (tb := tb) (pt := pt) (Ga := Ga) (ars := q.2.1.2.2.1.2) (Gs := Ga j) S Bd.returns hlocks hK hty hLk hCq hcalls hnx (Nat.le_add_right _ _) (fun i hi => hrep.2.2.1.2 i hi) hB hsc0.1 hz2 hT (mo := some q.2.1.2.2.2.2.2) (fun m0 hm0 => by
        cases hm0
        rw [← hlen]
        exact ys_stb_bel d4) (fun k a ha => (yt_wd hrep).1 k a ha) hgm hGa c3 c4 hns hsa (fun j' q' hq' r3 g3 H' locs' ls' st' hrep' hf3 hG3 hz3 hm3 hlt' => ih j' q' hq' r3 g3 H' locs' ls' st' hrep' hf3 hG3 hz3 hm3 (by
          have := hlt' _ rfl
          omega)) n true q.1 (b', (ys_sT K.2.1.2.1 q.2.1).2) [] _ (d5 b' eb) (by rw [Nat.zero_add]; exact hv j q hq)
      have hrep' : ys_rep D cl ad cT sh (va_A (ys_wK ad cT sh K rr g0) s.heap.size) s.heap K.1.1.2.2.1 [] g r2 r2 (K.2.1.2.1.1.length + q.2.1.1.length) (ys_sT K.2.1.2.1 q.2.1) H locs ls st := ⟨hrep.1, hrep.2.1, ⟨Nat.le_of_eq hlen.symm, fun _ _ => rfl⟩, hrep.2.2.2⟩
      have hscf : ∀ f ∈ q.2.1.2.1 ++ q.2.2.1, ys_stb (K.2.1.2.1.1 ++ q.2.1.1).length f := fun f hf => by
        rcases List.mem_append.mp hf with z | z
        · exact hrep.2.1.1 f (List.mem_append_right _ z)
        · exact ys_stb_bel (d2 f z)
      exact hrun r2 g H locs ls st (ys_rep_ext hrep' (fun _ _ => rfl) hb' (Nat.le_of_eq hl'.symm) (ys_ass_sc _ rfl hrep.2.1.1 hscf eb)) rfl (fun v hv => absurd hv List.not_mem_nil) hgm
  have hrun := yt_run_ok (r0 := rr) (E := K.2.1.2.1.1.length) (rr := rr) (g0 := g0) (gi := g0) (tb := tb) (pt := pt) (Ga := Ga) (ars := K.2.1.2.2.2) (Gs := fun g0 r g => Ps r g0 ∧ g = g0) S Bd.returns hlocks hK hty hLk hCq hcalls hnx (Nat.le_refl _) (fun _ _ => rfl) hB hsc0.1 hz hT (mo := none) (fun m0 hm0 => by cases hm0) har (fun _ _ => rfl) ⟨hPs, rfl⟩ c3 c4 hns hsa (fun j q hq r2 g H locs ls st hrep hf hG hz2 hm2 _ => claim ((ys_ev r2 q.2.1.2.2.2.2.2).toNat + 1) j q hq r2 g H locs ls st hrep hf hG hz2 hm2 (by omega)) n true 0 (ys_S0 K) [] _ c5 hv0
  rw [lg_entry_eq]
  have hl := lv_entry (K.2.1.1.map (ys_den ad rr)) (n := K.1.1.2.2.1) (by rw [ys_sl_len]; exact c2)
  refine hrun rr g0 s.heap [] _ [] ⟨hB, hsc0, ⟨Nat.le_refl _, fun _ _ => rfl⟩, ⟨g0, ⟨har, fun _ _ => rfl⟩, hP, hD0.self, va_S.rf⟩, ?_, rfl⟩ rfl (fun v hv => absurd hv List.not_mem_nil) (fun _ _ => rfl)
  rw [show ys_lvs ad rr (ys_S0 K).2.2.1 = lv_args 0 (K.2.1.1.map (ys_den ad rr)) from ys_args_lvs ad rr K.2.1.1 0]
  exact hl
end
section
-- ===== PART A: goes FIRST, ahead of the names: the tables' words, and 'selects' of the private methods out of them =====
/-- a private method of a class that the tables say can be made, by its rows of tables_1 -/
def lw_okq (q : MethodName × Nat) : Prop := (q.1.cls ≠ "java/lang/invoke/MethodHandle" ∧ q.1.cls ≠ "java/lang/invoke/VarHandle") ∧ Cond.instantiable q.1.cls q.2 ∈ tables_1 ∧ Cond.privateMethod q.1 ∈ tables_1 ∧ Cond.instanceMethod q.1 ∈ tables_1
theorem lw_p0 : lw_okq (⟨"YesPlanes", "told", "(I)I"⟩, 15) := ⟨⟨by decide +kernel, by decide +kernel⟩, List.mem_of_getElem? (i := 20) (by decide +kernel), List.mem_of_getElem? (i := 465) (by decide +kernel), List.mem_of_getElem? (i := 466) (by decide +kernel)⟩
theorem lw_p1 : lw_okq (⟨"YesPlanes$Sheet", "cut", "(J)J"⟩, 4) := ⟨⟨by decide +kernel, by decide +kernel⟩, List.mem_of_getElem? (i := 386) (by decide +kernel), List.mem_of_getElem? (i := 528) (by decide +kernel), List.mem_of_getElem? (i := 529) (by decide +kernel)⟩
theorem lw_p2 : lw_okq (⟨"YesPlanes", "areParted", "()Z"⟩, 15) := ⟨⟨by decide +kernel, by decide +kernel⟩, List.mem_of_getElem? (i := 20) (by decide +kernel), List.mem_of_getElem? (i := 576) (by decide +kernel), List.mem_of_getElem? (i := 577) (by decide +kernel)⟩
theorem lw_p3 : lw_okq (⟨"YesPlanes$Way", "tryPair", "(LYesPlanes$Points;II)V"⟩, 11) := ⟨⟨by decide +kernel, by decide +kernel⟩, List.mem_of_getElem? (i := 149) (by decide +kernel), List.mem_of_getElem? (i := 593) (by decide +kernel), List.mem_of_getElem? (i := 594) (by decide +kernel)⟩
theorem lw_p4 : lw_okq (⟨"YesPlanes$Way", "tryAcross", "(LYesPlanes$Points;II)V"⟩, 11) := ⟨⟨by decide +kernel, by decide +kernel⟩, List.mem_of_getElem? (i := 149) (by decide +kernel), List.mem_of_getElem? (i := 601) (by decide +kernel), List.mem_of_getElem? (i := 602) (by decide +kernel)⟩
theorem lw_p5 : lw_okq (⟨"YesPlanes$Way", "isWider", "(JII)Z"⟩, 11) := ⟨⟨by decide +kernel, by decide +kernel⟩, List.mem_of_getElem? (i := 149) (by decide +kernel), List.mem_of_getElem? (i := 613) (by decide +kernel), List.mem_of_getElem? (i := 614) (by decide +kernel)⟩
theorem lw_p6 : lw_okq (⟨"YesPlanes$Way", "finish", "(LYesPlanes$Points;)V"⟩, 11) := ⟨⟨by decide +kernel, by decide +kernel⟩, List.mem_of_getElem? (i := 149) (by decide +kernel), List.mem_of_getElem? (i := 620) (by decide +kernel), List.mem_of_getElem? (i := 621) (by decide +kernel)⟩
theorem lw_p7 : lw_okq (⟨"YesPlanes$Meeting", "gather", "(LYesPlanes$Points;)V"⟩, 11) := ⟨⟨by decide +kernel, by decide +kernel⟩, List.mem_of_getElem? (i := 213) (by decide +kernel), List.mem_of_getElem? (i := 666) (by decide +kernel), List.mem_of_getElem? (i := 667) (by decide +kernel)⟩
theorem lw_p8 : lw_okq (⟨"YesPlanes$Meeting", "findOnePlace", "(LYesPlanes$Points;)Z"⟩, 11) := ⟨⟨by decide +kernel, by decide +kernel⟩, List.mem_of_getElem? (i := 213) (by decide +kernel), List.mem_of_getElem? (i := 670) (by decide +kernel), List.mem_of_getElem? (i := 671) (by decide +kernel)⟩
theorem lw_p9 : lw_okq (⟨"YesPlanes$Meeting", "hold", "(IIIIII)Z"⟩, 11) := ⟨⟨by decide +kernel, by decide +kernel⟩, List.mem_of_getElem? (i := 213) (by decide +kernel), List.mem_of_getElem? (i := 675) (by decide +kernel), List.mem_of_getElem? (i := 676) (by decide +kernel)⟩
theorem lw_p10 : lw_okq (⟨"YesPlanes$Meeting", "shareAlone", "(LYesPlanes$Points;I)V"⟩, 11) := ⟨⟨by decide +kernel, by decide +kernel⟩, List.mem_of_getElem? (i := 213) (by decide +kernel), List.mem_of_getElem? (i := 679) (by decide +kernel), List.mem_of_getElem? (i := 680) (by decide +kernel)⟩
theorem lw_p11 : lw_okq (⟨"YesPlanes$Meeting", "findYesBetween", "(LYesPlanes$Points;)Z"⟩, 11) := ⟨⟨by decide +kernel, by decide +kernel⟩, List.mem_of_getElem? (i := 213) (by decide +kernel), List.mem_of_getElem? (i := 684) (by decide +kernel), List.mem_of_getElem? (i := 685) (by decide +kernel)⟩
theorem lw_p12 : lw_okq (⟨"YesPlanes$Meeting", "shareBetween", "(LYesPlanes$Points;II)V"⟩, 11) := ⟨⟨by decide +kernel, by decide +kernel⟩, List.mem_of_getElem? (i := 213) (by decide +kernel), List.mem_of_getElem? (i := 699) (by decide +kernel), List.mem_of_getElem? (i := 700) (by decide +kernel)⟩
theorem lw_p13 : lw_okq (⟨"YesPlanes$Meeting", "findNoBetween", "(LYesPlanes$Points;)Z"⟩, 11) := ⟨⟨by decide +kernel, by decide +kernel⟩, List.mem_of_getElem? (i := 213) (by decide +kernel), List.mem_of_getElem? (i := 703) (by decide +kernel), List.mem_of_getElem? (i := 704) (by decide +kernel)⟩
theorem lw_p14 : lw_okq (⟨"YesPlanes$Meeting", "findYesWithin", "(LYesPlanes$Points;)Z"⟩, 11) := ⟨⟨by decide +kernel, by decide +kernel⟩, List.mem_of_getElem? (i := 213) (by decide +kernel), List.mem_of_getElem? (i := 707) (by decide +kernel), List.mem_of_getElem? (i := 708) (by decide +kernel)⟩
theorem lw_p15 : lw_okq (⟨"YesPlanes$Meeting", "thirdAround", "(LYesPlanes$Points;III)I"⟩, 11) := ⟨⟨by decide +kernel, by decide +kernel⟩, List.mem_of_getElem? (i := 213) (by decide +kernel), List.mem_of_getElem? (i := 711) (by decide +kernel), List.mem_of_getElem? (i := 712) (by decide +kernel)⟩
def lw_privs_1 : List (MethodName × Nat) := [(⟨"YesPlanes", "told", "(I)I"⟩, 15), (⟨"YesPlanes$Sheet", "cut", "(J)J"⟩, 4), (⟨"YesPlanes", "areParted", "()Z"⟩, 15), (⟨"YesPlanes$Way", "tryPair", "(LYesPlanes$Points;II)V"⟩, 11), (⟨"YesPlanes$Way", "tryAcross", "(LYesPlanes$Points;II)V"⟩, 11), (⟨"YesPlanes$Way", "isWider", "(JII)Z"⟩, 11), (⟨"YesPlanes$Way", "finish", "(LYesPlanes$Points;)V"⟩, 11), (⟨"YesPlanes$Meeting", "gather", "(LYesPlanes$Points;)V"⟩, 11), (⟨"YesPlanes$Meeting", "findOnePlace", "(LYesPlanes$Points;)Z"⟩, 11), (⟨"YesPlanes$Meeting", "hold", "(IIIIII)Z"⟩, 11), (⟨"YesPlanes$Meeting", "shareAlone", "(LYesPlanes$Points;I)V"⟩, 11), (⟨"YesPlanes$Meeting", "findYesBetween", "(LYesPlanes$Points;)Z"⟩, 11), (⟨"YesPlanes$Meeting", "shareBetween", "(LYesPlanes$Points;II)V"⟩, 11), (⟨"YesPlanes$Meeting", "findNoBetween", "(LYesPlanes$Points;)Z"⟩, 11), (⟨"YesPlanes$Meeting", "findYesWithin", "(LYesPlanes$Points;)Z"⟩, 11), (⟨"YesPlanes$Meeting", "thirdAround", "(LYesPlanes$Points;III)I"⟩, 11)]
theorem lw_r1 : ∀ q ∈ lw_privs_1, lw_okq q := List.forall_mem_cons.mpr ⟨lw_p0, List.forall_mem_cons.mpr ⟨lw_p1, List.forall_mem_cons.mpr ⟨lw_p2, List.forall_mem_cons.mpr ⟨lw_p3, List.forall_mem_cons.mpr ⟨lw_p4, List.forall_mem_cons.mpr ⟨lw_p5, List.forall_mem_cons.mpr ⟨lw_p6, List.forall_mem_cons.mpr ⟨lw_p7, List.forall_mem_cons.mpr ⟨lw_p8, List.forall_mem_cons.mpr ⟨lw_p9, List.forall_mem_cons.mpr ⟨lw_p10, List.forall_mem_cons.mpr ⟨lw_p11, List.forall_mem_cons.mpr ⟨lw_p12, List.forall_mem_cons.mpr ⟨lw_p13, List.forall_mem_cons.mpr ⟨lw_p14, List.forall_mem_cons.mpr ⟨lw_p15, fun _ h => absurd h List.not_mem_nil⟩⟩⟩⟩⟩⟩⟩⟩⟩⟩⟩⟩⟩⟩⟩⟩
theorem lw_p16 : lw_okq (⟨"YesPlanes$Meeting", "shareWithin", "(LYesPlanes$Points;II)V"⟩, 11) := ⟨⟨by decide +kernel, by decide +kernel⟩, List.mem_of_getElem? (i := 213) (by decide +kernel), List.mem_of_getElem? (i := 718) (by decide +kernel), List.mem_of_getElem? (i := 719) (by decide +kernel)⟩
theorem lw_p17 : lw_okq (⟨"YesPlanes$Meeting", "findNoWithin", "(LYesPlanes$Points;)Z"⟩, 11) := ⟨⟨by decide +kernel, by decide +kernel⟩, List.mem_of_getElem? (i := 213) (by decide +kernel), List.mem_of_getElem? (i := 722) (by decide +kernel), List.mem_of_getElem? (i := 723) (by decide +kernel)⟩
theorem lw_p18 : lw_okq (⟨"YesPlanes$Meeting", "firstNoWithin", "(LYesPlanes$Points;III)I"⟩, 11) := ⟨⟨by decide +kernel, by decide +kernel⟩, List.mem_of_getElem? (i := 213) (by decide +kernel), List.mem_of_getElem? (i := 726) (by decide +kernel), List.mem_of_getElem? (i := 727) (by decide +kernel)⟩
theorem lw_p19 : lw_okq (⟨"YesPlanes$Meeting", "findCrossing", "(LYesPlanes$Points;)Z"⟩, 11) := ⟨⟨by decide +kernel, by decide +kernel⟩, List.mem_of_getElem? (i := 213) (by decide +kernel), List.mem_of_getElem? (i := 730) (by decide +kernel), List.mem_of_getElem? (i := 731) (by decide +kernel)⟩
theorem lw_p20 : lw_okq (⟨"YesPlanes$Meeting", "otherEndAcross", "(LYesPlanes$Points;III)I"⟩, 11) := ⟨⟨by decide +kernel, by decide +kernel⟩, List.mem_of_getElem? (i := 213) (by decide +kernel), List.mem_of_getElem? (i := 734) (by decide +kernel), List.mem_of_getElem? (i := 735) (by decide +kernel)⟩
theorem lw_p21 : lw_okq (⟨"YesPlanes$Meeting", "shareCrossing", "(LYesPlanes$Points;)V"⟩, 11) := ⟨⟨by decide +kernel, by decide +kernel⟩, List.mem_of_getElem? (i := 213) (by decide +kernel), List.mem_of_getElem? (i := 738) (by decide +kernel), List.mem_of_getElem? (i := 739) (by decide +kernel)⟩
theorem lw_p22 : lw_okq (⟨"YesPlanes$Meeting", "shareEnds", "(LYesPlanes$Points;II)V"⟩, 11) := ⟨⟨by decide +kernel, by decide +kernel⟩, List.mem_of_getElem? (i := 213) (by decide +kernel), List.mem_of_getElem? (i := 742) (by decide +kernel), List.mem_of_getElem? (i := 743) (by decide +kernel)⟩
theorem lw_p23 : lw_okq (⟨"YesPlanes", "canPartFirst", "(I)Z"⟩, 15) := ⟨⟨by decide +kernel, by decide +kernel⟩, List.mem_of_getElem? (i := 20) (by decide +kernel), List.mem_of_getElem? (i := 773) (by decide +kernel), List.mem_of_getElem? (i := 774) (by decide +kernel)⟩
theorem lw_p24 : lw_okq (⟨"YesPlanes$Partings", "markBoth", "(I)V"⟩, 4) := ⟨⟨by decide +kernel, by decide +kernel⟩, List.mem_of_getElem? (i := 260) (by decide +kernel), List.mem_of_getElem? (i := 782) (by decide +kernel), List.mem_of_getElem? (i := 783) (by decide +kernel)⟩
theorem lw_p25 : lw_okq (⟨"YesPlanes$Partings", "mark", "(I)V"⟩, 4) := ⟨⟨by decide +kernel, by decide +kernel⟩, List.mem_of_getElem? (i := 260) (by decide +kernel), List.mem_of_getElem? (i := 786) (by decide +kernel), List.mem_of_getElem? (i := 787) (by decide +kernel)⟩
theorem lw_p26 : lw_okq (⟨"YesPlanes$Partings", "markAlong", "(LYesPlanes$Points;III)V"⟩, 4) := ⟨⟨by decide +kernel, by decide +kernel⟩, List.mem_of_getElem? (i := 260) (by decide +kernel), List.mem_of_getElem? (i := 791) (by decide +kernel), List.mem_of_getElem? (i := 792) (by decide +kernel)⟩
theorem lw_p27 : lw_okq (⟨"YesPlanes$Learner", "goRound", "(LYesPlanes$Points;)I"⟩, 5) := ⟨⟨by decide +kernel, by decide +kernel⟩, List.mem_of_getElem? (i := 117) (by decide +kernel), List.mem_of_getElem? (i := 855) (by decide +kernel), List.mem_of_getElem? (i := 856) (by decide +kernel)⟩
theorem lw_p28 : lw_okq (⟨"YesPlanes$Learner", "mend", "(III)V"⟩, 5) := ⟨⟨by decide +kernel, by decide +kernel⟩, List.mem_of_getElem? (i := 117) (by decide +kernel), List.mem_of_getElem? (i := 859) (by decide +kernel), List.mem_of_getElem? (i := 860) (by decide +kernel)⟩
theorem lw_p29 : lw_okq (⟨"YesPlanes$Judges", "sayers", "(III)I"⟩, 5) := ⟨⟨by decide +kernel, by decide +kernel⟩, List.mem_of_getElem? (i := 93) (by decide +kernel), List.mem_of_getElem? (i := 891) (by decide +kernel), List.mem_of_getElem? (i := 892) (by decide +kernel)⟩
theorem lw_p30 : lw_okq (⟨"YesPlanes$Strong", "playRound", "(LYesPlanes$Points;)V"⟩, 17) := ⟨⟨by decide +kernel, by decide +kernel⟩, List.mem_of_getElem? (i := 282) (by decide +kernel), List.mem_of_getElem? (i := 913) (by decide +kernel), List.mem_of_getElem? (i := 914) (by decide +kernel)⟩
theorem lw_p31 : lw_okq (⟨"YesPlanes$Strong", "choose", "(LYesPlanes$Points;)V"⟩, 17) := ⟨⟨by decide +kernel, by decide +kernel⟩, List.mem_of_getElem? (i := 282) (by decide +kernel), List.mem_of_getElem? (i := 917) (by decide +kernel), List.mem_of_getElem? (i := 918) (by decide +kernel)⟩
def lw_privs_2 : List (MethodName × Nat) := [(⟨"YesPlanes$Meeting", "shareWithin", "(LYesPlanes$Points;II)V"⟩, 11), (⟨"YesPlanes$Meeting", "findNoWithin", "(LYesPlanes$Points;)Z"⟩, 11), (⟨"YesPlanes$Meeting", "firstNoWithin", "(LYesPlanes$Points;III)I"⟩, 11), (⟨"YesPlanes$Meeting", "findCrossing", "(LYesPlanes$Points;)Z"⟩, 11), (⟨"YesPlanes$Meeting", "otherEndAcross", "(LYesPlanes$Points;III)I"⟩, 11), (⟨"YesPlanes$Meeting", "shareCrossing", "(LYesPlanes$Points;)V"⟩, 11), (⟨"YesPlanes$Meeting", "shareEnds", "(LYesPlanes$Points;II)V"⟩, 11), (⟨"YesPlanes", "canPartFirst", "(I)Z"⟩, 15), (⟨"YesPlanes$Partings", "markBoth", "(I)V"⟩, 4), (⟨"YesPlanes$Partings", "mark", "(I)V"⟩, 4), (⟨"YesPlanes$Partings", "markAlong", "(LYesPlanes$Points;III)V"⟩, 4), (⟨"YesPlanes$Learner", "goRound", "(LYesPlanes$Points;)I"⟩, 5), (⟨"YesPlanes$Learner", "mend", "(III)V"⟩, 5), (⟨"YesPlanes$Judges", "sayers", "(III)I"⟩, 5), (⟨"YesPlanes$Strong", "playRound", "(LYesPlanes$Points;)V"⟩, 17), (⟨"YesPlanes$Strong", "choose", "(LYesPlanes$Points;)V"⟩, 17)]
theorem lw_r2 : ∀ q ∈ lw_privs_2, lw_okq q := List.forall_mem_cons.mpr ⟨lw_p16, List.forall_mem_cons.mpr ⟨lw_p17, List.forall_mem_cons.mpr ⟨lw_p18, List.forall_mem_cons.mpr ⟨lw_p19, List.forall_mem_cons.mpr ⟨lw_p20, List.forall_mem_cons.mpr ⟨lw_p21, List.forall_mem_cons.mpr ⟨lw_p22, List.forall_mem_cons.mpr ⟨lw_p23, List.forall_mem_cons.mpr ⟨lw_p24, List.forall_mem_cons.mpr ⟨lw_p25, List.forall_mem_cons.mpr ⟨lw_p26, List.forall_mem_cons.mpr ⟨lw_p27, List.forall_mem_cons.mpr ⟨lw_p28, List.forall_mem_cons.mpr ⟨lw_p29, List.forall_mem_cons.mpr ⟨lw_p30, List.forall_mem_cons.mpr ⟨lw_p31, fun _ h => absurd h List.not_mem_nil⟩⟩⟩⟩⟩⟩⟩⟩⟩⟩⟩⟩⟩⟩⟩⟩
theorem lw_p32 : lw_okq (⟨"YesPlanes$Strong", "weigh", "(LYesPlanes$Points;II)V"⟩, 17) := ⟨⟨by decide +kernel, by decide +kernel⟩, List.mem_of_getElem? (i := 282) (by decide +kernel), List.mem_of_getElem? (i := 921) (by decide +kernel), List.mem_of_getElem? (i := 922) (by decide +kernel)⟩
theorem lw_p33 : lw_okq (⟨"YesPlanes$Strong", "offer", "(IIIJ)V"⟩, 17) := ⟨⟨by decide +kernel, by decide +kernel⟩, List.mem_of_getElem? (i := 282) (by decide +kernel), List.mem_of_getElem? (i := 928) (by decide +kernel), List.mem_of_getElem? (i := 929) (by decide +kernel)⟩
theorem lw_p34 : lw_okq (⟨"YesPlanes$Strong", "keepChosen", "()V"⟩, 17) := ⟨⟨by decide +kernel, by decide +kernel⟩, List.mem_of_getElem? (i := 282) (by decide +kernel), List.mem_of_getElem? (i := 932) (by decide +kernel), List.mem_of_getElem? (i := 933) (by decide +kernel)⟩
theorem lw_p35 : lw_okq (⟨"YesPlanes$Strong", "reweigh", "(LYesPlanes$Points;)Z"⟩, 17) := ⟨⟨by decide +kernel, by decide +kernel⟩, List.mem_of_getElem? (i := 282) (by decide +kernel), List.mem_of_getElem? (i := 937) (by decide +kernel), List.mem_of_getElem? (i := 938) (by decide +kernel)⟩
theorem lw_p36 : lw_okq (⟨"YesPlanes$Strong", "commonMass", "(LYesPlanes$Points;Z)J"⟩, 17) := ⟨⟨by decide +kernel, by decide +kernel⟩, List.mem_of_getElem? (i := 282) (by decide +kernel), List.mem_of_getElem? (i := 942) (by decide +kernel), List.mem_of_getElem? (i := 943) (by decide +kernel)⟩
theorem lw_p37 : lw_okq (⟨"YesPlanes$Strong", "isWrong", "(LYesPlanes$Points;I)Z"⟩, 17) := ⟨⟨by decide +kernel, by decide +kernel⟩, List.mem_of_getElem? (i := 282) (by decide +kernel), List.mem_of_getElem? (i := 946) (by decide +kernel), List.mem_of_getElem? (i := 947) (by decide +kernel)⟩
theorem lw_p38 : lw_okq (⟨"YesPlanes$Cover", "gather", "(LYesPlanes$Points;)V"⟩, 5) := ⟨⟨by decide +kernel, by decide +kernel⟩, List.mem_of_getElem? (i := 364) (by decide +kernel), List.mem_of_getElem? (i := 1042) (by decide +kernel), List.mem_of_getElem? (i := 1043) (by decide +kernel)⟩
theorem lw_p39 : lw_okq (⟨"YesPlanes$Cover", "findSets", "(LYesPlanes$Points;I)V"⟩, 5) := ⟨⟨by decide +kernel, by decide +kernel⟩, List.mem_of_getElem? (i := 364) (by decide +kernel), List.mem_of_getElem? (i := 1049) (by decide +kernel), List.mem_of_getElem? (i := 1050) (by decide +kernel)⟩
theorem lw_p40 : lw_okq (⟨"YesPlanes$Cover", "setWithin", "(LYesPlanes$Points;III)I"⟩, 5) := ⟨⟨by decide +kernel, by decide +kernel⟩, List.mem_of_getElem? (i := 364) (by decide +kernel), List.mem_of_getElem? (i := 1053) (by decide +kernel), List.mem_of_getElem? (i := 1054) (by decide +kernel)⟩
theorem lw_p41 : lw_okq (⟨"YesPlanes$Cover", "addSet", "(I)V"⟩, 5) := ⟨⟨by decide +kernel, by decide +kernel⟩, List.mem_of_getElem? (i := 364) (by decide +kernel), List.mem_of_getElem? (i := 1059) (by decide +kernel), List.mem_of_getElem? (i := 1060) (by decide +kernel)⟩
theorem lw_p42 : lw_okq (⟨"YesPlanes$Cover", "widen", "(I)V"⟩, 5) := ⟨⟨by decide +kernel, by decide +kernel⟩, List.mem_of_getElem? (i := 364) (by decide +kernel), List.mem_of_getElem? (i := 1063) (by decide +kernel), List.mem_of_getElem? (i := 1064) (by decide +kernel)⟩
theorem lw_p43 : lw_okq (⟨"YesPlanes", "sheetsThere", "()I"⟩, 15) := ⟨⟨by decide +kernel, by decide +kernel⟩, List.mem_of_getElem? (i := 20) (by decide +kernel), List.mem_of_getElem? (i := 1100) (by decide +kernel), List.mem_of_getElem? (i := 1101) (by decide +kernel)⟩
theorem lw_p44 : lw_okq (⟨"YesPlanesModel", "told", "(I)I"⟩, 61) := ⟨⟨by decide +kernel, by decide +kernel⟩, List.mem_of_getElem? (i := 1108) (by decide +kernel), List.mem_of_getElem? (i := 1307) (by decide +kernel), List.mem_of_getElem? (i := 1308) (by decide +kernel)⟩
theorem lw_p45 : lw_okq (⟨"YesPlanesModel", "add", "(III)V"⟩, 61) := ⟨⟨by decide +kernel, by decide +kernel⟩, List.mem_of_getElem? (i := 1108) (by decide +kernel), List.mem_of_getElem? (i := 1311) (by decide +kernel), List.mem_of_getElem? (i := 1312) (by decide +kernel)⟩
theorem lw_p46 : lw_okq (⟨"YesPlanesModel", "isPoint", "(I)Z"⟩, 61) := ⟨⟨by decide +kernel, by decide +kernel⟩, List.mem_of_getElem? (i := 1108) (by decide +kernel), List.mem_of_getElem? (i := 1319) (by decide +kernel), List.mem_of_getElem? (i := 1320) (by decide +kernel)⟩
theorem lw_p47 : lw_okq (⟨"YesPlanesModel", "findMeeting", "()V"⟩, 61) := ⟨⟨by decide +kernel, by decide +kernel⟩, List.mem_of_getElem? (i := 1108) (by decide +kernel), List.mem_of_getElem? (i := 1366) (by decide +kernel), List.mem_of_getElem? (i := 1367) (by decide +kernel)⟩
def lw_privs_3 : List (MethodName × Nat) := [(⟨"YesPlanes$Strong", "weigh", "(LYesPlanes$Points;II)V"⟩, 17), (⟨"YesPlanes$Strong", "offer", "(IIIJ)V"⟩, 17), (⟨"YesPlanes$Strong", "keepChosen", "()V"⟩, 17), (⟨"YesPlanes$Strong", "reweigh", "(LYesPlanes$Points;)Z"⟩, 17), (⟨"YesPlanes$Strong", "commonMass", "(LYesPlanes$Points;Z)J"⟩, 17), (⟨"YesPlanes$Strong", "isWrong", "(LYesPlanes$Points;I)Z"⟩, 17), (⟨"YesPlanes$Cover", "gather", "(LYesPlanes$Points;)V"⟩, 5), (⟨"YesPlanes$Cover", "findSets", "(LYesPlanes$Points;I)V"⟩, 5), (⟨"YesPlanes$Cover", "setWithin", "(LYesPlanes$Points;III)I"⟩, 5), (⟨"YesPlanes$Cover", "addSet", "(I)V"⟩, 5), (⟨"YesPlanes$Cover", "widen", "(I)V"⟩, 5), (⟨"YesPlanes", "sheetsThere", "()I"⟩, 15), (⟨"YesPlanesModel", "told", "(I)I"⟩, 61), (⟨"YesPlanesModel", "add", "(III)V"⟩, 61), (⟨"YesPlanesModel", "isPoint", "(I)Z"⟩, 61), (⟨"YesPlanesModel", "findMeeting", "()V"⟩, 61)]
theorem lw_r3 : ∀ q ∈ lw_privs_3, lw_okq q := List.forall_mem_cons.mpr ⟨lw_p32, List.forall_mem_cons.mpr ⟨lw_p33, List.forall_mem_cons.mpr ⟨lw_p34, List.forall_mem_cons.mpr ⟨lw_p35, List.forall_mem_cons.mpr ⟨lw_p36, List.forall_mem_cons.mpr ⟨lw_p37, List.forall_mem_cons.mpr ⟨lw_p38, List.forall_mem_cons.mpr ⟨lw_p39, List.forall_mem_cons.mpr ⟨lw_p40, List.forall_mem_cons.mpr ⟨lw_p41, List.forall_mem_cons.mpr ⟨lw_p42, List.forall_mem_cons.mpr ⟨lw_p43, List.forall_mem_cons.mpr ⟨lw_p44, List.forall_mem_cons.mpr ⟨lw_p45, List.forall_mem_cons.mpr ⟨lw_p46, List.forall_mem_cons.mpr ⟨lw_p47, fun _ h => absurd h List.not_mem_nil⟩⟩⟩⟩⟩⟩⟩⟩⟩⟩⟩⟩⟩⟩⟩⟩
theorem lw_p48 : lw_okq (⟨"YesPlanesModel", "findSame", "()Z"⟩, 61) := ⟨⟨by decide +kernel, by decide +kernel⟩, List.mem_of_getElem? (i := 1108) (by decide +kernel), List.mem_of_getElem? (i := 1370) (by decide +kernel), List.mem_of_getElem? (i := 1371) (by decide +kernel)⟩
theorem lw_p49 : lw_okq (⟨"YesPlanesModel", "isAt", "(II)Z"⟩, 61) := ⟨⟨by decide +kernel, by decide +kernel⟩, List.mem_of_getElem? (i := 1108) (by decide +kernel), List.mem_of_getElem? (i := 1374) (by decide +kernel), List.mem_of_getElem? (i := 1375) (by decide +kernel)⟩
theorem lw_p50 : lw_okq (⟨"YesPlanesModel", "member", "(IIJJ)V"⟩, 61) := ⟨⟨by decide +kernel, by decide +kernel⟩, List.mem_of_getElem? (i := 1108) (by decide +kernel), List.mem_of_getElem? (i := 1378) (by decide +kernel), List.mem_of_getElem? (i := 1379) (by decide +kernel)⟩
theorem lw_p51 : lw_okq (⟨"YesPlanesModel", "place", "(JJJ)V"⟩, 61) := ⟨⟨by decide +kernel, by decide +kernel⟩, List.mem_of_getElem? (i := 1108) (by decide +kernel), List.mem_of_getElem? (i := 1383) (by decide +kernel), List.mem_of_getElem? (i := 1384) (by decide +kernel)⟩
theorem lw_p52 : lw_okq (⟨"YesPlanesModel", "findBetween", "()Z"⟩, 61) := ⟨⟨by decide +kernel, by decide +kernel⟩, List.mem_of_getElem? (i := 1108) (by decide +kernel), List.mem_of_getElem? (i := 1387) (by decide +kernel), List.mem_of_getElem? (i := 1388) (by decide +kernel)⟩
theorem lw_p53 : lw_okq (⟨"YesPlanesModel", "isBetween", "(III)Z"⟩, 61) := ⟨⟨by decide +kernel, by decide +kernel⟩, List.mem_of_getElem? (i := 1108) (by decide +kernel), List.mem_of_getElem? (i := 1391) (by decide +kernel), List.mem_of_getElem? (i := 1392) (by decide +kernel)⟩
theorem lw_p54 : lw_okq (⟨"YesPlanesModel", "area", "(III)J"⟩, 61) := ⟨⟨by decide +kernel, by decide +kernel⟩, List.mem_of_getElem? (i := 1108) (by decide +kernel), List.mem_of_getElem? (i := 1395) (by decide +kernel), List.mem_of_getElem? (i := 1396) (by decide +kernel)⟩
theorem lw_p55 : lw_okq (⟨"YesPlanesModel", "meetsBy", "(IIIIII)V"⟩, 61) := ⟨⟨by decide +kernel, by decide +kernel⟩, List.mem_of_getElem? (i := 1108) (by decide +kernel), List.mem_of_getElem? (i := 1402) (by decide +kernel), List.mem_of_getElem? (i := 1403) (by decide +kernel)⟩
theorem lw_p56 : lw_okq (⟨"YesPlanesModel", "meetsAt", "(IIII)V"⟩, 61) := ⟨⟨by decide +kernel, by decide +kernel⟩, List.mem_of_getElem? (i := 1108) (by decide +kernel), List.mem_of_getElem? (i := 1406) (by decide +kernel), List.mem_of_getElem? (i := 1407) (by decide +kernel)⟩
theorem lw_p57 : lw_okq (⟨"YesPlanesModel", "findWithin", "()Z"⟩, 61) := ⟨⟨by decide +kernel, by decide +kernel⟩, List.mem_of_getElem? (i := 1108) (by decide +kernel), List.mem_of_getElem? (i := 1410) (by decide +kernel), List.mem_of_getElem? (i := 1411) (by decide +kernel)⟩
theorem lw_p58 : lw_okq (⟨"YesPlanesModel", "findOthers", "(II)Z"⟩, 61) := ⟨⟨by decide +kernel, by decide +kernel⟩, List.mem_of_getElem? (i := 1108) (by decide +kernel), List.mem_of_getElem? (i := 1414) (by decide +kernel), List.mem_of_getElem? (i := 1415) (by decide +kernel)⟩
theorem lw_p59 : lw_okq (⟨"YesPlanesModel", "isWithin", "(IIII)Z"⟩, 61) := ⟨⟨by decide +kernel, by decide +kernel⟩, List.mem_of_getElem? (i := 1108) (by decide +kernel), List.mem_of_getElem? (i := 1418) (by decide +kernel), List.mem_of_getElem? (i := 1419) (by decide +kernel)⟩
theorem lw_p60 : lw_okq (⟨"YesPlanesModel", "findInner", "(III)Z"⟩, 61) := ⟨⟨by decide +kernel, by decide +kernel⟩, List.mem_of_getElem? (i := 1108) (by decide +kernel), List.mem_of_getElem? (i := 1422) (by decide +kernel), List.mem_of_getElem? (i := 1423) (by decide +kernel)⟩
theorem lw_p61 : lw_okq (⟨"YesPlanesModel", "findCrossing", "()Z"⟩, 61) := ⟨⟨by decide +kernel, by decide +kernel⟩, List.mem_of_getElem? (i := 1108) (by decide +kernel), List.mem_of_getElem? (i := 1426) (by decide +kernel), List.mem_of_getElem? (i := 1427) (by decide +kernel)⟩
theorem lw_p62 : lw_okq (⟨"YesPlanesModel", "findCrossed", "(III)Z"⟩, 61) := ⟨⟨by decide +kernel, by decide +kernel⟩, List.mem_of_getElem? (i := 1108) (by decide +kernel), List.mem_of_getElem? (i := 1430) (by decide +kernel), List.mem_of_getElem? (i := 1431) (by decide +kernel)⟩
theorem lw_p63 : lw_okq (⟨"YesPlanesModel", "isCrossing", "(IIII)Z"⟩, 61) := ⟨⟨by decide +kernel, by decide +kernel⟩, List.mem_of_getElem? (i := 1108) (by decide +kernel), List.mem_of_getElem? (i := 1434) (by decide +kernel), List.mem_of_getElem? (i := 1435) (by decide +kernel)⟩
def lw_privs_4 : List (MethodName × Nat) := [(⟨"YesPlanesModel", "findSame", "()Z"⟩, 61), (⟨"YesPlanesModel", "isAt", "(II)Z"⟩, 61), (⟨"YesPlanesModel", "member", "(IIJJ)V"⟩, 61), (⟨"YesPlanesModel", "place", "(JJJ)V"⟩, 61), (⟨"YesPlanesModel", "findBetween", "()Z"⟩, 61), (⟨"YesPlanesModel", "isBetween", "(III)Z"⟩, 61), (⟨"YesPlanesModel", "area", "(III)J"⟩, 61), (⟨"YesPlanesModel", "meetsBy", "(IIIIII)V"⟩, 61), (⟨"YesPlanesModel", "meetsAt", "(IIII)V"⟩, 61), (⟨"YesPlanesModel", "findWithin", "()Z"⟩, 61), (⟨"YesPlanesModel", "findOthers", "(II)Z"⟩, 61), (⟨"YesPlanesModel", "isWithin", "(IIII)Z"⟩, 61), (⟨"YesPlanesModel", "findInner", "(III)Z"⟩, 61), (⟨"YesPlanesModel", "findCrossing", "()Z"⟩, 61), (⟨"YesPlanesModel", "findCrossed", "(III)Z"⟩, 61), (⟨"YesPlanesModel", "isCrossing", "(IIII)Z"⟩, 61)]
theorem lw_r4 : ∀ q ∈ lw_privs_4, lw_okq q := List.forall_mem_cons.mpr ⟨lw_p48, List.forall_mem_cons.mpr ⟨lw_p49, List.forall_mem_cons.mpr ⟨lw_p50, List.forall_mem_cons.mpr ⟨lw_p51, List.forall_mem_cons.mpr ⟨lw_p52, List.forall_mem_cons.mpr ⟨lw_p53, List.forall_mem_cons.mpr ⟨lw_p54, List.forall_mem_cons.mpr ⟨lw_p55, List.forall_mem_cons.mpr ⟨lw_p56, List.forall_mem_cons.mpr ⟨lw_p57, List.forall_mem_cons.mpr ⟨lw_p58, List.forall_mem_cons.mpr ⟨lw_p59, List.forall_mem_cons.mpr ⟨lw_p60, List.forall_mem_cons.mpr ⟨lw_p61, List.forall_mem_cons.mpr ⟨lw_p62, List.forall_mem_cons.mpr ⟨lw_p63, fun _ h => absurd h List.not_mem_nil⟩⟩⟩⟩⟩⟩⟩⟩⟩⟩⟩⟩⟩⟩⟩⟩
theorem lw_p64 : lw_okq (⟨"YesPlanesModel", "findWay", "()V"⟩, 61) := ⟨⟨by decide +kernel, by decide +kernel⟩, List.mem_of_getElem? (i := 1108) (by decide +kernel), List.mem_of_getElem? (i := 1463) (by decide +kernel), List.mem_of_getElem? (i := 1464) (by decide +kernel)⟩
theorem lw_p65 : lw_okq (⟨"YesPlanesModel", "many", "(I)I"⟩, 61) := ⟨⟨by decide +kernel, by decide +kernel⟩, List.mem_of_getElem? (i := 1108) (by decide +kernel), List.mem_of_getElem? (i := 1467) (by decide +kernel), List.mem_of_getElem? (i := 1468) (by decide +kernel)⟩
theorem lw_p66 : lw_okq (⟨"YesPlanesModel", "tryWay", "(JJ)V"⟩, 61) := ⟨⟨by decide +kernel, by decide +kernel⟩, List.mem_of_getElem? (i := 1108) (by decide +kernel), List.mem_of_getElem? (i := 1471) (by decide +kernel), List.mem_of_getElem? (i := 1472) (by decide +kernel)⟩
theorem lw_p67 : lw_okq (⟨"YesPlanesModel", "isSide", "(I)Z"⟩, 61) := ⟨⟨by decide +kernel, by decide +kernel⟩, List.mem_of_getElem? (i := 1108) (by decide +kernel), List.mem_of_getElem? (i := 1476) (by decide +kernel), List.mem_of_getElem? (i := 1477) (by decide +kernel)⟩
theorem lw_p68 : lw_okq (⟨"YesPlanesModel", "isMany", "(I)Z"⟩, 61) := ⟨⟨by decide +kernel, by decide +kernel⟩, List.mem_of_getElem? (i := 1108) (by decide +kernel), List.mem_of_getElem? (i := 1499) (by decide +kernel), List.mem_of_getElem? (i := 1500) (by decide +kernel)⟩
theorem lw_p69 : lw_okq (⟨"YesPlanesModel", "findSets", "(I)V"⟩, 61) := ⟨⟨by decide +kernel, by decide +kernel⟩, List.mem_of_getElem? (i := 1108) (by decide +kernel), List.mem_of_getElem? (i := 1504) (by decide +kernel), List.mem_of_getElem? (i := 1505) (by decide +kernel)⟩
theorem lw_p70 : lw_okq (⟨"YesPlanesModel", "choose", "(I)V"⟩, 61) := ⟨⟨by decide +kernel, by decide +kernel⟩, List.mem_of_getElem? (i := 1108) (by decide +kernel), List.mem_of_getElem? (i := 1508) (by decide +kernel), List.mem_of_getElem? (i := 1509) (by decide +kernel)⟩
theorem lw_p71 : lw_okq (⟨"YesPlanesModel", "turnAbout", "(II)V"⟩, 61) := ⟨⟨by decide +kernel, by decide +kernel⟩, List.mem_of_getElem? (i := 1108) (by decide +kernel), List.mem_of_getElem? (i := 1512) (by decide +kernel), List.mem_of_getElem? (i := 1513) (by decide +kernel)⟩
theorem lw_p72 : lw_okq (⟨"YesPlanesModel", "further", "(III)J"⟩, 61) := ⟨⟨by decide +kernel, by decide +kernel⟩, List.mem_of_getElem? (i := 1108) (by decide +kernel), List.mem_of_getElem? (i := 1516) (by decide +kernel), List.mem_of_getElem? (i := 1517) (by decide +kernel)⟩
theorem lw_p73 : lw_okq (⟨"YesPlanesModel", "findStep", "()V"⟩, 61) := ⟨⟨by decide +kernel, by decide +kernel⟩, List.mem_of_getElem? (i := 1108) (by decide +kernel), List.mem_of_getElem? (i := 1565) (by decide +kernel), List.mem_of_getElem? (i := 1566) (by decide +kernel)⟩
theorem lw_p74 : lw_okq (⟨"YesPlanesModel", "wrongOf", "(III)J"⟩, 61) := ⟨⟨by decide +kernel, by decide +kernel⟩, List.mem_of_getElem? (i := 1108) (by decide +kernel), List.mem_of_getElem? (i := 1569) (by decide +kernel), List.mem_of_getElem? (i := 1570) (by decide +kernel)⟩
theorem lw_p75 : lw_okq (⟨"YesPlanesModel", "weigh", "(I)Z"⟩, 61) := ⟨⟨by decide +kernel, by decide +kernel⟩, List.mem_of_getElem? (i := 1108) (by decide +kernel), List.mem_of_getElem? (i := 1576) (by decide +kernel), List.mem_of_getElem? (i := 1577) (by decide +kernel)⟩
theorem lw_p76 : lw_okq (⟨"YesPlanesModel", "isWrongBy", "(II)Z"⟩, 61) := ⟨⟨by decide +kernel, by decide +kernel⟩, List.mem_of_getElem? (i := 1108) (by decide +kernel), List.mem_of_getElem? (i := 1580) (by decide +kernel), List.mem_of_getElem? (i := 1581) (by decide +kernel)⟩
theorem lw_p77 : lw_okq (⟨"YesPlanesModel", "times", "([IJ)V"⟩, 61) := ⟨⟨by decide +kernel, by decide +kernel⟩, List.mem_of_getElem? (i := 1108) (by decide +kernel), List.mem_of_getElem? (i := 1601) (by decide +kernel), List.mem_of_getElem? (i := 1602) (by decide +kernel)⟩
theorem lw_p78 : lw_okq (⟨"YesPlanesModel", "findHull", "(I)V"⟩, 61) := ⟨⟨by decide +kernel, by decide +kernel⟩, List.mem_of_getElem? (i := 1108) (by decide +kernel), List.mem_of_getElem? (i := 1610) (by decide +kernel), List.mem_of_getElem? (i := 1611) (by decide +kernel)⟩
theorem lw_p79 : lw_okq (⟨"YesPlanesModel", "far", "(II)J"⟩, 61) := ⟨⟨by decide +kernel, by decide +kernel⟩, List.mem_of_getElem? (i := 1108) (by decide +kernel), List.mem_of_getElem? (i := 1614) (by decide +kernel), List.mem_of_getElem? (i := 1615) (by decide +kernel)⟩
def lw_privs_5 : List (MethodName × Nat) := [(⟨"YesPlanesModel", "findWay", "()V"⟩, 61), (⟨"YesPlanesModel", "many", "(I)I"⟩, 61), (⟨"YesPlanesModel", "tryWay", "(JJ)V"⟩, 61), (⟨"YesPlanesModel", "isSide", "(I)Z"⟩, 61), (⟨"YesPlanesModel", "isMany", "(I)Z"⟩, 61), (⟨"YesPlanesModel", "findSets", "(I)V"⟩, 61), (⟨"YesPlanesModel", "choose", "(I)V"⟩, 61), (⟨"YesPlanesModel", "turnAbout", "(II)V"⟩, 61), (⟨"YesPlanesModel", "further", "(III)J"⟩, 61), (⟨"YesPlanesModel", "findStep", "()V"⟩, 61), (⟨"YesPlanesModel", "wrongOf", "(III)J"⟩, 61), (⟨"YesPlanesModel", "weigh", "(I)Z"⟩, 61), (⟨"YesPlanesModel", "isWrongBy", "(II)Z"⟩, 61), (⟨"YesPlanesModel", "times", "([IJ)V"⟩, 61), (⟨"YesPlanesModel", "findHull", "(I)V"⟩, 61), (⟨"YesPlanesModel", "far", "(II)J"⟩, 61)]
theorem lw_r5 : ∀ q ∈ lw_privs_5, lw_okq q := List.forall_mem_cons.mpr ⟨lw_p64, List.forall_mem_cons.mpr ⟨lw_p65, List.forall_mem_cons.mpr ⟨lw_p66, List.forall_mem_cons.mpr ⟨lw_p67, List.forall_mem_cons.mpr ⟨lw_p68, List.forall_mem_cons.mpr ⟨lw_p69, List.forall_mem_cons.mpr ⟨lw_p70, List.forall_mem_cons.mpr ⟨lw_p71, List.forall_mem_cons.mpr ⟨lw_p72, List.forall_mem_cons.mpr ⟨lw_p73, List.forall_mem_cons.mpr ⟨lw_p74, List.forall_mem_cons.mpr ⟨lw_p75, List.forall_mem_cons.mpr ⟨lw_p76, List.forall_mem_cons.mpr ⟨lw_p77, List.forall_mem_cons.mpr ⟨lw_p78, List.forall_mem_cons.mpr ⟨lw_p79, fun _ h => absurd h List.not_mem_nil⟩⟩⟩⟩⟩⟩⟩⟩⟩⟩⟩⟩⟩⟩⟩⟩
theorem lw_p80 : lw_okq (⟨"YesPlanesModel", "isHalf", "(IIII)Z"⟩, 61) := ⟨⟨by decide +kernel, by decide +kernel⟩, List.mem_of_getElem? (i := 1108) (by decide +kernel), List.mem_of_getElem? (i := 1627) (by decide +kernel), List.mem_of_getElem? (i := 1628) (by decide +kernel)⟩
theorem lw_p81 : lw_okq (⟨"YesPlanesModel", "isClear", "(II)Z"⟩, 61) := ⟨⟨by decide +kernel, by decide +kernel⟩, List.mem_of_getElem? (i := 1108) (by decide +kernel), List.mem_of_getElem? (i := 1635) (by decide +kernel), List.mem_of_getElem? (i := 1636) (by decide +kernel)⟩
def lw_privs_6 : List (MethodName × Nat) := [(⟨"YesPlanesModel", "isHalf", "(IIII)Z"⟩, 61), (⟨"YesPlanesModel", "isClear", "(II)Z"⟩, 61)]
theorem lw_r6 : ∀ q ∈ lw_privs_6, lw_okq q := List.forall_mem_cons.mpr ⟨lw_p80, List.forall_mem_cons.mpr ⟨lw_p81, fun _ h => absurd h List.not_mem_nil⟩⟩
def lw_privs : List (MethodName × Nat) := lw_privs_1 ++ (lw_privs_2 ++ (lw_privs_3 ++ (lw_privs_4 ++ (lw_privs_5 ++ (lw_privs_6)))))
def lw_tbl : List Cond := k2_sels lw_privs ++ tables_1
theorem lw_privs_ok : ∀ q ∈ lw_privs, lw_okq q := by
  show ∀ q ∈ lw_privs_1 ++ (lw_privs_2 ++ (lw_privs_3 ++ (lw_privs_4 ++ (lw_privs_5 ++ (lw_privs_6))))), lw_okq q
  exact List.forall_mem_append.mpr ⟨lw_r1, List.forall_mem_append.mpr ⟨lw_r2, List.forall_mem_append.mpr ⟨lw_r3, List.forall_mem_append.mpr ⟨lw_r4, List.forall_mem_append.mpr ⟨lw_r5, lw_r6⟩⟩⟩⟩⟩
/-! ===== BEGIN words of one list among another's, by their places ===== -/
theorem goodIn_r {big : List Cond} (ws : List Cond) (ps : List Nat) (hp : ws = ps.filterMap (fun i => big[i]?)) (h : ws.all goodWord = true) : GoodIn big ws := by
  intro w hw
  have h1 := List.all_eq_true.mp h w hw
  rw [hp] at hw
  obtain ⟨i, -, hi⟩ := List.mem_filterMap.mp hw
  have hm : w ∈ big := by first | exact List.mem_of_getElem? hi | exact List.getElem?_mem hi
  exact ⟨hm, good_of_word h1⟩
theorem goodIn_app {big a b : List Cond} (ha : GoodIn big a) (hb : GoodIn big b) : GoodIn big (a ++ b) := fun w h => (List.mem_append.mp h).elim (ha w) (hb w)
theorem goodIn_ca {big a b : List Cond} {c : Cond} (ha : GoodIn big (c :: a)) (hb : GoodIn big b) : GoodIn big (c :: (a ++ b)) := fun w h => (List.mem_cons.mp h).elim (fun e => ha w (List.mem_cons.mpr (Or.inl e))) (fun h => (List.mem_append.mp h).elim (fun h => ha w (List.mem_cons.mpr (Or.inr h))) (hb w))
theorem goodIn_sub {big ws : List Cond} (hm : ∀ w ∈ ws, w ∈ big) (h : ws.all goodWord = true) : GoodIn big ws := fun w hw => ⟨hm w hw, good_of_word (List.all_eq_true.mp h w hw)⟩
/-! ===== END ===== -/

/-! ===== BEGIN printed: names, fields, word lists, decode rows ===== -/
def RX0 : String := "YesPlanes$Cover"
def TX0 : u_T := fun k => match k with
  | 0 => ("YesPlanes$Cover", "yes", "[I", true)
  | 1 => ("YesPlanes$Cover", "yesMany", "I", false)
  | 2 => ("YesPlanes$Cover", "sets", "[I", true)
  | 3 => ("YesPlanes$Cover", "setsMany", "I", false)
  | _ => ("YesPlanes$Cover", "needed", "[B", true)
def tyX0 : Nat → FieldType := fun k => match k with
  | 0 => .array .int
  | 1 => .int
  | 2 => .array .int
  | 3 => .int
  | _ => .array .byte
abbrev wsX00 : List Cond := u_ws RX0 TX0 5
theorem nmX0 : ∀ a, a < 5 → ∀ b, b < 5 → a ≠ b → (TX0 a).2.1 ≠ (TX0 b).2.1 := by decide +kernel
theorem tyX0_ok : ∀ k, k < 5 → parseFieldDescriptor (TX0 k).2.2.1 = some (tyX0 k) := by decide +kernel
abbrev cX0_init : ByteArray := prog_2_method_1_code
def yX0_init : MethodName := ⟨RX0, "<init>", "()V"⟩
abbrev cX0_fewest : ByteArray := prog_2_method_2_code
def yX0_fewest : MethodName := ⟨RX0, "fewest", "(LYesPlanes$Points;)I"⟩
abbrev cX0_gather : ByteArray := prog_2_method_3_code
def yX0_gather : MethodName := ⟨RX0, "gather", "(LYesPlanes$Points;)V"⟩
abbrev cX0_widen : ByteArray := prog_2_method_4_code
def yX0_widen : MethodName := ⟨RX0, "widen", "(I)V"⟩
abbrev cX0_findSets : ByteArray := prog_2_method_5_code
def yX0_findSets : MethodName := ⟨RX0, "findSets", "(LYesPlanes$Points;I)V"⟩
abbrev cX0_addSet : ByteArray := prog_2_method_6_code
def yX0_addSet : MethodName := ⟨RX0, "addSet", "(I)V"⟩
abbrev cX0_setWithin : ByteArray := prog_2_method_7_code
def yX0_setWithin : MethodName := ⟨RX0, "setWithin", "(LYesPlanes$Points;III)I"⟩
def RX1 : String := "YesPlanes$Fraction"
def TX1 : u_T := fun k => match k with
  | 0 => ("YesPlanes$Fraction", "top", "J", false)
  | _ => ("YesPlanes$Fraction", "under", "J", false)
def tyX1 : Nat → FieldType := fun k => match k with
  | 0 => .long
  | _ => .long
abbrev wsX10 : List Cond := u_ws RX1 TX1 2
theorem nmX1 : ∀ a, a < 2 → ∀ b, b < 2 → a ≠ b → (TX1 a).2.1 ≠ (TX1 b).2.1 := by decide +kernel
theorem tyX1_ok : ∀ k, k < 2 → parseFieldDescriptor (TX1 k).2.2.1 = some (tyX1 k) := by decide +kernel
abbrev cX1_init : ByteArray := prog_3_method_1_code
def yX1_init : MethodName := ⟨RX1, "<init>", "()V"⟩
abbrev cX1_become : ByteArray := prog_3_method_2_code
def yX1_become : MethodName := ⟨RX1, "become", "(JJ)V"⟩
abbrev cX1_common : ByteArray := prog_3_method_3_code
def yX1_common : MethodName := ⟨RX1, "common", "(JJ)J"⟩
def RX2 : String := "YesPlanes$Judges"
def TX2 : u_T := fun k => match k with
  | 0 => ("YesPlanes$Judges", "many", "I", false)
  | 1 => ("YesPlanes$Judges", "in", "I", false)
  | 2 => ("YesPlanes$Judges", "a", "[I", true)
  | 3 => ("YesPlanes$Judges", "b", "[I", true)
  | _ => ("YesPlanes$Judges", "c", "[I", true)
def tyX2 : Nat → FieldType := fun k => match k with
  | 0 => .int
  | 1 => .int
  | 2 => .array .int
  | 3 => .array .int
  | _ => .array .int
abbrev wsX20 : List Cond := u_ws RX2 TX2 5
theorem nmX2 : ∀ a, a < 5 → ∀ b, b < 5 → a ≠ b → (TX2 a).2.1 ≠ (TX2 b).2.1 := by decide +kernel
theorem tyX2_ok : ∀ k, k < 5 → parseFieldDescriptor (TX2 k).2.2.1 = some (tyX2 k) := by decide +kernel
abbrev cX2_init : ByteArray := prog_4_method_1_code
def yX2_init : MethodName := ⟨RX2, "<init>", "()V"⟩
abbrev cX2_isLine : ByteArray := prog_4_method_2_code
def yX2_isLine : MethodName := ⟨RX2, "isLine", "(III)Z"⟩
abbrev cX2_canBe : ByteArray := prog_4_method_3_code
def yX2_canBe : MethodName := ⟨RX2, "canBe", "(I)Z"⟩
abbrev cX2_heightAbove : ByteArray := prog_4_method_4_code
def yX2_heightAbove : MethodName := ⟨RX2, "heightAbove", "(JJJII)J"⟩
abbrev cX2_add : ByteArray := prog_4_method_5_code
def yX2_add : MethodName := ⟨RX2, "add", "(III)V"⟩
abbrev cX2_become : ByteArray := prog_4_method_6_code
def yX2_become : MethodName := ⟨RX2, "become", "(LYesPlanes$Judges;)V"⟩
abbrev cX2_thin : ByteArray := prog_4_method_7_code
def yX2_thin : MethodName := ⟨RX2, "thin", "(LYesPlanes$Points;)I"⟩
abbrev cX2_sayers : ByteArray := prog_4_method_8_code
def yX2_sayers : MethodName := ⟨RX2, "sayers", "(III)I"⟩
def RX3 : String := "YesPlanes$Learner"
def TX3 : u_T := fun k => match k with
  | 0 => ("YesPlanes$Learner", "p", "J", false)
  | 1 => ("YesPlanes$Learner", "q", "J", false)
  | 2 => ("YesPlanes$Learner", "\x72", "J", false)
  | 3 => ("YesPlanes$Learner", "mistakes", "J", false)
  | _ => ("YesPlanes$Learner", "rounds", "J", false)
def tyX3 : Nat → FieldType := fun k => match k with
  | 0 => .long
  | 1 => .long
  | 2 => .long
  | 3 => .long
  | _ => .long
abbrev wsX30 : List Cond := u_ws RX3 TX3 5
theorem nmX3 : ∀ a, a < 5 → ∀ b, b < 5 → a ≠ b → (TX3 a).2.1 ≠ (TX3 b).2.1 := by decide +kernel
theorem tyX3_ok : ∀ k, k < 5 → parseFieldDescriptor (TX3 k).2.2.1 = some (tyX3 k) := by decide +kernel
abbrev cX3_init : ByteArray := prog_5_method_1_code
def yX3_init : MethodName := ⟨RX3, "<init>", "()V"⟩
abbrev cX3_forget : ByteArray := prog_5_method_2_code
def yX3_forget : MethodName := ⟨RX3, "forget", "()V"⟩
abbrev cX3_become : ByteArray := prog_5_method_3_code
def yX3_become : MethodName := ⟨RX3, "become", "(LYesPlanes$Learner;)V"⟩
abbrev cX3_train : ByteArray := prog_5_method_4_code
def yX3_train : MethodName := ⟨RX3, "train", "(LYesPlanes$Points;I)I"⟩
abbrev cX3_goRound : ByteArray := prog_5_method_5_code
def yX3_goRound : MethodName := ⟨RX3, "goRound", "(LYesPlanes$Points;)I"⟩
abbrev cX3_mend : ByteArray := prog_5_method_6_code
def yX3_mend : MethodName := ⟨RX3, "mend", "(III)V"⟩
def RX4 : String := "YesPlanes$Meeting"
def TX4 : u_T := fun k => match k with
  | 0 => ("YesPlanes$Meeting", "placeX", "LYesPlanes$Fraction;", true)
  | 1 => ("YesPlanes$Meeting", "placeY", "LYesPlanes$Fraction;", true)
  | 2 => ("YesPlanes$Meeting", "kind", "I", false)
  | 3 => ("YesPlanes$Meeting", "many", "I", false)
  | 4 => ("YesPlanes$Meeting", "who", "[I", true)
  | 5 => ("YesPlanes$Meeting", "shares", "[LYesPlanes$Fraction;", true)
  | 6 => ("YesPlanes$Meeting", "yes", "[I", true)
  | 7 => ("YesPlanes$Meeting", "no", "[I", true)
  | 8 => ("YesPlanes$Meeting", "yesMany", "I", false)
  | 9 => ("YesPlanes$Meeting", "noMany", "I", false)
  | _ => ("YesPlanes$Meeting", "seen", "I", false)
def tyX4 : Nat → FieldType := fun k => match k with
  | 0 => .object "YesPlanes$Fraction"
  | 1 => .object "YesPlanes$Fraction"
  | 2 => .int
  | 3 => .int
  | 4 => .array .int
  | 5 => .array (.object "YesPlanes$Fraction")
  | 6 => .array .int
  | 7 => .array .int
  | 8 => .int
  | 9 => .int
  | _ => .int
abbrev wsX40 : List Cond := u_ws RX4 TX4 11
theorem nmX4 : ∀ a, a < 11 → ∀ b, b < 11 → a ≠ b → (TX4 a).2.1 ≠ (TX4 b).2.1 := by decide +kernel
theorem tyX4_ok : ∀ k, k < 11 → parseFieldDescriptor (TX4 k).2.2.1 = some (tyX4 k) := by decide +kernel
abbrev cX4_init : ByteArray := prog_6_method_1_code
def yX4_init : MethodName := ⟨RX4, "<init>", "()V"⟩
abbrev cX4_canTell : ByteArray := prog_6_method_2_code
def yX4_canTell : MethodName := ⟨RX4, "canTell", "(I)Z"⟩
abbrev cX4_tellPoint : ByteArray := prog_6_method_3_code
def yX4_tellPoint : MethodName := ⟨RX4, "tellPoint", "(II)J"⟩
abbrev cX4_find : ByteArray := prog_6_method_4_code
def yX4_find : MethodName := ⟨RX4, "find", "(LYesPlanes$Points;)V"⟩
abbrev cX4_gather : ByteArray := prog_6_method_5_code
def yX4_gather : MethodName := ⟨RX4, "gather", "(LYesPlanes$Points;)V"⟩
abbrev cX4_findOnePlace : ByteArray := prog_6_method_6_code
def yX4_findOnePlace : MethodName := ⟨RX4, "findOnePlace", "(LYesPlanes$Points;)Z"⟩
abbrev cX4_findYesBetween : ByteArray := prog_6_method_7_code
def yX4_findYesBetween : MethodName := ⟨RX4, "findYesBetween", "(LYesPlanes$Points;)Z"⟩
abbrev cX4_findNoBetween : ByteArray := prog_6_method_8_code
def yX4_findNoBetween : MethodName := ⟨RX4, "findNoBetween", "(LYesPlanes$Points;)Z"⟩
abbrev cX4_findYesWithin : ByteArray := prog_6_method_9_code
def yX4_findYesWithin : MethodName := ⟨RX4, "findYesWithin", "(LYesPlanes$Points;)Z"⟩
abbrev cX4_thirdAround : ByteArray := prog_6_method_10_code
def yX4_thirdAround : MethodName := ⟨RX4, "thirdAround", "(LYesPlanes$Points;III)I"⟩
abbrev cX4_findNoWithin : ByteArray := prog_6_method_11_code
def yX4_findNoWithin : MethodName := ⟨RX4, "findNoWithin", "(LYesPlanes$Points;)Z"⟩
abbrev cX4_firstNoWithin : ByteArray := prog_6_method_12_code
def yX4_firstNoWithin : MethodName := ⟨RX4, "firstNoWithin", "(LYesPlanes$Points;III)I"⟩
abbrev cX4_findCrossing : ByteArray := prog_6_method_13_code
def yX4_findCrossing : MethodName := ⟨RX4, "findCrossing", "(LYesPlanes$Points;)Z"⟩
abbrev cX4_otherEndAcross : ByteArray := prog_6_method_14_code
def yX4_otherEndAcross : MethodName := ⟨RX4, "otherEndAcross", "(LYesPlanes$Points;III)I"⟩
abbrev cX4_isSameSide : ByteArray := prog_6_method_15_code
def yX4_isSameSide : MethodName := ⟨RX4, "isSameSide", "(II)Z"⟩
abbrev cX4_isBetween : ByteArray := prog_6_method_16_code
def yX4_isBetween : MethodName := ⟨RX4, "isBetween", "(LYesPlanes$Points;III)Z"⟩
abbrev cX4_hold : ByteArray := prog_6_method_17_code
def yX4_hold : MethodName := ⟨RX4, "hold", "(IIIIII)Z"⟩
abbrev cX4_shareAlone : ByteArray := prog_6_method_18_code
def yX4_shareAlone : MethodName := ⟨RX4, "shareAlone", "(LYesPlanes$Points;I)V"⟩
abbrev cX4_shareBetween : ByteArray := prog_6_method_19_code
def yX4_shareBetween : MethodName := ⟨RX4, "shareBetween", "(LYesPlanes$Points;II)V"⟩
abbrev cX4_shareWithin : ByteArray := prog_6_method_20_code
def yX4_shareWithin : MethodName := ⟨RX4, "shareWithin", "(LYesPlanes$Points;II)V"⟩
abbrev cX4_shareCrossing : ByteArray := prog_6_method_21_code
def yX4_shareCrossing : MethodName := ⟨RX4, "shareCrossing", "(LYesPlanes$Points;)V"⟩
abbrev cX4_shareEnds : ByteArray := prog_6_method_22_code
def yX4_shareEnds : MethodName := ⟨RX4, "shareEnds", "(LYesPlanes$Points;II)V"⟩
def RX5 : String := "YesPlanes$Partings"
def TX5 : u_T := fun k => match k with
  | 0 => ("YesPlanes$Partings", "leastWrong", "I", false)
  | 1 => ("YesPlanes$Partings", "leastWrongSet", "I", false)
  | 2 => ("YesPlanes$Partings", "marks", "[J", true)
  | _ => ("YesPlanes$Partings", "all", "I", false)
def tyX5 : Nat → FieldType := fun k => match k with
  | 0 => .int
  | 1 => .int
  | 2 => .array .long
  | _ => .int
abbrev wsX50 : List Cond := u_ws RX5 TX5 4
theorem nmX5 : ∀ a, a < 4 → ∀ b, b < 4 → a ≠ b → (TX5 a).2.1 ≠ (TX5 b).2.1 := by decide +kernel
theorem tyX5_ok : ∀ k, k < 4 → parseFieldDescriptor (TX5 k).2.2.1 = some (tyX5 k) := by decide +kernel
abbrev cX5_init : ByteArray := prog_7_method_1_code
def yX5_init : MethodName := ⟨RX5, "<init>", "()V"⟩
abbrev cX5_fits : ByteArray := prog_7_method_2_code
def yX5_fits : MethodName := ⟨RX5, "fits", "(II)Z"⟩
abbrev cX5_find : ByteArray := prog_7_method_3_code
def yX5_find : MethodName := ⟨RX5, "find", "(LYesPlanes$Points;I)V"⟩
abbrev cX5_markAlong : ByteArray := prog_7_method_4_code
def yX5_markAlong : MethodName := ⟨RX5, "markAlong", "(LYesPlanes$Points;III)V"⟩
abbrev cX5_markBoth : ByteArray := prog_7_method_5_code
def yX5_markBoth : MethodName := ⟨RX5, "markBoth", "(I)V"⟩
abbrev cX5_mark : ByteArray := prog_7_method_6_code
def yX5_mark : MethodName := ⟨RX5, "mark", "(I)V"⟩
abbrev cX5_isMarked : ByteArray := prog_7_method_7_code
def yX5_isMarked : MethodName := ⟨RX5, "isMarked", "(I)Z"⟩
abbrev cX5_tally : ByteArray := prog_7_method_8_code
def yX5_tally : MethodName := ⟨RX5, "tally", "()I"⟩
abbrev cX5_findLeastWrong : ByteArray := prog_7_method_9_code
def yX5_findLeastWrong : MethodName := ⟨RX5, "findLeastWrong", "(LYesPlanes$Points;I)V"⟩
abbrev cX5_wrongBy : ByteArray := prog_7_method_10_code
def yX5_wrongBy : MethodName := ⟨RX5, "wrongBy", "(LYesPlanes$Points;II)I"⟩
abbrev cX5_isShattered : ByteArray := prog_7_method_11_code
def yX5_isShattered : MethodName := ⟨RX5, "isShattered", "(LYesPlanes$Points;I)Z"⟩
abbrev cX5_nextOf : ByteArray := prog_7_method_12_code
def yX5_nextOf : MethodName := ⟨RX5, "nextOf", "(LYesPlanes$Points;II)I"⟩
def RX6 : String := "YesPlanes$Points"
def TX6 : u_T := fun k => match k with
  | 0 => ("YesPlanes$Points", "x", "[I", true)
  | 1 => ("YesPlanes$Points", "y", "[I", true)
  | 2 => ("YesPlanes$Points", "colour", "[I", true)
  | 3 => ("YesPlanes$Points", "weight", "[I", true)
  | 4 => ("YesPlanes$Points", "many", "I", false)
  | _ => ("YesPlanes$Points", "changes", "I", false)
def tyX6 : Nat → FieldType := fun k => match k with
  | 0 => .array .int
  | 1 => .array .int
  | 2 => .array .int
  | 3 => .array .int
  | 4 => .int
  | _ => .int
abbrev wsX60 : List Cond := u_ws RX6 TX6 6
theorem nmX6 : ∀ a, a < 6 → ∀ b, b < 6 → a ≠ b → (TX6 a).2.1 ≠ (TX6 b).2.1 := by decide +kernel
theorem tyX6_ok : ∀ k, k < 6 → parseFieldDescriptor (TX6 k).2.2.1 = some (tyX6 k) := by decide +kernel
abbrev cX6_init : ByteArray := prog_8_method_1_code
def yX6_init : MethodName := ⟨RX6, "<init>", "()V"⟩
abbrev cX6_isNear : ByteArray := prog_8_method_2_code
def yX6_isNear : MethodName := ⟨RX6, "isNear", "(J)Z"⟩
abbrev cX6_isColour : ByteArray := prog_8_method_3_code
def yX6_isColour : MethodName := ⟨RX6, "isColour", "(I)Z"⟩
abbrev cX6_has : ByteArray := prog_8_method_4_code
def yX6_has : MethodName := ⟨RX6, "has", "(I)Z"⟩
abbrev cX6_add : ByteArray := prog_8_method_5_code
def yX6_add : MethodName := ⟨RX6, "add", "(III)V"⟩
abbrev cX6_remove : ByteArray := prog_8_method_6_code
def yX6_remove : MethodName := ⟨RX6, "remove", "(I)V"⟩
abbrev cX6_repaint : ByteArray := prog_8_method_7_code
def yX6_repaint : MethodName := ⟨RX6, "repaint", "(III)V"⟩
abbrev cX6_become : ByteArray := prog_8_method_8_code
def yX6_become : MethodName := ⟨RX6, "become", "(LYesPlanes$Points;)V"⟩
abbrev cX6_tally : ByteArray := prog_8_method_9_code
def yX6_tally : MethodName := ⟨RX6, "tally", "(I)I"⟩
abbrev cX6_hasBothColours : ByteArray := prog_8_method_10_code
def yX6_hasBothColours : MethodName := ⟨RX6, "hasBothColours", "()Z"⟩
abbrev cX6_allWeights : ByteArray := prog_8_method_11_code
def yX6_allWeights : MethodName := ⟨RX6, "allWeights", "()I"⟩
abbrev cX6_samePlace : ByteArray := prog_8_method_12_code
def yX6_samePlace : MethodName := ⟨RX6, "samePlace", "(II)Z"⟩
abbrev cX6_coloursShareAPlace : ByteArray := prog_8_method_13_code
def yX6_coloursShareAPlace : MethodName := ⟨RX6, "coloursShareAPlace", "()Z"⟩
abbrev cX6_turn : ByteArray := prog_8_method_14_code
def yX6_turn : MethodName := ⟨RX6, "turn", "(III)I"⟩
abbrev cX6_reach : ByteArray := prog_8_method_15_code
def yX6_reach : MethodName := ⟨RX6, "reach", "(III)I"⟩
def RX7 : String := "YesPlanes$Shape"
def TX7 : u_T := fun k => match k with
  | 0 => ("YesPlanes$Shape", "corner", "[I", true)
  | _ => ("YesPlanes$Shape", "corners", "I", false)
def tyX7 : Nat → FieldType := fun k => match k with
  | 0 => .array .int
  | _ => .int
abbrev wsX70 : List Cond := u_ws RX7 TX7 2
theorem nmX7 : ∀ a, a < 2 → ∀ b, b < 2 → a ≠ b → (TX7 a).2.1 ≠ (TX7 b).2.1 := by decide +kernel
theorem tyX7_ok : ∀ k, k < 2 → parseFieldDescriptor (TX7 k).2.2.1 = some (tyX7 k) := by decide +kernel
abbrev cX7_init : ByteArray := prog_9_method_1_code
def yX7_init : MethodName := ⟨RX7, "<init>", "()V"⟩
abbrev cX7_wrap : ByteArray := prog_9_method_2_code
def yX7_wrap : MethodName := ⟨RX7, "wrap", "(LYesPlanes$Points;I)V"⟩
abbrev cX7_lowest : ByteArray := prog_9_method_3_code
def yX7_lowest : MethodName := ⟨RX7, "lowest", "(LYesPlanes$Points;I)I"⟩
abbrev cX7_isLower : ByteArray := prog_9_method_4_code
def yX7_isLower : MethodName := ⟨RX7, "isLower", "(LYesPlanes$Points;II)Z"⟩
abbrev cX7_nextCorner : ByteArray := prog_9_method_5_code
def yX7_nextCorner : MethodName := ⟨RX7, "nextCorner", "(LYesPlanes$Points;II)I"⟩
abbrev cX7_isOuter : ByteArray := prog_9_method_6_code
def yX7_isOuter : MethodName := ⟨RX7, "isOuter", "(LYesPlanes$Points;III)Z"⟩
abbrev cX7_depthAt : ByteArray := prog_9_method_7_code
def yX7_depthAt : MethodName := ⟨RX7, "depthAt", "(LYesPlanes$Points;II)I"⟩
abbrev cX7_lighterSide : ByteArray := prog_9_method_8_code
def yX7_lighterSide : MethodName := ⟨RX7, "lighterSide", "(LYesPlanes$Points;IIII)I"⟩
abbrev cX7_firstHalving : ByteArray := prog_9_method_9_code
def yX7_firstHalving : MethodName := ⟨RX7, "firstHalving", "(LYesPlanes$Points;)I"⟩
abbrev cX7_isHalving : ByteArray := prog_9_method_10_code
def yX7_isHalving : MethodName := ⟨RX7, "isHalving", "(LYesPlanes$Points;IIII)Z"⟩
def RX8 : String := "YesPlanes$Sheet"
def TX8 : u_T := fun k => match k with
  | 0 => ("YesPlanes$Sheet", "row", "[J", true)
  | 1 => ("YesPlanes$Sheet", "there", "Z", false)
  | 2 => ("YesPlanes$Sheet", "kindOfNumber", "I", false)
  | _ => ("YesPlanes$Sheet", "length", "I", false)
def tyX8 : Nat → FieldType := fun k => match k with
  | 0 => .array .long
  | 1 => .boolean
  | 2 => .int
  | _ => .int
abbrev wsX80 : List Cond := u_ws RX8 TX8 4
theorem nmX8 : ∀ a, a < 4 → ∀ b, b < 4 → a ≠ b → (TX8 a).2.1 ≠ (TX8 b).2.1 := by decide +kernel
theorem tyX8_ok : ∀ k, k < 4 → parseFieldDescriptor (TX8 k).2.2.1 = some (tyX8 k) := by decide +kernel
abbrev cX8_init : ByteArray := prog_10_method_1_code
def yX8_init : MethodName := ⟨RX8, "<init>", "()V"⟩
abbrev cX8_lay : ByteArray := prog_10_method_2_code
def yX8_lay : MethodName := ⟨RX8, "lay", "(II)V"⟩
abbrev cX8_tear : ByteArray := prog_10_method_3_code
def yX8_tear : MethodName := ⟨RX8, "tear", "()V"⟩
abbrev cX8_has : ByteArray := prog_10_method_4_code
def yX8_has : MethodName := ⟨RX8, "has", "(I)Z"⟩
abbrev cX8_hasAll : ByteArray := prog_10_method_5_code
def yX8_hasAll : MethodName := ⟨RX8, "hasAll", "(II)Z"⟩
abbrev cX8_put : ByteArray := prog_10_method_6_code
def yX8_put : MethodName := ⟨RX8, "put", "(IJ)V"⟩
abbrev cX8_putAll : ByteArray := prog_10_method_7_code
def yX8_putAll : MethodName := ⟨RX8, "putAll", "(ILYesPlanes$Sheet;II)V"⟩
abbrev cX8_hasEveryX : ByteArray := prog_10_method_8_code
def yX8_hasEveryX : MethodName := ⟨RX8, "hasEveryX", "(II)Z"⟩
abbrev cX8_hasNearPlaces : ByteArray := prog_10_method_9_code
def yX8_hasNearPlaces : MethodName := ⟨RX8, "hasNearPlaces", "(II)Z"⟩
abbrev cX8_numberOrZero : ByteArray := prog_10_method_10_code
def yX8_numberOrZero : MethodName := ⟨RX8, "numberOrZero", "(I)J"⟩
abbrev cX8_cut : ByteArray := prog_10_method_11_code
def yX8_cut : MethodName := ⟨RX8, "cut", "(J)J"⟩
def RX9 : String := "YesPlanes$Strong"
def TX9 : u_T := fun k => match k with
  | 0 => ("YesPlanes$Strong", "axis", "[I", true)
  | 1 => ("YesPlanes$Strong", "edge", "[I", true)
  | 2 => ("YesPlanes$Strong", "sign", "[I", true)
  | 3 => ("YesPlanes$Strong", "wrong", "[J", true)
  | 4 => ("YesPlanes$Strong", "whole", "[J", true)
  | 5 => ("YesPlanes$Strong", "masses", "[J", true)
  | 6 => ("YesPlanes$Strong", "many", "I", false)
  | 7 => ("YesPlanes$Strong", "kept", "I", false)
  | 8 => ("YesPlanes$Strong", "ending", "I", false)
  | 9 => ("YesPlanes$Strong", "fresh", "[J", true)
  | 10 => ("YesPlanes$Strong", "forYes", "[J", true)
  | 11 => ("YesPlanes$Strong", "forNo", "[J", true)
  | 12 => ("YesPlanes$Strong", "chosenAxis", "I", false)
  | 13 => ("YesPlanes$Strong", "chosenEdge", "I", false)
  | 14 => ("YesPlanes$Strong", "chosenSign", "I", false)
  | 15 => ("YesPlanes$Strong", "chosenWrong", "J", false)
  | _ => ("YesPlanes$Strong", "total", "J", false)
def tyX9 : Nat → FieldType := fun k => match k with
  | 0 => .array .int
  | 1 => .array .int
  | 2 => .array .int
  | 3 => .array .long
  | 4 => .array .long
  | 5 => .array .long
  | 6 => .int
  | 7 => .int
  | 8 => .int
  | 9 => .array .long
  | 10 => .array .long
  | 11 => .array .long
  | 12 => .int
  | 13 => .int
  | 14 => .int
  | 15 => .long
  | _ => .long
abbrev wsX90 : List Cond := u_ws RX9 TX9 17
theorem nmX9 : ∀ a, a < 17 → ∀ b, b < 17 → a ≠ b → (TX9 a).2.1 ≠ (TX9 b).2.1 := by decide +kernel
theorem tyX9_ok : ∀ k, k < 17 → parseFieldDescriptor (TX9 k).2.2.1 = some (tyX9 k) := by decide +kernel
abbrev cX9_init : ByteArray := prog_11_method_1_code
def yX9_init : MethodName := ⟨RX9, "<init>", "()V"⟩
abbrev cX9_make : ByteArray := prog_11_method_2_code
def yX9_make : MethodName := ⟨RX9, "make", "(LYesPlanes$Points;I)V"⟩
abbrev cX9_playRound : ByteArray := prog_11_method_3_code
def yX9_playRound : MethodName := ⟨RX9, "playRound", "(LYesPlanes$Points;)V"⟩
abbrev cX9_keepChosen : ByteArray := prog_11_method_4_code
def yX9_keepChosen : MethodName := ⟨RX9, "keepChosen", "()V"⟩
abbrev cX9_choose : ByteArray := prog_11_method_5_code
def yX9_choose : MethodName := ⟨RX9, "choose", "(LYesPlanes$Points;)V"⟩
abbrev cX9_weigh : ByteArray := prog_11_method_6_code
def yX9_weigh : MethodName := ⟨RX9, "weigh", "(LYesPlanes$Points;II)V"⟩
abbrev cX9_offer : ByteArray := prog_11_method_7_code
def yX9_offer : MethodName := ⟨RX9, "offer", "(IIIJ)V"⟩
abbrev cX9_saysYes : ByteArray := prog_11_method_8_code
def yX9_saysYes : MethodName := ⟨RX9, "saysYes", "(IIIII)Z"⟩
abbrev cX9_isWrong : ByteArray := prog_11_method_9_code
def yX9_isWrong : MethodName := ⟨RX9, "isWrong", "(LYesPlanes$Points;I)Z"⟩
abbrev cX9_commonMass : ByteArray := prog_11_method_10_code
def yX9_commonMass : MethodName := ⟨RX9, "commonMass", "(LYesPlanes$Points;Z)J"⟩
abbrev cX9_reweigh : ByteArray := prog_11_method_11_code
def yX9_reweigh : MethodName := ⟨RX9, "reweigh", "(LYesPlanes$Points;)Z"⟩
abbrev cX9_poll : ByteArray := prog_11_method_12_code
def yX9_poll : MethodName := ⟨RX9, "poll", "(II)I"⟩
abbrev cX9_setToOne : ByteArray := prog_11_method_13_code
def yX9_setToOne : MethodName := ⟨RX9, "setToOne", "([J)V"⟩
abbrev cX9_multiply : ByteArray := prog_11_method_14_code
def yX9_multiply : MethodName := ⟨RX9, "multiply", "([JJ)V"⟩
def RX10 : String := "YesPlanes$Way"
def TX10 : u_T := fun k => match k with
  | 0 => ("YesPlanes$Way", "width", "LYesPlanes$Fraction;", true)
  | 1 => ("YesPlanes$Way", "there", "Z", false)
  | 2 => ("YesPlanes$Way", "lineA", "J", false)
  | 3 => ("YesPlanes$Way", "lineB", "J", false)
  | 4 => ("YesPlanes$Way", "lineC", "J", false)
  | 5 => ("YesPlanes$Way", "sidePoints", "I", false)
  | 6 => ("YesPlanes$Way", "seen", "I", false)
  | 7 => ("YesPlanes$Way", "a", "I", false)
  | 8 => ("YesPlanes$Way", "b", "I", false)
  | 9 => ("YesPlanes$Way", "lowYes", "I", false)
  | _ => ("YesPlanes$Way", "highNo", "I", false)
def tyX10 : Nat → FieldType := fun k => match k with
  | 0 => .object "YesPlanes$Fraction"
  | 1 => .boolean
  | 2 => .long
  | 3 => .long
  | 4 => .long
  | 5 => .int
  | 6 => .int
  | 7 => .int
  | 8 => .int
  | 9 => .int
  | _ => .int
abbrev wsX100 : List Cond := u_ws RX10 TX10 11
theorem nmX10 : ∀ a, a < 11 → ∀ b, b < 11 → a ≠ b → (TX10 a).2.1 ≠ (TX10 b).2.1 := by decide +kernel
theorem tyX10_ok : ∀ k, k < 11 → parseFieldDescriptor (TX10 k).2.2.1 = some (tyX10 k) := by decide +kernel
abbrev cX10_init : ByteArray := prog_12_method_1_code
def yX10_init : MethodName := ⟨RX10, "<init>", "()V"⟩
abbrev cX10_find : ByteArray := prog_12_method_2_code
def yX10_find : MethodName := ⟨RX10, "find", "(LYesPlanes$Points;)V"⟩
abbrev cX10_isAtSide : ByteArray := prog_12_method_3_code
def yX10_isAtSide : MethodName := ⟨RX10, "isAtSide", "(LYesPlanes$Points;I)Z"⟩
abbrev cX10_tryPair : ByteArray := prog_12_method_4_code
def yX10_tryPair : MethodName := ⟨RX10, "tryPair", "(LYesPlanes$Points;II)V"⟩
abbrev cX10_tryAcross : ByteArray := prog_12_method_5_code
def yX10_tryAcross : MethodName := ⟨RX10, "tryAcross", "(LYesPlanes$Points;II)V"⟩
abbrev cX10_isWider : ByteArray := prog_12_method_6_code
def yX10_isWider : MethodName := ⟨RX10, "isWider", "(JII)Z"⟩
abbrev cX10_finish : ByteArray := prog_12_method_7_code
def yX10_finish : MethodName := ⟨RX10, "finish", "(LYesPlanes$Points;)V"⟩
abbrev cX10_squareSum : ByteArray := prog_12_method_8_code
def yX10_squareSum : MethodName := ⟨RX10, "squareSum", "(JJ)J"⟩
def RX11 : String := "YesPlanes"
def TX11 : u_T := fun k => match k with
  | 0 => ("YesPlanes", "points", "LYesPlanes$Points;", true)
  | 1 => ("YesPlanes", "judges", "LYesPlanes$Judges;", true)
  | 2 => ("YesPlanes", "learner", "LYesPlanes$Learner;", true)
  | 3 => ("YesPlanes", "sheets", "[LYesPlanes$Sheet;", true)
  | 4 => ("YesPlanes", "keptPoints", "[LYesPlanes$Points;", true)
  | 5 => ("YesPlanes", "keptJudges", "[LYesPlanes$Judges;", true)
  | 6 => ("YesPlanes", "keptLearners", "[LYesPlanes$Learner;", true)
  | 7 => ("YesPlanes", "imageThere", "[Z", true)
  | 8 => ("YesPlanes", "way", "LYesPlanes$Way;", true)
  | 9 => ("YesPlanes", "meeting", "LYesPlanes$Meeting;", true)
  | 10 => ("YesPlanes", "partings", "LYesPlanes$Partings;", true)
  | 11 => ("YesPlanes", "latestStrong", "LYesPlanes$Strong;", true)
  | 12 => ("YesPlanes", "shape", "LYesPlanes$Shape;", true)
  | 13 => ("YesPlanes", "cover", "LYesPlanes$Cover;", true)
  | _ => ("YesPlanes", "refusedBy", "I", false)
def tyX11 : Nat → FieldType := fun k => match k with
  | 0 => .object "YesPlanes$Points"
  | 1 => .object "YesPlanes$Judges"
  | 2 => .object "YesPlanes$Learner"
  | 3 => .array (.object "YesPlanes$Sheet")
  | 4 => .array (.object "YesPlanes$Points")
  | 5 => .array (.object "YesPlanes$Judges")
  | 6 => .array (.object "YesPlanes$Learner")
  | 7 => .array .boolean
  | 8 => .object "YesPlanes$Way"
  | 9 => .object "YesPlanes$Meeting"
  | 10 => .object "YesPlanes$Partings"
  | 11 => .object "YesPlanes$Strong"
  | 12 => .object "YesPlanes$Shape"
  | 13 => .object "YesPlanes$Cover"
  | _ => .int
abbrev wsX110 : List Cond := u_ws RX11 TX11 15
theorem nmX11 : ∀ a, a < 15 → ∀ b, b < 15 → a ≠ b → (TX11 a).2.1 ≠ (TX11 b).2.1 := by decide +kernel
theorem tyX11_ok : ∀ k, k < 15 → parseFieldDescriptor (TX11 k).2.2.1 = some (tyX11 k) := by decide +kernel
abbrev cX11_init : ByteArray := prog_1_method_1_code
def yX11_init : MethodName := ⟨RX11, "<init>", "()V"⟩
abbrev cX11_point : ByteArray := prog_1_method_2_code
def yX11_point : MethodName := ⟨RX11, "point", "(III)I"⟩
abbrev cX11_of : ByteArray := prog_1_method_3_code
def yX11_of : MethodName := ⟨RX11, "of", "(II)I"⟩
abbrev cX11_drop : ByteArray := prog_1_method_4_code
def yX11_drop : MethodName := ⟨RX11, "drop", "(I)I"⟩
abbrev cX11_paint : ByteArray := prog_1_method_5_code
def yX11_paint : MethodName := ⟨RX11, "paint", "(III)I"⟩
abbrev cX11_sheet : ByteArray := prog_1_method_6_code
def yX11_sheet : MethodName := ⟨RX11, "sheet", "(III)I"⟩
abbrev cX11_write : ByteArray := prog_1_method_7_code
def yX11_write : MethodName := ⟨RX11, "write", "(IIJ)I"⟩
abbrev cX11_read : ByteArray := prog_1_method_8_code
def yX11_read : MethodName := ⟨RX11, "read", "(II)J"⟩
abbrev cX11_copy : ByteArray := prog_1_method_9_code
def yX11_copy : MethodName := ⟨RX11, "copy", "(IIIII)I"⟩
abbrev cX11_take : ByteArray := prog_1_method_10_code
def yX11_take : MethodName := ⟨RX11, "take", "(IIII)I"⟩
abbrev cX11_parted : ByteArray := prog_1_method_11_code
def yX11_parted : MethodName := ⟨RX11, "parted", "()I"⟩
abbrev cX11_wide : ByteArray := prog_1_method_12_code
def yX11_wide : MethodName := ⟨RX11, "wide", "(I)J"⟩
abbrev cX11_side : ByteArray := prog_1_method_13_code
def yX11_side : MethodName := ⟨RX11, "side", "(I)I"⟩
abbrev cX11_meet : ByteArray := prog_1_method_14_code
def yX11_meet : MethodName := ⟨RX11, "meet", "(I)J"⟩
abbrev cX11_check : ByteArray := prog_1_method_15_code
def yX11_check : MethodName := ⟨RX11, "check", "(III)I"⟩
abbrev cX11_ways : ByteArray := prog_1_method_16_code
def yX11_ways : MethodName := ⟨RX11, "ways", "(I)I"⟩
abbrev cX11_isWay : ByteArray := prog_1_method_17_code
def yX11_isWay : MethodName := ⟨RX11, "isWay", "(II)I"⟩
abbrev cX11_best : ByteArray := prog_1_method_18_code
def yX11_best : MethodName := ⟨RX11, "best", "(II)I"⟩
abbrev cX11_shatter : ByteArray := prog_1_method_19_code
def yX11_shatter : MethodName := ⟨RX11, "shatter", "(I)I"⟩
abbrev cX11_learn : ByteArray := prog_1_method_20_code
def yX11_learn : MethodName := ⟨RX11, "learn", "(I)I"⟩
abbrev cX11_learnt : ByteArray := prog_1_method_21_code
def yX11_learnt : MethodName := ⟨RX11, "learnt", "(I)J"⟩
abbrev cX11_anew : ByteArray := prog_1_method_22_code
def yX11_anew : MethodName := ⟨RX11, "anew", "()I"⟩
abbrev cX11_judge : ByteArray := prog_1_method_23_code
def yX11_judge : MethodName := ⟨RX11, "judge", "(III)I"⟩
abbrev cX11_halve : ByteArray := prog_1_method_24_code
def yX11_halve : MethodName := ⟨RX11, "halve", "()I"⟩
abbrev cX11_left : ByteArray := prog_1_method_25_code
def yX11_left : MethodName := ⟨RX11, "left", "()I"⟩
abbrev cX11_dismiss : ByteArray := prog_1_method_26_code
def yX11_dismiss : MethodName := ⟨RX11, "dismiss", "()I"⟩
abbrev cX11_strong : ByteArray := prog_1_method_27_code
def yX11_strong : MethodName := ⟨RX11, "strong", "(I)I"⟩
abbrev cX11_step : ByteArray := prog_1_method_28_code
def yX11_step : MethodName := ⟨RX11, "step", "(II)J"⟩
abbrev cX11_end : ByteArray := prog_1_method_29_code
def yX11_end : MethodName := ⟨RX11, "end", "()I"⟩
abbrev cX11_mass : ByteArray := prog_1_method_30_code
def yX11_mass : MethodName := ⟨RX11, "mass", "(I)J"⟩
abbrev cX11_vote : ByteArray := prog_1_method_31_code
def yX11_vote : MethodName := ⟨RX11, "vote", "(II)I"⟩
abbrev cX11_hull : ByteArray := prog_1_method_32_code
def yX11_hull : MethodName := ⟨RX11, "hull", "(II)I"⟩
abbrev cX11_depth : ByteArray := prog_1_method_33_code
def yX11_depth : MethodName := ⟨RX11, "depth", "(II)I"⟩
abbrev cX11_halves : ByteArray := prog_1_method_34_code
def yX11_halves : MethodName := ⟨RX11, "halves", "()I"⟩
abbrev cX11_boxes : ByteArray := prog_1_method_35_code
def yX11_boxes : MethodName := ⟨RX11, "boxes", "()I"⟩
abbrev cX11_image : ByteArray := prog_1_method_36_code
def yX11_image : MethodName := ⟨RX11, "image", "(I)I"⟩
abbrev cX11_back : ByteArray := prog_1_method_37_code
def yX11_back : MethodName := ⟨RX11, "back", "(I)I"⟩
abbrev cX11_count : ByteArray := prog_1_method_38_code
def yX11_count : MethodName := ⟨RX11, "count", "(I)I"⟩
abbrev cX11_status : ByteArray := prog_1_method_39_code
def yX11_status : MethodName := ⟨RX11, "status", "()I"⟩
abbrev cX11_told : ByteArray := prog_1_method_40_code
def yX11_told : MethodName := ⟨RX11, "told", "(I)I"⟩
abbrev cX11_areParted : ByteArray := prog_1_method_41_code
def yX11_areParted : MethodName := ⟨RX11, "areParted", "()Z"⟩
abbrev cX11_canPartFirst : ByteArray := prog_1_method_42_code
def yX11_canPartFirst : MethodName := ⟨RX11, "canPartFirst", "(I)Z"⟩
abbrev cX11_sheetsThere : ByteArray := prog_1_method_43_code
def yX11_sheetsThere : MethodName := ⟨RX11, "sheetsThere", "()I"⟩
abbrev cX11_isSheet : ByteArray := prog_1_method_44_code
def yX11_isSheet : MethodName := ⟨RX11, "isSheet", "(I)Z"⟩
abbrev cX11_isImage : ByteArray := prog_1_method_45_code
def yX11_isImage : MethodName := ⟨RX11, "isImage", "(I)Z"⟩
def RX12 : String := "YesPlanesModel"
def TX12 : u_T := fun k => match k with
  | 0 => ("YesPlanesModel", "thrown", "I", false)
  | 1 => ("YesPlanesModel", "status", "I", false)
  | 2 => ("YesPlanesModel", "px", "[I", true)
  | 3 => ("YesPlanesModel", "py", "[I", true)
  | 4 => ("YesPlanesModel", "pc", "[I", true)
  | 5 => ("YesPlanesModel", "pw", "[I", true)
  | 6 => ("YesPlanesModel", "points", "I", false)
  | 7 => ("YesPlanesModel", "sheet", "[J", true)
  | 8 => ("YesPlanesModel", "sheetSort", "[I", true)
  | 9 => ("YesPlanesModel", "sheetLen", "[I", true)
  | 10 => ("YesPlanesModel", "spare", "[J", true)
  | 11 => ("YesPlanesModel", "meets", "I", false)
  | 12 => ("YesPlanesModel", "meetMany", "I", false)
  | 13 => ("YesPlanesModel", "meetPoint", "[I", true)
  | 14 => ("YesPlanesModel", "shareUp", "[J", true)
  | 15 => ("YesPlanesModel", "shareLow", "[J", true)
  | 16 => ("YesPlanesModel", "placeX", "J", false)
  | 17 => ("YesPlanesModel", "placeY", "J", false)
  | 18 => ("YesPlanesModel", "placeLow", "J", false)
  | 19 => ("YesPlanesModel", "hasWay", "Z", false)
  | 20 => ("YesPlanesModel", "wayA", "J", false)
  | 21 => ("YesPlanesModel", "wayB", "J", false)
  | 22 => ("YesPlanesModel", "wayNo", "J", false)
  | 23 => ("YesPlanesModel", "wayYes", "J", false)
  | 24 => ("YesPlanesModel", "isSet", "[Z", true)
  | 25 => ("YesPlanesModel", "chosen", "[I", true)
  | 26 => ("YesPlanesModel", "chosenMany", "I", false)
  | 27 => ("YesPlanesModel", "along", "[I", true)
  | 28 => ("YesPlanesModel", "p", "J", false)
  | 29 => ("YesPlanesModel", "q", "J", false)
  | 30 => ("YesPlanesModel", "\x72", "J", false)
  | 31 => ("YesPlanesModel", "mistakes", "J", false)
  | 32 => ("YesPlanesModel", "rounds", "J", false)
  | 33 => ("YesPlanesModel", "ja", "[I", true)
  | 34 => ("YesPlanesModel", "jb", "[I", true)
  | 35 => ("YesPlanesModel", "jc", "[I", true)
  | 36 => ("YesPlanesModel", "judges", "I", false)
  | 37 => ("YesPlanesModel", "left", "I", false)
  | 38 => ("YesPlanesModel", "sAxis", "[I", true)
  | 39 => ("YesPlanesModel", "sAt", "[I", true)
  | 40 => ("YesPlanesModel", "sSign", "[I", true)
  | 41 => ("YesPlanesModel", "sWrong", "[J", true)
  | 42 => ("YesPlanesModel", "sAll", "[J", true)
  | 43 => ("YesPlanesModel", "steps", "I", false)
  | 44 => ("YesPlanesModel", "ended", "I", false)
  | 45 => ("YesPlanesModel", "mass", "[J", true)
  | 46 => ("YesPlanesModel", "masses", "I", false)
  | 47 => ("YesPlanesModel", "forYes", "[I", true)
  | 48 => ("YesPlanesModel", "forNo", "[I", true)
  | 49 => ("YesPlanesModel", "other", "[I", true)
  | 50 => ("YesPlanesModel", "corners", "[I", true)
  | 51 => ("YesPlanesModel", "cornerMany", "I", false)
  | 52 => ("YesPlanesModel", "yesAt", "[I", true)
  | 53 => ("YesPlanesModel", "fewest", "[I", true)
  | 54 => ("YesPlanesModel", "isBox", "[Z", true)
  | 55 => ("YesPlanesModel", "iIs", "[Z", true)
  | 56 => ("YesPlanesModel", "iPoints", "[I", true)
  | 57 => ("YesPlanesModel", "iNumbers", "[I", true)
  | 58 => ("YesPlanesModel", "iJudges", "[I", true)
  | 59 => ("YesPlanesModel", "iLines", "[I", true)
  | _ => ("YesPlanesModel", "iLearnt", "[J", true)
def tyX12 : Nat → FieldType := fun k => match k with
  | 0 => .int
  | 1 => .int
  | 2 => .array .int
  | 3 => .array .int
  | 4 => .array .int
  | 5 => .array .int
  | 6 => .int
  | 7 => .array .long
  | 8 => .array .int
  | 9 => .array .int
  | 10 => .array .long
  | 11 => .int
  | 12 => .int
  | 13 => .array .int
  | 14 => .array .long
  | 15 => .array .long
  | 16 => .long
  | 17 => .long
  | 18 => .long
  | 19 => .boolean
  | 20 => .long
  | 21 => .long
  | 22 => .long
  | 23 => .long
  | 24 => .array .boolean
  | 25 => .array .int
  | 26 => .int
  | 27 => .array .int
  | 28 => .long
  | 29 => .long
  | 30 => .long
  | 31 => .long
  | 32 => .long
  | 33 => .array .int
  | 34 => .array .int
  | 35 => .array .int
  | 36 => .int
  | 37 => .int
  | 38 => .array .int
  | 39 => .array .int
  | 40 => .array .int
  | 41 => .array .long
  | 42 => .array .long
  | 43 => .int
  | 44 => .int
  | 45 => .array .long
  | 46 => .int
  | 47 => .array .int
  | 48 => .array .int
  | 49 => .array .int
  | 50 => .array .int
  | 51 => .int
  | 52 => .array .int
  | 53 => .array .int
  | 54 => .array .boolean
  | 55 => .array .boolean
  | 56 => .array .int
  | 57 => .array .int
  | 58 => .array .int
  | 59 => .array .int
  | _ => .array .long
abbrev wsX120 : List Cond := u_ws RX12 TX12 61
theorem nmX12 : ∀ a, a < 61 → ∀ b, b < 61 → a ≠ b → (TX12 a).2.1 ≠ (TX12 b).2.1 := by decide +kernel
theorem tyX12_ok : ∀ k, k < 61 → parseFieldDescriptor (TX12 k).2.2.1 = some (tyX12 k) := by decide +kernel
abbrev cX12_init : ByteArray := prog_14_method_1_code
def yX12_init : MethodName := ⟨RX12, "<init>", "()V"⟩
abbrev cX12_in : ByteArray := prog_14_method_3_code
def yX12_in : MethodName := ⟨RX12, "in", "(JJJ)Z"⟩
abbrev cX12_told : ByteArray := prog_14_method_4_code
def yX12_told : MethodName := ⟨RX12, "told", "(I)I"⟩
abbrev cX12_divisor : ByteArray := prog_14_method_5_code
def yX12_divisor : MethodName := ⟨RX12, "divisor", "(JJ)J"⟩
abbrev cX12_isPoint : ByteArray := prog_14_method_6_code
def yX12_isPoint : MethodName := ⟨RX12, "isPoint", "(I)Z"⟩
abbrev cX12_add : ByteArray := prog_14_method_7_code
def yX12_add : MethodName := ⟨RX12, "add", "(III)V"⟩
abbrev cX12_point : ByteArray := prog_14_method_8_code
def yX12_point : MethodName := ⟨RX12, "point", "(III)I"⟩
abbrev cX12_of : ByteArray := prog_14_method_9_code
def yX12_of : MethodName := ⟨RX12, "of", "(II)I"⟩
abbrev cX12_drop : ByteArray := prog_14_method_10_code
def yX12_drop : MethodName := ⟨RX12, "drop", "(I)I"⟩
abbrev cX12_paint : ByteArray := prog_14_method_11_code
def yX12_paint : MethodName := ⟨RX12, "paint", "(III)I"⟩
abbrev cX12_cut : ByteArray := prog_14_method_12_code
def yX12_cut : MethodName := ⟨RX12, "cut", "(IJ)J"⟩
abbrev cX12_isSheet : ByteArray := prog_14_method_13_code
def yX12_isSheet : MethodName := ⟨RX12, "isSheet", "(I)Z"⟩
abbrev cX12_sheet : ByteArray := prog_14_method_14_code
def yX12_sheet : MethodName := ⟨RX12, "sheet", "(III)I"⟩
abbrev cX12_write : ByteArray := prog_14_method_15_code
def yX12_write : MethodName := ⟨RX12, "write", "(IIJ)I"⟩
abbrev cX12_read : ByteArray := prog_14_method_16_code
def yX12_read : MethodName := ⟨RX12, "read", "(II)J"⟩
abbrev cX12_copy : ByteArray := prog_14_method_17_code
def yX12_copy : MethodName := ⟨RX12, "copy", "(IIIII)I"⟩
abbrev cX12_take : ByteArray := prog_14_method_18_code
def yX12_take : MethodName := ⟨RX12, "take", "(IIII)I"⟩
abbrev cX12_cross : ByteArray := prog_14_method_19_code
def yX12_cross : MethodName := ⟨RX12, "cross", "(JJJJ)J"⟩
abbrev cX12_area : ByteArray := prog_14_method_20_code
def yX12_area : MethodName := ⟨RX12, "area", "(III)J"⟩
abbrev cX12_isAt : ByteArray := prog_14_method_21_code
def yX12_isAt : MethodName := ⟨RX12, "isAt", "(II)Z"⟩
abbrev cX12_isBetween : ByteArray := prog_14_method_22_code
def yX12_isBetween : MethodName := ⟨RX12, "isBetween", "(III)Z"⟩
abbrev cX12_isWithin : ByteArray := prog_14_method_23_code
def yX12_isWithin : MethodName := ⟨RX12, "isWithin", "(IIII)Z"⟩
abbrev cX12_isCrossing : ByteArray := prog_14_method_24_code
def yX12_isCrossing : MethodName := ⟨RX12, "isCrossing", "(IIII)Z"⟩
abbrev cX12_member : ByteArray := prog_14_method_25_code
def yX12_member : MethodName := ⟨RX12, "member", "(IIJJ)V"⟩
abbrev cX12_place : ByteArray := prog_14_method_26_code
def yX12_place : MethodName := ⟨RX12, "place", "(JJJ)V"⟩
abbrev cX12_meetsAt : ByteArray := prog_14_method_27_code
def yX12_meetsAt : MethodName := ⟨RX12, "meetsAt", "(IIII)V"⟩
abbrev cX12_findSame : ByteArray := prog_14_method_28_code
def yX12_findSame : MethodName := ⟨RX12, "findSame", "()Z"⟩
abbrev cX12_findBetween : ByteArray := prog_14_method_29_code
def yX12_findBetween : MethodName := ⟨RX12, "findBetween", "()Z"⟩
abbrev cX12_meetsBy : ByteArray := prog_14_method_30_code
def yX12_meetsBy : MethodName := ⟨RX12, "meetsBy", "(IIIIII)V"⟩
abbrev cX12_findWithin : ByteArray := prog_14_method_31_code
def yX12_findWithin : MethodName := ⟨RX12, "findWithin", "()Z"⟩
abbrev cX12_findOthers : ByteArray := prog_14_method_32_code
def yX12_findOthers : MethodName := ⟨RX12, "findOthers", "(II)Z"⟩
abbrev cX12_findInner : ByteArray := prog_14_method_33_code
def yX12_findInner : MethodName := ⟨RX12, "findInner", "(III)Z"⟩
abbrev cX12_findCrossing : ByteArray := prog_14_method_34_code
def yX12_findCrossing : MethodName := ⟨RX12, "findCrossing", "()Z"⟩
abbrev cX12_findCrossed : ByteArray := prog_14_method_35_code
def yX12_findCrossed : MethodName := ⟨RX12, "findCrossed", "(III)Z"⟩
abbrev cX12_findMeeting : ByteArray := prog_14_method_36_code
def yX12_findMeeting : MethodName := ⟨RX12, "findMeeting", "()V"⟩
abbrev cX12_many : ByteArray := prog_14_method_37_code
def yX12_many : MethodName := ⟨RX12, "many", "(I)I"⟩
abbrev cX12_parted : ByteArray := prog_14_method_38_code
def yX12_parted : MethodName := ⟨RX12, "parted", "()I"⟩
abbrev cX12_part : ByteArray := prog_14_method_39_code
def yX12_part : MethodName := ⟨RX12, "part", "(JJZ)J"⟩
abbrev cX12_meet : ByteArray := prog_14_method_40_code
def yX12_meet : MethodName := ⟨RX12, "meet", "(I)J"⟩
abbrev cX12_tryWay : ByteArray := prog_14_method_41_code
def yX12_tryWay : MethodName := ⟨RX12, "tryWay", "(JJ)V"⟩
abbrev cX12_findWay : ByteArray := prog_14_method_42_code
def yX12_findWay : MethodName := ⟨RX12, "findWay", "()V"⟩
abbrev cX12_isSide : ByteArray := prog_14_method_43_code
def yX12_isSide : MethodName := ⟨RX12, "isSide", "(I)Z"⟩
abbrev cX12_wide : ByteArray := prog_14_method_44_code
def yX12_wide : MethodName := ⟨RX12, "wide", "(I)J"⟩
abbrev cX12_side : ByteArray := prog_14_method_45_code
def yX12_side : MethodName := ⟨RX12, "side", "(I)I"⟩
abbrev cX12_isLine : ByteArray := prog_14_method_46_code
def yX12_isLine : MethodName := ⟨RX12, "isLine", "(III)Z"⟩
abbrev cX12_says : ByteArray := prog_14_method_47_code
def yX12_says : MethodName := ⟨RX12, "says", "(JJJJJ)I"⟩
abbrev cX12_check : ByteArray := prog_14_method_48_code
def yX12_check : MethodName := ⟨RX12, "check", "(III)I"⟩
abbrev cX12_choose : ByteArray := prog_14_method_49_code
def yX12_choose : MethodName := ⟨RX12, "choose", "(I)V"⟩
abbrev cX12_findSets : ByteArray := prog_14_method_50_code
def yX12_findSets : MethodName := ⟨RX12, "findSets", "(I)V"⟩
abbrev cX12_turnAbout : ByteArray := prog_14_method_51_code
def yX12_turnAbout : MethodName := ⟨RX12, "turnAbout", "(II)V"⟩
abbrev cX12_further : ByteArray := prog_14_method_52_code
def yX12_further : MethodName := ⟨RX12, "further", "(III)J"⟩
abbrev cX12_isMany : ByteArray := prog_14_method_53_code
def yX12_isMany : MethodName := ⟨RX12, "isMany", "(I)Z"⟩
abbrev cX12_ways : ByteArray := prog_14_method_54_code
def yX12_ways : MethodName := ⟨RX12, "ways", "(I)I"⟩
abbrev cX12_isWay : ByteArray := prog_14_method_55_code
def yX12_isWay : MethodName := ⟨RX12, "isWay", "(II)I"⟩
abbrev cX12_best : ByteArray := prog_14_method_56_code
def yX12_best : MethodName := ⟨RX12, "best", "(II)I"⟩
abbrev cX12_shatter : ByteArray := prog_14_method_57_code
def yX12_shatter : MethodName := ⟨RX12, "shatter", "(I)I"⟩
abbrev cX12_learn : ByteArray := prog_14_method_58_code
def yX12_learn : MethodName := ⟨RX12, "learn", "(I)I"⟩
abbrev cX12_learnt : ByteArray := prog_14_method_59_code
def yX12_learnt : MethodName := ⟨RX12, "learnt", "(I)J"⟩
abbrev cX12_anew : ByteArray := prog_14_method_60_code
def yX12_anew : MethodName := ⟨RX12, "anew", "()I"⟩
abbrev cX12_judge : ByteArray := prog_14_method_61_code
def yX12_judge : MethodName := ⟨RX12, "judge", "(III)I"⟩
abbrev cX12_halve : ByteArray := prog_14_method_62_code
def yX12_halve : MethodName := ⟨RX12, "halve", "()I"⟩
abbrev cX12_left : ByteArray := prog_14_method_63_code
def yX12_left : MethodName := ⟨RX12, "left", "()I"⟩
abbrev cX12_dismiss : ByteArray := prog_14_method_64_code
def yX12_dismiss : MethodName := ⟨RX12, "dismiss", "()I"⟩
abbrev cX12_stepSays : ByteArray := prog_14_method_65_code
def yX12_stepSays : MethodName := ⟨RX12, "stepSays", "(IIIII)I"⟩
abbrev cX12_wrongOf : ByteArray := prog_14_method_66_code
def yX12_wrongOf : MethodName := ⟨RX12, "wrongOf", "(III)J"⟩
abbrev cX12_findStep : ByteArray := prog_14_method_67_code
def yX12_findStep : MethodName := ⟨RX12, "findStep", "()V"⟩
abbrev cX12_isWrongBy : ByteArray := prog_14_method_68_code
def yX12_isWrongBy : MethodName := ⟨RX12, "isWrongBy", "(II)Z"⟩
abbrev cX12_weigh : ByteArray := prog_14_method_69_code
def yX12_weigh : MethodName := ⟨RX12, "weigh", "(I)Z"⟩
abbrev cX12_strong : ByteArray := prog_14_method_70_code
def yX12_strong : MethodName := ⟨RX12, "strong", "(I)I"⟩
abbrev cX12_step : ByteArray := prog_14_method_71_code
def yX12_step : MethodName := ⟨RX12, "step", "(II)J"⟩
abbrev cX12_end : ByteArray := prog_14_method_72_code
def yX12_end : MethodName := ⟨RX12, "end", "()I"⟩
abbrev cX12_mass : ByteArray := prog_14_method_73_code
def yX12_mass : MethodName := ⟨RX12, "mass", "(I)J"⟩
abbrev cX12_times : ByteArray := prog_14_method_74_code
def yX12_times : MethodName := ⟨RX12, "times", "([IJ)V"⟩
abbrev cX12_vote : ByteArray := prog_14_method_75_code
def yX12_vote : MethodName := ⟨RX12, "vote", "(II)I"⟩
abbrev cX12_findHull : ByteArray := prog_14_method_76_code
def yX12_findHull : MethodName := ⟨RX12, "findHull", "(I)V"⟩
abbrev cX12_far : ByteArray := prog_14_method_77_code
def yX12_far : MethodName := ⟨RX12, "far", "(II)J"⟩
abbrev cX12_hull : ByteArray := prog_14_method_78_code
def yX12_hull : MethodName := ⟨RX12, "hull", "(II)I"⟩
abbrev cX12_depth : ByteArray := prog_14_method_79_code
def yX12_depth : MethodName := ⟨RX12, "depth", "(II)I"⟩
abbrev cX12_halves : ByteArray := prog_14_method_80_code
def yX12_halves : MethodName := ⟨RX12, "halves", "()I"⟩
abbrev cX12_isHalf : ByteArray := prog_14_method_81_code
def yX12_isHalf : MethodName := ⟨RX12, "isHalf", "(IIII)Z"⟩
abbrev cX12_isClear : ByteArray := prog_14_method_82_code
def yX12_isClear : MethodName := ⟨RX12, "isClear", "(II)Z"⟩
abbrev cX12_boxes : ByteArray := prog_14_method_83_code
def yX12_boxes : MethodName := ⟨RX12, "boxes", "()I"⟩
abbrev cX12_image : ByteArray := prog_14_method_84_code
def yX12_image : MethodName := ⟨RX12, "image", "(I)I"⟩
abbrev cX12_back : ByteArray := prog_14_method_85_code
def yX12_back : MethodName := ⟨RX12, "back", "(I)I"⟩
abbrev cX12_count : ByteArray := prog_14_method_86_code
def yX12_count : MethodName := ⟨RX12, "count", "(I)I"⟩
abbrev cX12_status : ByteArray := prog_14_method_87_code
def yX12_status : MethodName := ⟨RX12, "status", "()I"⟩
def RJ6 : String := "java/lang/Integer"
def TJ6 : u_T := fun k => match k with
  | _ => ("", "", "", false)
def tyJ6 : Nat → FieldType := fun k => match k with
  | _ => .int
theorem nmJ6 : ∀ a, a < 0 → ∀ b, b < 0 → a ≠ b → (TJ6 a).2.1 ≠ (TJ6 b).2.1 := by decide +kernel
theorem tyJ6_ok : ∀ k, k < 0 → parseFieldDescriptor (TJ6 k).2.2.1 = some (tyJ6 k) := by decide +kernel
abbrev cJ6_bitCount_0f7a4 : ByteArray := prog_15_method_49_code
def yJ6_bitCount_0f7a4 : MethodName := ⟨RJ6, "bitCount", "(I)I"⟩
def RJ13 : String := "java/lang/Long"
def TJ13 : u_T := fun k => match k with
  | _ => ("", "", "", false)
def tyJ13 : Nat → FieldType := fun k => match k with
  | _ => .int
theorem nmJ13 : ∀ a, a < 0 → ∀ b, b < 0 → a ≠ b → (TJ13 a).2.1 ≠ (TJ13 b).2.1 := by decide +kernel
theorem tyJ13_ok : ∀ k, k < 0 → parseFieldDescriptor (TJ13 k).2.2.1 = some (tyJ13 k) := by decide +kernel
abbrev cJ13_bitCount_95d88 : ByteArray := prog_16_method_50_code
def yJ13_bitCount_95d88 : MethodName := ⟨RJ13, "bitCount", "(J)I"⟩
def RJ9 : String := "java/lang/Math"
def TJ9 : u_T := fun k => match k with
  | _ => ("", "", "", false)
def tyJ9 : Nat → FieldType := fun k => match k with
  | _ => .int
theorem nmJ9 : ∀ a, a < 0 → ∀ b, b < 0 → a ≠ b → (TJ9 a).2.1 ≠ (TJ9 b).2.1 := by decide +kernel
theorem tyJ9_ok : ∀ k, k < 0 → parseFieldDescriptor (TJ9 k).2.2.1 = some (tyJ9 k) := by decide +kernel
abbrev cJ9_abs_0f7a4 : ByteArray := prog_17_method_59_code
def yJ9_abs_0f7a4 : MethodName := ⟨RJ9, "abs", "(I)I"⟩
abbrev cJ9_abs_067f4 : ByteArray := prog_17_method_61_code
def yJ9_abs_067f4 : MethodName := ⟨RJ9, "abs", "(J)J"⟩
abbrev cJ9_max_7cf53 : ByteArray := prog_17_method_65_code
def yJ9_max_7cf53 : MethodName := ⟨RJ9, "max", "(II)I"⟩
abbrev cJ9_max_f86c9 : ByteArray := prog_17_method_66_code
def yJ9_max_f86c9 : MethodName := ⟨RJ9, "max", "(JJ)J"⟩
abbrev cJ9_min_7cf53 : ByteArray := prog_17_method_69_code
def yJ9_min_7cf53 : MethodName := ⟨RJ9, "min", "(II)I"⟩
def RJ10 : String := "java/lang/System"
def TJ10 : u_T := fun k => match k with
  | _ => ("", "", "", false)
def tyJ10 : Nat → FieldType := fun k => match k with
  | _ => .int
theorem nmJ10 : ∀ a, a < 0 → ∀ b, b < 0 → a ≠ b → (TJ10 a).2.1 ≠ (TJ10 b).2.1 := by decide +kernel
theorem tyJ10_ok : ∀ k, k < 0 → parseFieldDescriptor (TJ10 k).2.2.1 = some (tyJ10 k) := by decide +kernel
def RJ7 : String := "java/util/Arrays"
def TJ7 : u_T := fun k => match k with
  | _ => ("", "", "", false)
def tyJ7 : Nat → FieldType := fun k => match k with
  | _ => .int
theorem nmJ7 : ∀ a, a < 0 → ∀ b, b < 0 → a ≠ b → (TJ7 a).2.1 ≠ (TJ7 b).2.1 := by decide +kernel
theorem tyJ7_ok : ∀ k, k < 0 → parseFieldDescriptor (TJ7 k).2.2.1 = some (tyJ7 k) := by decide +kernel
abbrev cJ7_fill_d0a16 : ByteArray := prog_19_method_101_code
def yJ7_fill_d0a16 : MethodName := ⟨RJ7, "fill", "([JJ)V"⟩
abbrev cJ7_fill_031fb : ByteArray := prog_19_method_109_code
def yJ7_fill_031fb : MethodName := ⟨RJ7, "fill", "([BB)V"⟩
def RL : String := "YesPlanesLaw"
abbrev cL_law : ByteArray := code
def yL_law : MethodName := ⟨RL, "law", "([I)Z"⟩
abbrev vwCl : List vw_C := [(RX0, TX0, 5), (RX1, TX1, 2), (RX2, TX2, 5), (RX3, TX3, 5), (RX4, TX4, 11), (RX5, TX5, 4), (RX6, TX6, 6), (RX7, TX7, 2), (RX8, TX8, 4), (RX9, TX9, 17), (RX10, TX10, 11), (RX11, TX11, 15), (RX12, TX12, 61)]
end
section
/-! what the tables' words say of the links -/
def yG : List Cond := lw_tbl.filter goodWord
def yc (p : Nat × Nat) : Option Cond := match p.1 with
  | 0 => (k2_sels lw_privs)[p.2]?
  | 1 => tables_1_1[p.2]?
  | 2 => tables_1_2[p.2]?
  | 3 => tables_1_3[p.2]?
  | 4 => tables_1_4[p.2]?
  | 5 => tables_1_5[p.2]?
  | 6 => tables_1_6[p.2]?
  | _ => tables_1_7[p.2]?
theorem yc_mem {p : Nat × Nat} {w : Cond} (h : yc p = some w) : w ∈ lw_tbl := by
  unfold yc at h
  unfold lw_tbl tables_1
  split at h
  · exact List.mem_append_left _ (List.mem_of_getElem? h)
  · exact List.mem_append_right _ (List.mem_append_left _ (List.mem_of_getElem? h))
  · exact List.mem_append_right _ (List.mem_append_right _ (List.mem_append_left _ (List.mem_of_getElem? h)))
  · exact List.mem_append_right _ (List.mem_append_right _ (List.mem_append_right _ (List.mem_append_left _ (List.mem_of_getElem? h))))
  · exact List.mem_append_right _ (List.mem_append_right _ (List.mem_append_right _ (List.mem_append_right _ (List.mem_append_left _ (List.mem_of_getElem? h)))))
  · exact List.mem_append_right _ (List.mem_append_right _ (List.mem_append_right _ (List.mem_append_right _ (List.mem_append_right _ (List.mem_append_left _ (List.mem_of_getElem? h))))))
  · exact List.mem_append_right _ (List.mem_append_right _ (List.mem_append_right _ (List.mem_append_right _ (List.mem_append_right _ (List.mem_append_right _ (List.mem_append_left _ (List.mem_of_getElem? h)))))))
  · exact List.mem_append_right _ (List.mem_append_right _ (List.mem_append_right _ (List.mem_append_right _ (List.mem_append_right _ (List.mem_append_right _ (List.mem_append_right _ (List.mem_of_getElem? h)))))))
theorem yG_ok : ∀ w ∈ yG, (w.onTables && w.keeps) = true ∨ ∃ ty, w = .arrayClass ty := fun w h => good_of_word (List.mem_filter.mp h).2
theorem yG_in : ∀ w ∈ yG, w ∈ lw_tbl := fun w h => (List.mem_filter.mp h).1
theorem yG_at {w : Cond} (p : Nat × Nat) (h : yc p = some w) (hg : goodWord w = true := by rfl) : w ∈ yG := List.mem_filter.mpr ⟨yc_mem h, hg⟩
theorem yG_all {ws : List Cond} (ps : List (Nat × Nat)) (h : (ws.zip ps).all (fun q => decide (yc q.2 = some q.1) && goodWord q.1) = true) (hl : ws.length = ps.length) : ∀ w ∈ ws, w ∈ yG := by
  intro w hw
  obtain ⟨i, hi⟩ := List.getElem?_of_mem hw
  have hlt : i < ps.length := by
    have := (List.getElem?_eq_some_iff.mp hi).1
    omega
  have h1 : (ws.zip ps)[i]? = some (w, ps[i]) := by
    rw [List.getElem?_zip_eq_some]
    exact ⟨hi, List.getElem?_eq_getElem hlt⟩
  have h2 := List.all_eq_true.mp h _ (List.mem_of_getElem? h1)
  rw [Bool.and_eq_true] at h2
  exact yG_at _ (of_decide_eq_true h2.1) h2.2
def yg_ty : List (Nat → FieldType) := [tyX0, tyX1, tyX2, tyX3, tyX4, tyX5, tyX6, tyX7, tyX8, tyX9, tyX10, tyX11, tyX12]
def yg_cls (ci : Nat) : Prop := ∃ (C : String) (T : u_T) (N : Nat) (ty0 : Nat → FieldType), vwCl[ci]? = some (C, T, N) ∧ yg_ty[ci]? = some ty0 ∧ (∀ w ∈ u_ws C T N, w ∈ yG) ∧ (∀ k, k < N → parseFieldDescriptor (T k).2.2.1 = some (ty0 k)) ∧ ∀ a, a < N → ∀ b, b < N → a ≠ b → (T a).2.1 ≠ (T b).2.1
theorem yg_in0 : ∀ w ∈ wsX00, w ∈ yG := yG_all [(2, 134), (2, 136), (2, 138), (2, 140), (2, 142)] (by decide +kernel) rfl
theorem yg_cls0 : yg_cls 0 := ⟨_, _, _, _, rfl, rfl, yg_in0, tyX0_ok, nmX0⟩
theorem yg_in1 : ∀ w ∈ wsX10, w ∈ yG := yG_all [(1, 166), (1, 168)] (by decide +kernel) rfl
theorem yg_cls1 : yg_cls 1 := ⟨_, _, _, _, rfl, rfl, yg_in1, tyX1_ok, nmX1⟩
theorem yg_in2 : ∀ w ∈ wsX20, w ∈ yG := yG_all [(1, 105), (1, 107), (1, 109), (1, 111), (1, 113)] (by decide +kernel) rfl
theorem yg_cls2 : yg_cls 2 := ⟨_, _, _, _, rfl, rfl, yg_in2, tyX2_ok, nmX2⟩
theorem yg_in3 : ∀ w ∈ wsX30, w ∈ yG := yG_all [(1, 132), (1, 134), (1, 136), (1, 138), (1, 140)] (by decide +kernel) rfl
theorem yg_cls3 : yg_cls 3 := ⟨_, _, _, _, rfl, rfl, yg_in3, tyX3_ok, nmX3⟩
theorem yg_in4 : ∀ w ∈ wsX40, w ∈ yG := yG_all [(1, 236), (1, 238), (2, 0), (2, 2), (2, 4), (2, 6), (2, 8), (2, 10), (2, 12), (2, 14), (2, 16)] (by decide +kernel) rfl
theorem yg_cls4 : yg_cls 4 := ⟨_, _, _, _, rfl, rfl, yg_in4, tyX4_ok, nmX4⟩
theorem yg_in5 : ∀ w ∈ wsX50, w ∈ yG := yG_all [(2, 31), (2, 33), (2, 35), (2, 37)] (by decide +kernel) rfl
theorem yg_cls5 : yg_cls 5 := ⟨_, _, _, _, rfl, rfl, yg_in5, tyX5_ok, nmX5⟩
theorem yg_in6 : ∀ w ∈ wsX60, w ∈ yG := yG_all [(1, 78), (1, 80), (1, 82), (1, 84), (1, 86), (1, 88)] (by decide +kernel) rfl
theorem yg_cls6 : yg_cls 6 := ⟨_, _, _, _, rfl, rfl, yg_in6, tyX6_ok, nmX6⟩
theorem yg_in7 : ∀ w ∈ wsX70, w ∈ yG := yG_all [(2, 118), (2, 120)] (by decide +kernel) rfl
theorem yg_cls7 : yg_cls 7 := ⟨_, _, _, _, rfl, rfl, yg_in7, tyX7_ok, nmX7⟩
theorem yg_in8 : ∀ w ∈ wsX80, w ∈ yG := yG_all [(2, 157), (2, 159), (2, 161), (2, 163)] (by decide +kernel) rfl
theorem yg_cls8 : yg_cls 8 := ⟨_, _, _, _, rfl, rfl, yg_in8, tyX8_ok, nmX8⟩
theorem yg_in9 : ∀ w ∈ wsX90, w ∈ yG := yG_all [(2, 73), (2, 75), (2, 77), (2, 79), (2, 81), (2, 83), (2, 85), (2, 87), (2, 89), (2, 91), (2, 93), (2, 95), (2, 97), (2, 99), (2, 101), (2, 103), (2, 105)] (by decide +kernel) rfl
theorem yg_cls9 : yg_cls 9 := ⟨_, _, _, _, rfl, rfl, yg_in9, tyX9_ok, nmX9⟩
theorem yg_in10 : ∀ w ∈ wsX100, w ∈ yG := yG_all [(1, 189), (1, 191), (1, 193), (1, 195), (1, 197), (1, 199), (1, 201), (1, 203), (1, 205), (1, 207), (1, 209)] (by decide +kernel) rfl
theorem yg_cls10 : yg_cls 10 := ⟨_, _, _, _, rfl, rfl, yg_in10, tyX10_ok, nmX10⟩
theorem yg_in11 : ∀ w ∈ wsX110, w ∈ yG := yG_all [(2, 181), (2, 183), (2, 185), (2, 187), (2, 189), (2, 191), (2, 193), (2, 195), (2, 197), (2, 199), (2, 201), (2, 203), (2, 205), (2, 207), (2, 209)] (by decide +kernel) rfl
theorem yg_cls11 : yg_cls 11 := ⟨_, _, _, _, rfl, rfl, yg_in11, tyX11_ok, nmX11⟩
theorem yg_in12 : ∀ w ∈ wsX120, w ∈ yG := yG_all [(5, 214), (5, 216), (5, 218), (5, 220), (5, 222), (5, 224), (5, 226), (5, 228), (5, 230), (5, 232), (5, 234), (5, 236), (5, 238), (6, 0), (6, 2), (6, 4), (6, 6), (6, 8), (6, 10), (6, 12), (6, 14), (6, 16), (6, 18), (6, 20), (6, 22), (6, 24), (6, 26), (6, 28), (6, 30), (6, 32), (6, 34), (6, 36), (6, 38), (6, 40), (6, 42), (6, 44), (6, 46), (6, 48), (6, 50), (6, 52), (6, 54), (6, 56), (6, 58), (6, 60), (6, 62), (6, 64), (6, 66), (6, 68), (6, 70), (6, 72), (6, 74), (6, 76), (6, 78), (6, 80), (6, 82), (6, 84), (6, 86), (6, 88), (6, 90), (6, 92), (6, 94)] (by decide +kernel) rfl
theorem yg_cls12 : yg_cls 12 := ⟨_, _, _, _, rfl, rfl, yg_in12, tyX12_ok, nmX12⟩
theorem yg_clsall : ∀ ci, ci < 13 → yg_cls ci
  | 0, _ => yg_cls0
  | 1, _ => yg_cls1
  | 2, _ => yg_cls2
  | 3, _ => yg_cls3
  | 4, _ => yg_cls4
  | 5, _ => yg_cls5
  | 6, _ => yg_cls6
  | 7, _ => yg_cls7
  | 8, _ => yg_cls8
  | 9, _ => yg_cls9
  | 10, _ => yg_cls10
  | 11, _ => yg_cls11
  | 12, _ => yg_cls12
  | n + 13, h => absurd h (by omega)
def yg_flc (own : String) (tab : List (Nat × (Nat × Nat × Nat))) (pls : List (Nat × Nat)) : Bool := decide (tab.length = pls.length) && (tab.zip pls).all (fun q => match vwCl[q.1.2.1]?, yg_ty[q.1.2.1]? with
  | some (C, T, N), some ty0 => decide (q.1.2.1 < 13) && (decide (q.1.2.2.1 < N) && (decide (yc q.2 = some (Cond.fieldLink own q.1.1 C (T q.1.2.2.1).2.1 (T q.1.2.2.1).2.2.1)) && (decide ((T q.1.2.2.1).1 = C) && ((decide (q.1.2.2.2 = 2) || decide ((T q.1.2.2.1).2.2.2 = false)) && decide (ys_tk (ty0 q.1.2.2.1) = q.1.2.2.2)))))
  | _, _ => false)
theorem yg_flc_ok {own : String} {tab : List (Nat × (Nat × Nat × Nat))} {pls : List (Nat × Nat)} (h : yg_flc own tab pls = true) (K : ys_K) : ∀ idx c j tk, tab.lookup idx = some (c, j, tk) → ys_Fl own (ys_ws yG K) vwCl idx c j tk := by
  intro idx c j tk hl
  unfold yg_flc at h
  rw [Bool.and_eq_true, decide_eq_true_eq] at h
  obtain ⟨i, hi⟩ := List.getElem?_of_mem (ys_lk3 _ _ _ hl)
  have hlt : i < pls.length := by
    have := (List.getElem?_eq_some_iff.mp hi).1
    omega
  have h1 : (tab.zip pls)[i]? = some ((idx, c, j, tk), pls[i]) := by
    rw [List.getElem?_zip_eq_some]
    exact ⟨hi, List.getElem?_eq_getElem hlt⟩
  have h2 := List.all_eq_true.mp h.2 _ (List.mem_of_getElem? h1)
  dsimp only at h2
  split at h2
  · rename_i C T N ty0 e1 e2
    simp only [Bool.and_eq_true, Bool.or_eq_true, decide_eq_true_eq] at h2
    obtain ⟨a0, a1, a2, a3, a4, a5⟩ := h2
    obtain ⟨C', T', N', ty', b1, b2, b3, b4, b5⟩ := yg_clsall c a0
    rw [e1] at b1
    cases b1
    rw [e2] at b2
    cases b2
    exact ⟨C, T, N, ty0, e1, a1, fun w hw => List.mem_cons_of_mem _ (b3 w hw), b4, b5, List.mem_cons_of_mem _ (yG_at _ a2), a3, fun hn => a4.elim (fun q => absurd q hn) id, a5⟩
  · cases h2
def yg_cic (own : String) (tab : List (Nat × Int)) (pls : List (Nat × Nat)) : Bool := decide (tab.length = pls.length) && (tab.zip pls).all (fun q => decide (yc q.2 = some (Cond.constant own q.1.1 (Int32.ofInt q.1.2))))
def yg_cjc (own : String) (tab : List (Nat × Int)) (pls : List (Nat × Nat)) : Bool := decide (tab.length = pls.length) && (tab.zip pls).all (fun q => decide (yc q.2 = some (Cond.constantLong own q.1.1 (Int64.ofInt q.1.2))))
theorem yg_cic_ok {own : String} {tab : List (Nat × Int)} {pls : List (Nat × Nat)} (h : yg_cic own tab pls = true) (K : ys_K) : ∀ idx z, tab.lookup idx = some z → Cond.constant own idx (Int32.ofInt z) ∈ ys_ws yG K := by
  intro idx z hl
  unfold yg_cic at h
  rw [Bool.and_eq_true, decide_eq_true_eq] at h
  obtain ⟨i, hi⟩ := List.getElem?_of_mem (ys_lk3 _ _ _ hl)
  have hlt : i < pls.length := by
    have := (List.getElem?_eq_some_iff.mp hi).1
    omega
  have h1 : (tab.zip pls)[i]? = some ((idx, z), pls[i]) := by
    rw [List.getElem?_zip_eq_some]
    exact ⟨hi, List.getElem?_eq_getElem hlt⟩
  have h2 := List.all_eq_true.mp h.2 _ (List.mem_of_getElem? h1)
  exact List.mem_cons_of_mem _ (yG_at _ (of_decide_eq_true h2))
theorem yg_cjc_ok {own : String} {tab : List (Nat × Int)} {pls : List (Nat × Nat)} (h : yg_cjc own tab pls = true) (K : ys_K) : ∀ idx z, tab.lookup idx = some z → Cond.constantLong own idx (Int64.ofInt z) ∈ ys_ws yG K := by
  intro idx z hl
  unfold yg_cjc at h
  rw [Bool.and_eq_true, decide_eq_true_eq] at h
  obtain ⟨i, hi⟩ := List.getElem?_of_mem (ys_lk3 _ _ _ hl)
  have hlt : i < pls.length := by
    have := (List.getElem?_eq_some_iff.mp hi).1
    omega
  have h1 : (tab.zip pls)[i]? = some ((idx, z), pls[i]) := by
    rw [List.getElem?_zip_eq_some]
    exact ⟨hi, List.getElem?_eq_getElem hlt⟩
  have h2 := List.all_eq_true.mp h.2 _ (List.mem_of_getElem? h1)
  exact List.mem_cons_of_mem _ (yG_at _ (of_decide_eq_true h2))
theorem yg_goodin {own x : Cond} {ws : List Cond} (h : ∀ w ∈ ws, w ∈ yG) : GoodIn (x :: yG) ws := fun w hw => ⟨List.mem_cons_of_mem _ (h w hw), yG_ok w (h w hw)⟩
theorem yg_CLv {sh : List ys_C} {own : String} {idx k ci : Nat} {C : String} {T : u_T} {N : Nat} {as : List ys_V} {K K' : ys_K} (hy : K'.2.1.1 = .inr (some k) :: as) (hsh : sh[k]? = some (.inl ci)) (hcl : vwCl[ci]? = some (C, T, N)) (hw : ∀ w ∈ wsV own idx C K'.1.1.1 [Cond.code K'.1.1.1 K'.1.1.2.1 K'.1.1.2.2.1 K'.1.1.2.2.2], w ∈ yG) (hd : K'.1.1.1.cls = C ∧ K'.1.1.1.cls ≠ "java/lang/invoke/MethodHandle" ∧ K'.1.1.1.cls ≠ "java/lang/invoke/VarHandle" ∧ (parseMethodDescriptor K'.1.1.1.desc).map (fun d => d.parameters.length) = some as.length) : ys_CL own (ys_ws yG K) vwCl sh yG (.invokevirtual idx) K' := by
  refine Or.inl ⟨idx, k, ci, C, T, N, as, rfl, hy, hsh, hcl, yg_goodin (own := Cond.code K'.1.1.1 K'.1.1.2.1 K'.1.1.2.2.1 K'.1.1.2.2.2) (fun w h => ?_), hd⟩
  unfold wsV ys_ws at h
  rcases List.mem_append.mp h with q | q
  · exact hw w (by unfold wsV; exact List.mem_append_left _ q)
  · rcases List.mem_cons.mp q with q | q
    · exact hw w (by unfold wsV; rw [q]; exact List.mem_append_right _ List.mem_cons_self)
    · exact q
theorem yg_CLs {sh : List ys_C} {own : String} {idx : Nat} {K K' : ys_K} (hw : ∀ w ∈ va_wsS own idx K'.1.1.1 [Cond.code K'.1.1.1 K'.1.1.2.1 K'.1.1.2.2.1 K'.1.1.2.2.2], w ∈ yG) (hd : K'.1.1.1.cls ≠ "java/lang/invoke/MethodHandle" ∧ K'.1.1.1.cls ≠ "java/lang/invoke/VarHandle" ∧ (parseMethodDescriptor K'.1.1.1.desc).map (fun d => d.parameters.length) = some K'.2.1.1.length) : ys_CL own (ys_ws yG K) vwCl sh yG (.invokestatic idx) K' := by
  refine Or.inr ⟨idx, rfl, yg_goodin (own := Cond.code K'.1.1.1 K'.1.1.2.1 K'.1.1.2.2.1 K'.1.1.2.2.2) (fun w h => ?_), hd⟩
  unfold va_wsS ys_ws at h
  rcases List.mem_append.mp h with q | q
  · exact hw w (by unfold va_wsS; exact List.mem_append_left _ q)
  · rcases List.mem_cons.mp q with q | q
    · exact hw w (by unfold va_wsS; rw [q]; exact List.mem_append_right _ List.mem_cons_self)
    · exact q
def yl_flX11 : ys_FL := [(10, 11, 0, 2), (19, 11, 1, 2), (26, 11, 2, 2), (32, 11, 3, 2), (36, 11, 4, 2), (40, 11, 5, 2), (44, 11, 6, 2), (48, 11, 7, 2), (55, 11, 8, 2), (62, 11, 9, 2), (69, 11, 10, 2), (76, 11, 11, 2), (83, 11, 12, 2), (90, 11, 13, 2), (94, 11, 14, 0), (111, 6, 4, 0), (121, 6, 0, 2), (125, 6, 1, 2), (128, 6, 2, 2), (131, 6, 3, 2), (151, 8, 1, 3), (162, 8, 0, 2), (194, 10, 1, 3), (197, 10, 0, 2), (201, 1, 0, 1), (207, 1, 1, 1), (210, 10, 2, 1), (213, 10, 3, 1), (216, 10, 4, 1), (219, 10, 5, 0), (232, 4, 2, 0), (235, 4, 3, 0), (236, 4, 0, 2), (239, 4, 1, 2), (273, 5, 0, 0), (276, 5, 1, 0), (292, 3, 0, 1), (295, 3, 1, 1), (298, 3, 2, 1), (301, 3, 3, 1), (304, 3, 4, 1), (310, 2, 0, 0), (316, 2, 1, 0), (322, 9, 7, 0), (325, 9, 0, 2), (328, 9, 1, 2), (331, 9, 2, 2), (334, 9, 3, 2), (337, 9, 4, 2), (340, 9, 8, 0), (343, 9, 6, 0), (344, 9, 5, 2), (353, 7, 1, 0), (356, 7, 0, 2)]
def yl_ciX11 : List (Nat × Int) := []
def yl_cjX11 : List (Nat × Int) := [(160, (-9223372036854775808)), (188, (-1)), (195, (-6)), (229, (-1000000))]
def yl_cpX11 : List Nat := [100359, 200279]
theorem yl_lkX11 (K : ys_K) : ys_Lk RX11 (ys_ws yG K) vwCl yl_flX11 yl_ciX11 yl_cjX11 yl_cpX11 := by
  refine ⟨yg_flc_ok (pls := [(2, 166), (2, 167), (2, 168), (2, 169), (2, 170), (2, 171), (2, 172), (2, 173), (2, 174), (2, 175), (2, 176), (2, 177), (2, 178), (2, 179), (2, 180), (1, 67), (1, 35), (1, 44), (1, 54), (1, 63), (2, 154), (2, 152), (1, 175), (1, 173), (1, 162), (1, 165), (1, 177), (1, 179), (1, 181), (1, 183), (1, 226), (1, 228), (1, 222), (1, 224), (2, 26), (2, 28), (1, 123), (1, 125), (1, 127), (1, 129), (1, 131), (1, 99), (1, 101), (2, 62), (2, 48), (2, 50), (2, 52), (2, 54), (2, 56), (2, 64), (2, 60), (2, 58), (2, 117), (2, 115)]) (by decide +kernel) K, yg_cic_ok (pls := []) (by decide +kernel) K, yg_cjc_ok (pls := [(3, 55), (3, 166), (3, 167), (3, 180)]) (by decide +kernel) K, fun idx hi => ?_⟩
  rcases List.mem_cons.mp hi with hq | hi
  · subst hq
    exact ⟨List.mem_cons_of_mem _ (yG_at (5, 47) rfl), List.mem_cons_of_mem _ (yG_at (3, 130) rfl), List.mem_cons_of_mem _ (yG_at (1, 16) rfl), List.mem_cons_of_mem _ (yG_at (3, 131) rfl)⟩
  rcases List.mem_cons.mp hi with hq | hi
  · subst hq
    exact ⟨List.mem_cons_of_mem _ (yG_at (4, 113) rfl), List.mem_cons_of_mem _ (yG_at (3, 127) rfl), List.mem_cons_of_mem _ (yG_at (1, 16) rfl), List.mem_cons_of_mem _ (yG_at (3, 128) rfl)⟩
  cases hi
def yl_flX0 : ys_FL := [(9, 0, 0, 2), (15, 0, 1, 0), (19, 0, 2, 2), (22, 0, 3, 0), (25, 0, 4, 2), (47, 6, 4, 0), (52, 6, 2, 2), (55, 6, 0, 2), (65, 6, 1, 2)]
def yl_ciX0 : List (Nat × Int) := []
def yl_cjX0 : List (Nat × Int) := []
def yl_cpX0 : List Nat := [100074, 200068]
theorem yl_lkX0 (K : ys_K) : ys_Lk RX0 (ys_ws yG K) vwCl yl_flX0 yl_ciX0 yl_cjX0 yl_cpX0 := by
  refine ⟨yg_flc_ok (pls := [(2, 129), (2, 130), (2, 131), (2, 132), (2, 133), (1, 70), (1, 53), (1, 37), (1, 48)]) (by decide +kernel) K, yg_cic_ok (pls := []) (by decide +kernel) K, yg_cjc_ok (pls := []) (by decide +kernel) K, fun idx hi => ?_⟩
  rcases List.mem_cons.mp hi with hq | hi
  · subst hq
    exact ⟨List.mem_cons_of_mem _ (yG_at (5, 97) rfl), List.mem_cons_of_mem _ (yG_at (3, 130) rfl), List.mem_cons_of_mem _ (yG_at (1, 16) rfl), List.mem_cons_of_mem _ (yG_at (3, 131) rfl)⟩
  rcases List.mem_cons.mp hi with hq | hi
  · subst hq
    exact ⟨List.mem_cons_of_mem _ (yG_at (5, 96) rfl), List.mem_cons_of_mem _ (yG_at (3, 127) rfl), List.mem_cons_of_mem _ (yG_at (1, 16) rfl), List.mem_cons_of_mem _ (yG_at (3, 128) rfl)⟩
  cases hi
def yl_flX1 : ys_FL := [(7, 1, 0, 1), (13, 1, 1, 1)]
def yl_ciX1 : List (Nat × Int) := []
def yl_cjX1 : List (Nat × Int) := []
def yl_cpX1 : List Nat := []
theorem yl_lkX1 (K : ys_K) : ys_Lk RX1 (ys_ws yG K) vwCl yl_flX1 yl_ciX1 yl_cjX1 yl_cpX1 := by
  refine ⟨yg_flc_ok (pls := [(1, 160), (1, 163)]) (by decide +kernel) K, yg_cic_ok (pls := []) (by decide +kernel) K, yg_cjc_ok (pls := []) (by decide +kernel) K, fun idx hi => ?_⟩
  cases hi
def yl_flX2 : ys_FL := [(9, 2, 0, 0), (15, 2, 1, 0), (18, 2, 2, 2), (22, 2, 3, 2), (25, 2, 4, 2), (40, 6, 4, 0), (43, 6, 0, 2), (46, 6, 1, 2), (59, 6, 2, 2)]
def yl_ciX2 : List (Nat × Int) := [(32, (-1000000)), (33, 1000000)]
def yl_cjX2 : List (Nat × Int) := []
def yl_cpX2 : List Nat := [34]
theorem yl_lkX2 (K : ys_K) : ys_Lk RX2 (ys_ws yG K) vwCl yl_flX2 yl_ciX2 yl_cjX2 yl_cpX2 := by
  refine ⟨yg_flc_ok (pls := [(1, 98), (1, 100), (1, 102), (1, 103), (1, 104), (1, 73), (1, 40), (1, 49), (1, 59)]) (by decide +kernel) K, yg_cic_ok (pls := [(4, 43), (4, 44)]) (by decide +kernel) K, yg_cjc_ok (pls := []) (by decide +kernel) K, fun idx hi => ?_⟩
  rcases List.mem_cons.mp hi with hq | hi
  · subst hq
    exact ⟨List.mem_cons_of_mem _ (yG_at (5, 122) rfl), List.mem_cons_of_mem _ (yG_at (3, 70) rfl), List.mem_cons_of_mem _ (yG_at (3, 69) rfl), List.mem_cons_of_mem _ (yG_at (1, 15) rfl)⟩
  cases hi
def yl_flX3 : ys_FL := [(9, 3, 0, 1), (15, 3, 1, 1), (18, 3, 2, 1), (21, 3, 3, 1), (24, 3, 4, 1), (31, 6, 4, 0), (37, 6, 0, 2), (41, 6, 1, 2), (44, 6, 2, 2)]
def yl_ciX3 : List (Nat × Int) := []
def yl_cjX3 : List (Nat × Int) := []
def yl_cpX3 : List Nat := []
theorem yl_lkX3 (K : ys_K) : ys_Lk RX3 (ys_ws yG K) vwCl yl_flX3 yl_ciX3 yl_cjX3 yl_cpX3 := by
  refine ⟨yg_flc_ok (pls := [(1, 122), (1, 124), (1, 126), (1, 128), (1, 130), (1, 71), (1, 38), (1, 46), (1, 57)]) (by decide +kernel) K, yg_cic_ok (pls := []) (by decide +kernel) K, yg_cjc_ok (pls := []) (by decide +kernel) K, fun idx hi => ?_⟩
  cases hi
def yl_flX4 : ys_FL := [(12, 4, 0, 2), (18, 4, 1, 2), (21, 4, 2, 0), (25, 4, 3, 0), (28, 4, 4, 2), (32, 4, 5, 2), (36, 4, 6, 2), (39, 4, 7, 2), (42, 4, 8, 0), (45, 4, 9, 0), (48, 4, 10, 0), (53, 1, 0, 1), (57, 1, 1, 1), (60, 6, 5, 0), (102, 6, 4, 0), (103, 6, 2, 2), (142, 6, 0, 2), (145, 6, 1, 2)]
def yl_ciX4 : List (Nat × Int) := []
def yl_cjX4 : List (Nat × Int) := [(51, (-1000000))]
def yl_cpX4 : List Nat := []
theorem yl_lkX4 (K : ys_K) : ys_Lk RX4 (ys_ws yG K) vwCl yl_flX4 yl_ciX4 yl_cjX4 yl_cpX4 := by
  refine ⟨yg_flc_ok (pls := [(1, 221), (1, 223), (1, 225), (1, 227), (1, 229), (1, 230), (1, 231), (1, 232), (1, 233), (1, 234), (1, 235), (1, 161), (1, 164), (1, 77), (1, 72), (1, 56), (1, 41), (1, 50)]) (by decide +kernel) K, yg_cic_ok (pls := []) (by decide +kernel) K, yg_cjc_ok (pls := [(4, 32)]) (by decide +kernel) K, fun idx hi => ?_⟩
  cases hi
def yl_flX5 : ys_FL := [(9, 5, 0, 0), (15, 5, 1, 0), (18, 5, 2, 2), (22, 5, 3, 0), (69, 6, 2, 2), (73, 6, 3, 2), (84, 6, 4, 0)]
def yl_ciX5 : List (Nat × Int) := []
def yl_cjX5 : List (Nat × Int) := []
def yl_cpX5 : List Nat := []
theorem yl_lkX5 (K : ys_K) : ys_Lk RX5 (ys_ws yG K) vwCl yl_flX5 yl_ciX5 yl_cjX5 yl_cpX5 := by
  refine ⟨yg_flc_ok (pls := [(2, 25), (2, 27), (2, 29), (2, 30), (1, 60), (1, 64), (1, 74)]) (by decide +kernel) K, yg_cic_ok (pls := []) (by decide +kernel) K, yg_cjc_ok (pls := []) (by decide +kernel) K, fun idx hi => ?_⟩
  cases hi
def yl_flX6 : ys_FL := [(9, 6, 0, 2), (15, 6, 1, 2), (18, 6, 2, 2), (21, 6, 3, 2), (24, 6, 4, 0), (28, 6, 5, 0)]
def yl_ciX6 : List (Nat × Int) := []
def yl_cjX6 : List (Nat × Int) := [(31, (-300)), (33, 300)]
def yl_cpX6 : List Nat := [39]
theorem yl_lkX6 (K : ys_K) : ys_Lk RX6 (ys_ws yG K) vwCl yl_flX6 yl_ciX6 yl_cjX6 yl_cpX6 := by
  refine ⟨yg_flc_ok (pls := [(1, 33), (1, 42), (1, 51), (1, 61), (1, 65), (1, 75)]) (by decide +kernel) K, yg_cic_ok (pls := []) (by decide +kernel) K, yg_cjc_ok (pls := [(2, 219), (2, 220)]) (by decide +kernel) K, fun idx hi => ?_⟩
  rcases List.mem_cons.mp hi with hq | hi
  · subst hq
    exact ⟨List.mem_cons_of_mem _ (yG_at (5, 117) rfl), List.mem_cons_of_mem _ (yG_at (3, 70) rfl), List.mem_cons_of_mem _ (yG_at (3, 69) rfl), List.mem_cons_of_mem _ (yG_at (1, 15) rfl)⟩
  cases hi
def yl_flX7 : ys_FL := [(9, 7, 0, 2), (15, 7, 1, 0), (27, 6, 4, 0), (32, 6, 2, 2), (39, 6, 0, 2), (42, 6, 1, 2)]
def yl_ciX7 : List (Nat × Int) := []
def yl_cjX7 : List (Nat × Int) := []
def yl_cpX7 : List Nat := [100078, 200064]
theorem yl_lkX7 (K : ys_K) : ys_Lk RX7 (ys_ws yG K) vwCl yl_flX7 yl_ciX7 yl_cjX7 yl_cpX7 := by
  refine ⟨yg_flc_ok (pls := [(2, 114), (2, 116), (1, 69), (1, 52), (1, 36), (1, 45)]) (by decide +kernel) K, yg_cic_ok (pls := []) (by decide +kernel) K, yg_cjc_ok (pls := []) (by decide +kernel) K, fun idx hi => ?_⟩
  rcases List.mem_cons.mp hi with hq | hi
  · subst hq
    exact ⟨List.mem_cons_of_mem _ (yG_at (5, 66) rfl), List.mem_cons_of_mem _ (yG_at (3, 130) rfl), List.mem_cons_of_mem _ (yG_at (1, 16) rfl), List.mem_cons_of_mem _ (yG_at (3, 131) rfl)⟩
  rcases List.mem_cons.mp hi with hq | hi
  · subst hq
    exact ⟨List.mem_cons_of_mem _ (yG_at (5, 54) rfl), List.mem_cons_of_mem _ (yG_at (3, 127) rfl), List.mem_cons_of_mem _ (yG_at (1, 16) rfl), List.mem_cons_of_mem _ (yG_at (3, 128) rfl)⟩
  cases hi
def yl_flX8 : ys_FL := [(9, 8, 0, 2), (15, 8, 1, 3), (19, 8, 2, 0), (23, 8, 3, 0)]
def yl_ciX8 : List (Nat × Int) := []
def yl_cjX8 : List (Nat × Int) := [(42, 2)]
def yl_cpX8 : List Nat := [36]
theorem yl_lkX8 (K : ys_K) : ys_Lk RX8 (ys_ws yG K) vwCl yl_flX8 yl_ciX8 yl_cjX8 yl_cpX8 := by
  refine ⟨yg_flc_ok (pls := [(2, 151), (2, 153), (2, 155), (2, 156)]) (by decide +kernel) K, yg_cic_ok (pls := []) (by decide +kernel) K, yg_cjc_ok (pls := [(3, 79)]) (by decide +kernel) K, fun idx hi => ?_⟩
  rcases List.mem_cons.mp hi with hq | hi
  · subst hq
    exact ⟨List.mem_cons_of_mem _ (yG_at (3, 68) rfl), List.mem_cons_of_mem _ (yG_at (3, 70) rfl), List.mem_cons_of_mem _ (yG_at (3, 69) rfl), List.mem_cons_of_mem _ (yG_at (1, 15) rfl)⟩
  cases hi
def yl_flX9 : ys_FL := [(9, 9, 0, 2), (15, 9, 1, 2), (18, 9, 2, 2), (21, 9, 3, 2), (25, 9, 4, 2), (28, 9, 5, 2), (31, 9, 6, 0), (35, 9, 7, 0), (38, 9, 8, 0), (41, 9, 9, 2), (44, 9, 10, 2), (47, 9, 11, 2), (50, 9, 12, 0), (53, 9, 13, 0), (56, 9, 14, 0), (59, 9, 15, 1), (63, 9, 16, 1), (66, 6, 4, 0), (69, 6, 3, 2), (92, 6, 0, 2), (95, 6, 1, 2), (102, 6, 2, 2)]
def yl_ciX9 : List (Nat × Int) := []
def yl_cjX9 : List (Nat × Int) := [(82, 2), (128, 1099511627776), (149, 65535)]
def yl_cpX9 : List Nat := [130]
theorem yl_lkX9 (K : ys_K) : ys_Lk RX9 (ys_ws yG K) vwCl yl_flX9 yl_ciX9 yl_cjX9 yl_cpX9 := by
  refine ⟨yg_flc_ok (pls := [(2, 47), (2, 49), (2, 51), (2, 53), (2, 55), (2, 57), (2, 59), (2, 61), (2, 63), (2, 65), (2, 66), (2, 67), (2, 68), (2, 69), (2, 70), (2, 71), (2, 72), (1, 66), (1, 62), (1, 39), (1, 47), (1, 58)]) (by decide +kernel) K, yg_cic_ok (pls := []) (by decide +kernel) K, yg_cjc_ok (pls := [(4, 215), (4, 230), (5, 19)]) (by decide +kernel) K, fun idx hi => ?_⟩
  rcases List.mem_cons.mp hi with hq | hi
  · subst hq
    exact ⟨List.mem_cons_of_mem _ (yG_at (4, 231) rfl), List.mem_cons_of_mem _ (yG_at (3, 70) rfl), List.mem_cons_of_mem _ (yG_at (3, 69) rfl), List.mem_cons_of_mem _ (yG_at (1, 15) rfl)⟩
  cases hi
def yl_flX10 : ys_FL := [(12, 10, 0, 2), (18, 10, 1, 3), (22, 10, 2, 1), (26, 10, 3, 1), (29, 10, 4, 1), (32, 10, 5, 0), (36, 10, 6, 0), (39, 10, 7, 0), (42, 10, 8, 0), (45, 10, 9, 0), (48, 10, 10, 0), (51, 6, 5, 0), (60, 6, 4, 0), (71, 6, 0, 2), (75, 6, 1, 2), (82, 6, 2, 2)]
def yl_ciX10 : List (Nat × Int) := [(88, 1000000), (89, (-1000000))]
def yl_cjX10 : List (Nat × Int) := [(111, 2)]
def yl_cpX10 : List Nat := [100096, 200090]
theorem yl_lkX10 (K : ys_K) : ys_Lk RX10 (ys_ws yG K) vwCl yl_flX10 yl_ciX10 yl_cjX10 yl_cpX10 := by
  refine ⟨yg_flc_ok (pls := [(1, 172), (1, 174), (1, 176), (1, 178), (1, 180), (1, 182), (1, 184), (1, 185), (1, 186), (1, 187), (1, 188), (1, 76), (1, 68), (1, 34), (1, 43), (1, 55)]) (by decide +kernel) K, yg_cic_ok (pls := [(3, 124), (3, 125)]) (by decide +kernel) K, yg_cjc_ok (pls := [(3, 156)]) (by decide +kernel) K, fun idx hi => ?_⟩
  rcases List.mem_cons.mp hi with hq | hi
  · subst hq
    exact ⟨List.mem_cons_of_mem _ (yG_at (3, 129) rfl), List.mem_cons_of_mem _ (yG_at (3, 130) rfl), List.mem_cons_of_mem _ (yG_at (1, 16) rfl), List.mem_cons_of_mem _ (yG_at (3, 131) rfl)⟩
  rcases List.mem_cons.mp hi with hq | hi
  · subst hq
    exact ⟨List.mem_cons_of_mem _ (yG_at (3, 126) rfl), List.mem_cons_of_mem _ (yG_at (3, 127) rfl), List.mem_cons_of_mem _ (yG_at (1, 16) rfl), List.mem_cons_of_mem _ (yG_at (3, 128) rfl)⟩
  cases hi
def yl_flX12 : ys_FL := [(7, 12, 2, 2), (13, 12, 3, 2), (16, 12, 4, 2), (19, 12, 5, 2), (22, 12, 7, 2), (26, 12, 8, 2), (29, 12, 9, 2), (32, 12, 10, 2), (35, 12, 13, 2), (38, 12, 14, 2), (41, 12, 15, 2), (44, 12, 24, 2), (48, 12, 25, 2), (51, 12, 27, 2), (54, 12, 33, 2), (57, 12, 34, 2), (60, 12, 35, 2), (63, 12, 38, 2), (66, 12, 39, 2), (69, 12, 40, 2), (72, 12, 41, 2), (75, 12, 42, 2), (78, 12, 44, 0), (82, 12, 45, 2), (85, 12, 47, 2), (88, 12, 48, 2), (91, 12, 49, 2), (94, 12, 50, 2), (97, 12, 52, 2), (100, 12, 53, 2), (103, 12, 54, 2), (106, 12, 55, 2), (109, 12, 56, 2), (112, 12, 57, 2), (115, 12, 58, 2), (118, 12, 59, 2), (121, 12, 60, 2), (124, 12, 0, 0), (127, 12, 1, 0), (130, 12, 6, 0), (184, 12, 16, 1), (188, 12, 17, 1), (191, 12, 18, 1), (202, 12, 11, 0), (205, 12, 12, 0), (282, 12, 23, 1), (285, 12, 22, 1), (288, 12, 19, 3), (292, 12, 20, 1), (295, 12, 21, 1), (322, 12, 26, 0), (345, 12, 28, 1), (348, 12, 29, 1), (351, 12, 30, 1), (354, 12, 32, 1), (357, 12, 31, 1), (360, 12, 36, 0), (363, 12, 37, 0), (366, 12, 46, 0), (376, 12, 43, 0), (396, 12, 51, 0)]
def yl_ciX12 : List (Nat × Int) := [(344, 1000000)]
def yl_cjX12 : List (Nat × Int) := [(137, (-300)), (139, 300), (153, 3), (155, 1000), (164, (-9223372036854775808)), (166, 40), (168, 2), (182, (-1)), (256, 10), (258, 13), (260, 20), (262, 23), (264, 30), (266, 33), (268, 43), (270, (-1000000)), (272, (-6)), (274, 39), (280, 9223372036854775807), (305, 5), (313, 1000000), (336, 12), (382, 1099511627776), (390, 65535), (406, (-1000))]
def yl_cpX12 : List Nat := []
theorem yl_lkX12 (K : ys_K) : ys_Lk RX12 (ys_ws yG K) vwCl yl_flX12 yl_ciX12 yl_cjX12 yl_cpX12 := by
  refine ⟨yg_flc_ok (pls := [(5, 155), (5, 156), (5, 157), (5, 158), (5, 160), (5, 161), (5, 162), (5, 163), (5, 166), (5, 167), (5, 168), (5, 177), (5, 178), (5, 180), (5, 186), (5, 187), (5, 188), (5, 191), (5, 192), (5, 193), (5, 194), (5, 195), (5, 197), (5, 198), (5, 200), (5, 201), (5, 202), (5, 203), (5, 205), (5, 206), (5, 207), (5, 208), (5, 209), (5, 210), (5, 211), (5, 212), (5, 213), (5, 153), (5, 154), (5, 159), (5, 169), (5, 170), (5, 171), (5, 164), (5, 165), (5, 176), (5, 175), (5, 172), (5, 173), (5, 174), (5, 179), (5, 181), (5, 182), (5, 183), (5, 185), (5, 184), (5, 189), (5, 190), (5, 199), (5, 196), (5, 204)]) (by decide +kernel) K, yg_cic_ok (pls := [(7, 87)]) (by decide +kernel) K, yg_cjc_ok (pls := [(6, 101), (6, 102), (6, 122), (6, 131), (6, 150), (6, 159), (6, 160), (6, 181), (7, 1), (7, 2), (7, 3), (7, 4), (7, 5), (7, 6), (7, 7), (7, 8), (7, 9), (7, 10), (7, 34), (7, 21), (7, 50), (7, 62), (7, 143), (7, 164), (7, 181)]) (by decide +kernel) K, fun idx hi => ?_⟩
  cases hi
def yl_flJ6 : ys_FL := []
def yl_ciJ6 : List (Nat × Int) := [(265, 1431655765), (266, 858993459), (267, 252645135)]
def yl_cjJ6 : List (Nat × Int) := []
def yl_cpJ6 : List Nat := []
theorem yl_lkJ6 (K : ys_K) : ys_Lk RJ6 (ys_ws yG K) vwCl yl_flJ6 yl_ciJ6 yl_cjJ6 yl_cpJ6 := by
  refine ⟨yg_flc_ok (pls := []) (by decide +kernel) K, yg_cic_ok (pls := [(4, 120), (4, 121), (4, 122)]) (by decide +kernel) K, yg_cjc_ok (pls := []) (by decide +kernel) K, fun idx hi => ?_⟩
  cases hi
def yl_flJ13 : ys_FL := []
def yl_ciJ13 : List (Nat × Int) := []
def yl_cjJ13 : List (Nat × Int) := [(314, 6148914691236517205), (316, 3689348814741910323), (318, 1085102592571150095)]
def yl_cpJ13 : List Nat := []
theorem yl_lkJ13 (K : ys_K) : ys_Lk RJ13 (ys_ws yG K) vwCl yl_flJ13 yl_ciJ13 yl_cjJ13 yl_cpJ13 := by
  refine ⟨yg_flc_ok (pls := []) (by decide +kernel) K, yg_cic_ok (pls := []) (by decide +kernel) K, yg_cjc_ok (pls := [(4, 83), (4, 84), (4, 85)]) (by decide +kernel) K, fun idx hi => ?_⟩
  cases hi
def yl_flJ7 : ys_FL := []
def yl_ciJ7 : List (Nat × Int) := []
def yl_cjJ7 : List (Nat × Int) := []
def yl_cpJ7 : List Nat := []
theorem yl_lkJ7 (K : ys_K) : ys_Lk RJ7 (ys_ws yG K) vwCl yl_flJ7 yl_ciJ7 yl_cjJ7 yl_cpJ7 := by
  refine ⟨yg_flc_ok (pls := []) (by decide +kernel) K, yg_cic_ok (pls := []) (by decide +kernel) K, yg_cjc_ok (pls := []) (by decide +kernel) K, fun idx hi => ?_⟩
  cases hi
theorem yl_wX11_99 : ∀ w ∈ va_wsS RX11 99 yX6_isNear [Cond.code yX6_isNear cX6_isNear 2 (some .boolean)], w ∈ yG := List.forall_mem_cons.mpr ⟨yG_at (2, 216) rfl, List.forall_mem_cons.mpr ⟨yG_at (2, 217) rfl, List.forall_mem_cons.mpr ⟨yG_at (1, 2) rfl, List.forall_mem_cons.mpr ⟨yG_at (2, 218) rfl, fun _ h => absurd h List.not_mem_nil⟩⟩⟩⟩
theorem yl_wX11_103 : ∀ w ∈ va_wsS RX11 103 yX6_isColour [Cond.code yX6_isColour cX6_isColour 1 (some .boolean)], w ∈ yG := List.forall_mem_cons.mpr ⟨yG_at (2, 221) rfl, List.forall_mem_cons.mpr ⟨yG_at (2, 222) rfl, List.forall_mem_cons.mpr ⟨yG_at (1, 2) rfl, List.forall_mem_cons.mpr ⟨yG_at (2, 223) rfl, fun _ h => absurd h List.not_mem_nil⟩⟩⟩⟩
theorem yl_wX11_107 : ∀ w ∈ wsV RX11 107 RX11 yX11_told [Cond.code yX11_told cX11_told 2 (some .int)], w ∈ yG := List.forall_mem_cons.mpr ⟨yG_at (2, 224) rfl, List.forall_mem_cons.mpr ⟨yG_at (2, 226) rfl, List.forall_mem_cons.mpr ⟨yG_at (0, 0) rfl, List.forall_mem_cons.mpr ⟨yG_at (1, 1) rfl, List.forall_mem_cons.mpr ⟨yG_at (2, 227) rfl, fun _ h => absurd h List.not_mem_nil⟩⟩⟩⟩⟩
theorem yl_wX11_114 : ∀ w ∈ wsV RX11 114 RX6 yX6_add [Cond.code yX6_add cX6_add 4 none], w ∈ yG := List.forall_mem_cons.mpr ⟨yG_at (2, 228) rfl, List.forall_mem_cons.mpr ⟨yG_at (2, 229) rfl, List.forall_mem_cons.mpr ⟨yG_at (2, 230) rfl, List.forall_mem_cons.mpr ⟨yG_at (1, 2) rfl, List.forall_mem_cons.mpr ⟨yG_at (2, 231) rfl, fun _ h => absurd h List.not_mem_nil⟩⟩⟩⟩⟩
theorem yl_wX11_118 : ∀ w ∈ wsV RX11 118 RX6 yX6_has [Cond.code yX6_has cX6_has 2 (some .boolean)], w ∈ yG := List.forall_mem_cons.mpr ⟨yG_at (2, 236) rfl, List.forall_mem_cons.mpr ⟨yG_at (2, 237) rfl, List.forall_mem_cons.mpr ⟨yG_at (2, 238) rfl, List.forall_mem_cons.mpr ⟨yG_at (1, 2) rfl, List.forall_mem_cons.mpr ⟨yG_at (2, 239) rfl, fun _ h => absurd h List.not_mem_nil⟩⟩⟩⟩⟩
theorem yl_wX11_134 : ∀ w ∈ wsV RX11 134 RX6 yX6_remove [Cond.code yX6_remove cX6_remove 3 none], w ∈ yG := List.forall_mem_cons.mpr ⟨yG_at (3, 4) rfl, List.forall_mem_cons.mpr ⟨yG_at (3, 5) rfl, List.forall_mem_cons.mpr ⟨yG_at (3, 6) rfl, List.forall_mem_cons.mpr ⟨yG_at (1, 2) rfl, List.forall_mem_cons.mpr ⟨yG_at (3, 7) rfl, fun _ h => absurd h List.not_mem_nil⟩⟩⟩⟩⟩
theorem yl_wX11_138 : ∀ w ∈ wsV RX11 138 RX6 yX6_repaint [Cond.code yX6_repaint cX6_repaint 4 none], w ∈ yG := List.forall_mem_cons.mpr ⟨yG_at (3, 13) rfl, List.forall_mem_cons.mpr ⟨yG_at (3, 14) rfl, List.forall_mem_cons.mpr ⟨yG_at (3, 15) rfl, List.forall_mem_cons.mpr ⟨yG_at (1, 2) rfl, List.forall_mem_cons.mpr ⟨yG_at (3, 16) rfl, fun _ h => absurd h List.not_mem_nil⟩⟩⟩⟩⟩
theorem yl_wX11_141 : ∀ w ∈ va_wsS RX11 141 yX11_isSheet [Cond.code yX11_isSheet cX11_isSheet 1 (some .boolean)], w ∈ yG := List.forall_mem_cons.mpr ⟨yG_at (3, 21) rfl, List.forall_mem_cons.mpr ⟨yG_at (3, 22) rfl, List.forall_mem_cons.mpr ⟨yG_at (1, 1) rfl, List.forall_mem_cons.mpr ⟨yG_at (3, 23) rfl, fun _ h => absurd h List.not_mem_nil⟩⟩⟩⟩
theorem yl_wX11_144 : ∀ w ∈ wsV RX11 144 RX8 yX8_tear [Cond.code yX8_tear cX8_tear 1 none], w ∈ yG := List.forall_mem_cons.mpr ⟨yG_at (3, 24) rfl, List.forall_mem_cons.mpr ⟨yG_at (3, 25) rfl, List.forall_mem_cons.mpr ⟨yG_at (3, 26) rfl, List.forall_mem_cons.mpr ⟨yG_at (1, 12) rfl, List.forall_mem_cons.mpr ⟨yG_at (3, 27) rfl, fun _ h => absurd h List.not_mem_nil⟩⟩⟩⟩⟩
theorem yl_wX11_147 : ∀ w ∈ wsV RX11 147 RX8 yX8_lay [Cond.code yX8_lay cX8_lay 3 none], w ∈ yG := List.forall_mem_cons.mpr ⟨yG_at (3, 28) rfl, List.forall_mem_cons.mpr ⟨yG_at (3, 29) rfl, List.forall_mem_cons.mpr ⟨yG_at (3, 30) rfl, List.forall_mem_cons.mpr ⟨yG_at (1, 12) rfl, List.forall_mem_cons.mpr ⟨yG_at (3, 31) rfl, fun _ h => absurd h List.not_mem_nil⟩⟩⟩⟩⟩
theorem yl_wX11_155 : ∀ w ∈ wsV RX11 155 RX8 yX8_has [Cond.code yX8_has cX8_has 2 (some .boolean)], w ∈ yG := List.forall_mem_cons.mpr ⟨yG_at (3, 39) rfl, List.forall_mem_cons.mpr ⟨yG_at (3, 40) rfl, List.forall_mem_cons.mpr ⟨yG_at (3, 41) rfl, List.forall_mem_cons.mpr ⟨yG_at (1, 12) rfl, List.forall_mem_cons.mpr ⟨yG_at (3, 42) rfl, fun _ h => absurd h List.not_mem_nil⟩⟩⟩⟩⟩
theorem yl_wX11_156 : ∀ w ∈ wsV RX11 156 RX8 yX8_put [Cond.code yX8_put cX8_put 4 none], w ∈ yG := List.forall_mem_cons.mpr ⟨yG_at (3, 43) rfl, List.forall_mem_cons.mpr ⟨yG_at (3, 44) rfl, List.forall_mem_cons.mpr ⟨yG_at (3, 45) rfl, List.forall_mem_cons.mpr ⟨yG_at (1, 12) rfl, List.forall_mem_cons.mpr ⟨yG_at (3, 46) rfl, fun _ h => absurd h List.not_mem_nil⟩⟩⟩⟩⟩
theorem yl_wX11_166 : ∀ w ∈ wsV RX11 166 RX8 yX8_hasAll [Cond.code yX8_hasAll cX8_hasAll 3 (some .boolean)], w ∈ yG := List.forall_mem_cons.mpr ⟨yG_at (3, 60) rfl, List.forall_mem_cons.mpr ⟨yG_at (3, 61) rfl, List.forall_mem_cons.mpr ⟨yG_at (3, 62) rfl, List.forall_mem_cons.mpr ⟨yG_at (1, 12) rfl, List.forall_mem_cons.mpr ⟨yG_at (3, 63) rfl, fun _ h => absurd h List.not_mem_nil⟩⟩⟩⟩⟩
theorem yl_wX11_170 : ∀ w ∈ wsV RX11 170 RX8 yX8_putAll [Cond.code yX8_putAll cX8_putAll 6 none], w ∈ yG := List.forall_mem_cons.mpr ⟨yG_at (3, 64) rfl, List.forall_mem_cons.mpr ⟨yG_at (3, 65) rfl, List.forall_mem_cons.mpr ⟨yG_at (3, 66) rfl, List.forall_mem_cons.mpr ⟨yG_at (1, 12) rfl, List.forall_mem_cons.mpr ⟨yG_at (3, 67) rfl, fun _ h => absurd h List.not_mem_nil⟩⟩⟩⟩⟩
theorem yl_wX11_174 : ∀ w ∈ wsV RX11 174 RX8 yX8_hasEveryX [Cond.code yX8_hasEveryX cX8_hasEveryX 3 (some .boolean)], w ∈ yG := List.forall_mem_cons.mpr ⟨yG_at (3, 75) rfl, List.forall_mem_cons.mpr ⟨yG_at (3, 76) rfl, List.forall_mem_cons.mpr ⟨yG_at (3, 77) rfl, List.forall_mem_cons.mpr ⟨yG_at (1, 12) rfl, List.forall_mem_cons.mpr ⟨yG_at (3, 78) rfl, fun _ h => absurd h List.not_mem_nil⟩⟩⟩⟩⟩
theorem yl_wX11_177 : ∀ w ∈ wsV RX11 177 RX8 yX8_hasNearPlaces [Cond.code yX8_hasNearPlaces cX8_hasNearPlaces 4 (some .boolean)], w ∈ yG := List.forall_mem_cons.mpr ⟨yG_at (3, 80) rfl, List.forall_mem_cons.mpr ⟨yG_at (3, 81) rfl, List.forall_mem_cons.mpr ⟨yG_at (3, 82) rfl, List.forall_mem_cons.mpr ⟨yG_at (1, 12) rfl, List.forall_mem_cons.mpr ⟨yG_at (3, 83) rfl, fun _ h => absurd h List.not_mem_nil⟩⟩⟩⟩⟩
theorem yl_wX11_180 : ∀ w ∈ wsV RX11 180 RX8 yX8_numberOrZero [Cond.code yX8_numberOrZero cX8_numberOrZero 2 (some .long)], w ∈ yG := List.forall_mem_cons.mpr ⟨yG_at (3, 90) rfl, List.forall_mem_cons.mpr ⟨yG_at (3, 85) rfl, List.forall_mem_cons.mpr ⟨yG_at (3, 86) rfl, List.forall_mem_cons.mpr ⟨yG_at (1, 12) rfl, List.forall_mem_cons.mpr ⟨yG_at (3, 87) rfl, fun _ h => absurd h List.not_mem_nil⟩⟩⟩⟩⟩
theorem yl_wX11_184 : ∀ w ∈ wsV RX11 184 RX11 yX11_areParted [Cond.code yX11_areParted cX11_areParted 1 (some .boolean)], w ∈ yG := List.forall_mem_cons.mpr ⟨yG_at (3, 95) rfl, List.forall_mem_cons.mpr ⟨yG_at (3, 97) rfl, List.forall_mem_cons.mpr ⟨yG_at (0, 2) rfl, List.forall_mem_cons.mpr ⟨yG_at (1, 1) rfl, List.forall_mem_cons.mpr ⟨yG_at (3, 98) rfl, fun _ h => absurd h List.not_mem_nil⟩⟩⟩⟩⟩
theorem yl_wX11_190 : ∀ w ∈ wsV RX11 190 RX10 yX10_find [Cond.code yX10_find cX10_find 4 none], w ∈ yG := List.forall_mem_cons.mpr ⟨yG_at (3, 107) rfl, List.forall_mem_cons.mpr ⟨yG_at (3, 108) rfl, List.forall_mem_cons.mpr ⟨yG_at (3, 109) rfl, List.forall_mem_cons.mpr ⟨yG_at (1, 5) rfl, List.forall_mem_cons.mpr ⟨yG_at (3, 110) rfl, fun _ h => absurd h List.not_mem_nil⟩⟩⟩⟩⟩
theorem yl_wX11_222 : ∀ w ∈ wsV RX11 222 RX10 yX10_isAtSide [Cond.code yX10_isAtSide cX10_isAtSide 4 (some .boolean)], w ∈ yG := List.forall_mem_cons.mpr ⟨yG_at (3, 172) rfl, List.forall_mem_cons.mpr ⟨yG_at (3, 159) rfl, List.forall_mem_cons.mpr ⟨yG_at (3, 160) rfl, List.forall_mem_cons.mpr ⟨yG_at (1, 5) rfl, List.forall_mem_cons.mpr ⟨yG_at (3, 161) rfl, fun _ h => absurd h List.not_mem_nil⟩⟩⟩⟩⟩
theorem yl_wX11_226 : ∀ w ∈ va_wsS RX11 226 yX4_canTell [Cond.code yX4_canTell cX4_canTell 1 (some .boolean)], w ∈ yG := List.forall_mem_cons.mpr ⟨yG_at (3, 177) rfl, List.forall_mem_cons.mpr ⟨yG_at (3, 178) rfl, List.forall_mem_cons.mpr ⟨yG_at (1, 7) rfl, List.forall_mem_cons.mpr ⟨yG_at (3, 179) rfl, fun _ h => absurd h List.not_mem_nil⟩⟩⟩⟩
theorem yl_wX11_231 : ∀ w ∈ wsV RX11 231 RX4 yX4_find [Cond.code yX4_find cX4_find 2 none], w ∈ yG := List.forall_mem_cons.mpr ⟨yG_at (3, 181) rfl, List.forall_mem_cons.mpr ⟨yG_at (3, 182) rfl, List.forall_mem_cons.mpr ⟨yG_at (3, 183) rfl, List.forall_mem_cons.mpr ⟨yG_at (1, 7) rfl, List.forall_mem_cons.mpr ⟨yG_at (3, 184) rfl, fun _ h => absurd h List.not_mem_nil⟩⟩⟩⟩⟩
theorem yl_wX11_242 : ∀ w ∈ wsV RX11 242 RX4 yX4_tellPoint [Cond.code yX4_tellPoint cX4_tellPoint 3 (some .long)], w ∈ yG := List.forall_mem_cons.mpr ⟨yG_at (4, 28) rfl, List.forall_mem_cons.mpr ⟨yG_at (4, 29) rfl, List.forall_mem_cons.mpr ⟨yG_at (4, 30) rfl, List.forall_mem_cons.mpr ⟨yG_at (1, 7) rfl, List.forall_mem_cons.mpr ⟨yG_at (4, 31) rfl, fun _ h => absurd h List.not_mem_nil⟩⟩⟩⟩⟩
theorem yl_wX11_246 : ∀ w ∈ va_wsS RX11 246 yX2_isLine [Cond.code yX2_isLine cX2_isLine 3 (some .boolean)], w ∈ yG := List.forall_mem_cons.mpr ⟨yG_at (4, 37) rfl, List.forall_mem_cons.mpr ⟨yG_at (4, 38) rfl, List.forall_mem_cons.mpr ⟨yG_at (1, 3) rfl, List.forall_mem_cons.mpr ⟨yG_at (4, 39) rfl, fun _ h => absurd h List.not_mem_nil⟩⟩⟩⟩
theorem yl_wX11_250 : ∀ w ∈ va_wsS RX11 250 yX2_heightAbove [Cond.code yX2_heightAbove cX2_heightAbove 8 (some .long)], w ∈ yG := List.forall_mem_cons.mpr ⟨yG_at (4, 45) rfl, List.forall_mem_cons.mpr ⟨yG_at (4, 46) rfl, List.forall_mem_cons.mpr ⟨yG_at (1, 3) rfl, List.forall_mem_cons.mpr ⟨yG_at (4, 47) rfl, fun _ h => absurd h List.not_mem_nil⟩⟩⟩⟩
theorem yl_wX11_254 : ∀ w ∈ wsV RX11 254 RX11 yX11_canPartFirst [Cond.code yX11_canPartFirst cX11_canPartFirst 2 (some .boolean)], w ∈ yG := List.forall_mem_cons.mpr ⟨yG_at (4, 52) rfl, List.forall_mem_cons.mpr ⟨yG_at (4, 54) rfl, List.forall_mem_cons.mpr ⟨yG_at (0, 23) rfl, List.forall_mem_cons.mpr ⟨yG_at (1, 1) rfl, List.forall_mem_cons.mpr ⟨yG_at (4, 55) rfl, fun _ h => absurd h List.not_mem_nil⟩⟩⟩⟩⟩
theorem yl_wX11_257 : ∀ w ∈ wsV RX11 257 RX5 yX5_find [Cond.code yX5_find cX5_find 5 none], w ∈ yG := List.forall_mem_cons.mpr ⟨yG_at (4, 56) rfl, List.forall_mem_cons.mpr ⟨yG_at (4, 57) rfl, List.forall_mem_cons.mpr ⟨yG_at (4, 58) rfl, List.forall_mem_cons.mpr ⟨yG_at (1, 8) rfl, List.forall_mem_cons.mpr ⟨yG_at (4, 59) rfl, fun _ h => absurd h List.not_mem_nil⟩⟩⟩⟩⟩
theorem yl_wX11_260 : ∀ w ∈ wsV RX11 260 RX5 yX5_tally [Cond.code yX5_tally cX5_tally 3 (some .int)], w ∈ yG := List.forall_mem_cons.mpr ⟨yG_at (4, 76) rfl, List.forall_mem_cons.mpr ⟨yG_at (4, 77) rfl, List.forall_mem_cons.mpr ⟨yG_at (4, 78) rfl, List.forall_mem_cons.mpr ⟨yG_at (1, 8) rfl, List.forall_mem_cons.mpr ⟨yG_at (4, 79) rfl, fun _ h => absurd h List.not_mem_nil⟩⟩⟩⟩⟩
theorem yl_wX11_264 : ∀ w ∈ va_wsS RX11 264 yX5_fits [Cond.code yX5_fits cX5_fits 2 (some .boolean)], w ∈ yG := List.forall_mem_cons.mpr ⟨yG_at (4, 90) rfl, List.forall_mem_cons.mpr ⟨yG_at (4, 91) rfl, List.forall_mem_cons.mpr ⟨yG_at (1, 8) rfl, List.forall_mem_cons.mpr ⟨yG_at (4, 92) rfl, fun _ h => absurd h List.not_mem_nil⟩⟩⟩⟩
theorem yl_wX11_267 : ∀ w ∈ wsV RX11 267 RX5 yX5_isMarked [Cond.code yX5_isMarked cX5_isMarked 2 (some .boolean)], w ∈ yG := List.forall_mem_cons.mpr ⟨yG_at (4, 93) rfl, List.forall_mem_cons.mpr ⟨yG_at (4, 94) rfl, List.forall_mem_cons.mpr ⟨yG_at (4, 95) rfl, List.forall_mem_cons.mpr ⟨yG_at (1, 8) rfl, List.forall_mem_cons.mpr ⟨yG_at (4, 96) rfl, fun _ h => absurd h List.not_mem_nil⟩⟩⟩⟩⟩
theorem yl_wX11_270 : ∀ w ∈ wsV RX11 270 RX5 yX5_findLeastWrong [Cond.code yX5_findLeastWrong cX5_findLeastWrong 5 none], w ∈ yG := List.forall_mem_cons.mpr ⟨yG_at (4, 101) rfl, List.forall_mem_cons.mpr ⟨yG_at (4, 102) rfl, List.forall_mem_cons.mpr ⟨yG_at (4, 103) rfl, List.forall_mem_cons.mpr ⟨yG_at (1, 8) rfl, List.forall_mem_cons.mpr ⟨yG_at (4, 104) rfl, fun _ h => absurd h List.not_mem_nil⟩⟩⟩⟩⟩
theorem yl_wX11_285 : ∀ w ∈ va_wsS RX11 285 yX5_isShattered [Cond.code yX5_isShattered cX5_isShattered 6 (some .boolean)], w ∈ yG := List.forall_mem_cons.mpr ⟨yG_at (4, 114) rfl, List.forall_mem_cons.mpr ⟨yG_at (4, 115) rfl, List.forall_mem_cons.mpr ⟨yG_at (1, 8) rfl, List.forall_mem_cons.mpr ⟨yG_at (4, 116) rfl, fun _ h => absurd h List.not_mem_nil⟩⟩⟩⟩
theorem yl_wX11_288 : ∀ w ∈ wsV RX11 288 RX3 yX3_train [Cond.code yX3_train cX3_train 6 (some .int)], w ∈ yG := List.forall_mem_cons.mpr ⟨yG_at (4, 130) rfl, List.forall_mem_cons.mpr ⟨yG_at (4, 131) rfl, List.forall_mem_cons.mpr ⟨yG_at (4, 132) rfl, List.forall_mem_cons.mpr ⟨yG_at (1, 4) rfl, List.forall_mem_cons.mpr ⟨yG_at (4, 133) rfl, fun _ h => absurd h List.not_mem_nil⟩⟩⟩⟩⟩
theorem yl_wX11_307 : ∀ w ∈ wsV RX11 307 RX3 yX3_forget [Cond.code yX3_forget cX3_forget 1 none], w ∈ yG := List.forall_mem_cons.mpr ⟨yG_at (4, 150) rfl, List.forall_mem_cons.mpr ⟨yG_at (4, 151) rfl, List.forall_mem_cons.mpr ⟨yG_at (4, 152) rfl, List.forall_mem_cons.mpr ⟨yG_at (1, 4) rfl, List.forall_mem_cons.mpr ⟨yG_at (4, 153) rfl, fun _ h => absurd h List.not_mem_nil⟩⟩⟩⟩⟩
theorem yl_wX11_311 : ∀ w ∈ wsV RX11 311 RX2 yX2_add [Cond.code yX2_add cX2_add 4 none], w ∈ yG := List.forall_mem_cons.mpr ⟨yG_at (4, 158) rfl, List.forall_mem_cons.mpr ⟨yG_at (4, 159) rfl, List.forall_mem_cons.mpr ⟨yG_at (4, 160) rfl, List.forall_mem_cons.mpr ⟨yG_at (1, 3) rfl, List.forall_mem_cons.mpr ⟨yG_at (4, 161) rfl, fun _ h => absurd h List.not_mem_nil⟩⟩⟩⟩⟩
theorem yl_wX11_312 : ∀ w ∈ wsV RX11 312 RX2 yX2_thin [Cond.code yX2_thin cX2_thin 6 (some .int)], w ∈ yG := List.forall_mem_cons.mpr ⟨yG_at (4, 166) rfl, List.forall_mem_cons.mpr ⟨yG_at (4, 167) rfl, List.forall_mem_cons.mpr ⟨yG_at (4, 168) rfl, List.forall_mem_cons.mpr ⟨yG_at (1, 3) rfl, List.forall_mem_cons.mpr ⟨yG_at (4, 169) rfl, fun _ h => absurd h List.not_mem_nil⟩⟩⟩⟩⟩
theorem yl_wX11_319 : ∀ w ∈ wsV RX11 319 RX9 yX9_make [Cond.code yX9_make cX9_make 4 none], w ∈ yG := List.forall_mem_cons.mpr ⟨yG_at (4, 188) rfl, List.forall_mem_cons.mpr ⟨yG_at (4, 189) rfl, List.forall_mem_cons.mpr ⟨yG_at (4, 190) rfl, List.forall_mem_cons.mpr ⟨yG_at (1, 9) rfl, List.forall_mem_cons.mpr ⟨yG_at (4, 191) rfl, fun _ h => absurd h List.not_mem_nil⟩⟩⟩⟩⟩
theorem yl_wX11_347 : ∀ w ∈ wsV RX11 347 RX9 yX9_poll [Cond.code yX9_poll cX9_poll 5 (some .int)], w ∈ yG := List.forall_mem_cons.mpr ⟨yG_at (5, 8) rfl, List.forall_mem_cons.mpr ⟨yG_at (5, 9) rfl, List.forall_mem_cons.mpr ⟨yG_at (5, 10) rfl, List.forall_mem_cons.mpr ⟨yG_at (1, 9) rfl, List.forall_mem_cons.mpr ⟨yG_at (5, 11) rfl, fun _ h => absurd h List.not_mem_nil⟩⟩⟩⟩⟩
theorem yl_wX11_350 : ∀ w ∈ wsV RX11 350 RX7 yX7_wrap [Cond.code yX7_wrap cX7_wrap 6 none], w ∈ yG := List.forall_mem_cons.mpr ⟨yG_at (5, 24) rfl, List.forall_mem_cons.mpr ⟨yG_at (5, 25) rfl, List.forall_mem_cons.mpr ⟨yG_at (5, 26) rfl, List.forall_mem_cons.mpr ⟨yG_at (1, 10) rfl, List.forall_mem_cons.mpr ⟨yG_at (5, 27) rfl, fun _ h => absurd h List.not_mem_nil⟩⟩⟩⟩⟩
theorem yl_wX11_362 : ∀ w ∈ va_wsS RX11 362 yX7_depthAt [Cond.code yX7_depthAt cX7_depthAt 8 (some .int)], w ∈ yG := List.forall_mem_cons.mpr ⟨yG_at (5, 48) rfl, List.forall_mem_cons.mpr ⟨yG_at (5, 49) rfl, List.forall_mem_cons.mpr ⟨yG_at (1, 10) rfl, List.forall_mem_cons.mpr ⟨yG_at (5, 50) rfl, fun _ h => absurd h List.not_mem_nil⟩⟩⟩⟩
theorem yl_wX11_366 : ∀ w ∈ va_wsS RX11 366 yX7_firstHalving [Cond.code yX7_firstHalving cX7_firstHalving 5 (some .int)], w ∈ yG := List.forall_mem_cons.mpr ⟨yG_at (5, 59) rfl, List.forall_mem_cons.mpr ⟨yG_at (5, 60) rfl, List.forall_mem_cons.mpr ⟨yG_at (1, 10) rfl, List.forall_mem_cons.mpr ⟨yG_at (5, 61) rfl, fun _ h => absurd h List.not_mem_nil⟩⟩⟩⟩
theorem yl_wX11_369 : ∀ w ∈ wsV RX11 369 RX6 yX6_tally [Cond.code yX6_tally cX6_tally 4 (some .int)], w ∈ yG := List.forall_mem_cons.mpr ⟨yG_at (5, 71) rfl, List.forall_mem_cons.mpr ⟨yG_at (3, 104) rfl, List.forall_mem_cons.mpr ⟨yG_at (3, 105) rfl, List.forall_mem_cons.mpr ⟨yG_at (1, 2) rfl, List.forall_mem_cons.mpr ⟨yG_at (3, 106) rfl, fun _ h => absurd h List.not_mem_nil⟩⟩⟩⟩⟩
theorem yl_wX11_371 : ∀ w ∈ wsV RX11 371 RX6 yX6_coloursShareAPlace [Cond.code yX6_coloursShareAPlace cX6_coloursShareAPlace 3 (some .boolean)], w ∈ yG := List.forall_mem_cons.mpr ⟨yG_at (5, 72) rfl, List.forall_mem_cons.mpr ⟨yG_at (5, 73) rfl, List.forall_mem_cons.mpr ⟨yG_at (5, 74) rfl, List.forall_mem_cons.mpr ⟨yG_at (1, 2) rfl, List.forall_mem_cons.mpr ⟨yG_at (5, 75) rfl, fun _ h => absurd h List.not_mem_nil⟩⟩⟩⟩⟩
theorem yl_wX11_374 : ∀ w ∈ wsV RX11 374 RX0 yX0_fewest [Cond.code yX0_fewest cX0_fewest 5 (some .int)], w ∈ yG := List.forall_mem_cons.mpr ⟨yG_at (5, 77) rfl, List.forall_mem_cons.mpr ⟨yG_at (5, 78) rfl, List.forall_mem_cons.mpr ⟨yG_at (5, 79) rfl, List.forall_mem_cons.mpr ⟨yG_at (1, 11) rfl, List.forall_mem_cons.mpr ⟨yG_at (5, 80) rfl, fun _ h => absurd h List.not_mem_nil⟩⟩⟩⟩⟩
theorem yl_wX11_377 : ∀ w ∈ va_wsS RX11 377 yX11_isImage [Cond.code yX11_isImage cX11_isImage 1 (some .boolean)], w ∈ yG := List.forall_mem_cons.mpr ⟨yG_at (5, 110) rfl, List.forall_mem_cons.mpr ⟨yG_at (5, 111) rfl, List.forall_mem_cons.mpr ⟨yG_at (1, 1) rfl, List.forall_mem_cons.mpr ⟨yG_at (5, 112) rfl, fun _ h => absurd h List.not_mem_nil⟩⟩⟩⟩
theorem yl_wX11_380 : ∀ w ∈ wsV RX11 380 RX6 yX6_become [Cond.code yX6_become cX6_become 2 none], w ∈ yG := List.forall_mem_cons.mpr ⟨yG_at (5, 113) rfl, List.forall_mem_cons.mpr ⟨yG_at (5, 114) rfl, List.forall_mem_cons.mpr ⟨yG_at (5, 115) rfl, List.forall_mem_cons.mpr ⟨yG_at (1, 2) rfl, List.forall_mem_cons.mpr ⟨yG_at (5, 116) rfl, fun _ h => absurd h List.not_mem_nil⟩⟩⟩⟩⟩
theorem yl_wX11_383 : ∀ w ∈ wsV RX11 383 RX2 yX2_become [Cond.code yX2_become cX2_become 2 none], w ∈ yG := List.forall_mem_cons.mpr ⟨yG_at (5, 118) rfl, List.forall_mem_cons.mpr ⟨yG_at (5, 119) rfl, List.forall_mem_cons.mpr ⟨yG_at (5, 120) rfl, List.forall_mem_cons.mpr ⟨yG_at (1, 3) rfl, List.forall_mem_cons.mpr ⟨yG_at (5, 121) rfl, fun _ h => absurd h List.not_mem_nil⟩⟩⟩⟩⟩
theorem yl_wX11_386 : ∀ w ∈ wsV RX11 386 RX3 yX3_become [Cond.code yX3_become cX3_become 2 none], w ∈ yG := List.forall_mem_cons.mpr ⟨yG_at (5, 123) rfl, List.forall_mem_cons.mpr ⟨yG_at (5, 124) rfl, List.forall_mem_cons.mpr ⟨yG_at (5, 125) rfl, List.forall_mem_cons.mpr ⟨yG_at (1, 4) rfl, List.forall_mem_cons.mpr ⟨yG_at (5, 126) rfl, fun _ h => absurd h List.not_mem_nil⟩⟩⟩⟩⟩
theorem yl_wX11_389 : ∀ w ∈ wsV RX11 389 RX6 yX6_allWeights [Cond.code yX6_allWeights cX6_allWeights 3 (some .int)], w ∈ yG := List.forall_mem_cons.mpr ⟨yG_at (5, 135) rfl, List.forall_mem_cons.mpr ⟨yG_at (5, 136) rfl, List.forall_mem_cons.mpr ⟨yG_at (5, 137) rfl, List.forall_mem_cons.mpr ⟨yG_at (1, 2) rfl, List.forall_mem_cons.mpr ⟨yG_at (5, 138) rfl, fun _ h => absurd h List.not_mem_nil⟩⟩⟩⟩⟩
theorem yl_wX11_392 : ∀ w ∈ wsV RX11 392 RX11 yX11_sheetsThere [Cond.code yX11_sheetsThere cX11_sheetsThere 3 (some .int)], w ∈ yG := List.forall_mem_cons.mpr ⟨yG_at (5, 139) rfl, List.forall_mem_cons.mpr ⟨yG_at (5, 141) rfl, List.forall_mem_cons.mpr ⟨yG_at (0, 43) rfl, List.forall_mem_cons.mpr ⟨yG_at (1, 1) rfl, List.forall_mem_cons.mpr ⟨yG_at (5, 142) rfl, fun _ h => absurd h List.not_mem_nil⟩⟩⟩⟩⟩
theorem yl_wX11_395 : ∀ w ∈ wsV RX11 395 RX6 yX6_hasBothColours [Cond.code yX6_hasBothColours cX6_hasBothColours 2 (some .boolean)], w ∈ yG := List.forall_mem_cons.mpr ⟨yG_at (3, 99) rfl, List.forall_mem_cons.mpr ⟨yG_at (3, 100) rfl, List.forall_mem_cons.mpr ⟨yG_at (3, 101) rfl, List.forall_mem_cons.mpr ⟨yG_at (1, 2) rfl, List.forall_mem_cons.mpr ⟨yG_at (3, 102) rfl, fun _ h => absurd h List.not_mem_nil⟩⟩⟩⟩⟩
theorem yl_wX0_29 : ∀ w ∈ wsV RX0 29 RX0 yX0_gather [Cond.code yX0_gather cX0_gather 3 none], w ∈ yG := List.forall_mem_cons.mpr ⟨yG_at (5, 81) rfl, List.forall_mem_cons.mpr ⟨yG_at (5, 83) rfl, List.forall_mem_cons.mpr ⟨yG_at (0, 38) rfl, List.forall_mem_cons.mpr ⟨yG_at (1, 11) rfl, List.forall_mem_cons.mpr ⟨yG_at (5, 84) rfl, fun _ h => absurd h List.not_mem_nil⟩⟩⟩⟩⟩
theorem yl_wX0_33 : ∀ w ∈ va_wsS RX0 33 yJ7_fill_031fb [Cond.code yJ7_fill_031fb cJ7_fill_031fb 4 none], w ∈ yG := List.forall_mem_cons.mpr ⟨yG_at (5, 85) rfl, List.forall_mem_cons.mpr ⟨yG_at (5, 86) rfl, List.forall_mem_cons.mpr ⟨yG_at (1, 14) rfl, List.forall_mem_cons.mpr ⟨yG_at (5, 87) rfl, fun _ h => absurd h List.not_mem_nil⟩⟩⟩⟩
theorem yl_wX0_39 : ∀ w ∈ wsV RX0 39 RX0 yX0_findSets [Cond.code yX0_findSets cX0_findSets 8 none], w ∈ yG := List.forall_mem_cons.mpr ⟨yG_at (5, 88) rfl, List.forall_mem_cons.mpr ⟨yG_at (5, 90) rfl, List.forall_mem_cons.mpr ⟨yG_at (0, 39) rfl, List.forall_mem_cons.mpr ⟨yG_at (1, 11) rfl, List.forall_mem_cons.mpr ⟨yG_at (5, 91) rfl, fun _ h => absurd h List.not_mem_nil⟩⟩⟩⟩⟩
theorem yl_wX0_43 : ∀ w ∈ wsV RX0 43 RX0 yX0_widen [Cond.code yX0_widen cX0_widen 5 none], w ∈ yG := List.forall_mem_cons.mpr ⟨yG_at (5, 102) rfl, List.forall_mem_cons.mpr ⟨yG_at (5, 104) rfl, List.forall_mem_cons.mpr ⟨yG_at (0, 42) rfl, List.forall_mem_cons.mpr ⟨yG_at (1, 11) rfl, List.forall_mem_cons.mpr ⟨yG_at (5, 105) rfl, fun _ h => absurd h List.not_mem_nil⟩⟩⟩⟩⟩
theorem yl_wX0_58 : ∀ w ∈ wsV RX0 58 RX0 yX0_setWithin [Cond.code yX0_setWithin cX0_setWithin 11 (some .int)], w ∈ yG := List.forall_mem_cons.mpr ⟨yG_at (5, 92) rfl, List.forall_mem_cons.mpr ⟨yG_at (5, 94) rfl, List.forall_mem_cons.mpr ⟨yG_at (0, 40) rfl, List.forall_mem_cons.mpr ⟨yG_at (1, 11) rfl, List.forall_mem_cons.mpr ⟨yG_at (5, 95) rfl, fun _ h => absurd h List.not_mem_nil⟩⟩⟩⟩⟩
theorem yl_wX0_62 : ∀ w ∈ wsV RX0 62 RX0 yX0_addSet [Cond.code yX0_addSet cX0_addSet 3 none], w ∈ yG := List.forall_mem_cons.mpr ⟨yG_at (5, 98) rfl, List.forall_mem_cons.mpr ⟨yG_at (5, 100) rfl, List.forall_mem_cons.mpr ⟨yG_at (0, 41) rfl, List.forall_mem_cons.mpr ⟨yG_at (1, 11) rfl, List.forall_mem_cons.mpr ⟨yG_at (5, 101) rfl, fun _ h => absurd h List.not_mem_nil⟩⟩⟩⟩⟩
theorem yl_wX1_16 : ∀ w ∈ va_wsS RX1 16 yX1_common [Cond.code yX1_common cX1_common 11 (some .long)], w ∈ yG := List.forall_mem_cons.mpr ⟨yG_at (3, 147) rfl, List.forall_mem_cons.mpr ⟨yG_at (3, 148) rfl, List.forall_mem_cons.mpr ⟨yG_at (1, 6) rfl, List.forall_mem_cons.mpr ⟨yG_at (3, 149) rfl, fun _ h => absurd h List.not_mem_nil⟩⟩⟩⟩
theorem yl_wX2_28 : ∀ w ∈ va_wsS RX2 28 yX2_canBe [Cond.code yX2_canBe cX2_canBe 1 (some .boolean)], w ∈ yG := List.forall_mem_cons.mpr ⟨yG_at (4, 40) rfl, List.forall_mem_cons.mpr ⟨yG_at (4, 41) rfl, List.forall_mem_cons.mpr ⟨yG_at (1, 3) rfl, List.forall_mem_cons.mpr ⟨yG_at (4, 42) rfl, fun _ h => absurd h List.not_mem_nil⟩⟩⟩⟩
theorem yl_wX2_49 : ∀ w ∈ wsV RX2 49 RX2 yX2_sayers [Cond.code yX2_sayers cX2_sayers 8 (some .int)], w ∈ yG := List.forall_mem_cons.mpr ⟨yG_at (4, 170) rfl, List.forall_mem_cons.mpr ⟨yG_at (4, 172) rfl, List.forall_mem_cons.mpr ⟨yG_at (0, 29) rfl, List.forall_mem_cons.mpr ⟨yG_at (1, 3) rfl, List.forall_mem_cons.mpr ⟨yG_at (4, 173) rfl, fun _ h => absurd h List.not_mem_nil⟩⟩⟩⟩⟩
theorem yl_wX2_53 : ∀ w ∈ va_wsS RX2 53 yJ6_bitCount_0f7a4 [Cond.code yJ6_bitCount_0f7a4 cJ6_bitCount_0f7a4 1 (some .int)], w ∈ yG := List.forall_mem_cons.mpr ⟨yG_at (4, 175) rfl, List.forall_mem_cons.mpr ⟨yG_at (4, 118) rfl, List.forall_mem_cons.mpr ⟨yG_at (1, 18) rfl, List.forall_mem_cons.mpr ⟨yG_at (4, 119) rfl, fun _ h => absurd h List.not_mem_nil⟩⟩⟩⟩
theorem yl_wX2_62 : ∀ w ∈ va_wsS RX2 62 yX2_heightAbove [Cond.code yX2_heightAbove cX2_heightAbove 8 (some .long)], w ∈ yG := List.forall_mem_cons.mpr ⟨yG_at (4, 174) rfl, List.forall_mem_cons.mpr ⟨yG_at (4, 46) rfl, List.forall_mem_cons.mpr ⟨yG_at (1, 3) rfl, List.forall_mem_cons.mpr ⟨yG_at (4, 47) rfl, fun _ h => absurd h List.not_mem_nil⟩⟩⟩⟩
theorem yl_wX3_27 : ∀ w ∈ wsV RX3 27 RX3 yX3_goRound [Cond.code yX3_goRound cX3_goRound 6 (some .int)], w ∈ yG := List.forall_mem_cons.mpr ⟨yG_at (4, 134) rfl, List.forall_mem_cons.mpr ⟨yG_at (4, 136) rfl, List.forall_mem_cons.mpr ⟨yG_at (0, 27) rfl, List.forall_mem_cons.mpr ⟨yG_at (1, 4) rfl, List.forall_mem_cons.mpr ⟨yG_at (4, 137) rfl, fun _ h => absurd h List.not_mem_nil⟩⟩⟩⟩⟩
theorem yl_wX3_47 : ∀ w ∈ wsV RX3 47 RX3 yX3_mend [Cond.code yX3_mend cX3_mend 4 none], w ∈ yG := List.forall_mem_cons.mpr ⟨yG_at (4, 138) rfl, List.forall_mem_cons.mpr ⟨yG_at (4, 140) rfl, List.forall_mem_cons.mpr ⟨yG_at (0, 28) rfl, List.forall_mem_cons.mpr ⟨yG_at (1, 4) rfl, List.forall_mem_cons.mpr ⟨yG_at (4, 141) rfl, fun _ h => absurd h List.not_mem_nil⟩⟩⟩⟩⟩
theorem yl_wX4_65 : ∀ w ∈ wsV RX4 65 RX4 yX4_gather [Cond.code yX4_gather cX4_gather 3 none], w ∈ yG := List.forall_mem_cons.mpr ⟨yG_at (3, 185) rfl, List.forall_mem_cons.mpr ⟨yG_at (3, 187) rfl, List.forall_mem_cons.mpr ⟨yG_at (0, 7) rfl, List.forall_mem_cons.mpr ⟨yG_at (1, 7) rfl, List.forall_mem_cons.mpr ⟨yG_at (3, 188) rfl, fun _ h => absurd h List.not_mem_nil⟩⟩⟩⟩⟩
theorem yl_wX4_69 : ∀ w ∈ wsV RX4 69 RX4 yX4_findOnePlace [Cond.code yX4_findOnePlace cX4_findOnePlace 4 (some .boolean)], w ∈ yG := List.forall_mem_cons.mpr ⟨yG_at (3, 189) rfl, List.forall_mem_cons.mpr ⟨yG_at (3, 191) rfl, List.forall_mem_cons.mpr ⟨yG_at (0, 8) rfl, List.forall_mem_cons.mpr ⟨yG_at (1, 7) rfl, List.forall_mem_cons.mpr ⟨yG_at (3, 192) rfl, fun _ h => absurd h List.not_mem_nil⟩⟩⟩⟩⟩
theorem yl_wX4_73 : ∀ w ∈ wsV RX4 73 RX4 yX4_shareAlone [Cond.code yX4_shareAlone cX4_shareAlone 3 none], w ∈ yG := List.forall_mem_cons.mpr ⟨yG_at (3, 198) rfl, List.forall_mem_cons.mpr ⟨yG_at (3, 200) rfl, List.forall_mem_cons.mpr ⟨yG_at (0, 10) rfl, List.forall_mem_cons.mpr ⟨yG_at (1, 7) rfl, List.forall_mem_cons.mpr ⟨yG_at (3, 201) rfl, fun _ h => absurd h List.not_mem_nil⟩⟩⟩⟩⟩
theorem yl_wX4_77 : ∀ w ∈ wsV RX4 77 RX4 yX4_findYesBetween [Cond.code yX4_findYesBetween cX4_findYesBetween 5 (some .boolean)], w ∈ yG := List.forall_mem_cons.mpr ⟨yG_at (3, 203) rfl, List.forall_mem_cons.mpr ⟨yG_at (3, 205) rfl, List.forall_mem_cons.mpr ⟨yG_at (0, 11) rfl, List.forall_mem_cons.mpr ⟨yG_at (1, 7) rfl, List.forall_mem_cons.mpr ⟨yG_at (3, 206) rfl, fun _ h => absurd h List.not_mem_nil⟩⟩⟩⟩⟩
theorem yl_wX4_80 : ∀ w ∈ wsV RX4 80 RX4 yX4_shareBetween [Cond.code yX4_shareBetween cX4_shareBetween 8 none], w ∈ yG := List.forall_mem_cons.mpr ⟨yG_at (3, 218) rfl, List.forall_mem_cons.mpr ⟨yG_at (3, 220) rfl, List.forall_mem_cons.mpr ⟨yG_at (0, 12) rfl, List.forall_mem_cons.mpr ⟨yG_at (1, 7) rfl, List.forall_mem_cons.mpr ⟨yG_at (3, 221) rfl, fun _ h => absurd h List.not_mem_nil⟩⟩⟩⟩⟩
theorem yl_wX4_84 : ∀ w ∈ wsV RX4 84 RX4 yX4_findNoBetween [Cond.code yX4_findNoBetween cX4_findNoBetween 5 (some .boolean)], w ∈ yG := List.forall_mem_cons.mpr ⟨yG_at (3, 222) rfl, List.forall_mem_cons.mpr ⟨yG_at (3, 224) rfl, List.forall_mem_cons.mpr ⟨yG_at (0, 13) rfl, List.forall_mem_cons.mpr ⟨yG_at (1, 7) rfl, List.forall_mem_cons.mpr ⟨yG_at (3, 225) rfl, fun _ h => absurd h List.not_mem_nil⟩⟩⟩⟩⟩
theorem yl_wX4_87 : ∀ w ∈ wsV RX4 87 RX4 yX4_findYesWithin [Cond.code yX4_findYesWithin cX4_findYesWithin 6 (some .boolean)], w ∈ yG := List.forall_mem_cons.mpr ⟨yG_at (3, 226) rfl, List.forall_mem_cons.mpr ⟨yG_at (3, 228) rfl, List.forall_mem_cons.mpr ⟨yG_at (0, 14) rfl, List.forall_mem_cons.mpr ⟨yG_at (1, 7) rfl, List.forall_mem_cons.mpr ⟨yG_at (3, 229) rfl, fun _ h => absurd h List.not_mem_nil⟩⟩⟩⟩⟩
theorem yl_wX4_90 : ∀ w ∈ wsV RX4 90 RX4 yX4_shareWithin [Cond.code yX4_shareWithin cX4_shareWithin 9 none], w ∈ yG := List.forall_mem_cons.mpr ⟨yG_at (3, 237) rfl, List.forall_mem_cons.mpr ⟨yG_at (3, 239) rfl, List.forall_mem_cons.mpr ⟨yG_at (0, 16) rfl, List.forall_mem_cons.mpr ⟨yG_at (1, 7) rfl, List.forall_mem_cons.mpr ⟨yG_at (4, 0) rfl, fun _ h => absurd h List.not_mem_nil⟩⟩⟩⟩⟩
theorem yl_wX4_93 : ∀ w ∈ wsV RX4 93 RX4 yX4_findNoWithin [Cond.code yX4_findNoWithin cX4_findNoWithin 6 (some .boolean)], w ∈ yG := List.forall_mem_cons.mpr ⟨yG_at (4, 1) rfl, List.forall_mem_cons.mpr ⟨yG_at (4, 3) rfl, List.forall_mem_cons.mpr ⟨yG_at (0, 17) rfl, List.forall_mem_cons.mpr ⟨yG_at (1, 7) rfl, List.forall_mem_cons.mpr ⟨yG_at (4, 4) rfl, fun _ h => absurd h List.not_mem_nil⟩⟩⟩⟩⟩
theorem yl_wX4_96 : ∀ w ∈ wsV RX4 96 RX4 yX4_findCrossing [Cond.code yX4_findCrossing cX4_findCrossing 6 (some .boolean)], w ∈ yG := List.forall_mem_cons.mpr ⟨yG_at (4, 9) rfl, List.forall_mem_cons.mpr ⟨yG_at (4, 11) rfl, List.forall_mem_cons.mpr ⟨yG_at (0, 19) rfl, List.forall_mem_cons.mpr ⟨yG_at (1, 7) rfl, List.forall_mem_cons.mpr ⟨yG_at (4, 12) rfl, fun _ h => absurd h List.not_mem_nil⟩⟩⟩⟩⟩
theorem yl_wX4_99 : ∀ w ∈ wsV RX4 99 RX4 yX4_shareCrossing [Cond.code yX4_shareCrossing cX4_shareCrossing 8 none], w ∈ yG := List.forall_mem_cons.mpr ⟨yG_at (4, 17) rfl, List.forall_mem_cons.mpr ⟨yG_at (4, 19) rfl, List.forall_mem_cons.mpr ⟨yG_at (0, 21) rfl, List.forall_mem_cons.mpr ⟨yG_at (1, 7) rfl, List.forall_mem_cons.mpr ⟨yG_at (4, 20) rfl, fun _ h => absurd h List.not_mem_nil⟩⟩⟩⟩⟩
theorem yl_wX4_106 : ∀ w ∈ wsV RX4 106 RX6 yX6_samePlace [Cond.code yX6_samePlace cX6_samePlace 3 (some .boolean)], w ∈ yG := List.forall_mem_cons.mpr ⟨yG_at (3, 193) rfl, List.forall_mem_cons.mpr ⟨yG_at (3, 117) rfl, List.forall_mem_cons.mpr ⟨yG_at (3, 118) rfl, List.forall_mem_cons.mpr ⟨yG_at (1, 2) rfl, List.forall_mem_cons.mpr ⟨yG_at (3, 119) rfl, fun _ h => absurd h List.not_mem_nil⟩⟩⟩⟩⟩
theorem yl_wX4_110 : ∀ w ∈ wsV RX4 110 RX4 yX4_hold [Cond.code yX4_hold cX4_hold 7 (some .boolean)], w ∈ yG := List.forall_mem_cons.mpr ⟨yG_at (3, 194) rfl, List.forall_mem_cons.mpr ⟨yG_at (3, 196) rfl, List.forall_mem_cons.mpr ⟨yG_at (0, 9) rfl, List.forall_mem_cons.mpr ⟨yG_at (1, 7) rfl, List.forall_mem_cons.mpr ⟨yG_at (3, 197) rfl, fun _ h => absurd h List.not_mem_nil⟩⟩⟩⟩⟩
theorem yl_wX4_114 : ∀ w ∈ va_wsS RX4 114 yX4_isBetween [Cond.code yX4_isBetween cX4_isBetween 4 (some .boolean)], w ∈ yG := List.forall_mem_cons.mpr ⟨yG_at (3, 207) rfl, List.forall_mem_cons.mpr ⟨yG_at (3, 208) rfl, List.forall_mem_cons.mpr ⟨yG_at (1, 7) rfl, List.forall_mem_cons.mpr ⟨yG_at (3, 209) rfl, fun _ h => absurd h List.not_mem_nil⟩⟩⟩⟩
theorem yl_wX4_118 : ∀ w ∈ wsV RX4 118 RX4 yX4_thirdAround [Cond.code yX4_thirdAround cX4_thirdAround 7 (some .int)], w ∈ yG := List.forall_mem_cons.mpr ⟨yG_at (3, 230) rfl, List.forall_mem_cons.mpr ⟨yG_at (3, 232) rfl, List.forall_mem_cons.mpr ⟨yG_at (0, 15) rfl, List.forall_mem_cons.mpr ⟨yG_at (1, 7) rfl, List.forall_mem_cons.mpr ⟨yG_at (3, 233) rfl, fun _ h => absurd h List.not_mem_nil⟩⟩⟩⟩⟩
theorem yl_wX4_122 : ∀ w ∈ wsV RX4 122 RX6 yX6_turn [Cond.code yX6_turn cX6_turn 4 (some .int)], w ∈ yG := List.forall_mem_cons.mpr ⟨yG_at (3, 210) rfl, List.forall_mem_cons.mpr ⟨yG_at (3, 211) rfl, List.forall_mem_cons.mpr ⟨yG_at (3, 212) rfl, List.forall_mem_cons.mpr ⟨yG_at (1, 2) rfl, List.forall_mem_cons.mpr ⟨yG_at (3, 213) rfl, fun _ h => absurd h List.not_mem_nil⟩⟩⟩⟩⟩
theorem yl_wX4_126 : ∀ w ∈ va_wsS RX4 126 yX4_isSameSide [Cond.code yX4_isSameSide cX4_isSameSide 2 (some .boolean)], w ∈ yG := List.forall_mem_cons.mpr ⟨yG_at (3, 234) rfl, List.forall_mem_cons.mpr ⟨yG_at (3, 235) rfl, List.forall_mem_cons.mpr ⟨yG_at (1, 7) rfl, List.forall_mem_cons.mpr ⟨yG_at (3, 236) rfl, fun _ h => absurd h List.not_mem_nil⟩⟩⟩⟩
theorem yl_wX4_129 : ∀ w ∈ wsV RX4 129 RX4 yX4_firstNoWithin [Cond.code yX4_firstNoWithin cX4_firstNoWithin 7 (some .int)], w ∈ yG := List.forall_mem_cons.mpr ⟨yG_at (4, 5) rfl, List.forall_mem_cons.mpr ⟨yG_at (4, 7) rfl, List.forall_mem_cons.mpr ⟨yG_at (0, 18) rfl, List.forall_mem_cons.mpr ⟨yG_at (1, 7) rfl, List.forall_mem_cons.mpr ⟨yG_at (4, 8) rfl, fun _ h => absurd h List.not_mem_nil⟩⟩⟩⟩⟩
theorem yl_wX4_132 : ∀ w ∈ wsV RX4 132 RX4 yX4_otherEndAcross [Cond.code yX4_otherEndAcross cX4_otherEndAcross 7 (some .int)], w ∈ yG := List.forall_mem_cons.mpr ⟨yG_at (4, 13) rfl, List.forall_mem_cons.mpr ⟨yG_at (4, 15) rfl, List.forall_mem_cons.mpr ⟨yG_at (0, 20) rfl, List.forall_mem_cons.mpr ⟨yG_at (1, 7) rfl, List.forall_mem_cons.mpr ⟨yG_at (4, 16) rfl, fun _ h => absurd h List.not_mem_nil⟩⟩⟩⟩⟩
theorem yl_wX4_135 : ∀ w ∈ wsV RX4 135 RX6 yX6_reach [Cond.code yX6_reach cX6_reach 4 (some .int)], w ∈ yG := List.forall_mem_cons.mpr ⟨yG_at (3, 214) rfl, List.forall_mem_cons.mpr ⟨yG_at (3, 215) rfl, List.forall_mem_cons.mpr ⟨yG_at (3, 216) rfl, List.forall_mem_cons.mpr ⟨yG_at (1, 2) rfl, List.forall_mem_cons.mpr ⟨yG_at (3, 217) rfl, fun _ h => absurd h List.not_mem_nil⟩⟩⟩⟩⟩
theorem yl_wX4_138 : ∀ w ∈ wsV RX4 138 RX1 yX1_become [Cond.code yX1_become cX1_become 7 none], w ∈ yG := List.forall_mem_cons.mpr ⟨yG_at (3, 202) rfl, List.forall_mem_cons.mpr ⟨yG_at (3, 144) rfl, List.forall_mem_cons.mpr ⟨yG_at (3, 145) rfl, List.forall_mem_cons.mpr ⟨yG_at (1, 6) rfl, List.forall_mem_cons.mpr ⟨yG_at (3, 146) rfl, fun _ h => absurd h List.not_mem_nil⟩⟩⟩⟩⟩
theorem yl_wX4_148 : ∀ w ∈ wsV RX4 148 RX4 yX4_shareEnds [Cond.code yX4_shareEnds cX4_shareEnds 8 none], w ∈ yG := List.forall_mem_cons.mpr ⟨yG_at (4, 21) rfl, List.forall_mem_cons.mpr ⟨yG_at (4, 23) rfl, List.forall_mem_cons.mpr ⟨yG_at (0, 22) rfl, List.forall_mem_cons.mpr ⟨yG_at (1, 7) rfl, List.forall_mem_cons.mpr ⟨yG_at (4, 24) rfl, fun _ h => absurd h List.not_mem_nil⟩⟩⟩⟩⟩
theorem yl_wX5_25 : ∀ w ∈ va_wsS RX5 25 yJ7_fill_d0a16 [Cond.code yJ7_fill_d0a16 cJ7_fill_d0a16 5 none], w ∈ yG := List.forall_mem_cons.mpr ⟨yG_at (4, 60) rfl, List.forall_mem_cons.mpr ⟨yG_at (3, 33) rfl, List.forall_mem_cons.mpr ⟨yG_at (1, 14) rfl, List.forall_mem_cons.mpr ⟨yG_at (3, 34) rfl, fun _ h => absurd h List.not_mem_nil⟩⟩⟩⟩
theorem yl_wX5_31 : ∀ w ∈ wsV RX5 31 RX5 yX5_markBoth [Cond.code yX5_markBoth cX5_markBoth 2 none], w ∈ yG := List.forall_mem_cons.mpr ⟨yG_at (4, 61) rfl, List.forall_mem_cons.mpr ⟨yG_at (4, 63) rfl, List.forall_mem_cons.mpr ⟨yG_at (0, 24) rfl, List.forall_mem_cons.mpr ⟨yG_at (1, 8) rfl, List.forall_mem_cons.mpr ⟨yG_at (4, 64) rfl, fun _ h => absurd h List.not_mem_nil⟩⟩⟩⟩⟩
theorem yl_wX5_35 : ∀ w ∈ wsV RX5 35 RX6 yX6_samePlace [Cond.code yX6_samePlace cX6_samePlace 3 (some .boolean)], w ∈ yG := List.forall_mem_cons.mpr ⟨yG_at (4, 69) rfl, List.forall_mem_cons.mpr ⟨yG_at (3, 117) rfl, List.forall_mem_cons.mpr ⟨yG_at (3, 118) rfl, List.forall_mem_cons.mpr ⟨yG_at (1, 2) rfl, List.forall_mem_cons.mpr ⟨yG_at (3, 119) rfl, fun _ h => absurd h List.not_mem_nil⟩⟩⟩⟩⟩
theorem yl_wX5_41 : ∀ w ∈ wsV RX5 41 RX5 yX5_markAlong [Cond.code yX5_markAlong cX5_markAlong 10 none], w ∈ yG := List.forall_mem_cons.mpr ⟨yG_at (4, 70) rfl, List.forall_mem_cons.mpr ⟨yG_at (4, 72) rfl, List.forall_mem_cons.mpr ⟨yG_at (0, 26) rfl, List.forall_mem_cons.mpr ⟨yG_at (1, 8) rfl, List.forall_mem_cons.mpr ⟨yG_at (4, 73) rfl, fun _ h => absurd h List.not_mem_nil⟩⟩⟩⟩⟩
theorem yl_wX5_45 : ∀ w ∈ wsV RX5 45 RX6 yX6_turn [Cond.code yX6_turn cX6_turn 4 (some .int)], w ∈ yG := List.forall_mem_cons.mpr ⟨yG_at (4, 74) rfl, List.forall_mem_cons.mpr ⟨yG_at (3, 211) rfl, List.forall_mem_cons.mpr ⟨yG_at (3, 212) rfl, List.forall_mem_cons.mpr ⟨yG_at (1, 2) rfl, List.forall_mem_cons.mpr ⟨yG_at (3, 213) rfl, fun _ h => absurd h List.not_mem_nil⟩⟩⟩⟩⟩
theorem yl_wX5_49 : ∀ w ∈ wsV RX5 49 RX6 yX6_reach [Cond.code yX6_reach cX6_reach 4 (some .int)], w ∈ yG := List.forall_mem_cons.mpr ⟨yG_at (4, 75) rfl, List.forall_mem_cons.mpr ⟨yG_at (3, 215) rfl, List.forall_mem_cons.mpr ⟨yG_at (3, 216) rfl, List.forall_mem_cons.mpr ⟨yG_at (1, 2) rfl, List.forall_mem_cons.mpr ⟨yG_at (3, 217) rfl, fun _ h => absurd h List.not_mem_nil⟩⟩⟩⟩⟩
theorem yl_wX5_52 : ∀ w ∈ wsV RX5 52 RX5 yX5_mark [Cond.code yX5_mark cX5_mark 2 none], w ∈ yG := List.forall_mem_cons.mpr ⟨yG_at (4, 65) rfl, List.forall_mem_cons.mpr ⟨yG_at (4, 67) rfl, List.forall_mem_cons.mpr ⟨yG_at (0, 25) rfl, List.forall_mem_cons.mpr ⟨yG_at (1, 8) rfl, List.forall_mem_cons.mpr ⟨yG_at (4, 68) rfl, fun _ h => absurd h List.not_mem_nil⟩⟩⟩⟩⟩
theorem yl_wX5_55 : ∀ w ∈ va_wsS RX5 55 yJ13_bitCount_95d88 [Cond.code yJ13_bitCount_95d88 cJ13_bitCount_95d88 2 (some .int)], w ∈ yG := List.forall_mem_cons.mpr ⟨yG_at (4, 80) rfl, List.forall_mem_cons.mpr ⟨yG_at (4, 81) rfl, List.forall_mem_cons.mpr ⟨yG_at (1, 17) rfl, List.forall_mem_cons.mpr ⟨yG_at (4, 82) rfl, fun _ h => absurd h List.not_mem_nil⟩⟩⟩⟩
theorem yl_wX5_61 : ∀ w ∈ wsV RX5 61 RX5 yX5_isMarked [Cond.code yX5_isMarked cX5_isMarked 2 (some .boolean)], w ∈ yG := List.forall_mem_cons.mpr ⟨yG_at (4, 105) rfl, List.forall_mem_cons.mpr ⟨yG_at (4, 94) rfl, List.forall_mem_cons.mpr ⟨yG_at (4, 95) rfl, List.forall_mem_cons.mpr ⟨yG_at (1, 8) rfl, List.forall_mem_cons.mpr ⟨yG_at (4, 96) rfl, fun _ h => absurd h List.not_mem_nil⟩⟩⟩⟩⟩
theorem yl_wX5_65 : ∀ w ∈ va_wsS RX5 65 yX5_wrongBy [Cond.code yX5_wrongBy cX5_wrongBy 5 (some .int)], w ∈ yG := List.forall_mem_cons.mpr ⟨yG_at (4, 106) rfl, List.forall_mem_cons.mpr ⟨yG_at (4, 107) rfl, List.forall_mem_cons.mpr ⟨yG_at (1, 8) rfl, List.forall_mem_cons.mpr ⟨yG_at (4, 108) rfl, fun _ h => absurd h List.not_mem_nil⟩⟩⟩⟩
theorem yl_wX5_76 : ∀ w ∈ va_wsS RX5 76 yJ6_bitCount_0f7a4 [Cond.code yJ6_bitCount_0f7a4 cJ6_bitCount_0f7a4 1 (some .int)], w ∈ yG := List.forall_mem_cons.mpr ⟨yG_at (4, 117) rfl, List.forall_mem_cons.mpr ⟨yG_at (4, 118) rfl, List.forall_mem_cons.mpr ⟨yG_at (1, 18) rfl, List.forall_mem_cons.mpr ⟨yG_at (4, 119) rfl, fun _ h => absurd h List.not_mem_nil⟩⟩⟩⟩
theorem yl_wX5_81 : ∀ w ∈ va_wsS RX5 81 yX5_nextOf [Cond.code yX5_nextOf cX5_nextOf 4 (some .int)], w ∈ yG := List.forall_mem_cons.mpr ⟨yG_at (4, 123) rfl, List.forall_mem_cons.mpr ⟨yG_at (4, 124) rfl, List.forall_mem_cons.mpr ⟨yG_at (1, 8) rfl, List.forall_mem_cons.mpr ⟨yG_at (4, 125) rfl, fun _ h => absurd h List.not_mem_nil⟩⟩⟩⟩
theorem yl_wX6_35 : ∀ w ∈ wsV RX6 35 RX6 yX6_has [Cond.code yX6_has cX6_has 2 (some .boolean)], w ∈ yG := List.forall_mem_cons.mpr ⟨yG_at (3, 8) rfl, List.forall_mem_cons.mpr ⟨yG_at (2, 237) rfl, List.forall_mem_cons.mpr ⟨yG_at (2, 238) rfl, List.forall_mem_cons.mpr ⟨yG_at (1, 2) rfl, List.forall_mem_cons.mpr ⟨yG_at (2, 239) rfl, fun _ h => absurd h List.not_mem_nil⟩⟩⟩⟩⟩
theorem yl_wX6_45 : ∀ w ∈ wsV RX6 45 RX6 yX6_tally [Cond.code yX6_tally cX6_tally 4 (some .int)], w ∈ yG := List.forall_mem_cons.mpr ⟨yG_at (3, 103) rfl, List.forall_mem_cons.mpr ⟨yG_at (3, 104) rfl, List.forall_mem_cons.mpr ⟨yG_at (3, 105) rfl, List.forall_mem_cons.mpr ⟨yG_at (1, 2) rfl, List.forall_mem_cons.mpr ⟨yG_at (3, 106) rfl, fun _ h => absurd h List.not_mem_nil⟩⟩⟩⟩⟩
theorem yl_wX6_49 : ∀ w ∈ wsV RX6 49 RX6 yX6_samePlace [Cond.code yX6_samePlace cX6_samePlace 3 (some .boolean)], w ∈ yG := List.forall_mem_cons.mpr ⟨yG_at (5, 76) rfl, List.forall_mem_cons.mpr ⟨yG_at (3, 117) rfl, List.forall_mem_cons.mpr ⟨yG_at (3, 118) rfl, List.forall_mem_cons.mpr ⟨yG_at (1, 2) rfl, List.forall_mem_cons.mpr ⟨yG_at (3, 119) rfl, fun _ h => absurd h List.not_mem_nil⟩⟩⟩⟩⟩
theorem yl_wX7_19 : ∀ w ∈ va_wsS RX7 19 yX7_lowest [Cond.code yX7_lowest cX7_lowest 4 (some .int)], w ∈ yG := List.forall_mem_cons.mpr ⟨yG_at (5, 28) rfl, List.forall_mem_cons.mpr ⟨yG_at (5, 29) rfl, List.forall_mem_cons.mpr ⟨yG_at (1, 10) rfl, List.forall_mem_cons.mpr ⟨yG_at (5, 30) rfl, fun _ h => absurd h List.not_mem_nil⟩⟩⟩⟩
theorem yl_wX7_23 : ∀ w ∈ va_wsS RX7 23 yX7_nextCorner [Cond.code yX7_nextCorner cX7_nextCorner 5 (some .int)], w ∈ yG := List.forall_mem_cons.mpr ⟨yG_at (5, 34) rfl, List.forall_mem_cons.mpr ⟨yG_at (5, 35) rfl, List.forall_mem_cons.mpr ⟨yG_at (1, 10) rfl, List.forall_mem_cons.mpr ⟨yG_at (5, 36) rfl, fun _ h => absurd h List.not_mem_nil⟩⟩⟩⟩
theorem yl_wX7_35 : ∀ w ∈ va_wsS RX7 35 yX7_isLower [Cond.code yX7_isLower cX7_isLower 3 (some .boolean)], w ∈ yG := List.forall_mem_cons.mpr ⟨yG_at (5, 31) rfl, List.forall_mem_cons.mpr ⟨yG_at (5, 32) rfl, List.forall_mem_cons.mpr ⟨yG_at (1, 10) rfl, List.forall_mem_cons.mpr ⟨yG_at (5, 33) rfl, fun _ h => absurd h List.not_mem_nil⟩⟩⟩⟩
theorem yl_wX7_45 : ∀ w ∈ wsV RX7 45 RX6 yX6_samePlace [Cond.code yX6_samePlace cX6_samePlace 3 (some .boolean)], w ∈ yG := List.forall_mem_cons.mpr ⟨yG_at (5, 37) rfl, List.forall_mem_cons.mpr ⟨yG_at (3, 117) rfl, List.forall_mem_cons.mpr ⟨yG_at (3, 118) rfl, List.forall_mem_cons.mpr ⟨yG_at (1, 2) rfl, List.forall_mem_cons.mpr ⟨yG_at (3, 119) rfl, fun _ h => absurd h List.not_mem_nil⟩⟩⟩⟩⟩
theorem yl_wX7_49 : ∀ w ∈ va_wsS RX7 49 yX7_isOuter [Cond.code yX7_isOuter cX7_isOuter 5 (some .boolean)], w ∈ yG := List.forall_mem_cons.mpr ⟨yG_at (5, 38) rfl, List.forall_mem_cons.mpr ⟨yG_at (5, 39) rfl, List.forall_mem_cons.mpr ⟨yG_at (1, 10) rfl, List.forall_mem_cons.mpr ⟨yG_at (5, 40) rfl, fun _ h => absurd h List.not_mem_nil⟩⟩⟩⟩
theorem yl_wX7_53 : ∀ w ∈ wsV RX7 53 RX6 yX6_turn [Cond.code yX6_turn cX6_turn 4 (some .int)], w ∈ yG := List.forall_mem_cons.mpr ⟨yG_at (5, 41) rfl, List.forall_mem_cons.mpr ⟨yG_at (3, 211) rfl, List.forall_mem_cons.mpr ⟨yG_at (3, 212) rfl, List.forall_mem_cons.mpr ⟨yG_at (1, 2) rfl, List.forall_mem_cons.mpr ⟨yG_at (3, 213) rfl, fun _ h => absurd h List.not_mem_nil⟩⟩⟩⟩⟩
theorem yl_wX7_57 : ∀ w ∈ wsV RX7 57 RX6 yX6_reach [Cond.code yX6_reach cX6_reach 4 (some .int)], w ∈ yG := List.forall_mem_cons.mpr ⟨yG_at (5, 42) rfl, List.forall_mem_cons.mpr ⟨yG_at (3, 215) rfl, List.forall_mem_cons.mpr ⟨yG_at (3, 216) rfl, List.forall_mem_cons.mpr ⟨yG_at (1, 2) rfl, List.forall_mem_cons.mpr ⟨yG_at (3, 217) rfl, fun _ h => absurd h List.not_mem_nil⟩⟩⟩⟩⟩
theorem yl_wX7_60 : ∀ w ∈ va_wsS RX7 60 yX7_lighterSide [Cond.code yX7_lighterSide cX7_lighterSide 14 (some .int)], w ∈ yG := List.forall_mem_cons.mpr ⟨yG_at (5, 51) rfl, List.forall_mem_cons.mpr ⟨yG_at (5, 52) rfl, List.forall_mem_cons.mpr ⟨yG_at (1, 10) rfl, List.forall_mem_cons.mpr ⟨yG_at (5, 53) rfl, fun _ h => absurd h List.not_mem_nil⟩⟩⟩⟩
theorem yl_wX7_70 : ∀ w ∈ wsV RX7 70 RX6 yX6_tally [Cond.code yX6_tally cX6_tally 4 (some .int)], w ∈ yG := List.forall_mem_cons.mpr ⟨yG_at (5, 62) rfl, List.forall_mem_cons.mpr ⟨yG_at (3, 104) rfl, List.forall_mem_cons.mpr ⟨yG_at (3, 105) rfl, List.forall_mem_cons.mpr ⟨yG_at (1, 2) rfl, List.forall_mem_cons.mpr ⟨yG_at (3, 106) rfl, fun _ h => absurd h List.not_mem_nil⟩⟩⟩⟩⟩
theorem yl_wX7_74 : ∀ w ∈ va_wsS RX7 74 yX7_isHalving [Cond.code yX7_isHalving cX7_isHalving 9 (some .boolean)], w ∈ yG := List.forall_mem_cons.mpr ⟨yG_at (5, 63) rfl, List.forall_mem_cons.mpr ⟨yG_at (5, 64) rfl, List.forall_mem_cons.mpr ⟨yG_at (1, 10) rfl, List.forall_mem_cons.mpr ⟨yG_at (5, 65) rfl, fun _ h => absurd h List.not_mem_nil⟩⟩⟩⟩
theorem yl_wX8_26 : ∀ w ∈ va_wsS RX8 26 yJ7_fill_d0a16 [Cond.code yJ7_fill_d0a16 cJ7_fill_d0a16 5 none], w ∈ yG := List.forall_mem_cons.mpr ⟨yG_at (3, 32) rfl, List.forall_mem_cons.mpr ⟨yG_at (3, 33) rfl, List.forall_mem_cons.mpr ⟨yG_at (1, 14) rfl, List.forall_mem_cons.mpr ⟨yG_at (3, 34) rfl, fun _ h => absurd h List.not_mem_nil⟩⟩⟩⟩
theorem yl_wX8_32 : ∀ w ∈ wsV RX8 32 RX8 yX8_cut [Cond.code yX8_cut cX8_cut 3 (some .long)], w ∈ yG := List.forall_mem_cons.mpr ⟨yG_at (3, 47) rfl, List.forall_mem_cons.mpr ⟨yG_at (3, 49) rfl, List.forall_mem_cons.mpr ⟨yG_at (0, 1) rfl, List.forall_mem_cons.mpr ⟨yG_at (1, 12) rfl, List.forall_mem_cons.mpr ⟨yG_at (3, 50) rfl, fun _ h => absurd h List.not_mem_nil⟩⟩⟩⟩⟩
theorem yl_wX8_44 : ∀ w ∈ wsV RX8 44 RX8 yX8_numberOrZero [Cond.code yX8_numberOrZero cX8_numberOrZero 2 (some .long)], w ∈ yG := List.forall_mem_cons.mpr ⟨yG_at (3, 84) rfl, List.forall_mem_cons.mpr ⟨yG_at (3, 85) rfl, List.forall_mem_cons.mpr ⟨yG_at (3, 86) rfl, List.forall_mem_cons.mpr ⟨yG_at (1, 12) rfl, List.forall_mem_cons.mpr ⟨yG_at (3, 87) rfl, fun _ h => absurd h List.not_mem_nil⟩⟩⟩⟩⟩
theorem yl_wX8_48 : ∀ w ∈ va_wsS RX8 48 yX6_isNear [Cond.code yX6_isNear cX6_isNear 2 (some .boolean)], w ∈ yG := List.forall_mem_cons.mpr ⟨yG_at (3, 89) rfl, List.forall_mem_cons.mpr ⟨yG_at (2, 217) rfl, List.forall_mem_cons.mpr ⟨yG_at (1, 2) rfl, List.forall_mem_cons.mpr ⟨yG_at (2, 218) rfl, fun _ h => absurd h List.not_mem_nil⟩⟩⟩⟩
theorem yl_wX8_54 : ∀ w ∈ wsV RX8 54 RX8 yX8_has [Cond.code yX8_has cX8_has 2 (some .boolean)], w ∈ yG := List.forall_mem_cons.mpr ⟨yG_at (3, 88) rfl, List.forall_mem_cons.mpr ⟨yG_at (3, 40) rfl, List.forall_mem_cons.mpr ⟨yG_at (3, 41) rfl, List.forall_mem_cons.mpr ⟨yG_at (1, 12) rfl, List.forall_mem_cons.mpr ⟨yG_at (3, 42) rfl, fun _ h => absurd h List.not_mem_nil⟩⟩⟩⟩⟩
theorem yl_wX9_72 : ∀ w ∈ wsV RX9 72 RX9 yX9_playRound [Cond.code yX9_playRound cX9_playRound 2 none], w ∈ yG := List.forall_mem_cons.mpr ⟨yG_at (4, 192) rfl, List.forall_mem_cons.mpr ⟨yG_at (4, 194) rfl, List.forall_mem_cons.mpr ⟨yG_at (0, 30) rfl, List.forall_mem_cons.mpr ⟨yG_at (1, 9) rfl, List.forall_mem_cons.mpr ⟨yG_at (4, 195) rfl, fun _ h => absurd h List.not_mem_nil⟩⟩⟩⟩⟩
theorem yl_wX9_76 : ∀ w ∈ wsV RX9 76 RX9 yX9_choose [Cond.code yX9_choose cX9_choose 4 none], w ∈ yG := List.forall_mem_cons.mpr ⟨yG_at (4, 196) rfl, List.forall_mem_cons.mpr ⟨yG_at (4, 198) rfl, List.forall_mem_cons.mpr ⟨yG_at (0, 31) rfl, List.forall_mem_cons.mpr ⟨yG_at (1, 9) rfl, List.forall_mem_cons.mpr ⟨yG_at (4, 199) rfl, fun _ h => absurd h List.not_mem_nil⟩⟩⟩⟩⟩
theorem yl_wX9_79 : ∀ w ∈ wsV RX9 79 RX9 yX9_keepChosen [Cond.code yX9_keepChosen cX9_keepChosen 1 none], w ∈ yG := List.forall_mem_cons.mpr ⟨yG_at (4, 211) rfl, List.forall_mem_cons.mpr ⟨yG_at (4, 213) rfl, List.forall_mem_cons.mpr ⟨yG_at (0, 34) rfl, List.forall_mem_cons.mpr ⟨yG_at (1, 9) rfl, List.forall_mem_cons.mpr ⟨yG_at (4, 214) rfl, fun _ h => absurd h List.not_mem_nil⟩⟩⟩⟩⟩
theorem yl_wX9_84 : ∀ w ∈ wsV RX9 84 RX9 yX9_reweigh [Cond.code yX9_reweigh cX9_reweigh 24 (some .boolean)], w ∈ yG := List.forall_mem_cons.mpr ⟨yG_at (4, 216) rfl, List.forall_mem_cons.mpr ⟨yG_at (4, 218) rfl, List.forall_mem_cons.mpr ⟨yG_at (0, 35) rfl, List.forall_mem_cons.mpr ⟨yG_at (1, 9) rfl, List.forall_mem_cons.mpr ⟨yG_at (4, 219) rfl, fun _ h => absurd h List.not_mem_nil⟩⟩⟩⟩⟩
theorem yl_wX9_88 : ∀ w ∈ wsV RX9 88 RX9 yX9_weigh [Cond.code yX9_weigh cX9_weigh 7 none], w ∈ yG := List.forall_mem_cons.mpr ⟨yG_at (4, 200) rfl, List.forall_mem_cons.mpr ⟨yG_at (4, 202) rfl, List.forall_mem_cons.mpr ⟨yG_at (0, 32) rfl, List.forall_mem_cons.mpr ⟨yG_at (1, 9) rfl, List.forall_mem_cons.mpr ⟨yG_at (4, 203) rfl, fun _ h => absurd h List.not_mem_nil⟩⟩⟩⟩⟩
theorem yl_wX9_98 : ∀ w ∈ va_wsS RX9 98 yX9_saysYes [Cond.code yX9_saysYes cX9_saysYes 6 (some .boolean)], w ∈ yG := List.forall_mem_cons.mpr ⟨yG_at (4, 204) rfl, List.forall_mem_cons.mpr ⟨yG_at (4, 205) rfl, List.forall_mem_cons.mpr ⟨yG_at (1, 9) rfl, List.forall_mem_cons.mpr ⟨yG_at (4, 206) rfl, fun _ h => absurd h List.not_mem_nil⟩⟩⟩⟩
theorem yl_wX9_105 : ∀ w ∈ wsV RX9 105 RX9 yX9_offer [Cond.code yX9_offer cX9_offer 7 none], w ∈ yG := List.forall_mem_cons.mpr ⟨yG_at (4, 207) rfl, List.forall_mem_cons.mpr ⟨yG_at (4, 209) rfl, List.forall_mem_cons.mpr ⟨yG_at (0, 33) rfl, List.forall_mem_cons.mpr ⟨yG_at (1, 9) rfl, List.forall_mem_cons.mpr ⟨yG_at (4, 210) rfl, fun _ h => absurd h List.not_mem_nil⟩⟩⟩⟩⟩
theorem yl_wX9_109 : ∀ w ∈ wsV RX9 109 RX9 yX9_isWrong [Cond.code yX9_isWrong cX9_isWrong 3 (some .boolean)], w ∈ yG := List.forall_mem_cons.mpr ⟨yG_at (4, 225) rfl, List.forall_mem_cons.mpr ⟨yG_at (4, 227) rfl, List.forall_mem_cons.mpr ⟨yG_at (0, 37) rfl, List.forall_mem_cons.mpr ⟨yG_at (1, 9) rfl, List.forall_mem_cons.mpr ⟨yG_at (4, 228) rfl, fun _ h => absurd h List.not_mem_nil⟩⟩⟩⟩⟩
theorem yl_wX9_113 : ∀ w ∈ va_wsS RX9 113 yX1_common [Cond.code yX1_common cX1_common 11 (some .long)], w ∈ yG := List.forall_mem_cons.mpr ⟨yG_at (4, 220) rfl, List.forall_mem_cons.mpr ⟨yG_at (3, 148) rfl, List.forall_mem_cons.mpr ⟨yG_at (1, 6) rfl, List.forall_mem_cons.mpr ⟨yG_at (3, 149) rfl, fun _ h => absurd h List.not_mem_nil⟩⟩⟩⟩
theorem yl_wX9_124 : ∀ w ∈ wsV RX9 124 RX9 yX9_commonMass [Cond.code yX9_commonMass cX9_commonMass 6 (some .long)], w ∈ yG := List.forall_mem_cons.mpr ⟨yG_at (4, 221) rfl, List.forall_mem_cons.mpr ⟨yG_at (4, 223) rfl, List.forall_mem_cons.mpr ⟨yG_at (0, 36) rfl, List.forall_mem_cons.mpr ⟨yG_at (1, 9) rfl, List.forall_mem_cons.mpr ⟨yG_at (4, 224) rfl, fun _ h => absurd h List.not_mem_nil⟩⟩⟩⟩⟩
theorem yl_wX9_136 : ∀ w ∈ va_wsS RX9 136 yX9_setToOne [Cond.code yX9_setToOne cX9_setToOne 1 none], w ∈ yG := List.forall_mem_cons.mpr ⟨yG_at (5, 12) rfl, List.forall_mem_cons.mpr ⟨yG_at (5, 13) rfl, List.forall_mem_cons.mpr ⟨yG_at (1, 9) rfl, List.forall_mem_cons.mpr ⟨yG_at (5, 14) rfl, fun _ h => absurd h List.not_mem_nil⟩⟩⟩⟩
theorem yl_wX9_140 : ∀ w ∈ va_wsS RX9 140 yX9_multiply [Cond.code yX9_multiply cX9_multiply 8 none], w ∈ yG := List.forall_mem_cons.mpr ⟨yG_at (5, 16) rfl, List.forall_mem_cons.mpr ⟨yG_at (5, 17) rfl, List.forall_mem_cons.mpr ⟨yG_at (1, 9) rfl, List.forall_mem_cons.mpr ⟨yG_at (5, 18) rfl, fun _ h => absurd h List.not_mem_nil⟩⟩⟩⟩
theorem yl_wX9_144 : ∀ w ∈ va_wsS RX9 144 yJ7_fill_d0a16 [Cond.code yJ7_fill_d0a16 cJ7_fill_d0a16 5 none], w ∈ yG := List.forall_mem_cons.mpr ⟨yG_at (5, 15) rfl, List.forall_mem_cons.mpr ⟨yG_at (3, 33) rfl, List.forall_mem_cons.mpr ⟨yG_at (1, 14) rfl, List.forall_mem_cons.mpr ⟨yG_at (3, 34) rfl, fun _ h => absurd h List.not_mem_nil⟩⟩⟩⟩
theorem yl_wX10_56 : ∀ w ∈ wsV RX10 56 RX6 yX6_hasBothColours [Cond.code yX6_hasBothColours cX6_hasBothColours 2 (some .boolean)], w ∈ yG := List.forall_mem_cons.mpr ⟨yG_at (3, 111) rfl, List.forall_mem_cons.mpr ⟨yG_at (3, 100) rfl, List.forall_mem_cons.mpr ⟨yG_at (3, 101) rfl, List.forall_mem_cons.mpr ⟨yG_at (1, 2) rfl, List.forall_mem_cons.mpr ⟨yG_at (3, 102) rfl, fun _ h => absurd h List.not_mem_nil⟩⟩⟩⟩⟩
theorem yl_wX10_63 : ∀ w ∈ wsV RX10 63 RX10 yX10_tryPair [Cond.code yX10_tryPair cX10_tryPair 6 none], w ∈ yG := List.forall_mem_cons.mpr ⟨yG_at (3, 112) rfl, List.forall_mem_cons.mpr ⟨yG_at (3, 114) rfl, List.forall_mem_cons.mpr ⟨yG_at (0, 3) rfl, List.forall_mem_cons.mpr ⟨yG_at (1, 5) rfl, List.forall_mem_cons.mpr ⟨yG_at (3, 115) rfl, fun _ h => absurd h List.not_mem_nil⟩⟩⟩⟩⟩
theorem yl_wX10_67 : ∀ w ∈ wsV RX10 67 RX10 yX10_finish [Cond.code yX10_finish cX10_finish 9 none], w ∈ yG := List.forall_mem_cons.mpr ⟨yG_at (3, 139) rfl, List.forall_mem_cons.mpr ⟨yG_at (3, 141) rfl, List.forall_mem_cons.mpr ⟨yG_at (0, 6) rfl, List.forall_mem_cons.mpr ⟨yG_at (1, 5) rfl, List.forall_mem_cons.mpr ⟨yG_at (3, 142) rfl, fun _ h => absurd h List.not_mem_nil⟩⟩⟩⟩⟩
theorem yl_wX10_78 : ∀ w ∈ wsV RX10 78 RX6 yX6_samePlace [Cond.code yX6_samePlace cX6_samePlace 3 (some .boolean)], w ∈ yG := List.forall_mem_cons.mpr ⟨yG_at (3, 116) rfl, List.forall_mem_cons.mpr ⟨yG_at (3, 117) rfl, List.forall_mem_cons.mpr ⟨yG_at (3, 118) rfl, List.forall_mem_cons.mpr ⟨yG_at (1, 2) rfl, List.forall_mem_cons.mpr ⟨yG_at (3, 119) rfl, fun _ h => absurd h List.not_mem_nil⟩⟩⟩⟩⟩
theorem yl_wX10_85 : ∀ w ∈ wsV RX10 85 RX10 yX10_tryAcross [Cond.code yX10_tryAcross cX10_tryAcross 8 none], w ∈ yG := List.forall_mem_cons.mpr ⟨yG_at (3, 120) rfl, List.forall_mem_cons.mpr ⟨yG_at (3, 122) rfl, List.forall_mem_cons.mpr ⟨yG_at (0, 4) rfl, List.forall_mem_cons.mpr ⟨yG_at (1, 5) rfl, List.forall_mem_cons.mpr ⟨yG_at (3, 123) rfl, fun _ h => absurd h List.not_mem_nil⟩⟩⟩⟩⟩
theorem yl_wX10_99 : ∀ w ∈ wsV RX10 99 RX10 yX10_isWider [Cond.code yX10_isWider cX10_isWider 7 (some .boolean)], w ∈ yG := List.forall_mem_cons.mpr ⟨yG_at (3, 132) rfl, List.forall_mem_cons.mpr ⟨yG_at (3, 134) rfl, List.forall_mem_cons.mpr ⟨yG_at (0, 5) rfl, List.forall_mem_cons.mpr ⟨yG_at (1, 5) rfl, List.forall_mem_cons.mpr ⟨yG_at (3, 135) rfl, fun _ h => absurd h List.not_mem_nil⟩⟩⟩⟩⟩
theorem yl_wX10_103 : ∀ w ∈ va_wsS RX10 103 yX10_squareSum [Cond.code yX10_squareSum cX10_squareSum 4 (some .long)], w ∈ yG := List.forall_mem_cons.mpr ⟨yG_at (3, 136) rfl, List.forall_mem_cons.mpr ⟨yG_at (3, 137) rfl, List.forall_mem_cons.mpr ⟨yG_at (1, 5) rfl, List.forall_mem_cons.mpr ⟨yG_at (3, 138) rfl, fun _ h => absurd h List.not_mem_nil⟩⟩⟩⟩
theorem yl_wX10_107 : ∀ w ∈ wsV RX10 107 RX1 yX1_become [Cond.code yX1_become cX1_become 7 none], w ∈ yG := List.forall_mem_cons.mpr ⟨yG_at (3, 143) rfl, List.forall_mem_cons.mpr ⟨yG_at (3, 144) rfl, List.forall_mem_cons.mpr ⟨yG_at (3, 145) rfl, List.forall_mem_cons.mpr ⟨yG_at (1, 6) rfl, List.forall_mem_cons.mpr ⟨yG_at (3, 146) rfl, fun _ h => absurd h List.not_mem_nil⟩⟩⟩⟩⟩
theorem yl_wX10_113 : ∀ w ∈ va_wsS RX10 113 yX1_common [Cond.code yX1_common cX1_common 11 (some .long)], w ∈ yG := List.forall_mem_cons.mpr ⟨yG_at (3, 157) rfl, List.forall_mem_cons.mpr ⟨yG_at (3, 148) rfl, List.forall_mem_cons.mpr ⟨yG_at (1, 6) rfl, List.forall_mem_cons.mpr ⟨yG_at (3, 149) rfl, fun _ h => absurd h List.not_mem_nil⟩⟩⟩⟩
theorem yl_wX10_116 : ∀ w ∈ wsV RX10 116 RX10 yX10_isAtSide [Cond.code yX10_isAtSide cX10_isAtSide 4 (some .boolean)], w ∈ yG := List.forall_mem_cons.mpr ⟨yG_at (3, 158) rfl, List.forall_mem_cons.mpr ⟨yG_at (3, 159) rfl, List.forall_mem_cons.mpr ⟨yG_at (3, 160) rfl, List.forall_mem_cons.mpr ⟨yG_at (1, 5) rfl, List.forall_mem_cons.mpr ⟨yG_at (3, 161) rfl, fun _ h => absurd h List.not_mem_nil⟩⟩⟩⟩⟩
theorem yl_wX12_133 : ∀ w ∈ va_wsS RX12 133 yX12_in [Cond.code yX12_in cX12_in 6 (some .boolean)], w ∈ yG := List.forall_mem_cons.mpr ⟨yG_at (6, 103) rfl, List.forall_mem_cons.mpr ⟨yG_at (6, 104) rfl, List.forall_mem_cons.mpr ⟨yG_at (1, 13) rfl, List.forall_mem_cons.mpr ⟨yG_at (6, 105) rfl, fun _ h => absurd h List.not_mem_nil⟩⟩⟩⟩
theorem yl_wX12_141 : ∀ w ∈ wsV RX12 141 RX12 yX12_told [Cond.code yX12_told cX12_told 2 (some .int)], w ∈ yG := List.forall_mem_cons.mpr ⟨yG_at (6, 106) rfl, List.forall_mem_cons.mpr ⟨yG_at (6, 108) rfl, List.forall_mem_cons.mpr ⟨yG_at (0, 44) rfl, List.forall_mem_cons.mpr ⟨yG_at (1, 13) rfl, List.forall_mem_cons.mpr ⟨yG_at (6, 109) rfl, fun _ h => absurd h List.not_mem_nil⟩⟩⟩⟩⟩
theorem yl_wX12_145 : ∀ w ∈ wsV RX12 145 RX12 yX12_add [Cond.code yX12_add cX12_add 4 none], w ∈ yG := List.forall_mem_cons.mpr ⟨yG_at (6, 110) rfl, List.forall_mem_cons.mpr ⟨yG_at (6, 112) rfl, List.forall_mem_cons.mpr ⟨yG_at (0, 45) rfl, List.forall_mem_cons.mpr ⟨yG_at (1, 13) rfl, List.forall_mem_cons.mpr ⟨yG_at (6, 113) rfl, fun _ h => absurd h List.not_mem_nil⟩⟩⟩⟩⟩
theorem yl_wX12_149 : ∀ w ∈ wsV RX12 149 RX12 yX12_isPoint [Cond.code yX12_isPoint cX12_isPoint 2 (some .boolean)], w ∈ yG := List.forall_mem_cons.mpr ⟨yG_at (6, 118) rfl, List.forall_mem_cons.mpr ⟨yG_at (6, 120) rfl, List.forall_mem_cons.mpr ⟨yG_at (0, 46) rfl, List.forall_mem_cons.mpr ⟨yG_at (1, 13) rfl, List.forall_mem_cons.mpr ⟨yG_at (6, 121) rfl, fun _ h => absurd h List.not_mem_nil⟩⟩⟩⟩⟩
theorem yl_wX12_157 : ∀ w ∈ va_wsS RX12 157 yX12_isSheet [Cond.code yX12_isSheet cX12_isSheet 1 (some .boolean)], w ∈ yG := List.forall_mem_cons.mpr ⟨yG_at (6, 136) rfl, List.forall_mem_cons.mpr ⟨yG_at (6, 137) rfl, List.forall_mem_cons.mpr ⟨yG_at (1, 13) rfl, List.forall_mem_cons.mpr ⟨yG_at (6, 138) rfl, fun _ h => absurd h List.not_mem_nil⟩⟩⟩⟩
theorem yl_wX12_160 : ∀ w ∈ va_wsS RX12 160 yX12_cut [Cond.code yX12_cut cX12_cut 3 (some .long)], w ∈ yG := List.forall_mem_cons.mpr ⟨yG_at (6, 143) rfl, List.forall_mem_cons.mpr ⟨yG_at (6, 144) rfl, List.forall_mem_cons.mpr ⟨yG_at (1, 13) rfl, List.forall_mem_cons.mpr ⟨yG_at (6, 145) rfl, fun _ h => absurd h List.not_mem_nil⟩⟩⟩⟩
theorem yl_wX12_170 : ∀ w ∈ va_wsS RX12 170 yX12_cross [Cond.code yX12_cross cX12_cross 8 (some .long)], w ∈ yG := List.forall_mem_cons.mpr ⟨yG_at (6, 198) rfl, List.forall_mem_cons.mpr ⟨yG_at (6, 199) rfl, List.forall_mem_cons.mpr ⟨yG_at (1, 13) rfl, List.forall_mem_cons.mpr ⟨yG_at (6, 200) rfl, fun _ h => absurd h List.not_mem_nil⟩⟩⟩⟩
theorem yl_wX12_174 : ∀ w ∈ wsV RX12 174 RX12 yX12_area [Cond.code yX12_area cX12_area 4 (some .long)], w ∈ yG := List.forall_mem_cons.mpr ⟨yG_at (6, 194) rfl, List.forall_mem_cons.mpr ⟨yG_at (6, 196) rfl, List.forall_mem_cons.mpr ⟨yG_at (0, 54) rfl, List.forall_mem_cons.mpr ⟨yG_at (1, 13) rfl, List.forall_mem_cons.mpr ⟨yG_at (6, 197) rfl, fun _ h => absurd h List.not_mem_nil⟩⟩⟩⟩⟩
theorem yl_wX12_178 : ∀ w ∈ wsV RX12 178 RX12 yX12_isAt [Cond.code yX12_isAt cX12_isAt 3 (some .boolean)], w ∈ yG := List.forall_mem_cons.mpr ⟨yG_at (6, 173) rfl, List.forall_mem_cons.mpr ⟨yG_at (6, 175) rfl, List.forall_mem_cons.mpr ⟨yG_at (0, 49) rfl, List.forall_mem_cons.mpr ⟨yG_at (1, 13) rfl, List.forall_mem_cons.mpr ⟨yG_at (6, 176) rfl, fun _ h => absurd h List.not_mem_nil⟩⟩⟩⟩⟩
theorem yl_wX12_194 : ∀ w ∈ wsV RX12 194 RX12 yX12_member [Cond.code yX12_member cX12_member 9 none], w ∈ yG := List.forall_mem_cons.mpr ⟨yG_at (6, 177) rfl, List.forall_mem_cons.mpr ⟨yG_at (6, 179) rfl, List.forall_mem_cons.mpr ⟨yG_at (0, 50) rfl, List.forall_mem_cons.mpr ⟨yG_at (1, 13) rfl, List.forall_mem_cons.mpr ⟨yG_at (6, 180) rfl, fun _ h => absurd h List.not_mem_nil⟩⟩⟩⟩⟩
theorem yl_wX12_198 : ∀ w ∈ wsV RX12 198 RX12 yX12_place [Cond.code yX12_place cX12_place 9 none], w ∈ yG := List.forall_mem_cons.mpr ⟨yG_at (6, 182) rfl, List.forall_mem_cons.mpr ⟨yG_at (6, 184) rfl, List.forall_mem_cons.mpr ⟨yG_at (0, 51) rfl, List.forall_mem_cons.mpr ⟨yG_at (1, 13) rfl, List.forall_mem_cons.mpr ⟨yG_at (6, 185) rfl, fun _ h => absurd h List.not_mem_nil⟩⟩⟩⟩⟩
theorem yl_wX12_208 : ∀ w ∈ wsV RX12 208 RX12 yX12_isBetween [Cond.code yX12_isBetween cX12_isBetween 6 (some .boolean)], w ∈ yG := List.forall_mem_cons.mpr ⟨yG_at (6, 190) rfl, List.forall_mem_cons.mpr ⟨yG_at (6, 192) rfl, List.forall_mem_cons.mpr ⟨yG_at (0, 53) rfl, List.forall_mem_cons.mpr ⟨yG_at (1, 13) rfl, List.forall_mem_cons.mpr ⟨yG_at (6, 193) rfl, fun _ h => absurd h List.not_mem_nil⟩⟩⟩⟩⟩
theorem yl_wX12_212 : ∀ w ∈ wsV RX12 212 RX12 yX12_meetsBy [Cond.code yX12_meetsBy cX12_meetsBy 7 none], w ∈ yG := List.forall_mem_cons.mpr ⟨yG_at (6, 201) rfl, List.forall_mem_cons.mpr ⟨yG_at (6, 203) rfl, List.forall_mem_cons.mpr ⟨yG_at (0, 55) rfl, List.forall_mem_cons.mpr ⟨yG_at (1, 13) rfl, List.forall_mem_cons.mpr ⟨yG_at (6, 204) rfl, fun _ h => absurd h List.not_mem_nil⟩⟩⟩⟩⟩
theorem yl_wX12_216 : ∀ w ∈ wsV RX12 216 RX12 yX12_meetsAt [Cond.code yX12_meetsAt cX12_meetsAt 12 none], w ∈ yG := List.forall_mem_cons.mpr ⟨yG_at (6, 205) rfl, List.forall_mem_cons.mpr ⟨yG_at (6, 207) rfl, List.forall_mem_cons.mpr ⟨yG_at (0, 56) rfl, List.forall_mem_cons.mpr ⟨yG_at (1, 13) rfl, List.forall_mem_cons.mpr ⟨yG_at (6, 208) rfl, fun _ h => absurd h List.not_mem_nil⟩⟩⟩⟩⟩
theorem yl_wX12_220 : ∀ w ∈ wsV RX12 220 RX12 yX12_findOthers [Cond.code yX12_findOthers cX12_findOthers 5 (some .boolean)], w ∈ yG := List.forall_mem_cons.mpr ⟨yG_at (6, 213) rfl, List.forall_mem_cons.mpr ⟨yG_at (6, 215) rfl, List.forall_mem_cons.mpr ⟨yG_at (0, 58) rfl, List.forall_mem_cons.mpr ⟨yG_at (1, 13) rfl, List.forall_mem_cons.mpr ⟨yG_at (6, 216) rfl, fun _ h => absurd h List.not_mem_nil⟩⟩⟩⟩⟩
theorem yl_wX12_223 : ∀ w ∈ wsV RX12 223 RX12 yX12_findInner [Cond.code yX12_findInner cX12_findInner 5 (some .boolean)], w ∈ yG := List.forall_mem_cons.mpr ⟨yG_at (6, 221) rfl, List.forall_mem_cons.mpr ⟨yG_at (6, 223) rfl, List.forall_mem_cons.mpr ⟨yG_at (0, 60) rfl, List.forall_mem_cons.mpr ⟨yG_at (1, 13) rfl, List.forall_mem_cons.mpr ⟨yG_at (6, 224) rfl, fun _ h => absurd h List.not_mem_nil⟩⟩⟩⟩⟩
theorem yl_wX12_226 : ∀ w ∈ wsV RX12 226 RX12 yX12_isWithin [Cond.code yX12_isWithin cX12_isWithin 11 (some .boolean)], w ∈ yG := List.forall_mem_cons.mpr ⟨yG_at (6, 217) rfl, List.forall_mem_cons.mpr ⟨yG_at (6, 219) rfl, List.forall_mem_cons.mpr ⟨yG_at (0, 59) rfl, List.forall_mem_cons.mpr ⟨yG_at (1, 13) rfl, List.forall_mem_cons.mpr ⟨yG_at (6, 220) rfl, fun _ h => absurd h List.not_mem_nil⟩⟩⟩⟩⟩
theorem yl_wX12_230 : ∀ w ∈ wsV RX12 230 RX12 yX12_findCrossed [Cond.code yX12_findCrossed cX12_findCrossed 15 (some .boolean)], w ∈ yG := List.forall_mem_cons.mpr ⟨yG_at (6, 229) rfl, List.forall_mem_cons.mpr ⟨yG_at (6, 231) rfl, List.forall_mem_cons.mpr ⟨yG_at (0, 62) rfl, List.forall_mem_cons.mpr ⟨yG_at (1, 13) rfl, List.forall_mem_cons.mpr ⟨yG_at (6, 232) rfl, fun _ h => absurd h List.not_mem_nil⟩⟩⟩⟩⟩
theorem yl_wX12_233 : ∀ w ∈ wsV RX12 233 RX12 yX12_isCrossing [Cond.code yX12_isCrossing cX12_isCrossing 13 (some .boolean)], w ∈ yG := List.forall_mem_cons.mpr ⟨yG_at (6, 233) rfl, List.forall_mem_cons.mpr ⟨yG_at (6, 235) rfl, List.forall_mem_cons.mpr ⟨yG_at (0, 63) rfl, List.forall_mem_cons.mpr ⟨yG_at (1, 13) rfl, List.forall_mem_cons.mpr ⟨yG_at (6, 236) rfl, fun _ h => absurd h List.not_mem_nil⟩⟩⟩⟩⟩
theorem yl_wX12_236 : ∀ w ∈ wsV RX12 236 RX12 yX12_findSame [Cond.code yX12_findSame cX12_findSame 3 (some .boolean)], w ∈ yG := List.forall_mem_cons.mpr ⟨yG_at (6, 169) rfl, List.forall_mem_cons.mpr ⟨yG_at (6, 171) rfl, List.forall_mem_cons.mpr ⟨yG_at (0, 48) rfl, List.forall_mem_cons.mpr ⟨yG_at (1, 13) rfl, List.forall_mem_cons.mpr ⟨yG_at (6, 172) rfl, fun _ h => absurd h List.not_mem_nil⟩⟩⟩⟩⟩
theorem yl_wX12_240 : ∀ w ∈ wsV RX12 240 RX12 yX12_findBetween [Cond.code yX12_findBetween cX12_findBetween 4 (some .boolean)], w ∈ yG := List.forall_mem_cons.mpr ⟨yG_at (6, 186) rfl, List.forall_mem_cons.mpr ⟨yG_at (6, 188) rfl, List.forall_mem_cons.mpr ⟨yG_at (0, 52) rfl, List.forall_mem_cons.mpr ⟨yG_at (1, 13) rfl, List.forall_mem_cons.mpr ⟨yG_at (6, 189) rfl, fun _ h => absurd h List.not_mem_nil⟩⟩⟩⟩⟩
theorem yl_wX12_243 : ∀ w ∈ wsV RX12 243 RX12 yX12_findWithin [Cond.code yX12_findWithin cX12_findWithin 4 (some .boolean)], w ∈ yG := List.forall_mem_cons.mpr ⟨yG_at (6, 209) rfl, List.forall_mem_cons.mpr ⟨yG_at (6, 211) rfl, List.forall_mem_cons.mpr ⟨yG_at (0, 57) rfl, List.forall_mem_cons.mpr ⟨yG_at (1, 13) rfl, List.forall_mem_cons.mpr ⟨yG_at (6, 212) rfl, fun _ h => absurd h List.not_mem_nil⟩⟩⟩⟩⟩
theorem yl_wX12_246 : ∀ w ∈ wsV RX12 246 RX12 yX12_findCrossing [Cond.code yX12_findCrossing cX12_findCrossing 4 (some .boolean)], w ∈ yG := List.forall_mem_cons.mpr ⟨yG_at (6, 225) rfl, List.forall_mem_cons.mpr ⟨yG_at (6, 227) rfl, List.forall_mem_cons.mpr ⟨yG_at (0, 61) rfl, List.forall_mem_cons.mpr ⟨yG_at (1, 13) rfl, List.forall_mem_cons.mpr ⟨yG_at (6, 228) rfl, fun _ h => absurd h List.not_mem_nil⟩⟩⟩⟩⟩
theorem yl_wX12_249 : ∀ w ∈ wsV RX12 249 RX12 yX12_findMeeting [Cond.code yX12_findMeeting cX12_findMeeting 2 none], w ∈ yG := List.forall_mem_cons.mpr ⟨yG_at (6, 165) rfl, List.forall_mem_cons.mpr ⟨yG_at (6, 167) rfl, List.forall_mem_cons.mpr ⟨yG_at (0, 47) rfl, List.forall_mem_cons.mpr ⟨yG_at (1, 13) rfl, List.forall_mem_cons.mpr ⟨yG_at (6, 168) rfl, fun _ h => absurd h List.not_mem_nil⟩⟩⟩⟩⟩
theorem yl_wX12_298 : ∀ w ∈ wsV RX12 298 RX12 yX12_many [Cond.code yX12_many cX12_many 4 (some .int)], w ∈ yG := List.forall_mem_cons.mpr ⟨yG_at (7, 26) rfl, List.forall_mem_cons.mpr ⟨yG_at (7, 28) rfl, List.forall_mem_cons.mpr ⟨yG_at (0, 65) rfl, List.forall_mem_cons.mpr ⟨yG_at (1, 13) rfl, List.forall_mem_cons.mpr ⟨yG_at (7, 29) rfl, fun _ h => absurd h List.not_mem_nil⟩⟩⟩⟩⟩
theorem yl_wX12_315 : ∀ w ∈ va_wsS RX12 315 yX12_isLine [Cond.code yX12_isLine cX12_isLine 3 (some .boolean)], w ∈ yG := List.forall_mem_cons.mpr ⟨yG_at (7, 47) rfl, List.forall_mem_cons.mpr ⟨yG_at (7, 48) rfl, List.forall_mem_cons.mpr ⟨yG_at (1, 13) rfl, List.forall_mem_cons.mpr ⟨yG_at (7, 49) rfl, fun _ h => absurd h List.not_mem_nil⟩⟩⟩⟩
theorem yl_wX12_318 : ∀ w ∈ va_wsS RX12 318 yX12_says [Cond.code yX12_says cX12_says 12 (some .int)], w ∈ yG := List.forall_mem_cons.mpr ⟨yG_at (7, 51) rfl, List.forall_mem_cons.mpr ⟨yG_at (7, 52) rfl, List.forall_mem_cons.mpr ⟨yG_at (1, 13) rfl, List.forall_mem_cons.mpr ⟨yG_at (7, 53) rfl, fun _ h => absurd h List.not_mem_nil⟩⟩⟩⟩
theorem yl_wX12_325 : ∀ w ∈ wsV RX12 325 RX12 yX12_choose [Cond.code yX12_choose cX12_choose 3 none], w ∈ yG := List.forall_mem_cons.mpr ⟨yG_at (7, 67) rfl, List.forall_mem_cons.mpr ⟨yG_at (7, 69) rfl, List.forall_mem_cons.mpr ⟨yG_at (0, 70) rfl, List.forall_mem_cons.mpr ⟨yG_at (1, 13) rfl, List.forall_mem_cons.mpr ⟨yG_at (7, 70) rfl, fun _ h => absurd h List.not_mem_nil⟩⟩⟩⟩⟩
theorem yl_wX12_329 : ∀ w ∈ wsV RX12 329 RX12 yX12_turnAbout [Cond.code yX12_turnAbout cX12_turnAbout 13 none], w ∈ yG := List.forall_mem_cons.mpr ⟨yG_at (7, 71) rfl, List.forall_mem_cons.mpr ⟨yG_at (7, 73) rfl, List.forall_mem_cons.mpr ⟨yG_at (0, 71) rfl, List.forall_mem_cons.mpr ⟨yG_at (1, 13) rfl, List.forall_mem_cons.mpr ⟨yG_at (7, 74) rfl, fun _ h => absurd h List.not_mem_nil⟩⟩⟩⟩⟩
theorem yl_wX12_333 : ∀ w ∈ wsV RX12 333 RX12 yX12_further [Cond.code yX12_further cX12_further 4 (some .long)], w ∈ yG := List.forall_mem_cons.mpr ⟨yG_at (7, 75) rfl, List.forall_mem_cons.mpr ⟨yG_at (7, 77) rfl, List.forall_mem_cons.mpr ⟨yG_at (0, 72) rfl, List.forall_mem_cons.mpr ⟨yG_at (1, 13) rfl, List.forall_mem_cons.mpr ⟨yG_at (7, 78) rfl, fun _ h => absurd h List.not_mem_nil⟩⟩⟩⟩⟩
theorem yl_wX12_338 : ∀ w ∈ wsV RX12 338 RX12 yX12_isMany [Cond.code yX12_isMany cX12_isMany 2 (some .boolean)], w ∈ yG := List.forall_mem_cons.mpr ⟨yG_at (7, 58) rfl, List.forall_mem_cons.mpr ⟨yG_at (7, 60) rfl, List.forall_mem_cons.mpr ⟨yG_at (0, 68) rfl, List.forall_mem_cons.mpr ⟨yG_at (1, 13) rfl, List.forall_mem_cons.mpr ⟨yG_at (7, 61) rfl, fun _ h => absurd h List.not_mem_nil⟩⟩⟩⟩⟩
theorem yl_wX12_341 : ∀ w ∈ wsV RX12 341 RX12 yX12_findSets [Cond.code yX12_findSets cX12_findSets 4 none], w ∈ yG := List.forall_mem_cons.mpr ⟨yG_at (7, 63) rfl, List.forall_mem_cons.mpr ⟨yG_at (7, 65) rfl, List.forall_mem_cons.mpr ⟨yG_at (0, 69) rfl, List.forall_mem_cons.mpr ⟨yG_at (1, 13) rfl, List.forall_mem_cons.mpr ⟨yG_at (7, 66) rfl, fun _ h => absurd h List.not_mem_nil⟩⟩⟩⟩⟩
theorem yl_wX12_369 : ∀ w ∈ va_wsS RX12 369 yX12_stepSays [Cond.code yX12_stepSays cX12_stepSays 6 (some .int)], w ∈ yG := List.forall_mem_cons.mpr ⟨yG_at (7, 132) rfl, List.forall_mem_cons.mpr ⟨yG_at (7, 133) rfl, List.forall_mem_cons.mpr ⟨yG_at (1, 13) rfl, List.forall_mem_cons.mpr ⟨yG_at (7, 134) rfl, fun _ h => absurd h List.not_mem_nil⟩⟩⟩⟩
theorem yl_wX12_392 : ∀ w ∈ wsV RX12 392 RX12 yX12_times [Cond.code yX12_times cX12_times 10 none], w ∈ yG := List.forall_mem_cons.mpr ⟨yG_at (7, 160) rfl, List.forall_mem_cons.mpr ⟨yG_at (7, 162) rfl, List.forall_mem_cons.mpr ⟨yG_at (0, 77) rfl, List.forall_mem_cons.mpr ⟨yG_at (1, 13) rfl, List.forall_mem_cons.mpr ⟨yG_at (7, 163) rfl, fun _ h => absurd h List.not_mem_nil⟩⟩⟩⟩⟩
theorem yl_wX12_408 : ∀ w ∈ wsV RX12 408 RX12 yX12_isHalf [Cond.code yX12_isHalf cX12_isHalf 10 (some .boolean)], w ∈ yG := List.forall_mem_cons.mpr ⟨yG_at (7, 186) rfl, List.forall_mem_cons.mpr ⟨yG_at (7, 188) rfl, List.forall_mem_cons.mpr ⟨yG_at (0, 80) rfl, List.forall_mem_cons.mpr ⟨yG_at (1, 13) rfl, List.forall_mem_cons.mpr ⟨yG_at (7, 189) rfl, fun _ h => absurd h List.not_mem_nil⟩⟩⟩⟩⟩
theorem yl_wX12_414 : ∀ w ∈ wsV RX12 414 RX12 yX12_learnt [Cond.code yX12_learnt cX12_learnt 2 (some .long)], w ∈ yG := List.forall_mem_cons.mpr ⟨yG_at (7, 202) rfl, List.forall_mem_cons.mpr ⟨yG_at (7, 97) rfl, List.forall_mem_cons.mpr ⟨yG_at (7, 98) rfl, List.forall_mem_cons.mpr ⟨yG_at (1, 13) rfl, List.forall_mem_cons.mpr ⟨yG_at (7, 99) rfl, fun _ h => absurd h List.not_mem_nil⟩⟩⟩⟩⟩
def yl_cqX11 : List Nat := []
theorem yl_cqkX11 (K : ys_K) : ∀ v, v ∈ yl_cqX11 → yt_Cq RX11 (ys_ws yG K) v := by
  intro v hi
  cases hi
def yl_cqX0 : List Nat := []
theorem yl_cqkX0 (K : ys_K) : ∀ v, v ∈ yl_cqX0 → yt_Cq RX0 (ys_ws yG K) v := by
  intro v hi
  cases hi
def yl_cqX1 : List Nat := [400020, 500026]
theorem yl_cqkX1 (K : ys_K) : ∀ v, v ∈ yl_cqX1 → yt_Cq RX1 (ys_ws yG K) v := by
  intro v hi
  rcases List.mem_cons.mp hi with hq | hi
  · subst hq
    exact ⟨List.mem_cons_of_mem _ (yG_at (3, 150) rfl), List.mem_cons_of_mem _ (yG_at (3, 151) rfl), List.mem_cons_of_mem _ (yG_at (1, 16) rfl), List.mem_cons_of_mem _ (yG_at (3, 152) rfl)⟩
  rcases List.mem_cons.mp hi with hq | hi
  · subst hq
    exact ⟨List.mem_cons_of_mem _ (yG_at (3, 153) rfl), List.mem_cons_of_mem _ (yG_at (3, 154) rfl), List.mem_cons_of_mem _ (yG_at (1, 16) rfl), List.mem_cons_of_mem _ (yG_at (3, 155) rfl)⟩
  cases hi
def yl_cqX2 : List Nat := []
theorem yl_cqkX2 (K : ys_K) : ∀ v, v ∈ yl_cqX2 → yt_Cq RX2 (ys_ws yG K) v := by
  intro v hi
  cases hi
def yl_cqX3 : List Nat := []
theorem yl_cqkX3 (K : ys_K) : ∀ v, v ∈ yl_cqX3 → yt_Cq RX3 (ys_ws yG K) v := by
  intro v hi
  cases hi
def yl_cqX4 : List Nat := [300151]
theorem yl_cqkX4 (K : ys_K) : ∀ v, v ∈ yl_cqX4 → yt_Cq RX4 (ys_ws yG K) v := by
  intro v hi
  rcases List.mem_cons.mp hi with hq | hi
  · subst hq
    exact ⟨List.mem_cons_of_mem _ (yG_at (4, 25) rfl), List.mem_cons_of_mem _ (yG_at (4, 26) rfl), List.mem_cons_of_mem _ (yG_at (1, 16) rfl), List.mem_cons_of_mem _ (yG_at (4, 27) rfl)⟩
  cases hi
def yl_cqX5 : List Nat := []
theorem yl_cqkX5 (K : ys_K) : ∀ v, v ∈ yl_cqX5 → yt_Cq RX5 (ys_ws yG K) v := by
  intro v hi
  cases hi
def yl_cqX6 : List Nat := []
theorem yl_cqkX6 (K : ys_K) : ∀ v, v ∈ yl_cqX6 → yt_Cq RX6 (ys_ws yG K) v := by
  intro v hi
  cases hi
def yl_cqX7 : List Nat := []
theorem yl_cqkX7 (K : ys_K) : ∀ v, v ∈ yl_cqX7 → yt_Cq RX7 (ys_ws yG K) v := by
  intro v hi
  cases hi
def yl_cqX8 : List Nat := []
theorem yl_cqkX8 (K : ys_K) : ∀ v, v ∈ yl_cqX8 → yt_Cq RX8 (ys_ws yG K) v := by
  intro v hi
  cases hi
def yl_cqX9 : List Nat := [500119]
theorem yl_cqkX9 (K : ys_K) : ∀ v, v ∈ yl_cqX9 → yt_Cq RX9 (ys_ws yG K) v := by
  intro v hi
  rcases List.mem_cons.mp hi with hq | hi
  · subst hq
    exact ⟨List.mem_cons_of_mem _ (yG_at (4, 229) rfl), List.mem_cons_of_mem _ (yG_at (3, 154) rfl), List.mem_cons_of_mem _ (yG_at (1, 16) rfl), List.mem_cons_of_mem _ (yG_at (3, 155) rfl)⟩
  cases hi
def yl_cqX10 : List Nat := []
theorem yl_cqkX10 (K : ys_K) : ∀ v, v ∈ yl_cqX10 → yt_Cq RX10 (ys_ws yG K) v := by
  intro v hi
  cases hi
def yl_cqX12 : List Nat := []
theorem yl_cqkX12 (K : ys_K) : ∀ v, v ∈ yl_cqX12 → yt_Cq RX12 (ys_ws yG K) v := by
  intro v hi
  cases hi
def yl_cqJ6 : List Nat := []
theorem yl_cqkJ6 (K : ys_K) : ∀ v, v ∈ yl_cqJ6 → yt_Cq RJ6 (ys_ws yG K) v := by
  intro v hi
  cases hi
def yl_cqJ13 : List Nat := []
theorem yl_cqkJ13 (K : ys_K) : ∀ v, v ∈ yl_cqJ13 → yt_Cq RJ13 (ys_ws yG K) v := by
  intro v hi
  cases hi
def yl_cqJ7 : List Nat := []
theorem yl_cqkJ7 (K : ys_K) : ∀ v, v ∈ yl_cqJ7 → yt_Cq RJ7 (ys_ws yG K) v := by
  intro v hi
  cases hi
end
section
/-! the code of the methods that are called -/
def yz_X11_anew : List (Nat × (Instr × Nat)) := [(0, .aload_n 0, 1), (1, .getfield 26, 3), (4, .invokevirtual 307, 3), (7, .iconst 0, 1), (8, .ireturn, 1)]
theorem yz_X11_anew_ok : ∀ q ∈ yz_X11_anew, decode cX11_anew q.1 = .ok q.2 := by decide +kernel
theorem yd_yX11_anew : yX11_anew.cls = RX11 ∧ yX11_anew.cls ≠ "java/lang/invoke/MethodHandle" ∧ yX11_anew.cls ≠ "java/lang/invoke/VarHandle" ∧ (parseMethodDescriptor yX11_anew.desc).map (fun d => d.parameters.length) = some 0 := by decide +kernel
def yz_X11_areParted : List (Nat × (Instr × Nat)) := [(0, .aload_n 0, 1), (1, .getfield 10, 3), (4, .invokevirtual 395, 3), (7, .ifCond .ne 5, 3), (10, .iconst 1, 1), (11, .ireturn, 1), (12, .aload_n 0, 1), (13, .getfield 55, 3), (16, .aload_n 0, 1), (17, .getfield 10, 3), (20, .invokevirtual 190, 3), (23, .aload_n 0, 1), (24, .getfield 55, 3), (27, .getfield 194, 3), (30, .ireturn, 1)]
theorem yz_X11_areParted_ok : ∀ q ∈ yz_X11_areParted, decode cX11_areParted q.1 = .ok q.2 := by decide +kernel
theorem yd_yX11_areParted : yX11_areParted.cls = RX11 ∧ yX11_areParted.cls ≠ "java/lang/invoke/MethodHandle" ∧ yX11_areParted.cls ≠ "java/lang/invoke/VarHandle" ∧ (parseMethodDescriptor yX11_areParted.desc).map (fun d => d.parameters.length) = some 0 := by decide +kernel
def yz_X11_back : List (Nat × (Instr × Nat)) := [(0, .iload_n 1, 1), (1, .invokestatic 377, 3), (4, .ifCond .ne 9, 3), (7, .aload_n 0, 1), (8, .iconst (-1), 1), (9, .invokevirtual 107, 3), (12, .ireturn, 1), (13, .aload_n 0, 1), (14, .getfield 48, 3), (17, .iload_n 1, 1), (18, .baload, 1), (19, .ifCond .ne 10, 3), (22, .aload_n 0, 1), (23, .bipush (-6), 2), (25, .invokevirtual 107, 3), (28, .ireturn, 1), (29, .aload_n 0, 1), (30, .getfield 10, 3), (33, .aload_n 0, 1), (34, .getfield 36, 3), (37, .iload_n 1, 1), (38, .aaload, 1), (39, .invokevirtual 380, 3), (42, .aload_n 0, 1), (43, .getfield 19, 3), (46, .aload_n 0, 1), (47, .getfield 40, 3), (50, .iload_n 1, 1), (51, .aaload, 1), (52, .invokevirtual 383, 3), (55, .aload_n 0, 1), (56, .getfield 26, 3), (59, .aload_n 0, 1), (60, .getfield 44, 3), (63, .iload_n 1, 1), (64, .aaload, 1), (65, .invokevirtual 386, 3), (68, .aload_n 0, 1), (69, .iconst 0, 1), (70, .invokevirtual 107, 3), (73, .ireturn, 1)]
theorem yz_X11_back_ok : ∀ q ∈ yz_X11_back, decode cX11_back q.1 = .ok q.2 := by decide +kernel
theorem yd_yX11_back : yX11_back.cls = RX11 ∧ yX11_back.cls ≠ "java/lang/invoke/MethodHandle" ∧ yX11_back.cls ≠ "java/lang/invoke/VarHandle" ∧ (parseMethodDescriptor yX11_back.desc).map (fun d => d.parameters.length) = some 1 := by decide +kernel
def yz_X11_best : List (Nat × (Instr × Nat)) := [(0, .aload_n 0, 1), (1, .iload_n 1, 1), (2, .invokevirtual 254, 3), (5, .ifCond .eq 12, 3), (8, .iload_n 2, 1), (9, .ifCond .lt 8, 3), (12, .iload_n 2, 1), (13, .iconst 1, 1), (14, .if_icmp .le 5, 3), (17, .iconst (-1), 1), (18, .ireturn, 1), (19, .aload_n 0, 1), (20, .getfield 69, 3), (23, .aload_n 0, 1), (24, .getfield 10, 3), (27, .iload_n 1, 1), (28, .invokevirtual 257, 3), (31, .aload_n 0, 1), (32, .getfield 69, 3), (35, .aload_n 0, 1), (36, .getfield 10, 3), (39, .iload_n 1, 1), (40, .invokevirtual 270, 3), (43, .iload_n 2, 1), (44, .ifCond .ne 13, 3), (47, .aload_n 0, 1), (48, .getfield 69, 3), (51, .getfield 273, 3), (54, .goto 10, 3), (57, .aload_n 0, 1), (58, .getfield 69, 3), (61, .getfield 276, 3), (64, .ireturn, 1)]
theorem yz_X11_best_ok : ∀ q ∈ yz_X11_best, decode cX11_best q.1 = .ok q.2 := by decide +kernel
theorem yd_yX11_best : yX11_best.cls = RX11 ∧ yX11_best.cls ≠ "java/lang/invoke/MethodHandle" ∧ yX11_best.cls ≠ "java/lang/invoke/VarHandle" ∧ (parseMethodDescriptor yX11_best.desc).map (fun d => d.parameters.length) = some 2 := by decide +kernel
def yz_X11_boxes : List (Nat × (Instr × Nat)) := [(0, .aload_n 0, 1), (1, .getfield 10, 3), (4, .iconst 1, 1), (5, .invokevirtual 369, 3), (8, .bipush 12, 2), (10, .if_icmp .le 6, 3), (13, .bipush (-5), 2), (15, .ireturn, 1), (16, .aload_n 0, 1), (17, .getfield 10, 3), (20, .invokevirtual 371, 3), (23, .ifCond .eq 6, 3), (26, .bipush (-6), 2), (28, .ireturn, 1), (29, .aload_n 0, 1), (30, .getfield 90, 3), (33, .aload_n 0, 1), (34, .getfield 10, 3), (37, .invokevirtual 374, 3), (40, .ireturn, 1)]
theorem yz_X11_boxes_ok : ∀ q ∈ yz_X11_boxes, decode cX11_boxes q.1 = .ok q.2 := by decide +kernel
theorem yd_yX11_boxes : yX11_boxes.cls = RX11 ∧ yX11_boxes.cls ≠ "java/lang/invoke/MethodHandle" ∧ yX11_boxes.cls ≠ "java/lang/invoke/VarHandle" ∧ (parseMethodDescriptor yX11_boxes.desc).map (fun d => d.parameters.length) = some 0 := by decide +kernel
def yz_X11_canPartFirst : List (Nat × (Instr × Nat)) := [(0, .iload_n 1, 1), (1, .ifCond .lt 24, 3), (4, .iload_n 1, 1), (5, .bipush 12, 2), (7, .if_icmp .gt 18, 3), (10, .iload_n 1, 1), (11, .aload_n 0, 1), (12, .getfield 10, 3), (15, .getfield 111, 3), (18, .if_icmp .gt 7, 3), (21, .iconst 1, 1), (22, .goto 4, 3), (25, .iconst 0, 1), (26, .ireturn, 1)]
theorem yz_X11_canPartFirst_ok : ∀ q ∈ yz_X11_canPartFirst, decode cX11_canPartFirst q.1 = .ok q.2 := by decide +kernel
theorem yd_yX11_canPartFirst : yX11_canPartFirst.cls = RX11 ∧ yX11_canPartFirst.cls ≠ "java/lang/invoke/MethodHandle" ∧ yX11_canPartFirst.cls ≠ "java/lang/invoke/VarHandle" ∧ (parseMethodDescriptor yX11_canPartFirst.desc).map (fun d => d.parameters.length) = some 1 := by decide +kernel
def yz_X11_check : List (Nat × (Instr × Nat)) := [(0, .iload_n 1, 1), (1, .iload_n 2, 1), (2, .iload_n 3, 1), (3, .invokestatic 246, 3), (6, .ifCond .ne 5, 3), (9, .iconst (-1), 1), (10, .ireturn, 1), (11, .iconst 0, 1), (12, .istore 4, 2), (14, .iconst 0, 1), (15, .istore 5, 2), (17, .iload 5, 2), (19, .aload_n 0, 1), (20, .getfield 10, 3), (23, .getfield 111, 3), (26, .if_icmp .ge 91, 3), (29, .iload_n 1, 1), (30, .i2l, 1), (31, .iload_n 2, 1), (32, .i2l, 1), (33, .iload_n 3, 1), (34, .i2l, 1), (35, .aload_n 0, 1), (36, .getfield 10, 3), (39, .getfield 121, 3), (42, .iload 5, 2), (44, .iaload, 1), (45, .aload_n 0, 1), (46, .getfield 10, 3), (49, .getfield 125, 3), (52, .iload 5, 2), (54, .iaload, 1), (55, .invokestatic 250, 3), (58, .lstore 6, 2), (60, .aload_n 0, 1), (61, .getfield 10, 3), (64, .getfield 128, 3), (67, .iload 5, 2), (69, .iaload, 1), (70, .iconst 1, 1), (71, .if_icmp .ne 18, 3), (74, .lload 6, 2), (76, .lconst 0, 1), (77, .lcmp, 1), (78, .ifCond .le 7, 3), (81, .iconst 1, 1), (82, .goto 19, 3), (85, .iconst 0, 1), (86, .goto 15, 3), (89, .lload 6, 2), (91, .lconst 0, 1), (92, .lcmp, 1), (93, .ifCond .ge 7, 3), (96, .iconst 1, 1), (97, .goto 4, 3), (100, .iconst 0, 1), (101, .istore 8, 2), (103, .iload 8, 2), (105, .ifCond .ne 6, 3), (108, .iinc 4 1, 3), (111, .iinc 5 1, 3), (114, .goto (-97), 3), (117, .iload 4, 2), (119, .ireturn, 1)]
theorem yz_X11_check_ok : ∀ q ∈ yz_X11_check, decode cX11_check q.1 = .ok q.2 := by decide +kernel
theorem yd_yX11_check : yX11_check.cls = RX11 ∧ yX11_check.cls ≠ "java/lang/invoke/MethodHandle" ∧ yX11_check.cls ≠ "java/lang/invoke/VarHandle" ∧ (parseMethodDescriptor yX11_check.desc).map (fun d => d.parameters.length) = some 3 := by decide +kernel
def yz_X11_copy : List (Nat × (Instr × Nat)) := [(0, .iload_n 1, 1), (1, .invokestatic 141, 3), (4, .ifCond .eq 15, 3), (7, .iload_n 3, 1), (8, .invokestatic 141, 3), (11, .ifCond .eq 8, 3), (14, .iload 5, 2), (16, .ifCond .ge 9, 3), (19, .aload_n 0, 1), (20, .iconst (-1), 1), (21, .invokevirtual 107, 3), (24, .ireturn, 1), (25, .aload_n 0, 1), (26, .getfield 32, 3), (29, .iload_n 1, 1), (30, .aaload, 1), (31, .getfield 151, 3), (34, .ifCond .eq 15, 3), (37, .aload_n 0, 1), (38, .getfield 32, 3), (41, .iload_n 3, 1), (42, .aaload, 1), (43, .getfield 151, 3), (46, .ifCond .ne 10, 3), (49, .aload_n 0, 1), (50, .bipush (-2), 2), (52, .invokevirtual 107, 3), (55, .ireturn, 1), (56, .aload_n 0, 1), (57, .getfield 32, 3), (60, .iload_n 1, 1), (61, .aaload, 1), (62, .iload_n 2, 1), (63, .iload 5, 2), (65, .invokevirtual 166, 3), (68, .ifCond .eq 19, 3), (71, .aload_n 0, 1), (72, .getfield 32, 3), (75, .iload_n 3, 1), (76, .aaload, 1), (77, .iload 4, 2), (79, .iload 5, 2), (81, .invokevirtual 166, 3), (84, .ifCond .ne 10, 3), (87, .aload_n 0, 1), (88, .bipush (-3), 2), (90, .invokevirtual 107, 3), (93, .ireturn, 1), (94, .aload_n 0, 1), (95, .getfield 32, 3), (98, .iload_n 3, 1), (99, .aaload, 1), (100, .iload 4, 2), (102, .aload_n 0, 1), (103, .getfield 32, 3), (106, .iload_n 1, 1), (107, .aaload, 1), (108, .iload_n 2, 1), (109, .iload 5, 2), (111, .invokevirtual 170, 3), (114, .aload_n 0, 1), (115, .iload 5, 2), (117, .invokevirtual 107, 3), (120, .ireturn, 1)]
theorem yz_X11_copy_ok : ∀ q ∈ yz_X11_copy, decode cX11_copy q.1 = .ok q.2 := by decide +kernel
theorem yd_yX11_copy : yX11_copy.cls = RX11 ∧ yX11_copy.cls ≠ "java/lang/invoke/MethodHandle" ∧ yX11_copy.cls ≠ "java/lang/invoke/VarHandle" ∧ (parseMethodDescriptor yX11_copy.desc).map (fun d => d.parameters.length) = some 5 := by decide +kernel
def yz_X11_count : List (Nat × (Instr × Nat)) := [(0, .iload_n 1, 1), (1, .tableswitch 86 0 5 #[39, 47, 56, 65, 73, 81], 39), (40, .aload_n 0, 1), (41, .getfield 10, 3), (44, .getfield 111, 3), (47, .ireturn, 1), (48, .aload_n 0, 1), (49, .getfield 10, 3), (52, .iconst 1, 1), (53, .invokevirtual 369, 3), (56, .ireturn, 1), (57, .aload_n 0, 1), (58, .getfield 10, 3), (61, .iconst 0, 1), (62, .invokevirtual 369, 3), (65, .ireturn, 1), (66, .aload_n 0, 1), (67, .getfield 19, 3), (70, .getfield 310, 3), (73, .ireturn, 1), (74, .aload_n 0, 1), (75, .getfield 10, 3), (78, .invokevirtual 389, 3), (81, .ireturn, 1), (82, .aload_n 0, 1), (83, .invokevirtual 392, 3), (86, .ireturn, 1), (87, .iconst (-1), 1), (88, .ireturn, 1)]
theorem yz_X11_count_ok : ∀ q ∈ yz_X11_count, decode cX11_count q.1 = .ok q.2 := by decide +kernel
theorem yd_yX11_count : yX11_count.cls = RX11 ∧ yX11_count.cls ≠ "java/lang/invoke/MethodHandle" ∧ yX11_count.cls ≠ "java/lang/invoke/VarHandle" ∧ (parseMethodDescriptor yX11_count.desc).map (fun d => d.parameters.length) = some 1 := by decide +kernel
def yz_X11_depth : List (Nat × (Instr × Nat)) := [(0, .iload_n 1, 1), (1, .iload_n 2, 1), (2, .invokestatic 359, 3), (5, .sipush 1000, 3), (8, .if_icmp .gt 14, 3), (11, .iload_n 1, 1), (12, .iload_n 2, 1), (13, .invokestatic 279, 3), (16, .sipush (-1000), 3), (19, .if_icmp .ge 5, 3), (22, .iconst (-1), 1), (23, .ireturn, 1), (24, .aload_n 0, 1), (25, .getfield 10, 3), (28, .iload_n 1, 1), (29, .iload_n 2, 1), (30, .invokestatic 362, 3), (33, .ireturn, 1)]
theorem yz_X11_depth_ok : ∀ q ∈ yz_X11_depth, decode cX11_depth q.1 = .ok q.2 := by decide +kernel
theorem yd_yX11_depth : yX11_depth.cls = RX11 ∧ yX11_depth.cls ≠ "java/lang/invoke/MethodHandle" ∧ yX11_depth.cls ≠ "java/lang/invoke/VarHandle" ∧ (parseMethodDescriptor yX11_depth.desc).map (fun d => d.parameters.length) = some 2 := by decide +kernel
def yz_X11_dismiss : List (Nat × (Instr × Nat)) := [(0, .aload_n 0, 1), (1, .getfield 19, 3), (4, .getfield 310, 3), (7, .istore_n 1, 1), (8, .aload_n 0, 1), (9, .getfield 19, 3), (12, .iconst 0, 1), (13, .putfield 310, 3), (16, .iload_n 1, 1), (17, .ireturn, 1)]
theorem yz_X11_dismiss_ok : ∀ q ∈ yz_X11_dismiss, decode cX11_dismiss q.1 = .ok q.2 := by decide +kernel
theorem yd_yX11_dismiss : yX11_dismiss.cls = RX11 ∧ yX11_dismiss.cls ≠ "java/lang/invoke/MethodHandle" ∧ yX11_dismiss.cls ≠ "java/lang/invoke/VarHandle" ∧ (parseMethodDescriptor yX11_dismiss.desc).map (fun d => d.parameters.length) = some 0 := by decide +kernel
def yz_X11_drop : List (Nat × (Instr × Nat)) := [(0, .aload_n 0, 1), (1, .getfield 10, 3), (4, .iload_n 1, 1), (5, .invokevirtual 118, 3), (8, .ifCond .ne 9, 3), (11, .aload_n 0, 1), (12, .iconst (-1), 1), (13, .invokevirtual 107, 3), (16, .ireturn, 1), (17, .aload_n 0, 1), (18, .getfield 10, 3), (21, .iload_n 1, 1), (22, .invokevirtual 134, 3), (25, .aload_n 0, 1), (26, .aload_n 0, 1), (27, .getfield 10, 3), (30, .getfield 111, 3), (33, .invokevirtual 107, 3), (36, .ireturn, 1)]
theorem yz_X11_drop_ok : ∀ q ∈ yz_X11_drop, decode cX11_drop q.1 = .ok q.2 := by decide +kernel
theorem yd_yX11_drop : yX11_drop.cls = RX11 ∧ yX11_drop.cls ≠ "java/lang/invoke/MethodHandle" ∧ yX11_drop.cls ≠ "java/lang/invoke/VarHandle" ∧ (parseMethodDescriptor yX11_drop.desc).map (fun d => d.parameters.length) = some 1 := by decide +kernel
def yz_X11_end : List (Nat × (Instr × Nat)) := [(0, .aload_n 0, 1), (1, .getfield 76, 3), (4, .getfield 340, 3), (7, .ireturn, 1)]
theorem yz_X11_end_ok : ∀ q ∈ yz_X11_end, decode cX11_end q.1 = .ok q.2 := by decide +kernel
theorem yd_yX11_end : yX11_end.cls = RX11 ∧ yX11_end.cls ≠ "java/lang/invoke/MethodHandle" ∧ yX11_end.cls ≠ "java/lang/invoke/VarHandle" ∧ (parseMethodDescriptor yX11_end.desc).map (fun d => d.parameters.length) = some 0 := by decide +kernel
def yz_X11_halve : List (Nat × (Instr × Nat)) := [(0, .aload_n 0, 1), (1, .getfield 19, 3), (4, .getfield 310, 3), (7, .ifCond .ne 10, 3), (10, .aload_n 0, 1), (11, .bipush (-6), 2), (13, .invokevirtual 107, 3), (16, .ireturn, 1), (17, .aload_n 0, 1), (18, .aload_n 0, 1), (19, .getfield 19, 3), (22, .aload_n 0, 1), (23, .getfield 10, 3), (26, .invokevirtual 312, 3), (29, .invokevirtual 107, 3), (32, .ireturn, 1)]
theorem yz_X11_halve_ok : ∀ q ∈ yz_X11_halve, decode cX11_halve q.1 = .ok q.2 := by decide +kernel
theorem yd_yX11_halve : yX11_halve.cls = RX11 ∧ yX11_halve.cls ≠ "java/lang/invoke/MethodHandle" ∧ yX11_halve.cls ≠ "java/lang/invoke/VarHandle" ∧ (parseMethodDescriptor yX11_halve.desc).map (fun d => d.parameters.length) = some 0 := by decide +kernel
def yz_X11_halves : List (Nat × (Instr × Nat)) := [(0, .aload_n 0, 1), (1, .getfield 10, 3), (4, .invokestatic 366, 3), (7, .istore_n 1, 1), (8, .iload_n 1, 1), (9, .ifCond .ge 8, 3), (12, .bipush (-6), 2), (14, .goto 4, 3), (17, .iload_n 1, 1), (18, .ireturn, 1)]
theorem yz_X11_halves_ok : ∀ q ∈ yz_X11_halves, decode cX11_halves q.1 = .ok q.2 := by decide +kernel
theorem yd_yX11_halves : yX11_halves.cls = RX11 ∧ yX11_halves.cls ≠ "java/lang/invoke/MethodHandle" ∧ yX11_halves.cls ≠ "java/lang/invoke/VarHandle" ∧ (parseMethodDescriptor yX11_halves.desc).map (fun d => d.parameters.length) = some 0 := by decide +kernel
def yz_X11_hull : List (Nat × (Instr × Nat)) := [(0, .iload_n 1, 1), (1, .invokestatic 103, 3), (4, .ifCond .ne 5, 3), (7, .iconst (-1), 1), (8, .ireturn, 1), (9, .aload_n 0, 1), (10, .getfield 83, 3), (13, .aload_n 0, 1), (14, .getfield 10, 3), (17, .iload_n 1, 1), (18, .invokevirtual 350, 3), (21, .iload_n 2, 1), (22, .iconst (-1), 1), (23, .if_icmp .ne 11, 3), (26, .aload_n 0, 1), (27, .getfield 83, 3), (30, .getfield 353, 3), (33, .ireturn, 1), (34, .iload_n 2, 1), (35, .ifCond .lt 26, 3), (38, .iload_n 2, 1), (39, .aload_n 0, 1), (40, .getfield 83, 3), (43, .getfield 353, 3), (46, .if_icmp .ge 15, 3), (49, .aload_n 0, 1), (50, .getfield 83, 3), (53, .getfield 356, 3), (56, .iload_n 2, 1), (57, .iaload, 1), (58, .goto 4, 3), (61, .iconst (-1), 1), (62, .ireturn, 1)]
theorem yz_X11_hull_ok : ∀ q ∈ yz_X11_hull, decode cX11_hull q.1 = .ok q.2 := by decide +kernel
theorem yd_yX11_hull : yX11_hull.cls = RX11 ∧ yX11_hull.cls ≠ "java/lang/invoke/MethodHandle" ∧ yX11_hull.cls ≠ "java/lang/invoke/VarHandle" ∧ (parseMethodDescriptor yX11_hull.desc).map (fun d => d.parameters.length) = some 2 := by decide +kernel
def yz_X11_image : List (Nat × (Instr × Nat)) := [(0, .iload_n 1, 1), (1, .invokestatic 377, 3), (4, .ifCond .ne 9, 3), (7, .aload_n 0, 1), (8, .iconst (-1), 1), (9, .invokevirtual 107, 3), (12, .ireturn, 1), (13, .aload_n 0, 1), (14, .getfield 36, 3), (17, .iload_n 1, 1), (18, .aaload, 1), (19, .aload_n 0, 1), (20, .getfield 10, 3), (23, .invokevirtual 380, 3), (26, .aload_n 0, 1), (27, .getfield 40, 3), (30, .iload_n 1, 1), (31, .aaload, 1), (32, .aload_n 0, 1), (33, .getfield 19, 3), (36, .invokevirtual 383, 3), (39, .aload_n 0, 1), (40, .getfield 44, 3), (43, .iload_n 1, 1), (44, .aaload, 1), (45, .aload_n 0, 1), (46, .getfield 26, 3), (49, .invokevirtual 386, 3), (52, .aload_n 0, 1), (53, .getfield 48, 3), (56, .iload_n 1, 1), (57, .iconst 1, 1), (58, .bastore, 1), (59, .aload_n 0, 1), (60, .iconst 0, 1), (61, .invokevirtual 107, 3), (64, .ireturn, 1)]
theorem yz_X11_image_ok : ∀ q ∈ yz_X11_image, decode cX11_image q.1 = .ok q.2 := by decide +kernel
theorem yd_yX11_image : yX11_image.cls = RX11 ∧ yX11_image.cls ≠ "java/lang/invoke/MethodHandle" ∧ yX11_image.cls ≠ "java/lang/invoke/VarHandle" ∧ (parseMethodDescriptor yX11_image.desc).map (fun d => d.parameters.length) = some 1 := by decide +kernel
def yz_X11_isImage : List (Nat × (Instr × Nat)) := [(0, .iload_n 0, 1), (1, .ifCond .lt 12, 3), (4, .iload_n 0, 1), (5, .iconst 3, 1), (6, .if_icmp .ge 7, 3), (9, .iconst 1, 1), (10, .goto 4, 3), (13, .iconst 0, 1), (14, .ireturn, 1)]
theorem yz_X11_isImage_ok : ∀ q ∈ yz_X11_isImage, decode cX11_isImage q.1 = .ok q.2 := by decide +kernel
theorem yd_yX11_isImage : yX11_isImage.cls ≠ "java/lang/invoke/MethodHandle" ∧ yX11_isImage.cls ≠ "java/lang/invoke/VarHandle" ∧ (parseMethodDescriptor yX11_isImage.desc).map (fun d => d.parameters.length) = some 1 := by decide +kernel
def yz_X11_isSheet : List (Nat × (Instr × Nat)) := [(0, .iload_n 0, 1), (1, .ifCond .lt 12, 3), (4, .iload_n 0, 1), (5, .iconst 4, 1), (6, .if_icmp .ge 7, 3), (9, .iconst 1, 1), (10, .goto 4, 3), (13, .iconst 0, 1), (14, .ireturn, 1)]
theorem yz_X11_isSheet_ok : ∀ q ∈ yz_X11_isSheet, decode cX11_isSheet q.1 = .ok q.2 := by decide +kernel
theorem yd_yX11_isSheet : yX11_isSheet.cls ≠ "java/lang/invoke/MethodHandle" ∧ yX11_isSheet.cls ≠ "java/lang/invoke/VarHandle" ∧ (parseMethodDescriptor yX11_isSheet.desc).map (fun d => d.parameters.length) = some 1 := by decide +kernel
def yz_X11_isWay : List (Nat × (Instr × Nat)) := [(0, .aload_n 0, 1), (1, .iload_n 1, 1), (2, .invokevirtual 254, 3), (5, .ifCond .eq 11, 3), (8, .iload_n 1, 1), (9, .iload_n 2, 1), (10, .invokestatic 264, 3), (13, .ifCond .ne 5, 3), (16, .iconst (-1), 1), (17, .ireturn, 1), (18, .aload_n 0, 1), (19, .getfield 69, 3), (22, .aload_n 0, 1), (23, .getfield 10, 3), (26, .iload_n 1, 1), (27, .invokevirtual 257, 3), (30, .aload_n 0, 1), (31, .getfield 69, 3), (34, .iload_n 2, 1), (35, .invokevirtual 267, 3), (38, .ifCond .eq 7, 3), (41, .iconst 1, 1), (42, .goto 4, 3), (45, .iconst 0, 1), (46, .ireturn, 1)]
theorem yz_X11_isWay_ok : ∀ q ∈ yz_X11_isWay, decode cX11_isWay q.1 = .ok q.2 := by decide +kernel
theorem yd_yX11_isWay : yX11_isWay.cls = RX11 ∧ yX11_isWay.cls ≠ "java/lang/invoke/MethodHandle" ∧ yX11_isWay.cls ≠ "java/lang/invoke/VarHandle" ∧ (parseMethodDescriptor yX11_isWay.desc).map (fun d => d.parameters.length) = some 2 := by decide +kernel
def yz_X11_judge : List (Nat × (Instr × Nat)) := [(0, .iload_n 1, 1), (1, .iload_n 2, 1), (2, .iload_n 3, 1), (3, .invokestatic 246, 3), (6, .ifCond .ne 9, 3), (9, .aload_n 0, 1), (10, .iconst (-1), 1), (11, .invokevirtual 107, 3), (14, .ireturn, 1), (15, .aload_n 0, 1), (16, .getfield 19, 3), (19, .getfield 310, 3), (22, .bipush 12, 2), (24, .if_icmp .lt 10, 3), (27, .aload_n 0, 1), (28, .bipush (-5), 2), (30, .invokevirtual 107, 3), (33, .ireturn, 1), (34, .aload_n 0, 1), (35, .getfield 19, 3), (38, .iload_n 1, 1), (39, .iload_n 2, 1), (40, .iload_n 3, 1), (41, .invokevirtual 311, 3), (44, .aload_n 0, 1), (45, .aload_n 0, 1), (46, .getfield 19, 3), (49, .getfield 310, 3), (52, .invokevirtual 107, 3), (55, .ireturn, 1)]
theorem yz_X11_judge_ok : ∀ q ∈ yz_X11_judge, decode cX11_judge q.1 = .ok q.2 := by decide +kernel
theorem yd_yX11_judge : yX11_judge.cls = RX11 ∧ yX11_judge.cls ≠ "java/lang/invoke/MethodHandle" ∧ yX11_judge.cls ≠ "java/lang/invoke/VarHandle" ∧ (parseMethodDescriptor yX11_judge.desc).map (fun d => d.parameters.length) = some 3 := by decide +kernel
def yz_X11_learn : List (Nat × (Instr × Nat)) := [(0, .iload_n 1, 1), (1, .ifCond .lt 10, 3), (4, .iload_n 1, 1), (5, .sipush 1000, 3), (8, .if_icmp .le 9, 3), (11, .aload_n 0, 1), (12, .iconst (-1), 1), (13, .invokevirtual 107, 3), (16, .ireturn, 1), (17, .aload_n 0, 1), (18, .aload_n 0, 1), (19, .getfield 26, 3), (22, .aload_n 0, 1), (23, .getfield 10, 3), (26, .iload_n 1, 1), (27, .invokevirtual 288, 3), (30, .invokevirtual 107, 3), (33, .ireturn, 1)]
theorem yz_X11_learn_ok : ∀ q ∈ yz_X11_learn, decode cX11_learn q.1 = .ok q.2 := by decide +kernel
theorem yd_yX11_learn : yX11_learn.cls = RX11 ∧ yX11_learn.cls ≠ "java/lang/invoke/MethodHandle" ∧ yX11_learn.cls ≠ "java/lang/invoke/VarHandle" ∧ (parseMethodDescriptor yX11_learn.desc).map (fun d => d.parameters.length) = some 1 := by decide +kernel
def yz_X11_learnt : List (Nat × (Instr × Nat)) := [(0, .iload_n 1, 1), (1, .tableswitch 75 0 4 #[35, 43, 51, 59, 67], 35), (36, .aload_n 0, 1), (37, .getfield 26, 3), (40, .getfield 292, 3), (43, .lreturn, 1), (44, .aload_n 0, 1), (45, .getfield 26, 3), (48, .getfield 295, 3), (51, .lreturn, 1), (52, .aload_n 0, 1), (53, .getfield 26, 3), (56, .getfield 298, 3), (59, .lreturn, 1), (60, .aload_n 0, 1), (61, .getfield 26, 3), (64, .getfield 301, 3), (67, .lreturn, 1), (68, .aload_n 0, 1), (69, .getfield 26, 3), (72, .getfield 304, 3), (75, .lreturn, 1), (76, .ldc2_w 229, 3), (79, .lreturn, 1)]
theorem yz_X11_learnt_ok : ∀ q ∈ yz_X11_learnt, decode cX11_learnt q.1 = .ok q.2 := by decide +kernel
theorem yd_yX11_learnt : yX11_learnt.cls = RX11 ∧ yX11_learnt.cls ≠ "java/lang/invoke/MethodHandle" ∧ yX11_learnt.cls ≠ "java/lang/invoke/VarHandle" ∧ (parseMethodDescriptor yX11_learnt.desc).map (fun d => d.parameters.length) = some 1 := by decide +kernel
def yz_X11_left : List (Nat × (Instr × Nat)) := [(0, .aload_n 0, 1), (1, .getfield 19, 3), (4, .getfield 316, 3), (7, .ireturn, 1)]
theorem yz_X11_left_ok : ∀ q ∈ yz_X11_left, decode cX11_left q.1 = .ok q.2 := by decide +kernel
theorem yd_yX11_left : yX11_left.cls = RX11 ∧ yX11_left.cls ≠ "java/lang/invoke/MethodHandle" ∧ yX11_left.cls ≠ "java/lang/invoke/VarHandle" ∧ (parseMethodDescriptor yX11_left.desc).map (fun d => d.parameters.length) = some 0 := by decide +kernel
def yz_X11_mass : List (Nat × (Instr × Nat)) := [(0, .iload_n 1, 1), (1, .ifCond .lt 14, 3), (4, .iload_n 1, 1), (5, .aload_n 0, 1), (6, .getfield 76, 3), (9, .getfield 343, 3), (12, .if_icmp .lt 10, 3), (15, .aload_n 0, 1), (16, .iconst (-1), 1), (17, .invokevirtual 107, 3), (20, .i2l, 1), (21, .lreturn, 1), (22, .aload_n 0, 1), (23, .iconst 0, 1), (24, .invokevirtual 107, 3), (27, .pop, 1), (28, .aload_n 0, 1), (29, .getfield 76, 3), (32, .getfield 344, 3), (35, .iload_n 1, 1), (36, .laload, 1), (37, .lreturn, 1)]
theorem yz_X11_mass_ok : ∀ q ∈ yz_X11_mass, decode cX11_mass q.1 = .ok q.2 := by decide +kernel
theorem yd_yX11_mass : yX11_mass.cls = RX11 ∧ yX11_mass.cls ≠ "java/lang/invoke/MethodHandle" ∧ yX11_mass.cls ≠ "java/lang/invoke/VarHandle" ∧ (parseMethodDescriptor yX11_mass.desc).map (fun d => d.parameters.length) = some 1 := by decide +kernel
def yz_X11_meet : List (Nat × (Instr × Nat)) := [(0, .iload_n 1, 1), (1, .invokestatic 226, 3), (4, .ifCond .ne 7, 3), (7, .ldc2_w 229, 3), (10, .lreturn, 1), (11, .aload_n 0, 1), (12, .invokevirtual 184, 3), (15, .ifCond .eq 7, 3), (18, .ldc2_w 195, 3), (21, .lreturn, 1), (22, .aload_n 0, 1), (23, .getfield 62, 3), (26, .aload_n 0, 1), (27, .getfield 10, 3), (30, .invokevirtual 231, 3), (33, .iload_n 1, 1), (34, .lookupswitch 120 #[(0, 58), (1, 67), (40, 76), (41, 87), (42, 98), (43, 109)], 58), (92, .aload_n 0, 1), (93, .getfield 62, 3), (96, .getfield 232, 3), (99, .i2l, 1), (100, .lreturn, 1), (101, .aload_n 0, 1), (102, .getfield 62, 3), (105, .getfield 235, 3), (108, .i2l, 1), (109, .lreturn, 1), (110, .aload_n 0, 1), (111, .getfield 62, 3), (114, .getfield 236, 3), (117, .getfield 201, 3), (120, .lreturn, 1), (121, .aload_n 0, 1), (122, .getfield 62, 3), (125, .getfield 236, 3), (128, .getfield 207, 3), (131, .lreturn, 1), (132, .aload_n 0, 1), (133, .getfield 62, 3), (136, .getfield 239, 3), (139, .getfield 201, 3), (142, .lreturn, 1), (143, .aload_n 0, 1), (144, .getfield 62, 3), (147, .getfield 239, 3), (150, .getfield 207, 3), (153, .lreturn, 1), (154, .aload_n 0, 1), (155, .getfield 62, 3), (158, .iload_n 1, 1), (159, .bipush 10, 2), (161, .idiv, 1), (162, .iload_n 1, 1), (163, .bipush 10, 2), (165, .irem, 1), (166, .invokevirtual 242, 3), (169, .lreturn, 1)]
theorem yz_X11_meet_ok : ∀ q ∈ yz_X11_meet, decode cX11_meet q.1 = .ok q.2 := by decide +kernel
theorem yd_yX11_meet : yX11_meet.cls = RX11 ∧ yX11_meet.cls ≠ "java/lang/invoke/MethodHandle" ∧ yX11_meet.cls ≠ "java/lang/invoke/VarHandle" ∧ (parseMethodDescriptor yX11_meet.desc).map (fun d => d.parameters.length) = some 1 := by decide +kernel
def yz_X11_of : List (Nat × (Instr × Nat)) := [(0, .aload_n 0, 1), (1, .getfield 10, 3), (4, .iload_n 1, 1), (5, .invokevirtual 118, 3), (8, .ifCond .ne 7, 3), (11, .sipush (-1000), 3), (14, .ireturn, 1), (15, .iload_n 2, 1), (16, .tableswitch 72 0 3 #[32, 42, 52, 62], 32), (48, .aload_n 0, 1), (49, .getfield 10, 3), (52, .getfield 121, 3), (55, .iload_n 1, 1), (56, .iaload, 1), (57, .ireturn, 1), (58, .aload_n 0, 1), (59, .getfield 10, 3), (62, .getfield 125, 3), (65, .iload_n 1, 1), (66, .iaload, 1), (67, .ireturn, 1), (68, .aload_n 0, 1), (69, .getfield 10, 3), (72, .getfield 128, 3), (75, .iload_n 1, 1), (76, .iaload, 1), (77, .ireturn, 1), (78, .aload_n 0, 1), (79, .getfield 10, 3), (82, .getfield 131, 3), (85, .iload_n 1, 1), (86, .iaload, 1), (87, .ireturn, 1), (88, .sipush (-1000), 3), (91, .ireturn, 1)]
theorem yz_X11_of_ok : ∀ q ∈ yz_X11_of, decode cX11_of q.1 = .ok q.2 := by decide +kernel
theorem yd_yX11_of : yX11_of.cls = RX11 ∧ yX11_of.cls ≠ "java/lang/invoke/MethodHandle" ∧ yX11_of.cls ≠ "java/lang/invoke/VarHandle" ∧ (parseMethodDescriptor yX11_of.desc).map (fun d => d.parameters.length) = some 2 := by decide +kernel
def yz_X11_paint : List (Nat × (Instr × Nat)) := [(0, .aload_n 0, 1), (1, .getfield 10, 3), (4, .iload_n 1, 1), (5, .invokevirtual 118, 3), (8, .ifCond .eq 22, 3), (11, .iload_n 2, 1), (12, .invokestatic 103, 3), (15, .ifCond .eq 15, 3), (18, .iload_n 3, 1), (19, .iconst 1, 1), (20, .if_icmp .lt 10, 3), (23, .iload_n 3, 1), (24, .sipush 1000, 3), (27, .if_icmp .le 9, 3), (30, .aload_n 0, 1), (31, .iconst (-1), 1), (32, .invokevirtual 107, 3), (35, .ireturn, 1), (36, .aload_n 0, 1), (37, .getfield 10, 3), (40, .iload_n 1, 1), (41, .iload_n 2, 1), (42, .iload_n 3, 1), (43, .invokevirtual 138, 3), (46, .aload_n 0, 1), (47, .iconst 0, 1), (48, .invokevirtual 107, 3), (51, .ireturn, 1)]
theorem yz_X11_paint_ok : ∀ q ∈ yz_X11_paint, decode cX11_paint q.1 = .ok q.2 := by decide +kernel
theorem yd_yX11_paint : yX11_paint.cls = RX11 ∧ yX11_paint.cls ≠ "java/lang/invoke/MethodHandle" ∧ yX11_paint.cls ≠ "java/lang/invoke/VarHandle" ∧ (parseMethodDescriptor yX11_paint.desc).map (fun d => d.parameters.length) = some 3 := by decide +kernel
def yz_X11_parted : List (Nat × (Instr × Nat)) := [(0, .aload_n 0, 1), (1, .invokevirtual 184, 3), (4, .ifCond .eq 7, 3), (7, .iconst 1, 1), (8, .goto 4, 3), (11, .iconst 0, 1), (12, .ireturn, 1)]
theorem yz_X11_parted_ok : ∀ q ∈ yz_X11_parted, decode cX11_parted q.1 = .ok q.2 := by decide +kernel
theorem yd_yX11_parted : yX11_parted.cls = RX11 ∧ yX11_parted.cls ≠ "java/lang/invoke/MethodHandle" ∧ yX11_parted.cls ≠ "java/lang/invoke/VarHandle" ∧ (parseMethodDescriptor yX11_parted.desc).map (fun d => d.parameters.length) = some 0 := by decide +kernel
def yz_X11_point : List (Nat × (Instr × Nat)) := [(0, .iload_n 1, 1), (1, .i2l, 1), (2, .invokestatic 99, 3), (5, .ifCond .eq 18, 3), (8, .iload_n 2, 1), (9, .i2l, 1), (10, .invokestatic 99, 3), (13, .ifCond .eq 10, 3), (16, .iload_n 3, 1), (17, .invokestatic 103, 3), (20, .ifCond .ne 9, 3), (23, .aload_n 0, 1), (24, .iconst (-1), 1), (25, .invokevirtual 107, 3), (28, .ireturn, 1), (29, .aload_n 0, 1), (30, .getfield 10, 3), (33, .getfield 111, 3), (36, .bipush 40, 2), (38, .if_icmp .lt 10, 3), (41, .aload_n 0, 1), (42, .bipush (-5), 2), (44, .invokevirtual 107, 3), (47, .ireturn, 1), (48, .aload_n 0, 1), (49, .getfield 10, 3), (52, .iload_n 1, 1), (53, .iload_n 2, 1), (54, .iload_n 3, 1), (55, .invokevirtual 114, 3), (58, .aload_n 0, 1), (59, .aload_n 0, 1), (60, .getfield 10, 3), (63, .getfield 111, 3), (66, .invokevirtual 107, 3), (69, .ireturn, 1)]
theorem yz_X11_point_ok : ∀ q ∈ yz_X11_point, decode cX11_point q.1 = .ok q.2 := by decide +kernel
theorem yd_yX11_point : yX11_point.cls = RX11 ∧ yX11_point.cls ≠ "java/lang/invoke/MethodHandle" ∧ yX11_point.cls ≠ "java/lang/invoke/VarHandle" ∧ (parseMethodDescriptor yX11_point.desc).map (fun d => d.parameters.length) = some 3 := by decide +kernel
def yz_X11_read : List (Nat × (Instr × Nat)) := [(0, .iload_n 1, 1), (1, .invokestatic 141, 3), (4, .ifCond .eq 16, 3), (7, .aload_n 0, 1), (8, .getfield 32, 3), (11, .iload_n 1, 1), (12, .aaload, 1), (13, .iload_n 2, 1), (14, .invokevirtual 155, 3), (17, .ifCond .ne 7, 3), (20, .ldc2_w 160, 3), (23, .lreturn, 1), (24, .aload_n 0, 1), (25, .getfield 32, 3), (28, .iload_n 1, 1), (29, .aaload, 1), (30, .getfield 162, 3), (33, .iload_n 2, 1), (34, .laload, 1), (35, .lreturn, 1)]
theorem yz_X11_read_ok : ∀ q ∈ yz_X11_read, decode cX11_read q.1 = .ok q.2 := by decide +kernel
theorem yd_yX11_read : yX11_read.cls = RX11 ∧ yX11_read.cls ≠ "java/lang/invoke/MethodHandle" ∧ yX11_read.cls ≠ "java/lang/invoke/VarHandle" ∧ (parseMethodDescriptor yX11_read.desc).map (fun d => d.parameters.length) = some 2 := by decide +kernel
def yz_X11_shatter : List (Nat × (Instr × Nat)) := [(0, .aload_n 0, 1), (1, .getfield 10, 3), (4, .getfield 111, 3), (7, .bipush 12, 2), (9, .invokestatic 279, 3), (12, .iload_n 1, 1), (13, .invokestatic 264, 3), (16, .ifCond .ne 5, 3), (19, .iconst (-1), 1), (20, .ireturn, 1), (21, .aload_n 0, 1), (22, .getfield 10, 3), (25, .iload_n 1, 1), (26, .invokestatic 285, 3), (29, .ifCond .eq 7, 3), (32, .iconst 1, 1), (33, .goto 4, 3), (36, .iconst 0, 1), (37, .ireturn, 1)]
theorem yz_X11_shatter_ok : ∀ q ∈ yz_X11_shatter, decode cX11_shatter q.1 = .ok q.2 := by decide +kernel
theorem yd_yX11_shatter : yX11_shatter.cls = RX11 ∧ yX11_shatter.cls ≠ "java/lang/invoke/MethodHandle" ∧ yX11_shatter.cls ≠ "java/lang/invoke/VarHandle" ∧ (parseMethodDescriptor yX11_shatter.desc).map (fun d => d.parameters.length) = some 1 := by decide +kernel
def yz_X11_sheet : List (Nat × (Instr × Nat)) := [(0, .iload_n 1, 1), (1, .invokestatic 141, 3), (4, .ifCond .eq 18, 3), (7, .iload_n 2, 1), (8, .ifCond .lt 14, 3), (11, .iload_n 2, 1), (12, .iconst 3, 1), (13, .if_icmp .gt 9, 3), (16, .iload_n 3, 1), (17, .bipush 100, 2), (19, .if_icmp .le 9, 3), (22, .aload_n 0, 1), (23, .iconst (-1), 1), (24, .invokevirtual 107, 3), (27, .ireturn, 1), (28, .iload_n 3, 1), (29, .ifCond .ge 19, 3), (32, .aload_n 0, 1), (33, .getfield 32, 3), (36, .iload_n 1, 1), (37, .aaload, 1), (38, .invokevirtual 144, 3), (41, .aload_n 0, 1), (42, .bipush (-4), 2), (44, .invokevirtual 107, 3), (47, .ireturn, 1), (48, .aload_n 0, 1), (49, .getfield 32, 3), (52, .iload_n 1, 1), (53, .aaload, 1), (54, .iload_n 2, 1), (55, .iload_n 3, 1), (56, .invokevirtual 147, 3), (59, .aload_n 0, 1), (60, .iload_n 3, 1), (61, .invokevirtual 107, 3), (64, .ireturn, 1)]
theorem yz_X11_sheet_ok : ∀ q ∈ yz_X11_sheet, decode cX11_sheet q.1 = .ok q.2 := by decide +kernel
theorem yd_yX11_sheet : yX11_sheet.cls = RX11 ∧ yX11_sheet.cls ≠ "java/lang/invoke/MethodHandle" ∧ yX11_sheet.cls ≠ "java/lang/invoke/VarHandle" ∧ (parseMethodDescriptor yX11_sheet.desc).map (fun d => d.parameters.length) = some 3 := by decide +kernel
def yz_X11_sheetsThere : List (Nat × (Instr × Nat)) := [(0, .iconst 0, 1), (1, .istore_n 1, 1), (2, .iconst 0, 1), (3, .istore_n 2, 1), (4, .iload_n 2, 1), (5, .iconst 4, 1), (6, .if_icmp .ge 24, 3), (9, .aload_n 0, 1), (10, .getfield 32, 3), (13, .iload_n 2, 1), (14, .aaload, 1), (15, .getfield 151, 3), (18, .ifCond .eq 6, 3), (21, .iinc 1 1, 3), (24, .iinc 2 1, 3), (27, .goto (-23), 3), (30, .iload_n 1, 1), (31, .ireturn, 1)]
theorem yz_X11_sheetsThere_ok : ∀ q ∈ yz_X11_sheetsThere, decode cX11_sheetsThere q.1 = .ok q.2 := by decide +kernel
theorem yd_yX11_sheetsThere : yX11_sheetsThere.cls = RX11 ∧ yX11_sheetsThere.cls ≠ "java/lang/invoke/MethodHandle" ∧ yX11_sheetsThere.cls ≠ "java/lang/invoke/VarHandle" ∧ (parseMethodDescriptor yX11_sheetsThere.desc).map (fun d => d.parameters.length) = some 0 := by decide +kernel
def yz_X11_side : List (Nat × (Instr × Nat)) := [(0, .aload_n 0, 1), (1, .getfield 55, 3), (4, .aload_n 0, 1), (5, .getfield 10, 3), (8, .invokevirtual 190, 3), (11, .aload_n 0, 1), (12, .getfield 55, 3), (15, .getfield 194, 3), (18, .ifCond .eq 14, 3), (21, .aload_n 0, 1), (22, .getfield 10, 3), (25, .iload_n 1, 1), (26, .invokevirtual 118, 3), (29, .ifCond .ne 5, 3), (32, .iconst (-1), 1), (33, .ireturn, 1), (34, .aload_n 0, 1), (35, .getfield 55, 3), (38, .aload_n 0, 1), (39, .getfield 10, 3), (42, .iload_n 1, 1), (43, .invokevirtual 222, 3), (46, .ifCond .eq 7, 3), (49, .iconst 1, 1), (50, .goto 4, 3), (53, .iconst 0, 1), (54, .ireturn, 1)]
theorem yz_X11_side_ok : ∀ q ∈ yz_X11_side, decode cX11_side q.1 = .ok q.2 := by decide +kernel
theorem yd_yX11_side : yX11_side.cls = RX11 ∧ yX11_side.cls ≠ "java/lang/invoke/MethodHandle" ∧ yX11_side.cls ≠ "java/lang/invoke/VarHandle" ∧ (parseMethodDescriptor yX11_side.desc).map (fun d => d.parameters.length) = some 1 := by decide +kernel
def yz_X11_status : List (Nat × (Instr × Nat)) := [(0, .aload_n 0, 1), (1, .getfield 94, 3), (4, .ireturn, 1)]
theorem yz_X11_status_ok : ∀ q ∈ yz_X11_status, decode cX11_status q.1 = .ok q.2 := by decide +kernel
theorem yd_yX11_status : yX11_status.cls = RX11 ∧ yX11_status.cls ≠ "java/lang/invoke/MethodHandle" ∧ yX11_status.cls ≠ "java/lang/invoke/VarHandle" ∧ (parseMethodDescriptor yX11_status.desc).map (fun d => d.parameters.length) = some 0 := by decide +kernel
def yz_X11_step : List (Nat × (Instr × Nat)) := [(0, .iload_n 1, 1), (1, .ifCond .lt 14, 3), (4, .iload_n 1, 1), (5, .aload_n 0, 1), (6, .getfield 76, 3), (9, .getfield 322, 3), (12, .if_icmp .lt 7, 3), (15, .ldc2_w 229, 3), (18, .lreturn, 1), (19, .iload_n 2, 1), (20, .tableswitch 89 0 4 #[36, 47, 58, 69, 79], 36), (56, .aload_n 0, 1), (57, .getfield 76, 3), (60, .getfield 325, 3), (63, .iload_n 1, 1), (64, .iaload, 1), (65, .i2l, 1), (66, .lreturn, 1), (67, .aload_n 0, 1), (68, .getfield 76, 3), (71, .getfield 328, 3), (74, .iload_n 1, 1), (75, .iaload, 1), (76, .i2l, 1), (77, .lreturn, 1), (78, .aload_n 0, 1), (79, .getfield 76, 3), (82, .getfield 331, 3), (85, .iload_n 1, 1), (86, .iaload, 1), (87, .i2l, 1), (88, .lreturn, 1), (89, .aload_n 0, 1), (90, .getfield 76, 3), (93, .getfield 334, 3), (96, .iload_n 1, 1), (97, .laload, 1), (98, .lreturn, 1), (99, .aload_n 0, 1), (100, .getfield 76, 3), (103, .getfield 337, 3), (106, .iload_n 1, 1), (107, .laload, 1), (108, .lreturn, 1), (109, .ldc2_w 229, 3), (112, .lreturn, 1)]
theorem yz_X11_step_ok : ∀ q ∈ yz_X11_step, decode cX11_step q.1 = .ok q.2 := by decide +kernel
theorem yd_yX11_step : yX11_step.cls = RX11 ∧ yX11_step.cls ≠ "java/lang/invoke/MethodHandle" ∧ yX11_step.cls ≠ "java/lang/invoke/VarHandle" ∧ (parseMethodDescriptor yX11_step.desc).map (fun d => d.parameters.length) = some 2 := by decide +kernel
def yz_X11_strong : List (Nat × (Instr × Nat)) := [(0, .iload_n 1, 1), (1, .iconst 1, 1), (2, .if_icmp .lt 9, 3), (5, .iload_n 1, 1), (6, .bipush 12, 2), (8, .if_icmp .le 9, 3), (11, .aload_n 0, 1), (12, .iconst (-1), 1), (13, .invokevirtual 107, 3), (16, .ireturn, 1), (17, .aload_n 0, 1), (18, .getfield 10, 3), (21, .getfield 111, 3), (24, .ifCond .ne 10, 3), (27, .aload_n 0, 1), (28, .bipush (-6), 2), (30, .invokevirtual 107, 3), (33, .ireturn, 1), (34, .aload_n 0, 1), (35, .getfield 76, 3), (38, .aload_n 0, 1), (39, .getfield 10, 3), (42, .iload_n 1, 1), (43, .invokevirtual 319, 3), (46, .aload_n 0, 1), (47, .aload_n 0, 1), (48, .getfield 76, 3), (51, .getfield 322, 3), (54, .invokevirtual 107, 3), (57, .ireturn, 1)]
theorem yz_X11_strong_ok : ∀ q ∈ yz_X11_strong, decode cX11_strong q.1 = .ok q.2 := by decide +kernel
theorem yd_yX11_strong : yX11_strong.cls = RX11 ∧ yX11_strong.cls ≠ "java/lang/invoke/MethodHandle" ∧ yX11_strong.cls ≠ "java/lang/invoke/VarHandle" ∧ (parseMethodDescriptor yX11_strong.desc).map (fun d => d.parameters.length) = some 1 := by decide +kernel
def yz_X11_take : List (Nat × (Instr × Nat)) := [(0, .iload_n 1, 1), (1, .invokestatic 141, 3), (4, .ifCond .eq 22, 3), (7, .iload 4, 2), (9, .invokestatic 103, 3), (12, .ifCond .eq 14, 3), (15, .iload_n 3, 1), (16, .iconst 1, 1), (17, .if_icmp .lt 9, 3), (20, .iload_n 3, 1), (21, .bipush 40, 2), (23, .if_icmp .le 9, 3), (26, .aload_n 0, 1), (27, .iconst (-1), 1), (28, .invokevirtual 107, 3), (31, .ireturn, 1), (32, .aload_n 0, 1), (33, .getfield 32, 3), (36, .iload_n 1, 1), (37, .aaload, 1), (38, .getfield 151, 3), (41, .ifCond .ne 10, 3), (44, .aload_n 0, 1), (45, .bipush (-2), 2), (47, .invokevirtual 107, 3), (50, .ireturn, 1), (51, .aload_n 0, 1), (52, .getfield 32, 3), (55, .iload_n 1, 1), (56, .aaload, 1), (57, .iload_n 2, 1), (58, .iload_n 3, 1), (59, .invokevirtual 174, 3), (62, .ifCond .ne 10, 3), (65, .aload_n 0, 1), (66, .bipush (-3), 2), (68, .invokevirtual 107, 3), (71, .ireturn, 1), (72, .aload_n 0, 1), (73, .getfield 32, 3), (76, .iload_n 1, 1), (77, .aaload, 1), (78, .iload_n 2, 1), (79, .iload_n 3, 1), (80, .invokevirtual 177, 3), (83, .ifCond .ne 9, 3), (86, .aload_n 0, 1), (87, .iconst (-1), 1), (88, .invokevirtual 107, 3), (91, .ireturn, 1), (92, .aload_n 0, 1), (93, .getfield 10, 3), (96, .getfield 111, 3), (99, .iload_n 3, 1), (100, .iadd, 1), (101, .bipush 40, 2), (103, .if_icmp .le 10, 3), (106, .aload_n 0, 1), (107, .bipush (-5), 2), (109, .invokevirtual 107, 3), (112, .ireturn, 1), (113, .iconst 0, 1), (114, .istore 5, 2), (116, .iload 5, 2), (118, .iload_n 3, 1), (119, .if_icmp .ge 52, 3), (122, .iload_n 2, 1), (123, .iconst 2, 1), (124, .iload 5, 2), (126, .imul, 1), (127, .iadd, 1), (128, .istore 6, 2), (130, .aload_n 0, 1), (131, .getfield 10, 3), (134, .aload_n 0, 1), (135, .getfield 32, 3), (138, .iload_n 1, 1), (139, .aaload, 1), (140, .iload 6, 2), (142, .invokevirtual 180, 3), (145, .l2i, 1), (146, .aload_n 0, 1), (147, .getfield 32, 3), (150, .iload_n 1, 1), (151, .aaload, 1), (152, .iload 6, 2), (154, .iconst 1, 1), (155, .iadd, 1), (156, .invokevirtual 180, 3), (159, .l2i, 1), (160, .iload 4, 2), (162, .invokevirtual 114, 3), (165, .iinc 5 1, 3), (168, .goto (-52), 3), (171, .aload_n 0, 1), (172, .aload_n 0, 1), (173, .getfield 10, 3), (176, .getfield 111, 3), (179, .invokevirtual 107, 3), (182, .ireturn, 1)]
theorem yz_X11_take_ok : ∀ q ∈ yz_X11_take, decode cX11_take q.1 = .ok q.2 := by decide +kernel
theorem yd_yX11_take : yX11_take.cls = RX11 ∧ yX11_take.cls ≠ "java/lang/invoke/MethodHandle" ∧ yX11_take.cls ≠ "java/lang/invoke/VarHandle" ∧ (parseMethodDescriptor yX11_take.desc).map (fun d => d.parameters.length) = some 4 := by decide +kernel
def yz_X11_told : List (Nat × (Instr × Nat)) := [(0, .aload_n 0, 1), (1, .iload_n 1, 1), (2, .ifCond .ge 7, 3), (5, .iload_n 1, 1), (6, .goto 4, 3), (9, .iconst 0, 1), (10, .putfield 94, 3), (13, .iload_n 1, 1), (14, .ireturn, 1)]
theorem yz_X11_told_ok : ∀ q ∈ yz_X11_told, decode cX11_told q.1 = .ok q.2 := by decide +kernel
theorem yd_yX11_told : yX11_told.cls = RX11 ∧ yX11_told.cls ≠ "java/lang/invoke/MethodHandle" ∧ yX11_told.cls ≠ "java/lang/invoke/VarHandle" ∧ (parseMethodDescriptor yX11_told.desc).map (fun d => d.parameters.length) = some 1 := by decide +kernel
def yz_X11_vote : List (Nat × (Instr × Nat)) := [(0, .aload_n 0, 1), (1, .getfield 76, 3), (4, .iload_n 1, 1), (5, .iload_n 2, 1), (6, .invokevirtual 347, 3), (9, .ireturn, 1)]
theorem yz_X11_vote_ok : ∀ q ∈ yz_X11_vote, decode cX11_vote q.1 = .ok q.2 := by decide +kernel
theorem yd_yX11_vote : yX11_vote.cls = RX11 ∧ yX11_vote.cls ≠ "java/lang/invoke/MethodHandle" ∧ yX11_vote.cls ≠ "java/lang/invoke/VarHandle" ∧ (parseMethodDescriptor yX11_vote.desc).map (fun d => d.parameters.length) = some 2 := by decide +kernel
def yz_X11_ways : List (Nat × (Instr × Nat)) := [(0, .aload_n 0, 1), (1, .iload_n 1, 1), (2, .invokevirtual 254, 3), (5, .ifCond .ne 5, 3), (8, .iconst (-1), 1), (9, .ireturn, 1), (10, .aload_n 0, 1), (11, .getfield 69, 3), (14, .aload_n 0, 1), (15, .getfield 10, 3), (18, .iload_n 1, 1), (19, .invokevirtual 257, 3), (22, .aload_n 0, 1), (23, .getfield 69, 3), (26, .invokevirtual 260, 3), (29, .ireturn, 1)]
theorem yz_X11_ways_ok : ∀ q ∈ yz_X11_ways, decode cX11_ways q.1 = .ok q.2 := by decide +kernel
theorem yd_yX11_ways : yX11_ways.cls = RX11 ∧ yX11_ways.cls ≠ "java/lang/invoke/MethodHandle" ∧ yX11_ways.cls ≠ "java/lang/invoke/VarHandle" ∧ (parseMethodDescriptor yX11_ways.desc).map (fun d => d.parameters.length) = some 1 := by decide +kernel
def yz_X11_wide : List (Nat × (Instr × Nat)) := [(0, .iload_n 1, 1), (1, .ifCond .lt 8, 3), (4, .iload_n 1, 1), (5, .iconst 5, 1), (6, .if_icmp .le 7, 3), (9, .ldc2_w 188, 3), (12, .lreturn, 1), (13, .aload_n 0, 1), (14, .getfield 55, 3), (17, .aload_n 0, 1), (18, .getfield 10, 3), (21, .invokevirtual 190, 3), (24, .aload_n 0, 1), (25, .getfield 55, 3), (28, .getfield 194, 3), (31, .ifCond .ne 7, 3), (34, .ldc2_w 195, 3), (37, .lreturn, 1), (38, .iload_n 1, 1), (39, .tableswitch 79 0 4 #[33, 44, 55, 63, 71], 33), (72, .aload_n 0, 1), (73, .getfield 55, 3), (76, .getfield 197, 3), (79, .getfield 201, 3), (82, .lreturn, 1), (83, .aload_n 0, 1), (84, .getfield 55, 3), (87, .getfield 197, 3), (90, .getfield 207, 3), (93, .lreturn, 1), (94, .aload_n 0, 1), (95, .getfield 55, 3), (98, .getfield 210, 3), (101, .lreturn, 1), (102, .aload_n 0, 1), (103, .getfield 55, 3), (106, .getfield 213, 3), (109, .lreturn, 1), (110, .aload_n 0, 1), (111, .getfield 55, 3), (114, .getfield 216, 3), (117, .lreturn, 1), (118, .aload_n 0, 1), (119, .getfield 55, 3), (122, .getfield 219, 3), (125, .i2l, 1), (126, .lreturn, 1)]
theorem yz_X11_wide_ok : ∀ q ∈ yz_X11_wide, decode cX11_wide q.1 = .ok q.2 := by decide +kernel
theorem yd_yX11_wide : yX11_wide.cls = RX11 ∧ yX11_wide.cls ≠ "java/lang/invoke/MethodHandle" ∧ yX11_wide.cls ≠ "java/lang/invoke/VarHandle" ∧ (parseMethodDescriptor yX11_wide.desc).map (fun d => d.parameters.length) = some 1 := by decide +kernel
def yz_X11_write : List (Nat × (Instr × Nat)) := [(0, .iload_n 1, 1), (1, .invokestatic 141, 3), (4, .ifCond .ne 9, 3), (7, .aload_n 0, 1), (8, .iconst (-1), 1), (9, .invokevirtual 107, 3), (12, .ireturn, 1), (13, .aload_n 0, 1), (14, .getfield 32, 3), (17, .iload_n 1, 1), (18, .aaload, 1), (19, .getfield 151, 3), (22, .ifCond .ne 10, 3), (25, .aload_n 0, 1), (26, .bipush (-2), 2), (28, .invokevirtual 107, 3), (31, .ireturn, 1), (32, .aload_n 0, 1), (33, .getfield 32, 3), (36, .iload_n 1, 1), (37, .aaload, 1), (38, .iload_n 2, 1), (39, .invokevirtual 155, 3), (42, .ifCond .ne 10, 3), (45, .aload_n 0, 1), (46, .bipush (-3), 2), (48, .invokevirtual 107, 3), (51, .ireturn, 1), (52, .aload_n 0, 1), (53, .getfield 32, 3), (56, .iload_n 1, 1), (57, .aaload, 1), (58, .iload_n 2, 1), (59, .lload_n 3, 1), (60, .invokevirtual 156, 3), (63, .aload_n 0, 1), (64, .iconst 0, 1), (65, .invokevirtual 107, 3), (68, .ireturn, 1)]
theorem yz_X11_write_ok : ∀ q ∈ yz_X11_write, decode cX11_write q.1 = .ok q.2 := by decide +kernel
theorem yd_yX11_write : yX11_write.cls = RX11 ∧ yX11_write.cls ≠ "java/lang/invoke/MethodHandle" ∧ yX11_write.cls ≠ "java/lang/invoke/VarHandle" ∧ (parseMethodDescriptor yX11_write.desc).map (fun d => d.parameters.length) = some 3 := by decide +kernel
def yz_X0_addSet : List (Nat × (Instr × Nat)) := [(0, .iconst 0, 1), (1, .istore_n 2, 1), (2, .iload_n 2, 1), (3, .aload_n 0, 1), (4, .getfield 22, 3), (7, .if_icmp .ge 23, 3), (10, .iload_n 1, 1), (11, .aload_n 0, 1), (12, .getfield 19, 3), (15, .iload_n 2, 1), (16, .iaload, 1), (17, .iconst (-1), 1), (18, .ixor, 1), (19, .iand, 1), (20, .ifCond .ne 4, 3), (23, .return_, 1), (24, .iinc 2 1, 3), (27, .goto (-25), 3), (30, .aload_n 0, 1), (31, .getfield 22, 3), (34, .sipush 144, 3), (37, .if_icmp .ge 23, 3), (40, .aload_n 0, 1), (41, .getfield 19, 3), (44, .aload_n 0, 1), (45, .getfield 22, 3), (48, .iload_n 1, 1), (49, .iastore, 1), (50, .aload_n 0, 1), (51, .dup, 1), (52, .getfield 22, 3), (55, .iconst 1, 1), (56, .iadd, 1), (57, .putfield 22, 3), (60, .return_, 1)]
theorem yz_X0_addSet_ok : ∀ q ∈ yz_X0_addSet, decode cX0_addSet q.1 = .ok q.2 := by decide +kernel
theorem yd_yX0_addSet : yX0_addSet.cls = RX0 ∧ yX0_addSet.cls ≠ "java/lang/invoke/MethodHandle" ∧ yX0_addSet.cls ≠ "java/lang/invoke/VarHandle" ∧ (parseMethodDescriptor yX0_addSet.desc).map (fun d => d.parameters.length) = some 1 := by decide +kernel
def yz_X0_fewest : List (Nat × (Instr × Nat)) := [(0, .aload_n 0, 1), (1, .aload_n 1, 1), (2, .invokevirtual 29, 3), (5, .iconst 1, 1), (6, .aload_n 0, 1), (7, .getfield 15, 3), (10, .ishl, 1), (11, .iconst 1, 1), (12, .isub, 1), (13, .istore_n 2, 1), (14, .aload_n 0, 1), (15, .getfield 25, 3), (18, .bipush 100, 2), (20, .invokestatic 33, 3), (23, .aload_n 0, 1), (24, .getfield 25, 3), (27, .iconst 0, 1), (28, .iconst 0, 1), (29, .bastore, 1), (30, .iconst 0, 1), (31, .istore_n 3, 1), (32, .iload_n 3, 1), (33, .aload_n 0, 1), (34, .getfield 15, 3), (37, .if_icmp .ge 57, 3), (40, .aload_n 0, 1), (41, .aload_n 1, 1), (42, .iload_n 3, 1), (43, .invokevirtual 39, 3), (46, .iconst 1, 1), (47, .iload_n 3, 1), (48, .ishl, 1), (49, .iconst 1, 1), (50, .isub, 1), (51, .istore 4, 2), (53, .iload 4, 2), (55, .iload_n 2, 1), (56, .if_icmp .ge 32, 3), (59, .aload_n 0, 1), (60, .getfield 25, 3), (63, .iload 4, 2), (65, .baload, 1), (66, .bipush 100, 2), (68, .if_icmp .ge 9, 3), (71, .aload_n 0, 1), (72, .iload 4, 2), (74, .invokevirtual 43, 3), (77, .iload 4, 2), (79, .iconst 2, 1), (80, .iload_n 3, 1), (81, .ishl, 1), (82, .iadd, 1), (83, .istore 4, 2), (85, .goto (-32), 3), (88, .iinc 3 1, 3), (91, .goto (-59), 3), (94, .aload_n 0, 1), (95, .getfield 25, 3), (98, .iload_n 2, 1), (99, .baload, 1), (100, .ireturn, 1)]
theorem yz_X0_fewest_ok : ∀ q ∈ yz_X0_fewest, decode cX0_fewest q.1 = .ok q.2 := by decide +kernel
theorem yd_yX0_fewest : yX0_fewest.cls = RX0 ∧ yX0_fewest.cls ≠ "java/lang/invoke/MethodHandle" ∧ yX0_fewest.cls ≠ "java/lang/invoke/VarHandle" ∧ (parseMethodDescriptor yX0_fewest.desc).map (fun d => d.parameters.length) = some 1 := by decide +kernel
def yz_X0_findSets : List (Nat × (Instr × Nat)) := [(0, .aload_n 0, 1), (1, .iconst 0, 1), (2, .putfield 22, 3), (5, .aload_n 1, 1), (6, .getfield 55, 3), (9, .aload_n 0, 1), (10, .getfield 9, 3), (13, .iload_n 2, 1), (14, .iaload, 1), (15, .iaload, 1), (16, .istore_n 3, 1), (17, .iconst 0, 1), (18, .istore 4, 2), (20, .iload 4, 2), (22, .aload_n 0, 1), (23, .getfield 15, 3), (26, .if_icmp .ge 81, 3), (29, .iconst 0, 1), (30, .istore 5, 2), (32, .iload 5, 2), (34, .aload_n 0, 1), (35, .getfield 15, 3), (38, .if_icmp .ge 63, 3), (41, .aload_n 1, 1), (42, .getfield 55, 3), (45, .aload_n 0, 1), (46, .getfield 9, 3), (49, .iload 4, 2), (51, .iaload, 1), (52, .iaload, 1), (53, .istore 6, 2), (55, .aload_n 1, 1), (56, .getfield 55, 3), (59, .aload_n 0, 1), (60, .getfield 9, 3), (63, .iload 5, 2), (65, .iaload, 1), (66, .iaload, 1), (67, .istore 7, 2), (69, .iload 6, 2), (71, .iload_n 3, 1), (72, .if_icmp .gt 23, 3), (75, .iload_n 3, 1), (76, .iload 7, 2), (78, .if_icmp .gt 17, 3), (81, .aload_n 0, 1), (82, .aload_n 0, 1), (83, .aload_n 1, 1), (84, .iload_n 2, 1), (85, .iload 6, 2), (87, .iload 7, 2), (89, .invokevirtual 58, 3), (92, .invokevirtual 62, 3), (95, .iinc 5 1, 3), (98, .goto (-66), 3), (101, .iinc 4 1, 3), (104, .goto (-84), 3), (107, .return_, 1)]
theorem yz_X0_findSets_ok : ∀ q ∈ yz_X0_findSets, decode cX0_findSets q.1 = .ok q.2 := by decide +kernel
theorem yd_yX0_findSets : yX0_findSets.cls = RX0 ∧ yX0_findSets.cls ≠ "java/lang/invoke/MethodHandle" ∧ yX0_findSets.cls ≠ "java/lang/invoke/VarHandle" ∧ (parseMethodDescriptor yX0_findSets.desc).map (fun d => d.parameters.length) = some 2 := by decide +kernel
def yz_X0_gather : List (Nat × (Instr × Nat)) := [(0, .aload_n 0, 1), (1, .iconst 0, 1), (2, .putfield 15, 3), (5, .iconst 0, 1), (6, .istore_n 2, 1), (7, .iload_n 2, 1), (8, .aload_n 1, 1), (9, .getfield 47, 3), (12, .if_icmp .ge 48, 3), (15, .aload_n 0, 1), (16, .getfield 15, 3), (19, .bipush 12, 2), (21, .if_icmp .ge 39, 3), (24, .aload_n 1, 1), (25, .getfield 52, 3), (28, .iload_n 2, 1), (29, .iaload, 1), (30, .iconst 1, 1), (31, .if_icmp .ne 23, 3), (34, .aload_n 0, 1), (35, .getfield 9, 3), (38, .aload_n 0, 1), (39, .getfield 15, 3), (42, .iload_n 2, 1), (43, .iastore, 1), (44, .aload_n 0, 1), (45, .dup, 1), (46, .getfield 15, 3), (49, .iconst 1, 1), (50, .iadd, 1), (51, .putfield 15, 3), (54, .iinc 2 1, 3), (57, .goto (-50), 3), (60, .return_, 1)]
theorem yz_X0_gather_ok : ∀ q ∈ yz_X0_gather, decode cX0_gather q.1 = .ok q.2 := by decide +kernel
theorem yd_yX0_gather : yX0_gather.cls = RX0 ∧ yX0_gather.cls ≠ "java/lang/invoke/MethodHandle" ∧ yX0_gather.cls ≠ "java/lang/invoke/VarHandle" ∧ (parseMethodDescriptor yX0_gather.desc).map (fun d => d.parameters.length) = some 1 := by decide +kernel
def yz_X0_setWithin : List (Nat × (Instr × Nat)) := [(0, .aload_n 1, 1), (1, .getfield 65, 3), (4, .aload_n 0, 1), (5, .getfield 9, 3), (8, .iload_n 2, 1), (9, .iaload, 1), (10, .iaload, 1), (11, .istore 5, 2), (13, .sipush 301, 3), (16, .istore 6, 2), (18, .sipush (-301), 3), (21, .istore 7, 2), (23, .iconst 0, 1), (24, .istore 8, 2), (26, .iload 8, 2), (28, .aload_n 1, 1), (29, .getfield 47, 3), (32, .if_icmp .ge 99, 3), (35, .aload_n 1, 1), (36, .getfield 52, 3), (39, .iload 8, 2), (41, .iaload, 1), (42, .ifCond .ne 83, 3), (45, .aload_n 1, 1), (46, .getfield 55, 3), (49, .iload 8, 2), (51, .iaload, 1), (52, .iload_n 3, 1), (53, .if_icmp .lt 72, 3), (56, .aload_n 1, 1), (57, .getfield 55, 3), (60, .iload 8, 2), (62, .iaload, 1), (63, .iload 4, 2), (65, .if_icmp .gt 60, 3), (68, .aload_n 1, 1), (69, .getfield 65, 3), (72, .iload 8, 2), (74, .iaload, 1), (75, .iload 5, 2), (77, .if_icmp .ne 5, 3), (80, .iconst 0, 1), (81, .ireturn, 1), (82, .aload_n 1, 1), (83, .getfield 65, 3), (86, .iload 8, 2), (88, .iaload, 1), (89, .iload 5, 2), (91, .if_icmp .le 20, 3), (94, .iload 6, 2), (96, .aload_n 1, 1), (97, .getfield 65, 3), (100, .iload 8, 2), (102, .iaload, 1), (103, .invokestatic 68, 3), (106, .istore 6, 2), (108, .goto 17, 3), (111, .iload 7, 2), (113, .aload_n 1, 1), (114, .getfield 65, 3), (117, .iload 8, 2), (119, .iaload, 1), (120, .invokestatic 74, 3), (123, .istore 7, 2), (125, .iinc 8 1, 3), (128, .goto (-102), 3), (131, .iconst 0, 1), (132, .istore 8, 2), (134, .iconst 0, 1), (135, .istore 9, 2), (137, .iload 9, 2), (139, .aload_n 0, 1), (140, .getfield 15, 3), (143, .if_icmp .ge 74, 3), (146, .aload_n 0, 1), (147, .getfield 9, 3), (150, .iload 9, 2), (152, .iaload, 1), (153, .istore 10, 2), (155, .aload_n 1, 1), (156, .getfield 55, 3), (159, .iload 10, 2), (161, .iaload, 1), (162, .iload_n 3, 1), (163, .if_icmp .lt 48, 3), (166, .aload_n 1, 1), (167, .getfield 55, 3), (170, .iload 10, 2), (172, .iaload, 1), (173, .iload 4, 2), (175, .if_icmp .gt 36, 3), (178, .aload_n 1, 1), (179, .getfield 65, 3), (182, .iload 10, 2), (184, .iaload, 1), (185, .iload 7, 2), (187, .if_icmp .le 24, 3), (190, .aload_n 1, 1), (191, .getfield 65, 3), (194, .iload 10, 2), (196, .iaload, 1), (197, .iload 6, 2), (199, .if_icmp .ge 12, 3), (202, .iload 8, 2), (204, .iconst 1, 1), (205, .iload 9, 2), (207, .ishl, 1), (208, .ior, 1), (209, .istore 8, 2), (211, .iinc 9 1, 3), (214, .goto (-77), 3), (217, .iload 8, 2), (219, .ireturn, 1)]
theorem yz_X0_setWithin_ok : ∀ q ∈ yz_X0_setWithin, decode cX0_setWithin q.1 = .ok q.2 := by decide +kernel
theorem yd_yX0_setWithin : yX0_setWithin.cls = RX0 ∧ yX0_setWithin.cls ≠ "java/lang/invoke/MethodHandle" ∧ yX0_setWithin.cls ≠ "java/lang/invoke/VarHandle" ∧ (parseMethodDescriptor yX0_setWithin.desc).map (fun d => d.parameters.length) = some 4 := by decide +kernel
def yz_X0_widen : List (Nat × (Instr × Nat)) := [(0, .aload_n 0, 1), (1, .getfield 25, 3), (4, .iload_n 1, 1), (5, .baload, 1), (6, .iconst 1, 1), (7, .iadd, 1), (8, .istore_n 2, 1), (9, .iconst 0, 1), (10, .istore_n 3, 1), (11, .iload_n 3, 1), (12, .aload_n 0, 1), (13, .getfield 22, 3), (16, .if_icmp .ge 39, 3), (19, .iload_n 1, 1), (20, .aload_n 0, 1), (21, .getfield 19, 3), (24, .iload_n 3, 1), (25, .iaload, 1), (26, .ior, 1), (27, .istore 4, 2), (29, .iload_n 2, 1), (30, .aload_n 0, 1), (31, .getfield 25, 3), (34, .iload 4, 2), (36, .baload, 1), (37, .if_icmp .ge 12, 3), (40, .aload_n 0, 1), (41, .getfield 25, 3), (44, .iload 4, 2), (46, .iload_n 2, 1), (47, .i2b, 1), (48, .bastore, 1), (49, .iinc 3 1, 3), (52, .goto (-41), 3), (55, .return_, 1)]
theorem yz_X0_widen_ok : ∀ q ∈ yz_X0_widen, decode cX0_widen q.1 = .ok q.2 := by decide +kernel
theorem yd_yX0_widen : yX0_widen.cls = RX0 ∧ yX0_widen.cls ≠ "java/lang/invoke/MethodHandle" ∧ yX0_widen.cls ≠ "java/lang/invoke/VarHandle" ∧ (parseMethodDescriptor yX0_widen.desc).map (fun d => d.parameters.length) = some 1 := by decide +kernel
def yz_X1_become : List (Nat × (Instr × Nat)) := [(0, .lload_n 1, 1), (1, .lload_n 3, 1), (2, .invokestatic 16, 3), (5, .lstore 5, 2), (7, .lload_n 3, 1), (8, .lconst 0, 1), (9, .lcmp, 1), (10, .ifCond .ge 8, 3), (13, .lload 5, 2), (15, .lneg, 1), (16, .lstore 5, 2), (18, .aload_n 0, 1), (19, .lload_n 1, 1), (20, .lload 5, 2), (22, .ldiv, 1), (23, .putfield 7, 3), (26, .aload_n 0, 1), (27, .lload_n 3, 1), (28, .lload 5, 2), (30, .ldiv, 1), (31, .putfield 13, 3), (34, .return_, 1)]
theorem yz_X1_become_ok : ∀ q ∈ yz_X1_become, decode cX1_become q.1 = .ok q.2 := by decide +kernel
theorem yd_yX1_become : yX1_become.cls = RX1 ∧ yX1_become.cls ≠ "java/lang/invoke/MethodHandle" ∧ yX1_become.cls ≠ "java/lang/invoke/VarHandle" ∧ (parseMethodDescriptor yX1_become.desc).map (fun d => d.parameters.length) = some 2 := by decide +kernel
def yz_X1_common : List (Nat × (Instr × Nat)) := [(0, .lload_n 0, 1), (1, .invokestatic 20, 3), (4, .lstore 4, 2), (6, .lload_n 2, 1), (7, .invokestatic 20, 3), (10, .lstore 6, 2), (12, .iconst 0, 1), (13, .istore 8, 2), (15, .iload 8, 2), (17, .sipush 128, 3), (20, .if_icmp .ge 31, 3), (23, .lload 6, 2), (25, .lconst 0, 1), (26, .lcmp, 1), (27, .ifCond .eq 24, 3), (30, .lload 4, 2), (32, .lload 6, 2), (34, .lrem, 1), (35, .lstore 9, 2), (37, .lload 6, 2), (39, .lstore 4, 2), (41, .lload 9, 2), (43, .lstore 6, 2), (45, .iinc 8 1, 3), (48, .goto (-33), 3), (51, .lconst 1, 1), (52, .lload 4, 2), (54, .invokestatic 26, 3), (57, .lreturn, 1)]
theorem yz_X1_common_ok : ∀ q ∈ yz_X1_common, decode cX1_common q.1 = .ok q.2 := by decide +kernel
theorem yd_yX1_common : yX1_common.cls ≠ "java/lang/invoke/MethodHandle" ∧ yX1_common.cls ≠ "java/lang/invoke/VarHandle" ∧ (parseMethodDescriptor yX1_common.desc).map (fun d => d.parameters.length) = some 2 := by decide +kernel
def yz_X2_add : List (Nat × (Instr × Nat)) := [(0, .aload_n 0, 1), (1, .getfield 9, 3), (4, .bipush 12, 2), (6, .if_icmp .lt 4, 3), (9, .return_, 1), (10, .aload_n 0, 1), (11, .getfield 18, 3), (14, .aload_n 0, 1), (15, .getfield 9, 3), (18, .iload_n 1, 1), (19, .iastore, 1), (20, .aload_n 0, 1), (21, .getfield 22, 3), (24, .aload_n 0, 1), (25, .getfield 9, 3), (28, .iload_n 2, 1), (29, .iastore, 1), (30, .aload_n 0, 1), (31, .getfield 25, 3), (34, .aload_n 0, 1), (35, .getfield 9, 3), (38, .iload_n 3, 1), (39, .iastore, 1), (40, .aload_n 0, 1), (41, .dup, 1), (42, .getfield 9, 3), (45, .iconst 1, 1), (46, .iadd, 1), (47, .putfield 9, 3), (50, .return_, 1)]
theorem yz_X2_add_ok : ∀ q ∈ yz_X2_add, decode cX2_add q.1 = .ok q.2 := by decide +kernel
theorem yd_yX2_add : yX2_add.cls = RX2 ∧ yX2_add.cls ≠ "java/lang/invoke/MethodHandle" ∧ yX2_add.cls ≠ "java/lang/invoke/VarHandle" ∧ (parseMethodDescriptor yX2_add.desc).map (fun d => d.parameters.length) = some 3 := by decide +kernel
def yz_X2_become : List (Nat × (Instr × Nat)) := [(0, .aload_n 1, 1), (1, .getfield 18, 3), (4, .iconst 0, 1), (5, .aload_n 0, 1), (6, .getfield 18, 3), (9, .iconst 0, 1), (10, .bipush 12, 2), (12, .invokestatic 34, 3), (15, .aload_n 1, 1), (16, .getfield 22, 3), (19, .iconst 0, 1), (20, .aload_n 0, 1), (21, .getfield 22, 3), (24, .iconst 0, 1), (25, .bipush 12, 2), (27, .invokestatic 34, 3), (30, .aload_n 1, 1), (31, .getfield 25, 3), (34, .iconst 0, 1), (35, .aload_n 0, 1), (36, .getfield 25, 3), (39, .iconst 0, 1), (40, .bipush 12, 2), (42, .invokestatic 34, 3), (45, .aload_n 0, 1), (46, .aload_n 1, 1), (47, .getfield 9, 3), (50, .putfield 9, 3), (53, .return_, 1)]
theorem yz_X2_become_ok : ∀ q ∈ yz_X2_become, decode cX2_become q.1 = .ok q.2 := by decide +kernel
theorem yd_yX2_become : yX2_become.cls = RX2 ∧ yX2_become.cls ≠ "java/lang/invoke/MethodHandle" ∧ yX2_become.cls ≠ "java/lang/invoke/VarHandle" ∧ (parseMethodDescriptor yX2_become.desc).map (fun d => d.parameters.length) = some 1 := by decide +kernel
def yz_X2_canBe : List (Nat × (Instr × Nat)) := [(0, .iload_n 0, 1), (1, .ldc 32, 2), (3, .if_icmp .lt 13, 3), (6, .iload_n 0, 1), (7, .ldc 33, 2), (9, .if_icmp .gt 7, 3), (12, .iconst 1, 1), (13, .goto 4, 3), (16, .iconst 0, 1), (17, .ireturn, 1)]
theorem yz_X2_canBe_ok : ∀ q ∈ yz_X2_canBe, decode cX2_canBe q.1 = .ok q.2 := by decide +kernel
theorem yd_yX2_canBe : yX2_canBe.cls ≠ "java/lang/invoke/MethodHandle" ∧ yX2_canBe.cls ≠ "java/lang/invoke/VarHandle" ∧ (parseMethodDescriptor yX2_canBe.desc).map (fun d => d.parameters.length) = some 1 := by decide +kernel
def yz_X2_heightAbove : List (Nat × (Instr × Nat)) := [(0, .lload_n 0, 1), (1, .iload 6, 2), (3, .i2l, 1), (4, .lmul, 1), (5, .lload_n 2, 1), (6, .iload 7, 2), (8, .i2l, 1), (9, .lmul, 1), (10, .ladd, 1), (11, .lload 4, 2), (13, .lsub, 1), (14, .lreturn, 1)]
theorem yz_X2_heightAbove_ok : ∀ q ∈ yz_X2_heightAbove, decode cX2_heightAbove q.1 = .ok q.2 := by decide +kernel
theorem yd_yX2_heightAbove : yX2_heightAbove.cls ≠ "java/lang/invoke/MethodHandle" ∧ yX2_heightAbove.cls ≠ "java/lang/invoke/VarHandle" ∧ (parseMethodDescriptor yX2_heightAbove.desc).map (fun d => d.parameters.length) = some 5 := by decide +kernel
def yz_X2_isLine : List (Nat × (Instr × Nat)) := [(0, .iload_n 0, 1), (1, .invokestatic 28, 3), (4, .ifCond .eq 29, 3), (7, .iload_n 1, 1), (8, .invokestatic 28, 3), (11, .ifCond .eq 22, 3), (14, .iload_n 2, 1), (15, .invokestatic 28, 3), (18, .ifCond .eq 15, 3), (21, .iload_n 0, 1), (22, .ifCond .ne 7, 3), (25, .iload_n 1, 1), (26, .ifCond .eq 7, 3), (29, .iconst 1, 1), (30, .goto 4, 3), (33, .iconst 0, 1), (34, .ireturn, 1)]
theorem yz_X2_isLine_ok : ∀ q ∈ yz_X2_isLine, decode cX2_isLine q.1 = .ok q.2 := by decide +kernel
theorem yd_yX2_isLine : yX2_isLine.cls ≠ "java/lang/invoke/MethodHandle" ∧ yX2_isLine.cls ≠ "java/lang/invoke/VarHandle" ∧ (parseMethodDescriptor yX2_isLine.desc).map (fun d => d.parameters.length) = some 3 := by decide +kernel
def yz_X2_sayers : List (Nat × (Instr × Nat)) := [(0, .iconst 0, 1), (1, .istore 4, 2), (3, .iconst 0, 1), (4, .istore 5, 2), (6, .iload 5, 2), (8, .aload_n 0, 1), (9, .getfield 9, 3), (12, .if_icmp .ge 71, 3), (15, .aload_n 0, 1), (16, .getfield 18, 3), (19, .iload 5, 2), (21, .iaload, 1), (22, .i2l, 1), (23, .aload_n 0, 1), (24, .getfield 22, 3), (27, .iload 5, 2), (29, .iaload, 1), (30, .i2l, 1), (31, .aload_n 0, 1), (32, .getfield 25, 3), (35, .iload 5, 2), (37, .iaload, 1), (38, .i2l, 1), (39, .iload_n 1, 1), (40, .iload_n 2, 1), (41, .invokestatic 62, 3), (44, .lstore 6, 2), (46, .iload_n 3, 1), (47, .iconst 1, 1), (48, .if_icmp .ne 13, 3), (51, .lload 6, 2), (53, .lconst 0, 1), (54, .lcmp, 1), (55, .ifCond .le 22, 3), (58, .goto 10, 3), (61, .lload 6, 2), (63, .lconst 0, 1), (64, .lcmp, 1), (65, .ifCond .ge 12, 3), (68, .iload 4, 2), (70, .iconst 1, 1), (71, .iload 5, 2), (73, .ishl, 1), (74, .ior, 1), (75, .istore 4, 2), (77, .iinc 5 1, 3), (80, .goto (-74), 3), (83, .iload 4, 2), (85, .ireturn, 1)]
theorem yz_X2_sayers_ok : ∀ q ∈ yz_X2_sayers, decode cX2_sayers q.1 = .ok q.2 := by decide +kernel
theorem yd_yX2_sayers : yX2_sayers.cls = RX2 ∧ yX2_sayers.cls ≠ "java/lang/invoke/MethodHandle" ∧ yX2_sayers.cls ≠ "java/lang/invoke/VarHandle" ∧ (parseMethodDescriptor yX2_sayers.desc).map (fun d => d.parameters.length) = some 3 := by decide +kernel
def yz_X2_thin : List (Nat × (Instr × Nat)) := [(0, .aload_n 0, 1), (1, .iconst 1, 1), (2, .aload_n 0, 1), (3, .getfield 9, 3), (6, .ishl, 1), (7, .iconst 1, 1), (8, .isub, 1), (9, .putfield 15, 3), (12, .iconst 0, 1), (13, .istore_n 2, 1), (14, .iconst 0, 1), (15, .istore_n 3, 1), (16, .iload_n 3, 1), (17, .aload_n 1, 1), (18, .getfield 40, 3), (21, .if_icmp .ge 102, 3), (24, .aload_n 0, 1), (25, .getfield 15, 3), (28, .aload_n 0, 1), (29, .aload_n 1, 1), (30, .getfield 43, 3), (33, .iload_n 3, 1), (34, .iaload, 1), (35, .aload_n 1, 1), (36, .getfield 46, 3), (39, .iload_n 3, 1), (40, .iaload, 1), (41, .iconst 1, 1), (42, .invokevirtual 49, 3), (45, .iand, 1), (46, .istore 4, 2), (48, .iconst 2, 1), (49, .iload 4, 2), (51, .invokestatic 53, 3), (54, .imul, 1), (55, .aload_n 0, 1), (56, .getfield 15, 3), (59, .invokestatic 53, 3), (62, .if_icmp .le 7, 3), (65, .iconst 1, 1), (66, .goto 4, 3), (69, .iconst 0, 1), (70, .istore 5, 2), (72, .iload 5, 2), (74, .aload_n 1, 1), (75, .getfield 59, 3), (78, .iload_n 3, 1), (79, .iaload, 1), (80, .if_icmp .eq 6, 3), (83, .iinc 2 1, 3), (86, .aload_n 0, 1), (87, .dup, 1), (88, .getfield 15, 3), (91, .aload_n 0, 1), (92, .aload_n 1, 1), (93, .getfield 43, 3), (96, .iload_n 3, 1), (97, .iaload, 1), (98, .aload_n 1, 1), (99, .getfield 46, 3), (102, .iload_n 3, 1), (103, .iaload, 1), (104, .aload_n 1, 1), (105, .getfield 59, 3), (108, .iload_n 3, 1), (109, .iaload, 1), (110, .invokevirtual 49, 3), (113, .iand, 1), (114, .putfield 15, 3), (117, .iinc 3 1, 3), (120, .goto (-104), 3), (123, .iload_n 2, 1), (124, .ireturn, 1)]
theorem yz_X2_thin_ok : ∀ q ∈ yz_X2_thin, decode cX2_thin q.1 = .ok q.2 := by decide +kernel
theorem yd_yX2_thin : yX2_thin.cls = RX2 ∧ yX2_thin.cls ≠ "java/lang/invoke/MethodHandle" ∧ yX2_thin.cls ≠ "java/lang/invoke/VarHandle" ∧ (parseMethodDescriptor yX2_thin.desc).map (fun d => d.parameters.length) = some 1 := by decide +kernel
def yz_X3_become : List (Nat × (Instr × Nat)) := [(0, .aload_n 0, 1), (1, .aload_n 1, 1), (2, .getfield 9, 3), (5, .putfield 9, 3), (8, .aload_n 0, 1), (9, .aload_n 1, 1), (10, .getfield 15, 3), (13, .putfield 15, 3), (16, .aload_n 0, 1), (17, .aload_n 1, 1), (18, .getfield 18, 3), (21, .putfield 18, 3), (24, .aload_n 0, 1), (25, .aload_n 1, 1), (26, .getfield 21, 3), (29, .putfield 21, 3), (32, .aload_n 0, 1), (33, .aload_n 1, 1), (34, .getfield 24, 3), (37, .putfield 24, 3), (40, .return_, 1)]
theorem yz_X3_become_ok : ∀ q ∈ yz_X3_become, decode cX3_become q.1 = .ok q.2 := by decide +kernel
theorem yd_yX3_become : yX3_become.cls = RX3 ∧ yX3_become.cls ≠ "java/lang/invoke/MethodHandle" ∧ yX3_become.cls ≠ "java/lang/invoke/VarHandle" ∧ (parseMethodDescriptor yX3_become.desc).map (fun d => d.parameters.length) = some 1 := by decide +kernel
def yz_X3_forget : List (Nat × (Instr × Nat)) := [(0, .aload_n 0, 1), (1, .lconst 0, 1), (2, .putfield 9, 3), (5, .aload_n 0, 1), (6, .lconst 0, 1), (7, .putfield 15, 3), (10, .aload_n 0, 1), (11, .lconst 0, 1), (12, .putfield 18, 3), (15, .aload_n 0, 1), (16, .lconst 0, 1), (17, .putfield 21, 3), (20, .aload_n 0, 1), (21, .lconst 0, 1), (22, .putfield 24, 3), (25, .return_, 1)]
theorem yz_X3_forget_ok : ∀ q ∈ yz_X3_forget, decode cX3_forget q.1 = .ok q.2 := by decide +kernel
theorem yd_yX3_forget : yX3_forget.cls = RX3 ∧ yX3_forget.cls ≠ "java/lang/invoke/MethodHandle" ∧ yX3_forget.cls ≠ "java/lang/invoke/VarHandle" ∧ (parseMethodDescriptor yX3_forget.desc).map (fun d => d.parameters.length) = some 0 := by decide +kernel
def yz_X3_goRound : List (Nat × (Instr × Nat)) := [(0, .iconst 0, 1), (1, .istore_n 2, 1), (2, .iconst 0, 1), (3, .istore_n 3, 1), (4, .iload_n 3, 1), (5, .aload_n 1, 1), (6, .getfield 31, 3), (9, .if_icmp .ge 119, 3), (12, .aload_n 0, 1), (13, .getfield 9, 3), (16, .aload_n 1, 1), (17, .getfield 37, 3), (20, .iload_n 3, 1), (21, .iaload, 1), (22, .i2l, 1), (23, .lmul, 1), (24, .aload_n 0, 1), (25, .getfield 15, 3), (28, .aload_n 1, 1), (29, .getfield 41, 3), (32, .iload_n 3, 1), (33, .iaload, 1), (34, .i2l, 1), (35, .lmul, 1), (36, .ladd, 1), (37, .aload_n 0, 1), (38, .getfield 18, 3), (41, .ladd, 1), (42, .lstore 4, 2), (44, .aload_n 1, 1), (45, .getfield 44, 3), (48, .iload_n 3, 1), (49, .iaload, 1), (50, .iconst 1, 1), (51, .if_icmp .ne 33, 3), (54, .lload 4, 2), (56, .lconst 0, 1), (57, .lcmp, 1), (58, .ifCond .gt 26, 3), (61, .aload_n 0, 1), (62, .aload_n 1, 1), (63, .getfield 37, 3), (66, .iload_n 3, 1), (67, .iaload, 1), (68, .aload_n 1, 1), (69, .getfield 41, 3), (72, .iload_n 3, 1), (73, .iaload, 1), (74, .iconst 1, 1), (75, .invokevirtual 47, 3), (78, .iinc 2 1, 3), (81, .goto 41, 3), (84, .aload_n 1, 1), (85, .getfield 44, 3), (88, .iload_n 3, 1), (89, .iaload, 1), (90, .ifCond .ne 32, 3), (93, .lload 4, 2), (95, .lconst 0, 1), (96, .lcmp, 1), (97, .ifCond .lt 25, 3), (100, .aload_n 0, 1), (101, .aload_n 1, 1), (102, .getfield 37, 3), (105, .iload_n 3, 1), (106, .iaload, 1), (107, .ineg, 1), (108, .aload_n 1, 1), (109, .getfield 41, 3), (112, .iload_n 3, 1), (113, .iaload, 1), (114, .ineg, 1), (115, .iconst (-1), 1), (116, .invokevirtual 47, 3), (119, .iinc 2 1, 3), (122, .iinc 3 1, 3), (125, .goto (-121), 3), (128, .iload_n 2, 1), (129, .ireturn, 1)]
theorem yz_X3_goRound_ok : ∀ q ∈ yz_X3_goRound, decode cX3_goRound q.1 = .ok q.2 := by decide +kernel
theorem yd_yX3_goRound : yX3_goRound.cls = RX3 ∧ yX3_goRound.cls ≠ "java/lang/invoke/MethodHandle" ∧ yX3_goRound.cls ≠ "java/lang/invoke/VarHandle" ∧ (parseMethodDescriptor yX3_goRound.desc).map (fun d => d.parameters.length) = some 1 := by decide +kernel
def yz_X3_mend : List (Nat × (Instr × Nat)) := [(0, .aload_n 0, 1), (1, .dup, 1), (2, .getfield 9, 3), (5, .iload_n 1, 1), (6, .i2l, 1), (7, .ladd, 1), (8, .putfield 9, 3), (11, .aload_n 0, 1), (12, .dup, 1), (13, .getfield 15, 3), (16, .iload_n 2, 1), (17, .i2l, 1), (18, .ladd, 1), (19, .putfield 15, 3), (22, .aload_n 0, 1), (23, .dup, 1), (24, .getfield 18, 3), (27, .iload_n 3, 1), (28, .i2l, 1), (29, .ladd, 1), (30, .putfield 18, 3), (33, .return_, 1)]
theorem yz_X3_mend_ok : ∀ q ∈ yz_X3_mend, decode cX3_mend q.1 = .ok q.2 := by decide +kernel
theorem yd_yX3_mend : yX3_mend.cls = RX3 ∧ yX3_mend.cls ≠ "java/lang/invoke/MethodHandle" ∧ yX3_mend.cls ≠ "java/lang/invoke/VarHandle" ∧ (parseMethodDescriptor yX3_mend.desc).map (fun d => d.parameters.length) = some 3 := by decide +kernel
def yz_X3_train : List (Nat × (Instr × Nat)) := [(0, .iconst 0, 1), (1, .istore_n 3, 1), (2, .iconst 0, 1), (3, .istore 4, 2), (5, .iload 4, 2), (7, .iload_n 2, 1), (8, .if_icmp .ge 39, 3), (11, .aload_n 0, 1), (12, .aload_n 1, 1), (13, .invokevirtual 27, 3), (16, .istore 5, 2), (18, .aload_n 0, 1), (19, .dup, 1), (20, .getfield 24, 3), (23, .lconst 1, 1), (24, .ladd, 1), (25, .putfield 24, 3), (28, .iload_n 3, 1), (29, .iload 5, 2), (31, .iadd, 1), (32, .istore_n 3, 1), (33, .iload 5, 2), (35, .ifCond .ne 6, 3), (38, .goto 9, 3), (41, .iinc 4 1, 3), (44, .goto (-39), 3), (47, .aload_n 0, 1), (48, .dup, 1), (49, .getfield 21, 3), (52, .iload_n 3, 1), (53, .i2l, 1), (54, .ladd, 1), (55, .putfield 21, 3), (58, .iload_n 3, 1), (59, .ireturn, 1)]
theorem yz_X3_train_ok : ∀ q ∈ yz_X3_train, decode cX3_train q.1 = .ok q.2 := by decide +kernel
theorem yd_yX3_train : yX3_train.cls = RX3 ∧ yX3_train.cls ≠ "java/lang/invoke/MethodHandle" ∧ yX3_train.cls ≠ "java/lang/invoke/VarHandle" ∧ (parseMethodDescriptor yX3_train.desc).map (fun d => d.parameters.length) = some 2 := by decide +kernel
def yz_X4_canTell : List (Nat × (Instr × Nat)) := [(0, .iload_n 0, 1), (1, .ifCond .eq 8, 3), (4, .iload_n 0, 1), (5, .iconst 1, 1), (6, .if_icmp .ne 5, 3), (9, .iconst 1, 1), (10, .ireturn, 1), (11, .iload_n 0, 1), (12, .bipush 10, 2), (14, .if_icmp .lt 21, 3), (17, .iload_n 0, 1), (18, .bipush 50, 2), (20, .if_icmp .ge 15, 3), (23, .iload_n 0, 1), (24, .bipush 10, 2), (26, .irem, 1), (27, .iconst 4, 1), (28, .if_icmp .ge 7, 3), (31, .iconst 1, 1), (32, .goto 4, 3), (35, .iconst 0, 1), (36, .ireturn, 1)]
theorem yz_X4_canTell_ok : ∀ q ∈ yz_X4_canTell, decode cX4_canTell q.1 = .ok q.2 := by decide +kernel
theorem yd_yX4_canTell : yX4_canTell.cls ≠ "java/lang/invoke/MethodHandle" ∧ yX4_canTell.cls ≠ "java/lang/invoke/VarHandle" ∧ (parseMethodDescriptor yX4_canTell.desc).map (fun d => d.parameters.length) = some 1 := by decide +kernel
def yz_X4_find : List (Nat × (Instr × Nat)) := [(0, .aload_n 0, 1), (1, .getfield 48, 3), (4, .aload_n 1, 1), (5, .getfield 60, 3), (8, .if_icmp .ne 4, 3), (11, .return_, 1), (12, .aload_n 0, 1), (13, .aload_n 1, 1), (14, .getfield 60, 3), (17, .putfield 48, 3), (20, .aload_n 0, 1), (21, .aload_n 1, 1), (22, .invokevirtual 65, 3), (25, .aload_n 0, 1), (26, .aload_n 1, 1), (27, .invokevirtual 69, 3), (30, .ifCond .eq 18, 3), (33, .aload_n 0, 1), (34, .aload_n 1, 1), (35, .iconst 0, 1), (36, .invokevirtual 73, 3), (39, .aload_n 0, 1), (40, .aload_n 1, 1), (41, .iconst 1, 1), (42, .invokevirtual 73, 3), (45, .goto 112, 3), (48, .aload_n 0, 1), (49, .aload_n 1, 1), (50, .invokevirtual 77, 3), (53, .ifCond .eq 19, 3), (56, .aload_n 0, 1), (57, .aload_n 1, 1), (58, .iconst 0, 1), (59, .invokevirtual 73, 3), (62, .aload_n 0, 1), (63, .aload_n 1, 1), (64, .iconst 0, 1), (65, .iconst 1, 1), (66, .invokevirtual 80, 3), (69, .goto 88, 3), (72, .aload_n 0, 1), (73, .aload_n 1, 1), (74, .invokevirtual 84, 3), (77, .ifCond .eq 19, 3), (80, .aload_n 0, 1), (81, .aload_n 1, 1), (82, .iconst 2, 1), (83, .invokevirtual 73, 3), (86, .aload_n 0, 1), (87, .aload_n 1, 1), (88, .iconst 2, 1), (89, .iconst 0, 1), (90, .invokevirtual 80, 3), (93, .goto 64, 3), (96, .aload_n 0, 1), (97, .aload_n 1, 1), (98, .invokevirtual 87, 3), (101, .ifCond .eq 19, 3), (104, .aload_n 0, 1), (105, .aload_n 1, 1), (106, .iconst 0, 1), (107, .invokevirtual 73, 3), (110, .aload_n 0, 1), (111, .aload_n 1, 1), (112, .iconst 0, 1), (113, .iconst 1, 1), (114, .invokevirtual 90, 3), (117, .goto 40, 3), (120, .aload_n 0, 1), (121, .aload_n 1, 1), (122, .invokevirtual 93, 3), (125, .ifCond .eq 19, 3), (128, .aload_n 0, 1), (129, .aload_n 1, 1), (130, .iconst 3, 1), (131, .invokevirtual 73, 3), (134, .aload_n 0, 1), (135, .aload_n 1, 1), (136, .iconst 3, 1), (137, .iconst 0, 1), (138, .invokevirtual 90, 3), (141, .goto 16, 3), (144, .aload_n 0, 1), (145, .aload_n 1, 1), (146, .invokevirtual 96, 3), (149, .ifCond .eq 8, 3), (152, .aload_n 0, 1), (153, .aload_n 1, 1), (154, .invokevirtual 99, 3), (157, .return_, 1)]
theorem yz_X4_find_ok : ∀ q ∈ yz_X4_find, decode cX4_find q.1 = .ok q.2 := by decide +kernel
theorem yd_yX4_find : yX4_find.cls = RX4 ∧ yX4_find.cls ≠ "java/lang/invoke/MethodHandle" ∧ yX4_find.cls ≠ "java/lang/invoke/VarHandle" ∧ (parseMethodDescriptor yX4_find.desc).map (fun d => d.parameters.length) = some 1 := by decide +kernel
def yz_X4_findCrossing : List (Nat × (Instr × Nat)) := [(0, .iconst 0, 1), (1, .istore_n 2, 1), (2, .iload_n 2, 1), (3, .aload_n 0, 1), (4, .getfield 42, 3), (7, .if_icmp .ge 100, 3), (10, .iload_n 2, 1), (11, .iconst 1, 1), (12, .iadd, 1), (13, .istore_n 3, 1), (14, .iload_n 3, 1), (15, .aload_n 0, 1), (16, .getfield 42, 3), (19, .if_icmp .ge 82, 3), (22, .iconst 0, 1), (23, .istore 4, 2), (25, .iload 4, 2), (27, .aload_n 0, 1), (28, .getfield 45, 3), (31, .if_icmp .ge 64, 3), (34, .aload_n 0, 1), (35, .aload_n 1, 1), (36, .aload_n 0, 1), (37, .getfield 36, 3), (40, .iload_n 2, 1), (41, .iaload, 1), (42, .aload_n 0, 1), (43, .getfield 36, 3), (46, .iload_n 3, 1), (47, .iaload, 1), (48, .iload 4, 2), (50, .invokevirtual 132, 3), (53, .istore 5, 2), (55, .iload 5, 2), (57, .iconst (-1), 1), (58, .if_icmp .eq 31, 3), (61, .aload_n 0, 1), (62, .iconst 4, 1), (63, .iconst 4, 1), (64, .aload_n 0, 1), (65, .getfield 36, 3), (68, .iload_n 2, 1), (69, .iaload, 1), (70, .aload_n 0, 1), (71, .getfield 36, 3), (74, .iload_n 3, 1), (75, .iaload, 1), (76, .aload_n 0, 1), (77, .getfield 39, 3), (80, .iload 4, 2), (82, .iaload, 1), (83, .iload 5, 2), (85, .invokevirtual 110, 3), (88, .ireturn, 1), (89, .iinc 4 1, 3), (92, .goto (-67), 3), (95, .iinc 3 1, 3), (98, .goto (-84), 3), (101, .iinc 2 1, 3), (104, .goto (-102), 3), (107, .iconst 0, 1), (108, .ireturn, 1)]
theorem yz_X4_findCrossing_ok : ∀ q ∈ yz_X4_findCrossing, decode cX4_findCrossing q.1 = .ok q.2 := by decide +kernel
theorem yd_yX4_findCrossing : yX4_findCrossing.cls = RX4 ∧ yX4_findCrossing.cls ≠ "java/lang/invoke/MethodHandle" ∧ yX4_findCrossing.cls ≠ "java/lang/invoke/VarHandle" ∧ (parseMethodDescriptor yX4_findCrossing.desc).map (fun d => d.parameters.length) = some 1 := by decide +kernel
def yz_X4_findNoBetween : List (Nat × (Instr × Nat)) := [(0, .iconst 0, 1), (1, .istore_n 2, 1), (2, .iload_n 2, 1), (3, .aload_n 0, 1), (4, .getfield 42, 3), (7, .if_icmp .ge 98, 3), (10, .iload_n 2, 1), (11, .iconst 1, 1), (12, .iadd, 1), (13, .istore_n 3, 1), (14, .iload_n 3, 1), (15, .aload_n 0, 1), (16, .getfield 42, 3), (19, .if_icmp .ge 80, 3), (22, .iconst 0, 1), (23, .istore 4, 2), (25, .iload 4, 2), (27, .aload_n 0, 1), (28, .getfield 45, 3), (31, .if_icmp .ge 62, 3), (34, .aload_n 1, 1), (35, .aload_n 0, 1), (36, .getfield 39, 3), (39, .iload 4, 2), (41, .iaload, 1), (42, .aload_n 0, 1), (43, .getfield 36, 3), (46, .iload_n 2, 1), (47, .iaload, 1), (48, .aload_n 0, 1), (49, .getfield 36, 3), (52, .iload_n 3, 1), (53, .iaload, 1), (54, .invokestatic 114, 3), (57, .ifCond .eq 30, 3), (60, .aload_n 0, 1), (61, .iconst 2, 1), (62, .iconst 3, 1), (63, .aload_n 0, 1), (64, .getfield 36, 3), (67, .iload_n 2, 1), (68, .iaload, 1), (69, .aload_n 0, 1), (70, .getfield 36, 3), (73, .iload_n 3, 1), (74, .iaload, 1), (75, .aload_n 0, 1), (76, .getfield 39, 3), (79, .iload 4, 2), (81, .iaload, 1), (82, .iconst 0, 1), (83, .invokevirtual 110, 3), (86, .ireturn, 1), (87, .iinc 4 1, 3), (90, .goto (-65), 3), (93, .iinc 3 1, 3), (96, .goto (-82), 3), (99, .iinc 2 1, 3), (102, .goto (-100), 3), (105, .iconst 0, 1), (106, .ireturn, 1)]
theorem yz_X4_findNoBetween_ok : ∀ q ∈ yz_X4_findNoBetween, decode cX4_findNoBetween q.1 = .ok q.2 := by decide +kernel
theorem yd_yX4_findNoBetween : yX4_findNoBetween.cls = RX4 ∧ yX4_findNoBetween.cls ≠ "java/lang/invoke/MethodHandle" ∧ yX4_findNoBetween.cls ≠ "java/lang/invoke/VarHandle" ∧ (parseMethodDescriptor yX4_findNoBetween.desc).map (fun d => d.parameters.length) = some 1 := by decide +kernel
def yz_X4_findNoWithin : List (Nat × (Instr × Nat)) := [(0, .iconst 0, 1), (1, .istore_n 2, 1), (2, .iload_n 2, 1), (3, .aload_n 0, 1), (4, .getfield 42, 3), (7, .if_icmp .ge 107, 3), (10, .iload_n 2, 1), (11, .iconst 1, 1), (12, .iadd, 1), (13, .istore_n 3, 1), (14, .iload_n 3, 1), (15, .aload_n 0, 1), (16, .getfield 42, 3), (19, .if_icmp .ge 89, 3), (22, .iload_n 3, 1), (23, .iconst 1, 1), (24, .iadd, 1), (25, .istore 4, 2), (27, .iload 4, 2), (29, .aload_n 0, 1), (30, .getfield 42, 3), (33, .if_icmp .ge 69, 3), (36, .aload_n 0, 1), (37, .aload_n 1, 1), (38, .aload_n 0, 1), (39, .getfield 36, 3), (42, .iload_n 2, 1), (43, .iaload, 1), (44, .aload_n 0, 1), (45, .getfield 36, 3), (48, .iload_n 3, 1), (49, .iaload, 1), (50, .aload_n 0, 1), (51, .getfield 36, 3), (54, .iload 4, 2), (56, .iaload, 1), (57, .invokevirtual 129, 3), (60, .istore 5, 2), (62, .iload 5, 2), (64, .iconst (-1), 1), (65, .if_icmp .eq 31, 3), (68, .aload_n 0, 1), (69, .iconst 3, 1), (70, .iconst 4, 1), (71, .aload_n 0, 1), (72, .getfield 36, 3), (75, .iload_n 2, 1), (76, .iaload, 1), (77, .aload_n 0, 1), (78, .getfield 36, 3), (81, .iload_n 3, 1), (82, .iaload, 1), (83, .aload_n 0, 1), (84, .getfield 36, 3), (87, .iload 4, 2), (89, .iaload, 1), (90, .iload 5, 2), (92, .invokevirtual 110, 3), (95, .ireturn, 1), (96, .iinc 4 1, 3), (99, .goto (-72), 3), (102, .iinc 3 1, 3), (105, .goto (-91), 3), (108, .iinc 2 1, 3), (111, .goto (-109), 3), (114, .iconst 0, 1), (115, .ireturn, 1)]
theorem yz_X4_findNoWithin_ok : ∀ q ∈ yz_X4_findNoWithin, decode cX4_findNoWithin q.1 = .ok q.2 := by decide +kernel
theorem yd_yX4_findNoWithin : yX4_findNoWithin.cls = RX4 ∧ yX4_findNoWithin.cls ≠ "java/lang/invoke/MethodHandle" ∧ yX4_findNoWithin.cls ≠ "java/lang/invoke/VarHandle" ∧ (parseMethodDescriptor yX4_findNoWithin.desc).map (fun d => d.parameters.length) = some 1 := by decide +kernel
def yz_X4_findOnePlace : List (Nat × (Instr × Nat)) := [(0, .iconst 0, 1), (1, .istore_n 2, 1), (2, .iload_n 2, 1), (3, .aload_n 0, 1), (4, .getfield 42, 3), (7, .if_icmp .ge 65, 3), (10, .iconst 0, 1), (11, .istore_n 3, 1), (12, .iload_n 3, 1), (13, .aload_n 0, 1), (14, .getfield 45, 3), (17, .if_icmp .ge 49, 3), (20, .aload_n 1, 1), (21, .aload_n 0, 1), (22, .getfield 36, 3), (25, .iload_n 2, 1), (26, .iaload, 1), (27, .aload_n 0, 1), (28, .getfield 39, 3), (31, .iload_n 3, 1), (32, .iaload, 1), (33, .invokevirtual 106, 3), (36, .ifCond .eq 24, 3), (39, .aload_n 0, 1), (40, .iconst 1, 1), (41, .iconst 2, 1), (42, .aload_n 0, 1), (43, .getfield 36, 3), (46, .iload_n 2, 1), (47, .iaload, 1), (48, .aload_n 0, 1), (49, .getfield 39, 3), (52, .iload_n 3, 1), (53, .iaload, 1), (54, .iconst 0, 1), (55, .iconst 0, 1), (56, .invokevirtual 110, 3), (59, .ireturn, 1), (60, .iinc 3 1, 3), (63, .goto (-51), 3), (66, .iinc 2 1, 3), (69, .goto (-67), 3), (72, .iconst 0, 1), (73, .ireturn, 1)]
theorem yz_X4_findOnePlace_ok : ∀ q ∈ yz_X4_findOnePlace, decode cX4_findOnePlace q.1 = .ok q.2 := by decide +kernel
theorem yd_yX4_findOnePlace : yX4_findOnePlace.cls = RX4 ∧ yX4_findOnePlace.cls ≠ "java/lang/invoke/MethodHandle" ∧ yX4_findOnePlace.cls ≠ "java/lang/invoke/VarHandle" ∧ (parseMethodDescriptor yX4_findOnePlace.desc).map (fun d => d.parameters.length) = some 1 := by decide +kernel
def yz_X4_findYesBetween : List (Nat × (Instr × Nat)) := [(0, .iconst 0, 1), (1, .istore_n 2, 1), (2, .iload_n 2, 1), (3, .aload_n 0, 1), (4, .getfield 42, 3), (7, .if_icmp .ge 98, 3), (10, .iconst 0, 1), (11, .istore_n 3, 1), (12, .iload_n 3, 1), (13, .aload_n 0, 1), (14, .getfield 45, 3), (17, .if_icmp .ge 82, 3), (20, .iload_n 3, 1), (21, .iconst 1, 1), (22, .iadd, 1), (23, .istore 4, 2), (25, .iload 4, 2), (27, .aload_n 0, 1), (28, .getfield 45, 3), (31, .if_icmp .ge 62, 3), (34, .aload_n 1, 1), (35, .aload_n 0, 1), (36, .getfield 36, 3), (39, .iload_n 2, 1), (40, .iaload, 1), (41, .aload_n 0, 1), (42, .getfield 39, 3), (45, .iload_n 3, 1), (46, .iaload, 1), (47, .aload_n 0, 1), (48, .getfield 39, 3), (51, .iload 4, 2), (53, .iaload, 1), (54, .invokestatic 114, 3), (57, .ifCond .eq 30, 3), (60, .aload_n 0, 1), (61, .iconst 2, 1), (62, .iconst 3, 1), (63, .aload_n 0, 1), (64, .getfield 36, 3), (67, .iload_n 2, 1), (68, .iaload, 1), (69, .aload_n 0, 1), (70, .getfield 39, 3), (73, .iload_n 3, 1), (74, .iaload, 1), (75, .aload_n 0, 1), (76, .getfield 39, 3), (79, .iload 4, 2), (81, .iaload, 1), (82, .iconst 0, 1), (83, .invokevirtual 110, 3), (86, .ireturn, 1), (87, .iinc 4 1, 3), (90, .goto (-65), 3), (93, .iinc 3 1, 3), (96, .goto (-84), 3), (99, .iinc 2 1, 3), (102, .goto (-100), 3), (105, .iconst 0, 1), (106, .ireturn, 1)]
theorem yz_X4_findYesBetween_ok : ∀ q ∈ yz_X4_findYesBetween, decode cX4_findYesBetween q.1 = .ok q.2 := by decide +kernel
theorem yd_yX4_findYesBetween : yX4_findYesBetween.cls = RX4 ∧ yX4_findYesBetween.cls ≠ "java/lang/invoke/MethodHandle" ∧ yX4_findYesBetween.cls ≠ "java/lang/invoke/VarHandle" ∧ (parseMethodDescriptor yX4_findYesBetween.desc).map (fun d => d.parameters.length) = some 1 := by decide +kernel
def yz_X4_findYesWithin : List (Nat × (Instr × Nat)) := [(0, .iconst 0, 1), (1, .istore_n 2, 1), (2, .iload_n 2, 1), (3, .aload_n 0, 1), (4, .getfield 42, 3), (7, .if_icmp .ge 90, 3), (10, .iconst 0, 1), (11, .istore_n 3, 1), (12, .iload_n 3, 1), (13, .aload_n 0, 1), (14, .getfield 45, 3), (17, .if_icmp .ge 74, 3), (20, .iload_n 3, 1), (21, .iconst 1, 1), (22, .iadd, 1), (23, .istore 4, 2), (25, .iload 4, 2), (27, .aload_n 0, 1), (28, .getfield 45, 3), (31, .if_icmp .ge 54, 3), (34, .aload_n 0, 1), (35, .aload_n 1, 1), (36, .iload_n 2, 1), (37, .iload_n 3, 1), (38, .iload 4, 2), (40, .invokevirtual 118, 3), (43, .istore 5, 2), (45, .iload 5, 2), (47, .iconst (-1), 1), (48, .if_icmp .eq 31, 3), (51, .aload_n 0, 1), (52, .iconst 3, 1), (53, .iconst 4, 1), (54, .aload_n 0, 1), (55, .getfield 36, 3), (58, .iload_n 2, 1), (59, .iaload, 1), (60, .aload_n 0, 1), (61, .getfield 39, 3), (64, .iload_n 3, 1), (65, .iaload, 1), (66, .aload_n 0, 1), (67, .getfield 39, 3), (70, .iload 4, 2), (72, .iaload, 1), (73, .iload 5, 2), (75, .invokevirtual 110, 3), (78, .ireturn, 1), (79, .iinc 4 1, 3), (82, .goto (-57), 3), (85, .iinc 3 1, 3), (88, .goto (-76), 3), (91, .iinc 2 1, 3), (94, .goto (-92), 3), (97, .iconst 0, 1), (98, .ireturn, 1)]
theorem yz_X4_findYesWithin_ok : ∀ q ∈ yz_X4_findYesWithin, decode cX4_findYesWithin q.1 = .ok q.2 := by decide +kernel
theorem yd_yX4_findYesWithin : yX4_findYesWithin.cls = RX4 ∧ yX4_findYesWithin.cls ≠ "java/lang/invoke/MethodHandle" ∧ yX4_findYesWithin.cls ≠ "java/lang/invoke/VarHandle" ∧ (parseMethodDescriptor yX4_findYesWithin.desc).map (fun d => d.parameters.length) = some 1 := by decide +kernel
def yz_X4_firstNoWithin : List (Nat × (Instr × Nat)) := [(0, .aload_n 1, 1), (1, .iload_n 2, 1), (2, .iload_n 3, 1), (3, .iload 4, 2), (5, .invokevirtual 122, 3), (8, .istore 5, 2), (10, .iload 5, 2), (12, .ifCond .ne 5, 3), (15, .iconst (-1), 1), (16, .ireturn, 1), (17, .iconst 0, 1), (18, .istore 6, 2), (20, .iload 6, 2), (22, .aload_n 0, 1), (23, .getfield 45, 3), (26, .if_icmp .ge 82, 3), (29, .iload 5, 2), (31, .aload_n 1, 1), (32, .iload_n 2, 1), (33, .iload_n 3, 1), (34, .aload_n 0, 1), (35, .getfield 39, 3), (38, .iload 6, 2), (40, .iaload, 1), (41, .invokevirtual 122, 3), (44, .invokestatic 126, 3), (47, .ifCond .eq 55, 3), (50, .iload 5, 2), (52, .aload_n 1, 1), (53, .iload_n 3, 1), (54, .iload 4, 2), (56, .aload_n 0, 1), (57, .getfield 39, 3), (60, .iload 6, 2), (62, .iaload, 1), (63, .invokevirtual 122, 3), (66, .invokestatic 126, 3), (69, .ifCond .eq 33, 3), (72, .iload 5, 2), (74, .aload_n 1, 1), (75, .iload 4, 2), (77, .iload_n 2, 1), (78, .aload_n 0, 1), (79, .getfield 39, 3), (82, .iload 6, 2), (84, .iaload, 1), (85, .invokevirtual 122, 3), (88, .invokestatic 126, 3), (91, .ifCond .eq 11, 3), (94, .aload_n 0, 1), (95, .getfield 39, 3), (98, .iload 6, 2), (100, .iaload, 1), (101, .ireturn, 1), (102, .iinc 6 1, 3), (105, .goto (-85), 3), (108, .iconst (-1), 1), (109, .ireturn, 1)]
theorem yz_X4_firstNoWithin_ok : ∀ q ∈ yz_X4_firstNoWithin, decode cX4_firstNoWithin q.1 = .ok q.2 := by decide +kernel
theorem yd_yX4_firstNoWithin : yX4_firstNoWithin.cls = RX4 ∧ yX4_firstNoWithin.cls ≠ "java/lang/invoke/MethodHandle" ∧ yX4_firstNoWithin.cls ≠ "java/lang/invoke/VarHandle" ∧ (parseMethodDescriptor yX4_firstNoWithin.desc).map (fun d => d.parameters.length) = some 4 := by decide +kernel
def yz_X4_gather : List (Nat × (Instr × Nat)) := [(0, .aload_n 0, 1), (1, .iconst 0, 1), (2, .putfield 42, 3), (5, .aload_n 0, 1), (6, .iconst 0, 1), (7, .putfield 45, 3), (10, .iconst 0, 1), (11, .istore_n 2, 1), (12, .iload_n 2, 1), (13, .aload_n 1, 1), (14, .getfield 102, 3), (17, .if_icmp .ge 62, 3), (20, .aload_n 1, 1), (21, .getfield 103, 3), (24, .iload_n 2, 1), (25, .iaload, 1), (26, .iconst 1, 1), (27, .if_icmp .ne 26, 3), (30, .aload_n 0, 1), (31, .getfield 36, 3), (34, .aload_n 0, 1), (35, .getfield 42, 3), (38, .iload_n 2, 1), (39, .iastore, 1), (40, .aload_n 0, 1), (41, .dup, 1), (42, .getfield 42, 3), (45, .iconst 1, 1), (46, .iadd, 1), (47, .putfield 42, 3), (50, .goto 23, 3), (53, .aload_n 0, 1), (54, .getfield 39, 3), (57, .aload_n 0, 1), (58, .getfield 45, 3), (61, .iload_n 2, 1), (62, .iastore, 1), (63, .aload_n 0, 1), (64, .dup, 1), (65, .getfield 45, 3), (68, .iconst 1, 1), (69, .iadd, 1), (70, .putfield 45, 3), (73, .iinc 2 1, 3), (76, .goto (-64), 3), (79, .return_, 1)]
theorem yz_X4_gather_ok : ∀ q ∈ yz_X4_gather, decode cX4_gather q.1 = .ok q.2 := by decide +kernel
theorem yd_yX4_gather : yX4_gather.cls = RX4 ∧ yX4_gather.cls ≠ "java/lang/invoke/MethodHandle" ∧ yX4_gather.cls ≠ "java/lang/invoke/VarHandle" ∧ (parseMethodDescriptor yX4_gather.desc).map (fun d => d.parameters.length) = some 1 := by decide +kernel
def yz_X4_hold : List (Nat × (Instr × Nat)) := [(0, .aload_n 0, 1), (1, .iload_n 1, 1), (2, .putfield 21, 3), (5, .aload_n 0, 1), (6, .iload_n 2, 1), (7, .putfield 25, 3), (10, .aload_n 0, 1), (11, .getfield 28, 3), (14, .iconst 0, 1), (15, .iload_n 3, 1), (16, .iastore, 1), (17, .aload_n 0, 1), (18, .getfield 28, 3), (21, .iconst 1, 1), (22, .iload 4, 2), (24, .iastore, 1), (25, .aload_n 0, 1), (26, .getfield 28, 3), (29, .iconst 2, 1), (30, .iload 5, 2), (32, .iastore, 1), (33, .aload_n 0, 1), (34, .getfield 28, 3), (37, .iconst 3, 1), (38, .iload 6, 2), (40, .iastore, 1), (41, .iconst 1, 1), (42, .ireturn, 1)]
theorem yz_X4_hold_ok : ∀ q ∈ yz_X4_hold, decode cX4_hold q.1 = .ok q.2 := by decide +kernel
theorem yd_yX4_hold : yX4_hold.cls = RX4 ∧ yX4_hold.cls ≠ "java/lang/invoke/MethodHandle" ∧ yX4_hold.cls ≠ "java/lang/invoke/VarHandle" ∧ (parseMethodDescriptor yX4_hold.desc).map (fun d => d.parameters.length) = some 6 := by decide +kernel
def yz_X4_isBetween : List (Nat × (Instr × Nat)) := [(0, .aload_n 0, 1), (1, .iload_n 2, 1), (2, .iload_n 3, 1), (3, .iload_n 1, 1), (4, .invokevirtual 122, 3), (7, .ifCond .ne 27, 3), (10, .aload_n 0, 1), (11, .iload_n 2, 1), (12, .iload_n 3, 1), (13, .iload_n 1, 1), (14, .invokevirtual 135, 3), (17, .ifCond .le 17, 3), (20, .aload_n 0, 1), (21, .iload_n 3, 1), (22, .iload_n 2, 1), (23, .iload_n 1, 1), (24, .invokevirtual 135, 3), (27, .ifCond .le 7, 3), (30, .iconst 1, 1), (31, .goto 4, 3), (34, .iconst 0, 1), (35, .ireturn, 1)]
theorem yz_X4_isBetween_ok : ∀ q ∈ yz_X4_isBetween, decode cX4_isBetween q.1 = .ok q.2 := by decide +kernel
theorem yd_yX4_isBetween : yX4_isBetween.cls ≠ "java/lang/invoke/MethodHandle" ∧ yX4_isBetween.cls ≠ "java/lang/invoke/VarHandle" ∧ (parseMethodDescriptor yX4_isBetween.desc).map (fun d => d.parameters.length) = some 4 := by decide +kernel
def yz_X4_isSameSide : List (Nat × (Instr × Nat)) := [(0, .iload_n 0, 1), (1, .ifCond .le 7, 3), (4, .iload_n 1, 1), (5, .ifCond .gt 11, 3), (8, .iload_n 0, 1), (9, .ifCond .ge 11, 3), (12, .iload_n 1, 1), (13, .ifCond .ge 7, 3), (16, .iconst 1, 1), (17, .goto 4, 3), (20, .iconst 0, 1), (21, .ireturn, 1)]
theorem yz_X4_isSameSide_ok : ∀ q ∈ yz_X4_isSameSide, decode cX4_isSameSide q.1 = .ok q.2 := by decide +kernel
theorem yd_yX4_isSameSide : yX4_isSameSide.cls ≠ "java/lang/invoke/MethodHandle" ∧ yX4_isSameSide.cls ≠ "java/lang/invoke/VarHandle" ∧ (parseMethodDescriptor yX4_isSameSide.desc).map (fun d => d.parameters.length) = some 2 := by decide +kernel
def yz_X4_otherEndAcross : List (Nat × (Instr × Nat)) := [(0, .aload_n 1, 1), (1, .iload_n 2, 1), (2, .iload_n 3, 1), (3, .aload_n 0, 1), (4, .getfield 39, 3), (7, .iload 4, 2), (9, .iaload, 1), (10, .invokevirtual 122, 3), (13, .istore 5, 2), (15, .iload 5, 2), (17, .ifCond .ne 5, 3), (20, .iconst (-1), 1), (21, .ireturn, 1), (22, .iload 4, 2), (24, .iconst 1, 1), (25, .iadd, 1), (26, .istore 6, 2), (28, .iload 6, 2), (30, .aload_n 0, 1), (31, .getfield 45, 3), (34, .if_icmp .ge 84, 3), (37, .iload 5, 2), (39, .aload_n 1, 1), (40, .iload_n 2, 1), (41, .iload_n 3, 1), (42, .aload_n 0, 1), (43, .getfield 39, 3), (46, .iload 6, 2), (48, .iaload, 1), (49, .invokevirtual 122, 3), (52, .ineg, 1), (53, .invokestatic 126, 3), (56, .ifCond .eq 56, 3), (59, .aload_n 1, 1), (60, .aload_n 0, 1), (61, .getfield 39, 3), (64, .iload 4, 2), (66, .iaload, 1), (67, .aload_n 0, 1), (68, .getfield 39, 3), (71, .iload 6, 2), (73, .iaload, 1), (74, .iload_n 2, 1), (75, .invokevirtual 122, 3), (78, .aload_n 1, 1), (79, .aload_n 0, 1), (80, .getfield 39, 3), (83, .iload 4, 2), (85, .iaload, 1), (86, .aload_n 0, 1), (87, .getfield 39, 3), (90, .iload 6, 2), (92, .iaload, 1), (93, .iload_n 3, 1), (94, .invokevirtual 122, 3), (97, .ineg, 1), (98, .invokestatic 126, 3), (101, .ifCond .eq 11, 3), (104, .aload_n 0, 1), (105, .getfield 39, 3), (108, .iload 6, 2), (110, .iaload, 1), (111, .ireturn, 1), (112, .iinc 6 1, 3), (115, .goto (-87), 3), (118, .iconst (-1), 1), (119, .ireturn, 1)]
theorem yz_X4_otherEndAcross_ok : ∀ q ∈ yz_X4_otherEndAcross, decode cX4_otherEndAcross q.1 = .ok q.2 := by decide +kernel
theorem yd_yX4_otherEndAcross : yX4_otherEndAcross.cls = RX4 ∧ yX4_otherEndAcross.cls ≠ "java/lang/invoke/MethodHandle" ∧ yX4_otherEndAcross.cls ≠ "java/lang/invoke/VarHandle" ∧ (parseMethodDescriptor yX4_otherEndAcross.desc).map (fun d => d.parameters.length) = some 4 := by decide +kernel
def yz_X4_shareAlone : List (Nat × (Instr × Nat)) := [(0, .aload_n 0, 1), (1, .getfield 32, 3), (4, .iload_n 2, 1), (5, .aaload, 1), (6, .lconst 1, 1), (7, .lconst 1, 1), (8, .invokevirtual 138, 3), (11, .aload_n 0, 1), (12, .getfield 12, 3), (15, .aload_n 1, 1), (16, .getfield 142, 3), (19, .aload_n 0, 1), (20, .getfield 28, 3), (23, .iload_n 2, 1), (24, .iaload, 1), (25, .iaload, 1), (26, .i2l, 1), (27, .lconst 1, 1), (28, .invokevirtual 138, 3), (31, .aload_n 0, 1), (32, .getfield 18, 3), (35, .aload_n 1, 1), (36, .getfield 145, 3), (39, .aload_n 0, 1), (40, .getfield 28, 3), (43, .iload_n 2, 1), (44, .iaload, 1), (45, .iaload, 1), (46, .i2l, 1), (47, .lconst 1, 1), (48, .invokevirtual 138, 3), (51, .return_, 1)]
theorem yz_X4_shareAlone_ok : ∀ q ∈ yz_X4_shareAlone, decode cX4_shareAlone q.1 = .ok q.2 := by decide +kernel
theorem yd_yX4_shareAlone : yX4_shareAlone.cls = RX4 ∧ yX4_shareAlone.cls ≠ "java/lang/invoke/MethodHandle" ∧ yX4_shareAlone.cls ≠ "java/lang/invoke/VarHandle" ∧ (parseMethodDescriptor yX4_shareAlone.desc).map (fun d => d.parameters.length) = some 2 := by decide +kernel
def yz_X4_shareBetween : List (Nat × (Instr × Nat)) := [(0, .aload_n 0, 1), (1, .getfield 28, 3), (4, .iload_n 2, 1), (5, .iaload, 1), (6, .istore 4, 2), (8, .aload_n 0, 1), (9, .getfield 28, 3), (12, .iload_n 3, 1), (13, .iaload, 1), (14, .istore 5, 2), (16, .aload_n 0, 1), (17, .getfield 28, 3), (20, .iload_n 3, 1), (21, .iconst 1, 1), (22, .iadd, 1), (23, .iaload, 1), (24, .istore 6, 2), (26, .aload_n 1, 1), (27, .iload 5, 2), (29, .iload 6, 2), (31, .iload 6, 2), (33, .invokevirtual 135, 3), (36, .istore 7, 2), (38, .aload_n 0, 1), (39, .getfield 32, 3), (42, .iload_n 3, 1), (43, .aaload, 1), (44, .aload_n 1, 1), (45, .iload 6, 2), (47, .iload 5, 2), (49, .iload 4, 2), (51, .invokevirtual 135, 3), (54, .i2l, 1), (55, .iload 7, 2), (57, .i2l, 1), (58, .invokevirtual 138, 3), (61, .aload_n 0, 1), (62, .getfield 32, 3), (65, .iload_n 3, 1), (66, .iconst 1, 1), (67, .iadd, 1), (68, .aaload, 1), (69, .aload_n 1, 1), (70, .iload 5, 2), (72, .iload 6, 2), (74, .iload 4, 2), (76, .invokevirtual 135, 3), (79, .i2l, 1), (80, .iload 7, 2), (82, .i2l, 1), (83, .invokevirtual 138, 3), (86, .return_, 1)]
theorem yz_X4_shareBetween_ok : ∀ q ∈ yz_X4_shareBetween, decode cX4_shareBetween q.1 = .ok q.2 := by decide +kernel
theorem yd_yX4_shareBetween : yX4_shareBetween.cls = RX4 ∧ yX4_shareBetween.cls ≠ "java/lang/invoke/MethodHandle" ∧ yX4_shareBetween.cls ≠ "java/lang/invoke/VarHandle" ∧ (parseMethodDescriptor yX4_shareBetween.desc).map (fun d => d.parameters.length) = some 3 := by decide +kernel
def yz_X4_shareCrossing : List (Nat × (Instr × Nat)) := [(0, .aload_n 0, 1), (1, .aload_n 1, 1), (2, .iconst 0, 1), (3, .iconst 2, 1), (4, .invokevirtual 148, 3), (7, .aload_n 0, 1), (8, .aload_n 1, 1), (9, .iconst 2, 1), (10, .iconst 0, 1), (11, .invokevirtual 148, 3), (14, .aload_n 0, 1), (15, .getfield 28, 3), (18, .iconst 0, 1), (19, .iaload, 1), (20, .istore_n 2, 1), (21, .aload_n 0, 1), (22, .getfield 28, 3), (25, .iconst 1, 1), (26, .iaload, 1), (27, .istore_n 3, 1), (28, .aload_n 1, 1), (29, .aload_n 0, 1), (30, .getfield 28, 3), (33, .iconst 2, 1), (34, .iaload, 1), (35, .aload_n 0, 1), (36, .getfield 28, 3), (39, .iconst 3, 1), (40, .iaload, 1), (41, .iload_n 2, 1), (42, .invokevirtual 122, 3), (45, .invokestatic 151, 3), (48, .i2l, 1), (49, .lstore 4, 2), (51, .aload_n 1, 1), (52, .aload_n 0, 1), (53, .getfield 28, 3), (56, .iconst 2, 1), (57, .iaload, 1), (58, .aload_n 0, 1), (59, .getfield 28, 3), (62, .iconst 3, 1), (63, .iaload, 1), (64, .iload_n 3, 1), (65, .invokevirtual 122, 3), (68, .invokestatic 151, 3), (71, .i2l, 1), (72, .lstore 6, 2), (74, .aload_n 0, 1), (75, .getfield 12, 3), (78, .aload_n 1, 1), (79, .getfield 142, 3), (82, .iload_n 2, 1), (83, .iaload, 1), (84, .i2l, 1), (85, .lload 6, 2), (87, .lmul, 1), (88, .aload_n 1, 1), (89, .getfield 142, 3), (92, .iload_n 3, 1), (93, .iaload, 1), (94, .i2l, 1), (95, .lload 4, 2), (97, .lmul, 1), (98, .ladd, 1), (99, .lload 4, 2), (101, .lload 6, 2), (103, .ladd, 1), (104, .invokevirtual 138, 3), (107, .aload_n 0, 1), (108, .getfield 18, 3), (111, .aload_n 1, 1), (112, .getfield 145, 3), (115, .iload_n 2, 1), (116, .iaload, 1), (117, .i2l, 1), (118, .lload 6, 2), (120, .lmul, 1), (121, .aload_n 1, 1), (122, .getfield 145, 3), (125, .iload_n 3, 1), (126, .iaload, 1), (127, .i2l, 1), (128, .lload 4, 2), (130, .lmul, 1), (131, .ladd, 1), (132, .lload 4, 2), (134, .lload 6, 2), (136, .ladd, 1), (137, .invokevirtual 138, 3), (140, .return_, 1)]
theorem yz_X4_shareCrossing_ok : ∀ q ∈ yz_X4_shareCrossing, decode cX4_shareCrossing q.1 = .ok q.2 := by decide +kernel
theorem yd_yX4_shareCrossing : yX4_shareCrossing.cls = RX4 ∧ yX4_shareCrossing.cls ≠ "java/lang/invoke/MethodHandle" ∧ yX4_shareCrossing.cls ≠ "java/lang/invoke/VarHandle" ∧ (parseMethodDescriptor yX4_shareCrossing.desc).map (fun d => d.parameters.length) = some 1 := by decide +kernel
def yz_X4_shareEnds : List (Nat × (Instr × Nat)) := [(0, .aload_n 1, 1), (1, .aload_n 0, 1), (2, .getfield 28, 3), (5, .iload_n 3, 1), (6, .iaload, 1), (7, .aload_n 0, 1), (8, .getfield 28, 3), (11, .iload_n 3, 1), (12, .iconst 1, 1), (13, .iadd, 1), (14, .iaload, 1), (15, .aload_n 0, 1), (16, .getfield 28, 3), (19, .iload_n 2, 1), (20, .iaload, 1), (21, .invokevirtual 122, 3), (24, .invokestatic 151, 3), (27, .i2l, 1), (28, .lstore 4, 2), (30, .aload_n 1, 1), (31, .aload_n 0, 1), (32, .getfield 28, 3), (35, .iload_n 3, 1), (36, .iaload, 1), (37, .aload_n 0, 1), (38, .getfield 28, 3), (41, .iload_n 3, 1), (42, .iconst 1, 1), (43, .iadd, 1), (44, .iaload, 1), (45, .aload_n 0, 1), (46, .getfield 28, 3), (49, .iload_n 2, 1), (50, .iconst 1, 1), (51, .iadd, 1), (52, .iaload, 1), (53, .invokevirtual 122, 3), (56, .invokestatic 151, 3), (59, .i2l, 1), (60, .lstore 6, 2), (62, .aload_n 0, 1), (63, .getfield 32, 3), (66, .iload_n 2, 1), (67, .aaload, 1), (68, .lload 6, 2), (70, .lload 4, 2), (72, .lload 6, 2), (74, .ladd, 1), (75, .invokevirtual 138, 3), (78, .aload_n 0, 1), (79, .getfield 32, 3), (82, .iload_n 2, 1), (83, .iconst 1, 1), (84, .iadd, 1), (85, .aaload, 1), (86, .lload 4, 2), (88, .lload 4, 2), (90, .lload 6, 2), (92, .ladd, 1), (93, .invokevirtual 138, 3), (96, .return_, 1)]
theorem yz_X4_shareEnds_ok : ∀ q ∈ yz_X4_shareEnds, decode cX4_shareEnds q.1 = .ok q.2 := by decide +kernel
theorem yd_yX4_shareEnds : yX4_shareEnds.cls = RX4 ∧ yX4_shareEnds.cls ≠ "java/lang/invoke/MethodHandle" ∧ yX4_shareEnds.cls ≠ "java/lang/invoke/VarHandle" ∧ (parseMethodDescriptor yX4_shareEnds.desc).map (fun d => d.parameters.length) = some 3 := by decide +kernel
def yz_X4_shareWithin : List (Nat × (Instr × Nat)) := [(0, .aload_n 0, 1), (1, .getfield 28, 3), (4, .iload_n 2, 1), (5, .iaload, 1), (6, .istore 4, 2), (8, .aload_n 0, 1), (9, .getfield 28, 3), (12, .iload_n 3, 1), (13, .iaload, 1), (14, .istore 5, 2), (16, .aload_n 0, 1), (17, .getfield 28, 3), (20, .iload_n 3, 1), (21, .iconst 1, 1), (22, .iadd, 1), (23, .iaload, 1), (24, .istore 6, 2), (26, .aload_n 0, 1), (27, .getfield 28, 3), (30, .iload_n 3, 1), (31, .iconst 2, 1), (32, .iadd, 1), (33, .iaload, 1), (34, .istore 7, 2), (36, .aload_n 1, 1), (37, .iload 5, 2), (39, .iload 6, 2), (41, .iload 7, 2), (43, .invokevirtual 122, 3), (46, .istore 8, 2), (48, .aload_n 0, 1), (49, .getfield 32, 3), (52, .iload_n 3, 1), (53, .aaload, 1), (54, .aload_n 1, 1), (55, .iload 4, 2), (57, .iload 6, 2), (59, .iload 7, 2), (61, .invokevirtual 122, 3), (64, .i2l, 1), (65, .iload 8, 2), (67, .i2l, 1), (68, .invokevirtual 138, 3), (71, .aload_n 0, 1), (72, .getfield 32, 3), (75, .iload_n 3, 1), (76, .iconst 1, 1), (77, .iadd, 1), (78, .aaload, 1), (79, .aload_n 1, 1), (80, .iload 5, 2), (82, .iload 4, 2), (84, .iload 7, 2), (86, .invokevirtual 122, 3), (89, .i2l, 1), (90, .iload 8, 2), (92, .i2l, 1), (93, .invokevirtual 138, 3), (96, .aload_n 0, 1), (97, .getfield 32, 3), (100, .iload_n 3, 1), (101, .iconst 2, 1), (102, .iadd, 1), (103, .aaload, 1), (104, .aload_n 1, 1), (105, .iload 5, 2), (107, .iload 6, 2), (109, .iload 4, 2), (111, .invokevirtual 122, 3), (114, .i2l, 1), (115, .iload 8, 2), (117, .i2l, 1), (118, .invokevirtual 138, 3), (121, .return_, 1)]
theorem yz_X4_shareWithin_ok : ∀ q ∈ yz_X4_shareWithin, decode cX4_shareWithin q.1 = .ok q.2 := by decide +kernel
theorem yd_yX4_shareWithin : yX4_shareWithin.cls = RX4 ∧ yX4_shareWithin.cls ≠ "java/lang/invoke/MethodHandle" ∧ yX4_shareWithin.cls ≠ "java/lang/invoke/VarHandle" ∧ (parseMethodDescriptor yX4_shareWithin.desc).map (fun d => d.parameters.length) = some 3 := by decide +kernel
def yz_X4_tellPoint : List (Nat × (Instr × Nat)) := [(0, .iload_n 2, 1), (1, .ifCond .lt 11, 3), (4, .iload_n 2, 1), (5, .aload_n 0, 1), (6, .getfield 25, 3), (9, .if_icmp .lt 7, 3), (12, .ldc2_w 51, 3), (15, .lreturn, 1), (16, .iload_n 1, 1), (17, .tableswitch 55 1 3 #[27, 35, 45], 27), (44, .aload_n 0, 1), (45, .getfield 28, 3), (48, .iload_n 2, 1), (49, .iaload, 1), (50, .i2l, 1), (51, .lreturn, 1), (52, .aload_n 0, 1), (53, .getfield 32, 3), (56, .iload_n 2, 1), (57, .aaload, 1), (58, .getfield 53, 3), (61, .lreturn, 1), (62, .aload_n 0, 1), (63, .getfield 32, 3), (66, .iload_n 2, 1), (67, .aaload, 1), (68, .getfield 57, 3), (71, .lreturn, 1), (72, .ldc2_w 51, 3), (75, .lreturn, 1)]
theorem yz_X4_tellPoint_ok : ∀ q ∈ yz_X4_tellPoint, decode cX4_tellPoint q.1 = .ok q.2 := by decide +kernel
theorem yd_yX4_tellPoint : yX4_tellPoint.cls = RX4 ∧ yX4_tellPoint.cls ≠ "java/lang/invoke/MethodHandle" ∧ yX4_tellPoint.cls ≠ "java/lang/invoke/VarHandle" ∧ (parseMethodDescriptor yX4_tellPoint.desc).map (fun d => d.parameters.length) = some 2 := by decide +kernel
def yz_X4_thirdAround : List (Nat × (Instr × Nat)) := [(0, .aload_n 1, 1), (1, .aload_n 0, 1), (2, .getfield 39, 3), (5, .iload_n 3, 1), (6, .iaload, 1), (7, .aload_n 0, 1), (8, .getfield 39, 3), (11, .iload 4, 2), (13, .iaload, 1), (14, .aload_n 0, 1), (15, .getfield 36, 3), (18, .iload_n 2, 1), (19, .iaload, 1), (20, .invokevirtual 122, 3), (23, .istore 5, 2), (25, .iload 5, 2), (27, .ifCond .ne 5, 3), (30, .iconst (-1), 1), (31, .ireturn, 1), (32, .iload 4, 2), (34, .iconst 1, 1), (35, .iadd, 1), (36, .istore 6, 2), (38, .iload 6, 2), (40, .aload_n 0, 1), (41, .getfield 45, 3), (44, .if_icmp .ge 80, 3), (47, .iload 5, 2), (49, .aload_n 1, 1), (50, .aload_n 0, 1), (51, .getfield 39, 3), (54, .iload 4, 2), (56, .iaload, 1), (57, .aload_n 0, 1), (58, .getfield 39, 3), (61, .iload 6, 2), (63, .iaload, 1), (64, .aload_n 0, 1), (65, .getfield 36, 3), (68, .iload_n 2, 1), (69, .iaload, 1), (70, .invokevirtual 122, 3), (73, .invokestatic 126, 3), (76, .ifCond .eq 42, 3), (79, .iload 5, 2), (81, .aload_n 1, 1), (82, .aload_n 0, 1), (83, .getfield 39, 3), (86, .iload 6, 2), (88, .iaload, 1), (89, .aload_n 0, 1), (90, .getfield 39, 3), (93, .iload_n 3, 1), (94, .iaload, 1), (95, .aload_n 0, 1), (96, .getfield 36, 3), (99, .iload_n 2, 1), (100, .iaload, 1), (101, .invokevirtual 122, 3), (104, .invokestatic 126, 3), (107, .ifCond .eq 11, 3), (110, .aload_n 0, 1), (111, .getfield 39, 3), (114, .iload 6, 2), (116, .iaload, 1), (117, .ireturn, 1), (118, .iinc 6 1, 3), (121, .goto (-83), 3), (124, .iconst (-1), 1), (125, .ireturn, 1)]
theorem yz_X4_thirdAround_ok : ∀ q ∈ yz_X4_thirdAround, decode cX4_thirdAround q.1 = .ok q.2 := by decide +kernel
theorem yd_yX4_thirdAround : yX4_thirdAround.cls = RX4 ∧ yX4_thirdAround.cls ≠ "java/lang/invoke/MethodHandle" ∧ yX4_thirdAround.cls ≠ "java/lang/invoke/VarHandle" ∧ (parseMethodDescriptor yX4_thirdAround.desc).map (fun d => d.parameters.length) = some 4 := by decide +kernel
def yz_X5_find : List (Nat × (Instr × Nat)) := [(0, .aload_n 0, 1), (1, .iconst 1, 1), (2, .iload_n 2, 1), (3, .ishl, 1), (4, .iconst 1, 1), (5, .isub, 1), (6, .putfield 22, 3), (9, .aload_n 0, 1), (10, .getfield 18, 3), (13, .lconst 0, 1), (14, .invokestatic 25, 3), (17, .aload_n 0, 1), (18, .iconst 0, 1), (19, .invokevirtual 31, 3), (22, .iconst 0, 1), (23, .istore_n 3, 1), (24, .iload_n 3, 1), (25, .iload_n 2, 1), (26, .if_icmp .ge 43, 3), (29, .iconst 0, 1), (30, .istore 4, 2), (32, .iload 4, 2), (34, .iload_n 2, 1), (35, .if_icmp .ge 28, 3), (38, .aload_n 1, 1), (39, .iload_n 3, 1), (40, .iload 4, 2), (42, .invokevirtual 35, 3), (45, .ifCond .ne 12, 3), (48, .aload_n 0, 1), (49, .aload_n 1, 1), (50, .iload_n 2, 1), (51, .iload_n 3, 1), (52, .iload 4, 2), (54, .invokevirtual 41, 3), (57, .iinc 4 1, 3), (60, .goto (-28), 3), (63, .iinc 3 1, 3), (66, .goto (-42), 3), (69, .return_, 1)]
theorem yz_X5_find_ok : ∀ q ∈ yz_X5_find, decode cX5_find q.1 = .ok q.2 := by decide +kernel
theorem yd_yX5_find : yX5_find.cls = RX5 ∧ yX5_find.cls ≠ "java/lang/invoke/MethodHandle" ∧ yX5_find.cls ≠ "java/lang/invoke/VarHandle" ∧ (parseMethodDescriptor yX5_find.desc).map (fun d => d.parameters.length) = some 2 := by decide +kernel
def yz_X5_findLeastWrong : List (Nat × (Instr × Nat)) := [(0, .aload_n 0, 1), (1, .sipush 12001, 3), (4, .putfield 9, 3), (7, .iconst 0, 1), (8, .istore_n 3, 1), (9, .iload_n 3, 1), (10, .aload_n 0, 1), (11, .getfield 22, 3), (14, .if_icmp .gt 45, 3), (17, .aload_n 0, 1), (18, .iload_n 3, 1), (19, .invokevirtual 61, 3), (22, .ifCond .eq 31, 3), (25, .aload_n 1, 1), (26, .iload_n 2, 1), (27, .iload_n 3, 1), (28, .invokestatic 65, 3), (31, .istore 4, 2), (33, .iload 4, 2), (35, .aload_n 0, 1), (36, .getfield 9, 3), (39, .if_icmp .ge 14, 3), (42, .aload_n 0, 1), (43, .iload 4, 2), (45, .putfield 9, 3), (48, .aload_n 0, 1), (49, .iload_n 3, 1), (50, .putfield 15, 3), (53, .iinc 3 1, 3), (56, .goto (-47), 3), (59, .return_, 1)]
theorem yz_X5_findLeastWrong_ok : ∀ q ∈ yz_X5_findLeastWrong, decode cX5_findLeastWrong q.1 = .ok q.2 := by decide +kernel
theorem yd_yX5_findLeastWrong : yX5_findLeastWrong.cls = RX5 ∧ yX5_findLeastWrong.cls ≠ "java/lang/invoke/MethodHandle" ∧ yX5_findLeastWrong.cls ≠ "java/lang/invoke/VarHandle" ∧ (parseMethodDescriptor yX5_findLeastWrong.desc).map (fun d => d.parameters.length) = some 2 := by decide +kernel
def yz_X5_fits : List (Nat × (Instr × Nat)) := [(0, .iload_n 1, 1), (1, .iconst 1, 1), (2, .iload_n 0, 1), (3, .ishl, 1), (4, .iconst 1, 1), (5, .isub, 1), (6, .iconst (-1), 1), (7, .ixor, 1), (8, .iand, 1), (9, .ifCond .ne 7, 3), (12, .iconst 1, 1), (13, .goto 4, 3), (16, .iconst 0, 1), (17, .ireturn, 1)]
theorem yz_X5_fits_ok : ∀ q ∈ yz_X5_fits, decode cX5_fits q.1 = .ok q.2 := by decide +kernel
theorem yd_yX5_fits : yX5_fits.cls ≠ "java/lang/invoke/MethodHandle" ∧ yX5_fits.cls ≠ "java/lang/invoke/VarHandle" ∧ (parseMethodDescriptor yX5_fits.desc).map (fun d => d.parameters.length) = some 2 := by decide +kernel
def yz_X5_isMarked : List (Nat × (Instr × Nat)) := [(0, .aload_n 0, 1), (1, .getfield 18, 3), (4, .iload_n 1, 1), (5, .bipush 6, 2), (7, .ishr, 1), (8, .bipush 63, 2), (10, .iand, 1), (11, .laload, 1), (12, .iload_n 1, 1), (13, .bipush 63, 2), (15, .iand, 1), (16, .lshr, 1), (17, .lconst 1, 1), (18, .land, 1), (19, .lconst 0, 1), (20, .lcmp, 1), (21, .ifCond .eq 7, 3), (24, .iconst 1, 1), (25, .goto 4, 3), (28, .iconst 0, 1), (29, .ireturn, 1)]
theorem yz_X5_isMarked_ok : ∀ q ∈ yz_X5_isMarked, decode cX5_isMarked q.1 = .ok q.2 := by decide +kernel
theorem yd_yX5_isMarked : yX5_isMarked.cls = RX5 ∧ yX5_isMarked.cls ≠ "java/lang/invoke/MethodHandle" ∧ yX5_isMarked.cls ≠ "java/lang/invoke/VarHandle" ∧ (parseMethodDescriptor yX5_isMarked.desc).map (fun d => d.parameters.length) = some 1 := by decide +kernel
def yz_X5_isShattered : List (Nat × (Instr × Nat)) := [(0, .iload_n 1, 1), (1, .invokestatic 76, 3), (4, .istore_n 2, 1), (5, .iload_n 2, 1), (6, .iconst 3, 1), (7, .if_icmp .le 5, 3), (10, .iconst 0, 1), (11, .ireturn, 1), (12, .aload_n 0, 1), (13, .iload_n 1, 1), (14, .iconst 0, 1), (15, .invokestatic 81, 3), (18, .istore_n 3, 1), (19, .aload_n 0, 1), (20, .iload_n 1, 1), (21, .iload_n 3, 1), (22, .iconst 1, 1), (23, .iadd, 1), (24, .invokestatic 81, 3), (27, .istore 4, 2), (29, .aload_n 0, 1), (30, .iload_n 1, 1), (31, .iload 4, 2), (33, .iconst 1, 1), (34, .iadd, 1), (35, .invokestatic 81, 3), (38, .istore 5, 2), (40, .iload_n 2, 1), (41, .iconst 3, 1), (42, .if_icmp .ne 21, 3), (45, .aload_n 0, 1), (46, .iload_n 3, 1), (47, .iload 4, 2), (49, .iload 5, 2), (51, .invokevirtual 45, 3), (54, .ifCond .eq 7, 3), (57, .iconst 1, 1), (58, .goto 4, 3), (61, .iconst 0, 1), (62, .ireturn, 1), (63, .iload_n 2, 1), (64, .iconst 2, 1), (65, .if_icmp .lt 13, 3), (68, .aload_n 0, 1), (69, .iload_n 3, 1), (70, .iload 4, 2), (72, .invokevirtual 35, 3), (75, .ifCond .ne 7, 3), (78, .iconst 1, 1), (79, .goto 4, 3), (82, .iconst 0, 1), (83, .ireturn, 1)]
theorem yz_X5_isShattered_ok : ∀ q ∈ yz_X5_isShattered, decode cX5_isShattered q.1 = .ok q.2 := by decide +kernel
theorem yd_yX5_isShattered : yX5_isShattered.cls ≠ "java/lang/invoke/MethodHandle" ∧ yX5_isShattered.cls ≠ "java/lang/invoke/VarHandle" ∧ (parseMethodDescriptor yX5_isShattered.desc).map (fun d => d.parameters.length) = some 2 := by decide +kernel
def yz_X5_mark : List (Nat × (Instr × Nat)) := [(0, .aload_n 0, 1), (1, .getfield 18, 3), (4, .iload_n 1, 1), (5, .bipush 6, 2), (7, .ishr, 1), (8, .bipush 63, 2), (10, .iand, 1), (11, .dup2, 1), (12, .laload, 1), (13, .lconst 1, 1), (14, .iload_n 1, 1), (15, .bipush 63, 2), (17, .iand, 1), (18, .lshl, 1), (19, .lor, 1), (20, .lastore, 1), (21, .return_, 1)]
theorem yz_X5_mark_ok : ∀ q ∈ yz_X5_mark, decode cX5_mark q.1 = .ok q.2 := by decide +kernel
theorem yd_yX5_mark : yX5_mark.cls = RX5 ∧ yX5_mark.cls ≠ "java/lang/invoke/MethodHandle" ∧ yX5_mark.cls ≠ "java/lang/invoke/VarHandle" ∧ (parseMethodDescriptor yX5_mark.desc).map (fun d => d.parameters.length) = some 1 := by decide +kernel
def yz_X5_markAlong : List (Nat × (Instr × Nat)) := [(0, .iconst 0, 1), (1, .istore 5, 2), (3, .iconst 0, 1), (4, .istore 6, 2), (6, .iconst 0, 1), (7, .istore 7, 2), (9, .iconst 0, 1), (10, .istore 8, 2), (12, .iload 8, 2), (14, .iload_n 2, 1), (15, .if_icmp .ge 75, 3), (18, .aload_n 1, 1), (19, .iload_n 3, 1), (20, .iload 4, 2), (22, .iload 8, 2), (24, .invokevirtual 45, 3), (27, .istore 9, 2), (29, .iload 9, 2), (31, .ifCond .le 15, 3), (34, .iload 5, 2), (36, .iconst 1, 1), (37, .iload 8, 2), (39, .ishl, 1), (40, .ior, 1), (41, .istore 5, 2), (43, .goto 41, 3), (46, .iload 9, 2), (48, .ifCond .ge 15, 3), (51, .iload 6, 2), (53, .iconst 1, 1), (54, .iload 8, 2), (56, .ishl, 1), (57, .ior, 1), (58, .istore 6, 2), (60, .goto 24, 3), (63, .aload_n 1, 1), (64, .iload_n 3, 1), (65, .iload 4, 2), (67, .iload 8, 2), (69, .invokevirtual 49, 3), (72, .ifCond .gt 12, 3), (75, .iload 7, 2), (77, .iconst 1, 1), (78, .iload 8, 2), (80, .ishl, 1), (81, .ior, 1), (82, .istore 7, 2), (84, .iinc 8 1, 3), (87, .goto (-75), 3), (90, .aload_n 0, 1), (91, .iload 5, 2), (93, .iload 7, 2), (95, .ior, 1), (96, .invokevirtual 31, 3), (99, .aload_n 0, 1), (100, .iload 6, 2), (102, .iload 7, 2), (104, .ior, 1), (105, .invokevirtual 31, 3), (108, .return_, 1)]
theorem yz_X5_markAlong_ok : ∀ q ∈ yz_X5_markAlong, decode cX5_markAlong q.1 = .ok q.2 := by decide +kernel
theorem yd_yX5_markAlong : yX5_markAlong.cls = RX5 ∧ yX5_markAlong.cls ≠ "java/lang/invoke/MethodHandle" ∧ yX5_markAlong.cls ≠ "java/lang/invoke/VarHandle" ∧ (parseMethodDescriptor yX5_markAlong.desc).map (fun d => d.parameters.length) = some 4 := by decide +kernel
def yz_X5_markBoth : List (Nat × (Instr × Nat)) := [(0, .aload_n 0, 1), (1, .iload_n 1, 1), (2, .invokevirtual 52, 3), (5, .aload_n 0, 1), (6, .aload_n 0, 1), (7, .getfield 22, 3), (10, .iload_n 1, 1), (11, .iconst (-1), 1), (12, .ixor, 1), (13, .iand, 1), (14, .invokevirtual 52, 3), (17, .return_, 1)]
theorem yz_X5_markBoth_ok : ∀ q ∈ yz_X5_markBoth, decode cX5_markBoth q.1 = .ok q.2 := by decide +kernel
theorem yd_yX5_markBoth : yX5_markBoth.cls = RX5 ∧ yX5_markBoth.cls ≠ "java/lang/invoke/MethodHandle" ∧ yX5_markBoth.cls ≠ "java/lang/invoke/VarHandle" ∧ (parseMethodDescriptor yX5_markBoth.desc).map (fun d => d.parameters.length) = some 1 := by decide +kernel
def yz_X5_nextOf : List (Nat × (Instr × Nat)) := [(0, .iload_n 2, 1), (1, .istore_n 3, 1), (2, .iload_n 3, 1), (3, .aload_n 0, 1), (4, .getfield 84, 3), (7, .if_icmp .ge 25, 3), (10, .iload_n 3, 1), (11, .bipush 12, 2), (13, .if_icmp .ge 19, 3), (16, .iload_n 1, 1), (17, .iload_n 3, 1), (18, .ishr, 1), (19, .iconst 1, 1), (20, .iand, 1), (21, .ifCond .eq 5, 3), (24, .iload_n 3, 1), (25, .ireturn, 1), (26, .iinc 3 1, 3), (29, .goto (-27), 3), (32, .iconst 0, 1), (33, .ireturn, 1)]
theorem yz_X5_nextOf_ok : ∀ q ∈ yz_X5_nextOf, decode cX5_nextOf q.1 = .ok q.2 := by decide +kernel
theorem yd_yX5_nextOf : yX5_nextOf.cls ≠ "java/lang/invoke/MethodHandle" ∧ yX5_nextOf.cls ≠ "java/lang/invoke/VarHandle" ∧ (parseMethodDescriptor yX5_nextOf.desc).map (fun d => d.parameters.length) = some 3 := by decide +kernel
def yz_X5_tally : List (Nat × (Instr × Nat)) := [(0, .iconst 0, 1), (1, .istore_n 1, 1), (2, .iconst 0, 1), (3, .istore_n 2, 1), (4, .iload_n 2, 1), (5, .bipush 64, 2), (7, .if_icmp .ge 21, 3), (10, .iload_n 1, 1), (11, .aload_n 0, 1), (12, .getfield 18, 3), (15, .iload_n 2, 1), (16, .laload, 1), (17, .invokestatic 55, 3), (20, .iadd, 1), (21, .istore_n 1, 1), (22, .iinc 2 1, 3), (25, .goto (-21), 3), (28, .iload_n 1, 1), (29, .ireturn, 1)]
theorem yz_X5_tally_ok : ∀ q ∈ yz_X5_tally, decode cX5_tally q.1 = .ok q.2 := by decide +kernel
theorem yd_yX5_tally : yX5_tally.cls = RX5 ∧ yX5_tally.cls ≠ "java/lang/invoke/MethodHandle" ∧ yX5_tally.cls ≠ "java/lang/invoke/VarHandle" ∧ (parseMethodDescriptor yX5_tally.desc).map (fun d => d.parameters.length) = some 0 := by decide +kernel
def yz_X5_wrongBy : List (Nat × (Instr × Nat)) := [(0, .iconst 0, 1), (1, .istore_n 3, 1), (2, .iconst 0, 1), (3, .istore 4, 2), (5, .iload 4, 2), (7, .iload_n 1, 1), (8, .if_icmp .ge 35, 3), (11, .iload_n 2, 1), (12, .iload 4, 2), (14, .ishr, 1), (15, .iconst 1, 1), (16, .iand, 1), (17, .aload_n 0, 1), (18, .getfield 69, 3), (21, .iload 4, 2), (23, .iaload, 1), (24, .if_icmp .eq 13, 3), (27, .iload_n 3, 1), (28, .aload_n 0, 1), (29, .getfield 73, 3), (32, .iload 4, 2), (34, .iaload, 1), (35, .iadd, 1), (36, .istore_n 3, 1), (37, .iinc 4 1, 3), (40, .goto (-35), 3), (43, .iload_n 3, 1), (44, .ireturn, 1)]
theorem yz_X5_wrongBy_ok : ∀ q ∈ yz_X5_wrongBy, decode cX5_wrongBy q.1 = .ok q.2 := by decide +kernel
theorem yd_yX5_wrongBy : yX5_wrongBy.cls ≠ "java/lang/invoke/MethodHandle" ∧ yX5_wrongBy.cls ≠ "java/lang/invoke/VarHandle" ∧ (parseMethodDescriptor yX5_wrongBy.desc).map (fun d => d.parameters.length) = some 3 := by decide +kernel
def yz_X6_add : List (Nat × (Instr × Nat)) := [(0, .aload_n 0, 1), (1, .getfield 24, 3), (4, .bipush 40, 2), (6, .if_icmp .lt 4, 3), (9, .return_, 1), (10, .aload_n 0, 1), (11, .getfield 9, 3), (14, .aload_n 0, 1), (15, .getfield 24, 3), (18, .iload_n 1, 1), (19, .iastore, 1), (20, .aload_n 0, 1), (21, .getfield 15, 3), (24, .aload_n 0, 1), (25, .getfield 24, 3), (28, .iload_n 2, 1), (29, .iastore, 1), (30, .aload_n 0, 1), (31, .getfield 18, 3), (34, .aload_n 0, 1), (35, .getfield 24, 3), (38, .iload_n 3, 1), (39, .iastore, 1), (40, .aload_n 0, 1), (41, .getfield 21, 3), (44, .aload_n 0, 1), (45, .getfield 24, 3), (48, .iconst 1, 1), (49, .iastore, 1), (50, .aload_n 0, 1), (51, .dup, 1), (52, .getfield 24, 3), (55, .iconst 1, 1), (56, .iadd, 1), (57, .putfield 24, 3), (60, .aload_n 0, 1), (61, .dup, 1), (62, .getfield 28, 3), (65, .iconst 1, 1), (66, .iadd, 1), (67, .putfield 28, 3), (70, .return_, 1)]
theorem yz_X6_add_ok : ∀ q ∈ yz_X6_add, decode cX6_add q.1 = .ok q.2 := by decide +kernel
theorem yd_yX6_add : yX6_add.cls = RX6 ∧ yX6_add.cls ≠ "java/lang/invoke/MethodHandle" ∧ yX6_add.cls ≠ "java/lang/invoke/VarHandle" ∧ (parseMethodDescriptor yX6_add.desc).map (fun d => d.parameters.length) = some 3 := by decide +kernel
def yz_X6_allWeights : List (Nat × (Instr × Nat)) := [(0, .iconst 0, 1), (1, .istore_n 1, 1), (2, .iconst 0, 1), (3, .istore_n 2, 1), (4, .iload_n 2, 1), (5, .aload_n 0, 1), (6, .getfield 24, 3), (9, .if_icmp .ge 18, 3), (12, .iload_n 1, 1), (13, .aload_n 0, 1), (14, .getfield 21, 3), (17, .iload_n 2, 1), (18, .iaload, 1), (19, .iadd, 1), (20, .istore_n 1, 1), (21, .iinc 2 1, 3), (24, .goto (-20), 3), (27, .iload_n 1, 1), (28, .ireturn, 1)]
theorem yz_X6_allWeights_ok : ∀ q ∈ yz_X6_allWeights, decode cX6_allWeights q.1 = .ok q.2 := by decide +kernel
theorem yd_yX6_allWeights : yX6_allWeights.cls = RX6 ∧ yX6_allWeights.cls ≠ "java/lang/invoke/MethodHandle" ∧ yX6_allWeights.cls ≠ "java/lang/invoke/VarHandle" ∧ (parseMethodDescriptor yX6_allWeights.desc).map (fun d => d.parameters.length) = some 0 := by decide +kernel
def yz_X6_become : List (Nat × (Instr × Nat)) := [(0, .aload_n 1, 1), (1, .getfield 9, 3), (4, .iconst 0, 1), (5, .aload_n 0, 1), (6, .getfield 9, 3), (9, .iconst 0, 1), (10, .bipush 40, 2), (12, .invokestatic 39, 3), (15, .aload_n 1, 1), (16, .getfield 15, 3), (19, .iconst 0, 1), (20, .aload_n 0, 1), (21, .getfield 15, 3), (24, .iconst 0, 1), (25, .bipush 40, 2), (27, .invokestatic 39, 3), (30, .aload_n 1, 1), (31, .getfield 18, 3), (34, .iconst 0, 1), (35, .aload_n 0, 1), (36, .getfield 18, 3), (39, .iconst 0, 1), (40, .bipush 40, 2), (42, .invokestatic 39, 3), (45, .aload_n 1, 1), (46, .getfield 21, 3), (49, .iconst 0, 1), (50, .aload_n 0, 1), (51, .getfield 21, 3), (54, .iconst 0, 1), (55, .bipush 40, 2), (57, .invokestatic 39, 3), (60, .aload_n 0, 1), (61, .aload_n 1, 1), (62, .getfield 24, 3), (65, .putfield 24, 3), (68, .aload_n 0, 1), (69, .dup, 1), (70, .getfield 28, 3), (73, .iconst 1, 1), (74, .iadd, 1), (75, .putfield 28, 3), (78, .return_, 1)]
theorem yz_X6_become_ok : ∀ q ∈ yz_X6_become, decode cX6_become q.1 = .ok q.2 := by decide +kernel
theorem yd_yX6_become : yX6_become.cls = RX6 ∧ yX6_become.cls ≠ "java/lang/invoke/MethodHandle" ∧ yX6_become.cls ≠ "java/lang/invoke/VarHandle" ∧ (parseMethodDescriptor yX6_become.desc).map (fun d => d.parameters.length) = some 1 := by decide +kernel
def yz_X6_coloursShareAPlace : List (Nat × (Instr × Nat)) := [(0, .iconst 0, 1), (1, .istore_n 1, 1), (2, .iload_n 1, 1), (3, .aload_n 0, 1), (4, .getfield 24, 3), (7, .if_icmp .ge 53, 3), (10, .iload_n 1, 1), (11, .iconst 1, 1), (12, .iadd, 1), (13, .istore_n 2, 1), (14, .iload_n 2, 1), (15, .aload_n 0, 1), (16, .getfield 24, 3), (19, .if_icmp .ge 35, 3), (22, .aload_n 0, 1), (23, .getfield 18, 3), (26, .iload_n 1, 1), (27, .iaload, 1), (28, .aload_n 0, 1), (29, .getfield 18, 3), (32, .iload_n 2, 1), (33, .iaload, 1), (34, .if_icmp .eq 14, 3), (37, .aload_n 0, 1), (38, .iload_n 1, 1), (39, .iload_n 2, 1), (40, .invokevirtual 49, 3), (43, .ifCond .eq 5, 3), (46, .iconst 1, 1), (47, .ireturn, 1), (48, .iinc 2 1, 3), (51, .goto (-37), 3), (54, .iinc 1 1, 3), (57, .goto (-55), 3), (60, .iconst 0, 1), (61, .ireturn, 1)]
theorem yz_X6_coloursShareAPlace_ok : ∀ q ∈ yz_X6_coloursShareAPlace, decode cX6_coloursShareAPlace q.1 = .ok q.2 := by decide +kernel
theorem yd_yX6_coloursShareAPlace : yX6_coloursShareAPlace.cls = RX6 ∧ yX6_coloursShareAPlace.cls ≠ "java/lang/invoke/MethodHandle" ∧ yX6_coloursShareAPlace.cls ≠ "java/lang/invoke/VarHandle" ∧ (parseMethodDescriptor yX6_coloursShareAPlace.desc).map (fun d => d.parameters.length) = some 0 := by decide +kernel
def yz_X6_has : List (Nat × (Instr × Nat)) := [(0, .iload_n 1, 1), (1, .ifCond .lt 15, 3), (4, .iload_n 1, 1), (5, .aload_n 0, 1), (6, .getfield 24, 3), (9, .if_icmp .ge 7, 3), (12, .iconst 1, 1), (13, .goto 4, 3), (16, .iconst 0, 1), (17, .ireturn, 1)]
theorem yz_X6_has_ok : ∀ q ∈ yz_X6_has, decode cX6_has q.1 = .ok q.2 := by decide +kernel
theorem yd_yX6_has : yX6_has.cls = RX6 ∧ yX6_has.cls ≠ "java/lang/invoke/MethodHandle" ∧ yX6_has.cls ≠ "java/lang/invoke/VarHandle" ∧ (parseMethodDescriptor yX6_has.desc).map (fun d => d.parameters.length) = some 1 := by decide +kernel
def yz_X6_hasBothColours : List (Nat × (Instr × Nat)) := [(0, .aload_n 0, 1), (1, .iconst 1, 1), (2, .invokevirtual 45, 3), (5, .istore_n 1, 1), (6, .iload_n 1, 1), (7, .ifCond .le 15, 3), (10, .iload_n 1, 1), (11, .aload_n 0, 1), (12, .getfield 24, 3), (15, .if_icmp .ge 7, 3), (18, .iconst 1, 1), (19, .goto 4, 3), (22, .iconst 0, 1), (23, .ireturn, 1)]
theorem yz_X6_hasBothColours_ok : ∀ q ∈ yz_X6_hasBothColours, decode cX6_hasBothColours q.1 = .ok q.2 := by decide +kernel
theorem yd_yX6_hasBothColours : yX6_hasBothColours.cls = RX6 ∧ yX6_hasBothColours.cls ≠ "java/lang/invoke/MethodHandle" ∧ yX6_hasBothColours.cls ≠ "java/lang/invoke/VarHandle" ∧ (parseMethodDescriptor yX6_hasBothColours.desc).map (fun d => d.parameters.length) = some 0 := by decide +kernel
def yz_X6_isColour : List (Nat × (Instr × Nat)) := [(0, .iload_n 0, 1), (1, .ifCond .eq 8, 3), (4, .iload_n 0, 1), (5, .iconst 1, 1), (6, .if_icmp .ne 7, 3), (9, .iconst 1, 1), (10, .goto 4, 3), (13, .iconst 0, 1), (14, .ireturn, 1)]
theorem yz_X6_isColour_ok : ∀ q ∈ yz_X6_isColour, decode cX6_isColour q.1 = .ok q.2 := by decide +kernel
theorem yd_yX6_isColour : yX6_isColour.cls ≠ "java/lang/invoke/MethodHandle" ∧ yX6_isColour.cls ≠ "java/lang/invoke/VarHandle" ∧ (parseMethodDescriptor yX6_isColour.desc).map (fun d => d.parameters.length) = some 1 := by decide +kernel
def yz_X6_isNear : List (Nat × (Instr × Nat)) := [(0, .lload_n 0, 1), (1, .ldc2_w 31, 3), (4, .lcmp, 1), (5, .ifCond .lt 15, 3), (8, .lload_n 0, 1), (9, .ldc2_w 33, 3), (12, .lcmp, 1), (13, .ifCond .gt 7, 3), (16, .iconst 1, 1), (17, .goto 4, 3), (20, .iconst 0, 1), (21, .ireturn, 1)]
theorem yz_X6_isNear_ok : ∀ q ∈ yz_X6_isNear, decode cX6_isNear q.1 = .ok q.2 := by decide +kernel
theorem yd_yX6_isNear : yX6_isNear.cls ≠ "java/lang/invoke/MethodHandle" ∧ yX6_isNear.cls ≠ "java/lang/invoke/VarHandle" ∧ (parseMethodDescriptor yX6_isNear.desc).map (fun d => d.parameters.length) = some 1 := by decide +kernel
def yz_X6_reach : List (Nat × (Instr × Nat)) := [(0, .aload_n 0, 1), (1, .getfield 9, 3), (4, .iload_n 2, 1), (5, .iaload, 1), (6, .aload_n 0, 1), (7, .getfield 9, 3), (10, .iload_n 1, 1), (11, .iaload, 1), (12, .isub, 1), (13, .aload_n 0, 1), (14, .getfield 9, 3), (17, .iload_n 3, 1), (18, .iaload, 1), (19, .aload_n 0, 1), (20, .getfield 9, 3), (23, .iload_n 1, 1), (24, .iaload, 1), (25, .isub, 1), (26, .imul, 1), (27, .aload_n 0, 1), (28, .getfield 15, 3), (31, .iload_n 2, 1), (32, .iaload, 1), (33, .aload_n 0, 1), (34, .getfield 15, 3), (37, .iload_n 1, 1), (38, .iaload, 1), (39, .isub, 1), (40, .aload_n 0, 1), (41, .getfield 15, 3), (44, .iload_n 3, 1), (45, .iaload, 1), (46, .aload_n 0, 1), (47, .getfield 15, 3), (50, .iload_n 1, 1), (51, .iaload, 1), (52, .isub, 1), (53, .imul, 1), (54, .iadd, 1), (55, .ireturn, 1)]
theorem yz_X6_reach_ok : ∀ q ∈ yz_X6_reach, decode cX6_reach q.1 = .ok q.2 := by decide +kernel
theorem yd_yX6_reach : yX6_reach.cls = RX6 ∧ yX6_reach.cls ≠ "java/lang/invoke/MethodHandle" ∧ yX6_reach.cls ≠ "java/lang/invoke/VarHandle" ∧ (parseMethodDescriptor yX6_reach.desc).map (fun d => d.parameters.length) = some 3 := by decide +kernel
def yz_X6_remove : List (Nat × (Instr × Nat)) := [(0, .aload_n 0, 1), (1, .iload_n 1, 1), (2, .invokevirtual 35, 3), (5, .ifCond .ne 4, 3), (8, .return_, 1), (9, .iload_n 1, 1), (10, .istore_n 2, 1), (11, .iload_n 2, 1), (12, .iconst 1, 1), (13, .iadd, 1), (14, .aload_n 0, 1), (15, .getfield 24, 3), (18, .if_icmp .ge 65, 3), (21, .aload_n 0, 1), (22, .getfield 9, 3), (25, .iload_n 2, 1), (26, .aload_n 0, 1), (27, .getfield 9, 3), (30, .iload_n 2, 1), (31, .iconst 1, 1), (32, .iadd, 1), (33, .iaload, 1), (34, .iastore, 1), (35, .aload_n 0, 1), (36, .getfield 15, 3), (39, .iload_n 2, 1), (40, .aload_n 0, 1), (41, .getfield 15, 3), (44, .iload_n 2, 1), (45, .iconst 1, 1), (46, .iadd, 1), (47, .iaload, 1), (48, .iastore, 1), (49, .aload_n 0, 1), (50, .getfield 18, 3), (53, .iload_n 2, 1), (54, .aload_n 0, 1), (55, .getfield 18, 3), (58, .iload_n 2, 1), (59, .iconst 1, 1), (60, .iadd, 1), (61, .iaload, 1), (62, .iastore, 1), (63, .aload_n 0, 1), (64, .getfield 21, 3), (67, .iload_n 2, 1), (68, .aload_n 0, 1), (69, .getfield 21, 3), (72, .iload_n 2, 1), (73, .iconst 1, 1), (74, .iadd, 1), (75, .iaload, 1), (76, .iastore, 1), (77, .iinc 2 1, 3), (80, .goto (-69), 3), (83, .aload_n 0, 1), (84, .dup, 1), (85, .getfield 24, 3), (88, .iconst 1, 1), (89, .isub, 1), (90, .putfield 24, 3), (93, .aload_n 0, 1), (94, .dup, 1), (95, .getfield 28, 3), (98, .iconst 1, 1), (99, .iadd, 1), (100, .putfield 28, 3), (103, .return_, 1)]
theorem yz_X6_remove_ok : ∀ q ∈ yz_X6_remove, decode cX6_remove q.1 = .ok q.2 := by decide +kernel
theorem yd_yX6_remove : yX6_remove.cls = RX6 ∧ yX6_remove.cls ≠ "java/lang/invoke/MethodHandle" ∧ yX6_remove.cls ≠ "java/lang/invoke/VarHandle" ∧ (parseMethodDescriptor yX6_remove.desc).map (fun d => d.parameters.length) = some 1 := by decide +kernel
def yz_X6_repaint : List (Nat × (Instr × Nat)) := [(0, .aload_n 0, 1), (1, .getfield 18, 3), (4, .iload_n 1, 1), (5, .iload_n 2, 1), (6, .iastore, 1), (7, .aload_n 0, 1), (8, .getfield 21, 3), (11, .iload_n 1, 1), (12, .iload_n 3, 1), (13, .iastore, 1), (14, .aload_n 0, 1), (15, .dup, 1), (16, .getfield 28, 3), (19, .iconst 1, 1), (20, .iadd, 1), (21, .putfield 28, 3), (24, .return_, 1)]
theorem yz_X6_repaint_ok : ∀ q ∈ yz_X6_repaint, decode cX6_repaint q.1 = .ok q.2 := by decide +kernel
theorem yd_yX6_repaint : yX6_repaint.cls = RX6 ∧ yX6_repaint.cls ≠ "java/lang/invoke/MethodHandle" ∧ yX6_repaint.cls ≠ "java/lang/invoke/VarHandle" ∧ (parseMethodDescriptor yX6_repaint.desc).map (fun d => d.parameters.length) = some 3 := by decide +kernel
def yz_X6_samePlace : List (Nat × (Instr × Nat)) := [(0, .aload_n 0, 1), (1, .getfield 9, 3), (4, .iload_n 1, 1), (5, .iaload, 1), (6, .aload_n 0, 1), (7, .getfield 9, 3), (10, .iload_n 2, 1), (11, .iaload, 1), (12, .if_icmp .ne 22, 3), (15, .aload_n 0, 1), (16, .getfield 15, 3), (19, .iload_n 1, 1), (20, .iaload, 1), (21, .aload_n 0, 1), (22, .getfield 15, 3), (25, .iload_n 2, 1), (26, .iaload, 1), (27, .if_icmp .ne 7, 3), (30, .iconst 1, 1), (31, .goto 4, 3), (34, .iconst 0, 1), (35, .ireturn, 1)]
theorem yz_X6_samePlace_ok : ∀ q ∈ yz_X6_samePlace, decode cX6_samePlace q.1 = .ok q.2 := by decide +kernel
theorem yd_yX6_samePlace : yX6_samePlace.cls = RX6 ∧ yX6_samePlace.cls ≠ "java/lang/invoke/MethodHandle" ∧ yX6_samePlace.cls ≠ "java/lang/invoke/VarHandle" ∧ (parseMethodDescriptor yX6_samePlace.desc).map (fun d => d.parameters.length) = some 2 := by decide +kernel
def yz_X6_tally : List (Nat × (Instr × Nat)) := [(0, .iconst 0, 1), (1, .istore_n 2, 1), (2, .iconst 0, 1), (3, .istore_n 3, 1), (4, .iload_n 3, 1), (5, .aload_n 0, 1), (6, .getfield 24, 3), (9, .if_icmp .ge 22, 3), (12, .aload_n 0, 1), (13, .getfield 18, 3), (16, .iload_n 3, 1), (17, .iaload, 1), (18, .iload_n 1, 1), (19, .if_icmp .ne 6, 3), (22, .iinc 2 1, 3), (25, .iinc 3 1, 3), (28, .goto (-24), 3), (31, .iload_n 2, 1), (32, .ireturn, 1)]
theorem yz_X6_tally_ok : ∀ q ∈ yz_X6_tally, decode cX6_tally q.1 = .ok q.2 := by decide +kernel
theorem yd_yX6_tally : yX6_tally.cls = RX6 ∧ yX6_tally.cls ≠ "java/lang/invoke/MethodHandle" ∧ yX6_tally.cls ≠ "java/lang/invoke/VarHandle" ∧ (parseMethodDescriptor yX6_tally.desc).map (fun d => d.parameters.length) = some 1 := by decide +kernel
def yz_X6_turn : List (Nat × (Instr × Nat)) := [(0, .aload_n 0, 1), (1, .getfield 9, 3), (4, .iload_n 2, 1), (5, .iaload, 1), (6, .aload_n 0, 1), (7, .getfield 9, 3), (10, .iload_n 1, 1), (11, .iaload, 1), (12, .isub, 1), (13, .aload_n 0, 1), (14, .getfield 15, 3), (17, .iload_n 3, 1), (18, .iaload, 1), (19, .aload_n 0, 1), (20, .getfield 15, 3), (23, .iload_n 1, 1), (24, .iaload, 1), (25, .isub, 1), (26, .imul, 1), (27, .aload_n 0, 1), (28, .getfield 15, 3), (31, .iload_n 2, 1), (32, .iaload, 1), (33, .aload_n 0, 1), (34, .getfield 15, 3), (37, .iload_n 1, 1), (38, .iaload, 1), (39, .isub, 1), (40, .aload_n 0, 1), (41, .getfield 9, 3), (44, .iload_n 3, 1), (45, .iaload, 1), (46, .aload_n 0, 1), (47, .getfield 9, 3), (50, .iload_n 1, 1), (51, .iaload, 1), (52, .isub, 1), (53, .imul, 1), (54, .isub, 1), (55, .ireturn, 1)]
theorem yz_X6_turn_ok : ∀ q ∈ yz_X6_turn, decode cX6_turn q.1 = .ok q.2 := by decide +kernel
theorem yd_yX6_turn : yX6_turn.cls = RX6 ∧ yX6_turn.cls ≠ "java/lang/invoke/MethodHandle" ∧ yX6_turn.cls ≠ "java/lang/invoke/VarHandle" ∧ (parseMethodDescriptor yX6_turn.desc).map (fun d => d.parameters.length) = some 3 := by decide +kernel
def yz_X7_depthAt : List (Nat × (Instr × Nat)) := [(0, .iconst 0, 1), (1, .istore_n 3, 1), (2, .bipush 40, 2), (4, .istore 4, 2), (6, .iconst 0, 1), (7, .istore 5, 2), (9, .iload 5, 2), (11, .aload_n 0, 1), (12, .getfield 27, 3), (15, .if_icmp .ge 64, 3), (18, .aload_n 0, 1), (19, .getfield 39, 3), (22, .iload 5, 2), (24, .iaload, 1), (25, .iload_n 1, 1), (26, .isub, 1), (27, .istore 6, 2), (29, .aload_n 0, 1), (30, .getfield 42, 3), (33, .iload 5, 2), (35, .iaload, 1), (36, .iload_n 2, 1), (37, .isub, 1), (38, .istore 7, 2), (40, .iload 6, 2), (42, .ifCond .ne 14, 3), (45, .iload 7, 2), (47, .ifCond .ne 9, 3), (50, .iinc 3 1, 3), (53, .goto 20, 3), (56, .iload 4, 2), (58, .aload_n 0, 1), (59, .iload_n 1, 1), (60, .iload_n 2, 1), (61, .iload 6, 2), (63, .iload 7, 2), (65, .invokestatic 60, 3), (68, .invokestatic 64, 3), (71, .istore 4, 2), (73, .iinc 5 1, 3), (76, .goto (-67), 3), (79, .iload_n 3, 1), (80, .aload_n 0, 1), (81, .getfield 27, 3), (84, .if_icmp .ne 7, 3), (87, .iload_n 3, 1), (88, .goto 7, 3), (91, .iload_n 3, 1), (92, .iload 4, 2), (94, .iadd, 1), (95, .ireturn, 1)]
theorem yz_X7_depthAt_ok : ∀ q ∈ yz_X7_depthAt, decode cX7_depthAt q.1 = .ok q.2 := by decide +kernel
theorem yd_yX7_depthAt : yX7_depthAt.cls ≠ "java/lang/invoke/MethodHandle" ∧ yX7_depthAt.cls ≠ "java/lang/invoke/VarHandle" ∧ (parseMethodDescriptor yX7_depthAt.desc).map (fun d => d.parameters.length) = some 3 := by decide +kernel
def yz_X7_firstHalving : List (Nat × (Instr × Nat)) := [(0, .aload_n 0, 1), (1, .iconst 1, 1), (2, .invokevirtual 70, 3), (5, .istore_n 1, 1), (6, .aload_n 0, 1), (7, .getfield 27, 3), (10, .iload_n 1, 1), (11, .isub, 1), (12, .istore_n 2, 1), (13, .iconst 0, 1), (14, .istore_n 3, 1), (15, .iload_n 3, 1), (16, .aload_n 0, 1), (17, .getfield 27, 3), (20, .if_icmp .ge 71, 3), (23, .iload_n 3, 1), (24, .iconst 1, 1), (25, .iadd, 1), (26, .istore 4, 2), (28, .iload 4, 2), (30, .aload_n 0, 1), (31, .getfield 27, 3), (34, .if_icmp .ge 51, 3), (37, .aload_n 0, 1), (38, .iload_n 3, 1), (39, .iload 4, 2), (41, .invokevirtual 45, 3), (44, .ifCond .ne 35, 3), (47, .aload_n 0, 1), (48, .iload_n 3, 1), (49, .iload 4, 2), (51, .iconst 1, 1), (52, .iload_n 1, 1), (53, .invokestatic 74, 3), (56, .ifCond .eq 23, 3), (59, .aload_n 0, 1), (60, .iload_n 3, 1), (61, .iload 4, 2), (63, .iconst 0, 1), (64, .iload_n 2, 1), (65, .invokestatic 74, 3), (68, .ifCond .eq 11, 3), (71, .bipush 100, 2), (73, .iload_n 3, 1), (74, .imul, 1), (75, .iload 4, 2), (77, .iadd, 1), (78, .ireturn, 1), (79, .iinc 4 1, 3), (82, .goto (-54), 3), (85, .iinc 3 1, 3), (88, .goto (-73), 3), (91, .iconst (-1), 1), (92, .ireturn, 1)]
theorem yz_X7_firstHalving_ok : ∀ q ∈ yz_X7_firstHalving, decode cX7_firstHalving q.1 = .ok q.2 := by decide +kernel
theorem yd_yX7_firstHalving : yX7_firstHalving.cls ≠ "java/lang/invoke/MethodHandle" ∧ yX7_firstHalving.cls ≠ "java/lang/invoke/VarHandle" ∧ (parseMethodDescriptor yX7_firstHalving.desc).map (fun d => d.parameters.length) = some 1 := by decide +kernel
def yz_X7_isHalving : List (Nat × (Instr × Nat)) := [(0, .iconst 0, 1), (1, .istore 5, 2), (3, .iconst 0, 1), (4, .istore 6, 2), (6, .iconst 0, 1), (7, .istore 7, 2), (9, .iload 7, 2), (11, .aload_n 0, 1), (12, .getfield 27, 3), (15, .if_icmp .ge 60, 3), (18, .aload_n 0, 1), (19, .iload_n 1, 1), (20, .iload_n 2, 1), (21, .iload 7, 2), (23, .invokevirtual 53, 3), (26, .istore 8, 2), (28, .aload_n 0, 1), (29, .getfield 32, 3), (32, .iload 7, 2), (34, .iaload, 1), (35, .iload_n 3, 1), (36, .if_icmp .ne 14, 3), (39, .iload 8, 2), (41, .ifCond .le 9, 3), (44, .iinc 5 1, 3), (47, .goto 22, 3), (50, .aload_n 0, 1), (51, .getfield 32, 3), (54, .iload 7, 2), (56, .iaload, 1), (57, .iload_n 3, 1), (58, .if_icmp .ne 11, 3), (61, .iload 8, 2), (63, .ifCond .ge 6, 3), (66, .iinc 6 1, 3), (69, .iinc 7 1, 3), (72, .goto (-63), 3), (75, .iconst 2, 1), (76, .iload 5, 2), (78, .iload 6, 2), (80, .invokestatic 78, 3), (83, .imul, 1), (84, .iload 4, 2), (86, .if_icmp .gt 7, 3), (89, .iconst 1, 1), (90, .goto 4, 3), (93, .iconst 0, 1), (94, .ireturn, 1)]
theorem yz_X7_isHalving_ok : ∀ q ∈ yz_X7_isHalving, decode cX7_isHalving q.1 = .ok q.2 := by decide +kernel
theorem yd_yX7_isHalving : yX7_isHalving.cls ≠ "java/lang/invoke/MethodHandle" ∧ yX7_isHalving.cls ≠ "java/lang/invoke/VarHandle" ∧ (parseMethodDescriptor yX7_isHalving.desc).map (fun d => d.parameters.length) = some 5 := by decide +kernel
def yz_X7_isLower : List (Nat × (Instr × Nat)) := [(0, .aload_n 0, 1), (1, .getfield 39, 3), (4, .iload_n 1, 1), (5, .iaload, 1), (6, .aload_n 0, 1), (7, .getfield 39, 3), (10, .iload_n 2, 1), (11, .iaload, 1), (12, .if_icmp .lt 33, 3), (15, .aload_n 0, 1), (16, .getfield 39, 3), (19, .iload_n 1, 1), (20, .iaload, 1), (21, .aload_n 0, 1), (22, .getfield 39, 3), (25, .iload_n 2, 1), (26, .iaload, 1), (27, .if_icmp .ne 22, 3), (30, .aload_n 0, 1), (31, .getfield 42, 3), (34, .iload_n 1, 1), (35, .iaload, 1), (36, .aload_n 0, 1), (37, .getfield 42, 3), (40, .iload_n 2, 1), (41, .iaload, 1), (42, .if_icmp .ge 7, 3), (45, .iconst 1, 1), (46, .goto 4, 3), (49, .iconst 0, 1), (50, .ireturn, 1)]
theorem yz_X7_isLower_ok : ∀ q ∈ yz_X7_isLower, decode cX7_isLower q.1 = .ok q.2 := by decide +kernel
theorem yd_yX7_isLower : yX7_isLower.cls ≠ "java/lang/invoke/MethodHandle" ∧ yX7_isLower.cls ≠ "java/lang/invoke/VarHandle" ∧ (parseMethodDescriptor yX7_isLower.desc).map (fun d => d.parameters.length) = some 3 := by decide +kernel
def yz_X7_isOuter : List (Nat × (Instr × Nat)) := [(0, .aload_n 0, 1), (1, .iload_n 1, 1), (2, .iload_n 2, 1), (3, .iload_n 3, 1), (4, .invokevirtual 53, 3), (7, .istore 4, 2), (9, .iload 4, 2), (11, .ifCond .lt 25, 3), (14, .iload 4, 2), (16, .ifCond .ne 24, 3), (19, .aload_n 0, 1), (20, .iload_n 1, 1), (21, .iload_n 3, 1), (22, .iload_n 3, 1), (23, .invokevirtual 57, 3), (26, .aload_n 0, 1), (27, .iload_n 1, 1), (28, .iload_n 2, 1), (29, .iload_n 2, 1), (30, .invokevirtual 57, 3), (33, .if_icmp .le 7, 3), (36, .iconst 1, 1), (37, .goto 4, 3), (40, .iconst 0, 1), (41, .ireturn, 1)]
theorem yz_X7_isOuter_ok : ∀ q ∈ yz_X7_isOuter, decode cX7_isOuter q.1 = .ok q.2 := by decide +kernel
theorem yd_yX7_isOuter : yX7_isOuter.cls ≠ "java/lang/invoke/MethodHandle" ∧ yX7_isOuter.cls ≠ "java/lang/invoke/VarHandle" ∧ (parseMethodDescriptor yX7_isOuter.desc).map (fun d => d.parameters.length) = some 4 := by decide +kernel
def yz_X7_lighterSide : List (Nat × (Instr × Nat)) := [(0, .iconst 0, 1), (1, .istore 5, 2), (3, .iconst 0, 1), (4, .istore 6, 2), (6, .iconst 0, 1), (7, .istore 7, 2), (9, .iconst 0, 1), (10, .istore 8, 2), (12, .iconst 0, 1), (13, .istore 9, 2), (15, .iload 9, 2), (17, .aload_n 0, 1), (18, .getfield 27, 3), (21, .if_icmp .ge 96, 3), (24, .aload_n 0, 1), (25, .getfield 39, 3), (28, .iload 9, 2), (30, .iaload, 1), (31, .iload_n 1, 1), (32, .isub, 1), (33, .istore 10, 2), (35, .aload_n 0, 1), (36, .getfield 42, 3), (39, .iload 9, 2), (41, .iaload, 1), (42, .iload_n 2, 1), (43, .isub, 1), (44, .istore 11, 2), (46, .iload_n 3, 1), (47, .iload 11, 2), (49, .imul, 1), (50, .iload 4, 2), (52, .iload 10, 2), (54, .imul, 1), (55, .isub, 1), (56, .istore 12, 2), (58, .iload_n 3, 1), (59, .iload 10, 2), (61, .imul, 1), (62, .iload 4, 2), (64, .iload 11, 2), (66, .imul, 1), (67, .iadd, 1), (68, .istore 13, 2), (70, .iload 12, 2), (72, .ifCond .le 9, 3), (75, .iinc 5 1, 3), (78, .goto 33, 3), (81, .iload 12, 2), (83, .ifCond .ge 9, 3), (86, .iinc 6 1, 3), (89, .goto 22, 3), (92, .iload 13, 2), (94, .ifCond .le 9, 3), (97, .iinc 7 1, 3), (100, .goto 11, 3), (103, .iload 13, 2), (105, .ifCond .ge 6, 3), (108, .iinc 8 1, 3), (111, .iinc 9 1, 3), (114, .goto (-99), 3), (117, .iload 5, 2), (119, .iload 6, 2), (121, .invokestatic 64, 3), (124, .iload 7, 2), (126, .iload 8, 2), (128, .invokestatic 64, 3), (131, .iadd, 1), (132, .ireturn, 1)]
theorem yz_X7_lighterSide_ok : ∀ q ∈ yz_X7_lighterSide, decode cX7_lighterSide q.1 = .ok q.2 := by decide +kernel
theorem yd_yX7_lighterSide : yX7_lighterSide.cls ≠ "java/lang/invoke/MethodHandle" ∧ yX7_lighterSide.cls ≠ "java/lang/invoke/VarHandle" ∧ (parseMethodDescriptor yX7_lighterSide.desc).map (fun d => d.parameters.length) = some 5 := by decide +kernel
def yz_X7_lowest : List (Nat × (Instr × Nat)) := [(0, .iconst (-1), 1), (1, .istore_n 2, 1), (2, .iconst 0, 1), (3, .istore_n 3, 1), (4, .iload_n 3, 1), (5, .aload_n 0, 1), (6, .getfield 27, 3), (9, .if_icmp .ge 35, 3), (12, .aload_n 0, 1), (13, .getfield 32, 3), (16, .iload_n 3, 1), (17, .iaload, 1), (18, .iload_n 1, 1), (19, .if_icmp .ne 19, 3), (22, .iload_n 2, 1), (23, .iconst (-1), 1), (24, .if_icmp .eq 12, 3), (27, .aload_n 0, 1), (28, .iload_n 3, 1), (29, .iload_n 2, 1), (30, .invokestatic 35, 3), (33, .ifCond .eq 5, 3), (36, .iload_n 3, 1), (37, .istore_n 2, 1), (38, .iinc 3 1, 3), (41, .goto (-37), 3), (44, .iload_n 2, 1), (45, .ireturn, 1)]
theorem yz_X7_lowest_ok : ∀ q ∈ yz_X7_lowest, decode cX7_lowest q.1 = .ok q.2 := by decide +kernel
theorem yd_yX7_lowest : yX7_lowest.cls ≠ "java/lang/invoke/MethodHandle" ∧ yX7_lowest.cls ≠ "java/lang/invoke/VarHandle" ∧ (parseMethodDescriptor yX7_lowest.desc).map (fun d => d.parameters.length) = some 2 := by decide +kernel
def yz_X7_nextCorner : List (Nat × (Instr × Nat)) := [(0, .iconst (-1), 1), (1, .istore_n 3, 1), (2, .iconst 0, 1), (3, .istore 4, 2), (5, .iload 4, 2), (7, .aload_n 0, 1), (8, .getfield 27, 3), (11, .if_icmp .ge 49, 3), (14, .aload_n 0, 1), (15, .getfield 32, 3), (18, .iload 4, 2), (20, .iaload, 1), (21, .iload_n 1, 1), (22, .if_icmp .ne 32, 3), (25, .aload_n 0, 1), (26, .iload_n 2, 1), (27, .iload 4, 2), (29, .invokevirtual 45, 3), (32, .ifCond .ne 22, 3), (35, .iload_n 3, 1), (36, .iconst (-1), 1), (37, .if_icmp .eq 14, 3), (40, .aload_n 0, 1), (41, .iload_n 2, 1), (42, .iload_n 3, 1), (43, .iload 4, 2), (45, .invokestatic 49, 3), (48, .ifCond .eq 6, 3), (51, .iload 4, 2), (53, .istore_n 3, 1), (54, .iinc 4 1, 3), (57, .goto (-52), 3), (60, .iload_n 3, 1), (61, .ireturn, 1)]
theorem yz_X7_nextCorner_ok : ∀ q ∈ yz_X7_nextCorner, decode cX7_nextCorner q.1 = .ok q.2 := by decide +kernel
theorem yd_yX7_nextCorner : yX7_nextCorner.cls ≠ "java/lang/invoke/MethodHandle" ∧ yX7_nextCorner.cls ≠ "java/lang/invoke/VarHandle" ∧ (parseMethodDescriptor yX7_nextCorner.desc).map (fun d => d.parameters.length) = some 3 := by decide +kernel
def yz_X7_wrap : List (Nat × (Instr × Nat)) := [(0, .aload_n 0, 1), (1, .iconst 0, 1), (2, .putfield 15, 3), (5, .aload_n 1, 1), (6, .iload_n 2, 1), (7, .invokestatic 19, 3), (10, .istore_n 3, 1), (11, .iload_n 3, 1), (12, .istore 4, 2), (14, .iconst 0, 1), (15, .istore 5, 2), (17, .iload 5, 2), (19, .bipush 40, 2), (21, .if_icmp .ge 50, 3), (24, .iload 4, 2), (26, .iconst (-1), 1), (27, .if_icmp .eq 44, 3), (30, .aload_n 0, 1), (31, .getfield 9, 3), (34, .iload 5, 2), (36, .iload 4, 2), (38, .iastore, 1), (39, .aload_n 0, 1), (40, .iload 5, 2), (42, .iconst 1, 1), (43, .iadd, 1), (44, .putfield 15, 3), (47, .aload_n 1, 1), (48, .iload_n 2, 1), (49, .iload 4, 2), (51, .invokestatic 23, 3), (54, .istore 4, 2), (56, .iload 4, 2), (58, .iload_n 3, 1), (59, .if_icmp .ne 6, 3), (62, .goto 9, 3), (65, .iinc 5 1, 3), (68, .goto (-51), 3), (71, .return_, 1)]
theorem yz_X7_wrap_ok : ∀ q ∈ yz_X7_wrap, decode cX7_wrap q.1 = .ok q.2 := by decide +kernel
theorem yd_yX7_wrap : yX7_wrap.cls = RX7 ∧ yX7_wrap.cls ≠ "java/lang/invoke/MethodHandle" ∧ yX7_wrap.cls ≠ "java/lang/invoke/VarHandle" ∧ (parseMethodDescriptor yX7_wrap.desc).map (fun d => d.parameters.length) = some 2 := by decide +kernel
def yz_X8_cut : List (Nat × (Instr × Nat)) := [(0, .aload_n 0, 1), (1, .getfield 19, 3), (4, .tableswitch 42 0 2 #[28, 33, 38], 28), (32, .lload_n 1, 1), (33, .l2i, 1), (34, .i2b, 1), (35, .i2l, 1), (36, .lreturn, 1), (37, .lload_n 1, 1), (38, .l2i, 1), (39, .i2s, 1), (40, .i2l, 1), (41, .lreturn, 1), (42, .lload_n 1, 1), (43, .l2i, 1), (44, .i2l, 1), (45, .lreturn, 1), (46, .lload_n 1, 1), (47, .lreturn, 1)]
theorem yz_X8_cut_ok : ∀ q ∈ yz_X8_cut, decode cX8_cut q.1 = .ok q.2 := by decide +kernel
theorem yd_yX8_cut : yX8_cut.cls = RX8 ∧ yX8_cut.cls ≠ "java/lang/invoke/MethodHandle" ∧ yX8_cut.cls ≠ "java/lang/invoke/VarHandle" ∧ (parseMethodDescriptor yX8_cut.desc).map (fun d => d.parameters.length) = some 1 := by decide +kernel
def yz_X8_has : List (Nat × (Instr × Nat)) := [(0, .iload_n 1, 1), (1, .ifCond .lt 15, 3), (4, .iload_n 1, 1), (5, .aload_n 0, 1), (6, .getfield 23, 3), (9, .if_icmp .ge 7, 3), (12, .iconst 1, 1), (13, .goto 4, 3), (16, .iconst 0, 1), (17, .ireturn, 1)]
theorem yz_X8_has_ok : ∀ q ∈ yz_X8_has, decode cX8_has q.1 = .ok q.2 := by decide +kernel
theorem yd_yX8_has : yX8_has.cls = RX8 ∧ yX8_has.cls ≠ "java/lang/invoke/MethodHandle" ∧ yX8_has.cls ≠ "java/lang/invoke/VarHandle" ∧ (parseMethodDescriptor yX8_has.desc).map (fun d => d.parameters.length) = some 1 := by decide +kernel
def yz_X8_hasAll : List (Nat × (Instr × Nat)) := [(0, .iload_n 1, 1), (1, .ifCond .lt 21, 3), (4, .iload_n 2, 1), (5, .ifCond .lt 17, 3), (8, .iload_n 1, 1), (9, .aload_n 0, 1), (10, .getfield 23, 3), (13, .iload_n 2, 1), (14, .isub, 1), (15, .if_icmp .gt 7, 3), (18, .iconst 1, 1), (19, .goto 4, 3), (22, .iconst 0, 1), (23, .ireturn, 1)]
theorem yz_X8_hasAll_ok : ∀ q ∈ yz_X8_hasAll, decode cX8_hasAll q.1 = .ok q.2 := by decide +kernel
theorem yd_yX8_hasAll : yX8_hasAll.cls = RX8 ∧ yX8_hasAll.cls ≠ "java/lang/invoke/MethodHandle" ∧ yX8_hasAll.cls ≠ "java/lang/invoke/VarHandle" ∧ (parseMethodDescriptor yX8_hasAll.desc).map (fun d => d.parameters.length) = some 2 := by decide +kernel
def yz_X8_hasEveryX : List (Nat × (Instr × Nat)) := [(0, .iload_n 1, 1), (1, .ifCond .lt 27, 3), (4, .iload_n 1, 1), (5, .i2l, 1), (6, .ldc2_w 42, 3), (9, .iload_n 2, 1), (10, .iconst 1, 1), (11, .isub, 1), (12, .i2l, 1), (13, .lmul, 1), (14, .ladd, 1), (15, .aload_n 0, 1), (16, .getfield 23, 3), (19, .i2l, 1), (20, .lcmp, 1), (21, .ifCond .ge 7, 3), (24, .iconst 1, 1), (25, .goto 4, 3), (28, .iconst 0, 1), (29, .ireturn, 1)]
theorem yz_X8_hasEveryX_ok : ∀ q ∈ yz_X8_hasEveryX, decode cX8_hasEveryX q.1 = .ok q.2 := by decide +kernel
theorem yd_yX8_hasEveryX : yX8_hasEveryX.cls = RX8 ∧ yX8_hasEveryX.cls ≠ "java/lang/invoke/MethodHandle" ∧ yX8_hasEveryX.cls ≠ "java/lang/invoke/VarHandle" ∧ (parseMethodDescriptor yX8_hasEveryX.desc).map (fun d => d.parameters.length) = some 2 := by decide +kernel
def yz_X8_hasNearPlaces : List (Nat × (Instr × Nat)) := [(0, .iload_n 1, 1), (1, .istore_n 3, 1), (2, .iload_n 3, 1), (3, .iload_n 1, 1), (4, .iconst 2, 1), (5, .iload_n 2, 1), (6, .imul, 1), (7, .iadd, 1), (8, .if_icmp .ge 22, 3), (11, .aload_n 0, 1), (12, .iload_n 3, 1), (13, .invokevirtual 44, 3), (16, .invokestatic 48, 3), (19, .ifCond .ne 5, 3), (22, .iconst 0, 1), (23, .ireturn, 1), (24, .iinc 3 1, 3), (27, .goto (-25), 3), (30, .iconst 1, 1), (31, .ireturn, 1)]
theorem yz_X8_hasNearPlaces_ok : ∀ q ∈ yz_X8_hasNearPlaces, decode cX8_hasNearPlaces q.1 = .ok q.2 := by decide +kernel
theorem yd_yX8_hasNearPlaces : yX8_hasNearPlaces.cls = RX8 ∧ yX8_hasNearPlaces.cls ≠ "java/lang/invoke/MethodHandle" ∧ yX8_hasNearPlaces.cls ≠ "java/lang/invoke/VarHandle" ∧ (parseMethodDescriptor yX8_hasNearPlaces.desc).map (fun d => d.parameters.length) = some 2 := by decide +kernel
def yz_X8_lay : List (Nat × (Instr × Nat)) := [(0, .aload_n 0, 1), (1, .iconst 1, 1), (2, .putfield 15, 3), (5, .aload_n 0, 1), (6, .iload_n 1, 1), (7, .putfield 19, 3), (10, .aload_n 0, 1), (11, .iload_n 2, 1), (12, .putfield 23, 3), (15, .aload_n 0, 1), (16, .getfield 9, 3), (19, .lconst 0, 1), (20, .invokestatic 26, 3), (23, .return_, 1)]
theorem yz_X8_lay_ok : ∀ q ∈ yz_X8_lay, decode cX8_lay q.1 = .ok q.2 := by decide +kernel
theorem yd_yX8_lay : yX8_lay.cls = RX8 ∧ yX8_lay.cls ≠ "java/lang/invoke/MethodHandle" ∧ yX8_lay.cls ≠ "java/lang/invoke/VarHandle" ∧ (parseMethodDescriptor yX8_lay.desc).map (fun d => d.parameters.length) = some 2 := by decide +kernel
def yz_X8_numberOrZero : List (Nat × (Instr × Nat)) := [(0, .aload_n 0, 1), (1, .iload_n 1, 1), (2, .invokevirtual 54, 3), (5, .ifCond .eq 12, 3), (8, .aload_n 0, 1), (9, .getfield 9, 3), (12, .iload_n 1, 1), (13, .laload, 1), (14, .goto 4, 3), (17, .lconst 0, 1), (18, .lreturn, 1)]
theorem yz_X8_numberOrZero_ok : ∀ q ∈ yz_X8_numberOrZero, decode cX8_numberOrZero q.1 = .ok q.2 := by decide +kernel
theorem yd_yX8_numberOrZero : yX8_numberOrZero.cls = RX8 ∧ yX8_numberOrZero.cls ≠ "java/lang/invoke/MethodHandle" ∧ yX8_numberOrZero.cls ≠ "java/lang/invoke/VarHandle" ∧ (parseMethodDescriptor yX8_numberOrZero.desc).map (fun d => d.parameters.length) = some 1 := by decide +kernel
def yz_X8_put : List (Nat × (Instr × Nat)) := [(0, .aload_n 0, 1), (1, .getfield 9, 3), (4, .iload_n 1, 1), (5, .aload_n 0, 1), (6, .lload_n 2, 1), (7, .invokevirtual 32, 3), (10, .lastore, 1), (11, .return_, 1)]
theorem yz_X8_put_ok : ∀ q ∈ yz_X8_put, decode cX8_put q.1 = .ok q.2 := by decide +kernel
theorem yd_yX8_put : yX8_put.cls = RX8 ∧ yX8_put.cls ≠ "java/lang/invoke/MethodHandle" ∧ yX8_put.cls ≠ "java/lang/invoke/VarHandle" ∧ (parseMethodDescriptor yX8_put.desc).map (fun d => d.parameters.length) = some 2 := by decide +kernel
def yz_X8_putAll : List (Nat × (Instr × Nat)) := [(0, .aload_n 2, 1), (1, .getfield 9, 3), (4, .iload_n 3, 1), (5, .aload_n 0, 1), (6, .getfield 9, 3), (9, .iload_n 1, 1), (10, .iload 4, 2), (12, .invokestatic 36, 3), (15, .iload_n 1, 1), (16, .istore 5, 2), (18, .iload 5, 2), (20, .iload_n 1, 1), (21, .iload 4, 2), (23, .iadd, 1), (24, .if_icmp .ge 27, 3), (27, .aload_n 0, 1), (28, .getfield 9, 3), (31, .iload 5, 2), (33, .aload_n 0, 1), (34, .aload_n 0, 1), (35, .getfield 9, 3), (38, .iload 5, 2), (40, .laload, 1), (41, .invokevirtual 32, 3), (44, .lastore, 1), (45, .iinc 5 1, 3), (48, .goto (-30), 3), (51, .return_, 1)]
theorem yz_X8_putAll_ok : ∀ q ∈ yz_X8_putAll, decode cX8_putAll q.1 = .ok q.2 := by decide +kernel
theorem yd_yX8_putAll : yX8_putAll.cls = RX8 ∧ yX8_putAll.cls ≠ "java/lang/invoke/MethodHandle" ∧ yX8_putAll.cls ≠ "java/lang/invoke/VarHandle" ∧ (parseMethodDescriptor yX8_putAll.desc).map (fun d => d.parameters.length) = some 4 := by decide +kernel
def yz_X8_tear : List (Nat × (Instr × Nat)) := [(0, .aload_n 0, 1), (1, .iconst 0, 1), (2, .putfield 15, 3), (5, .aload_n 0, 1), (6, .iconst 0, 1), (7, .putfield 23, 3), (10, .return_, 1)]
theorem yz_X8_tear_ok : ∀ q ∈ yz_X8_tear, decode cX8_tear q.1 = .ok q.2 := by decide +kernel
theorem yd_yX8_tear : yX8_tear.cls = RX8 ∧ yX8_tear.cls ≠ "java/lang/invoke/MethodHandle" ∧ yX8_tear.cls ≠ "java/lang/invoke/VarHandle" ∧ (parseMethodDescriptor yX8_tear.desc).map (fun d => d.parameters.length) = some 0 := by decide +kernel
def yz_X9_choose : List (Nat × (Instr × Nat)) := [(0, .aload_n 0, 1), (1, .lconst 0, 1), (2, .putfield 63, 3), (5, .iconst 0, 1), (6, .istore_n 2, 1), (7, .iload_n 2, 1), (8, .aload_n 0, 1), (9, .getfield 31, 3), (12, .if_icmp .ge 24, 3), (15, .aload_n 0, 1), (16, .dup, 1), (17, .getfield 63, 3), (20, .aload_n 0, 1), (21, .getfield 28, 3), (24, .iload_n 2, 1), (25, .laload, 1), (26, .ladd, 1), (27, .putfield 63, 3), (30, .iinc 2 1, 3), (33, .goto (-26), 3), (36, .aload_n 0, 1), (37, .aload_n 0, 1), (38, .getfield 63, 3), (41, .lconst 1, 1), (42, .ladd, 1), (43, .putfield 59, 3), (46, .iconst 0, 1), (47, .istore_n 2, 1), (48, .iload_n 2, 1), (49, .iconst 1, 1), (50, .if_icmp .gt 59, 3), (53, .aload_n 0, 1), (54, .aload_n 1, 1), (55, .iload_n 2, 1), (56, .sipush (-301), 3), (59, .invokevirtual 88, 3), (62, .iconst 0, 1), (63, .istore_n 3, 1), (64, .iload_n 3, 1), (65, .aload_n 0, 1), (66, .getfield 31, 3), (69, .if_icmp .ge 34, 3), (72, .aload_n 0, 1), (73, .aload_n 1, 1), (74, .iload_n 2, 1), (75, .iload_n 2, 1), (76, .ifCond .ne 12, 3), (79, .aload_n 1, 1), (80, .getfield 92, 3), (83, .iload_n 3, 1), (84, .iaload, 1), (85, .goto 9, 3), (88, .aload_n 1, 1), (89, .getfield 95, 3), (92, .iload_n 3, 1), (93, .iaload, 1), (94, .invokevirtual 88, 3), (97, .iinc 3 1, 3), (100, .goto (-36), 3), (103, .iinc 2 1, 3), (106, .goto (-58), 3), (109, .return_, 1)]
theorem yz_X9_choose_ok : ∀ q ∈ yz_X9_choose, decode cX9_choose q.1 = .ok q.2 := by decide +kernel
theorem yd_yX9_choose : yX9_choose.cls = RX9 ∧ yX9_choose.cls ≠ "java/lang/invoke/MethodHandle" ∧ yX9_choose.cls ≠ "java/lang/invoke/VarHandle" ∧ (parseMethodDescriptor yX9_choose.desc).map (fun d => d.parameters.length) = some 1 := by decide +kernel
def yz_X9_commonMass : List (Nat × (Instr × Nat)) := [(0, .lconst 0, 1), (1, .lstore_n 3, 1), (2, .iconst 0, 1), (3, .istore 5, 2), (5, .iload 5, 2), (7, .aload_n 0, 1), (8, .getfield 31, 3), (11, .if_icmp .ge 32, 3), (14, .aload_n 0, 1), (15, .aload_n 1, 1), (16, .iload 5, 2), (18, .invokevirtual 109, 3), (21, .iload_n 2, 1), (22, .if_icmp .ne 15, 3), (25, .lload_n 3, 1), (26, .aload_n 0, 1), (27, .getfield 28, 3), (30, .iload 5, 2), (32, .laload, 1), (33, .invokestatic 113, 3), (36, .lstore_n 3, 1), (37, .iinc 5 1, 3), (40, .goto (-35), 3), (43, .lconst 1, 1), (44, .lload_n 3, 1), (45, .invokestatic 119, 3), (48, .lreturn, 1)]
theorem yz_X9_commonMass_ok : ∀ q ∈ yz_X9_commonMass, decode cX9_commonMass q.1 = .ok q.2 := by decide +kernel
theorem yd_yX9_commonMass : yX9_commonMass.cls = RX9 ∧ yX9_commonMass.cls ≠ "java/lang/invoke/MethodHandle" ∧ yX9_commonMass.cls ≠ "java/lang/invoke/VarHandle" ∧ (parseMethodDescriptor yX9_commonMass.desc).map (fun d => d.parameters.length) = some 2 := by decide +kernel
def yz_X9_isWrong : List (Nat × (Instr × Nat)) := [(0, .aload_n 0, 1), (1, .getfield 50, 3), (4, .aload_n 0, 1), (5, .getfield 53, 3), (8, .aload_n 0, 1), (9, .getfield 56, 3), (12, .aload_n 1, 1), (13, .getfield 92, 3), (16, .iload_n 2, 1), (17, .iaload, 1), (18, .aload_n 1, 1), (19, .getfield 95, 3), (22, .iload_n 2, 1), (23, .iaload, 1), (24, .invokestatic 98, 3), (27, .aload_n 1, 1), (28, .getfield 102, 3), (31, .iload_n 2, 1), (32, .iaload, 1), (33, .iconst 1, 1), (34, .if_icmp .ne 7, 3), (37, .iconst 1, 1), (38, .goto 4, 3), (41, .iconst 0, 1), (42, .if_icmp .eq 7, 3), (45, .iconst 1, 1), (46, .goto 4, 3), (49, .iconst 0, 1), (50, .ireturn, 1)]
theorem yz_X9_isWrong_ok : ∀ q ∈ yz_X9_isWrong, decode cX9_isWrong q.1 = .ok q.2 := by decide +kernel
theorem yd_yX9_isWrong : yX9_isWrong.cls = RX9 ∧ yX9_isWrong.cls ≠ "java/lang/invoke/MethodHandle" ∧ yX9_isWrong.cls ≠ "java/lang/invoke/VarHandle" ∧ (parseMethodDescriptor yX9_isWrong.desc).map (fun d => d.parameters.length) = some 2 := by decide +kernel
def yz_X9_keepChosen : List (Nat × (Instr × Nat)) := [(0, .aload_n 0, 1), (1, .getfield 35, 3), (4, .bipush 12, 2), (6, .if_icmp .lt 4, 3), (9, .return_, 1), (10, .aload_n 0, 1), (11, .getfield 9, 3), (14, .aload_n 0, 1), (15, .getfield 35, 3), (18, .aload_n 0, 1), (19, .getfield 50, 3), (22, .iastore, 1), (23, .aload_n 0, 1), (24, .getfield 15, 3), (27, .aload_n 0, 1), (28, .getfield 35, 3), (31, .aload_n 0, 1), (32, .getfield 53, 3), (35, .iastore, 1), (36, .aload_n 0, 1), (37, .getfield 18, 3), (40, .aload_n 0, 1), (41, .getfield 35, 3), (44, .aload_n 0, 1), (45, .getfield 56, 3), (48, .iastore, 1), (49, .aload_n 0, 1), (50, .getfield 21, 3), (53, .aload_n 0, 1), (54, .getfield 35, 3), (57, .aload_n 0, 1), (58, .getfield 59, 3), (61, .lastore, 1), (62, .aload_n 0, 1), (63, .getfield 25, 3), (66, .aload_n 0, 1), (67, .getfield 35, 3), (70, .aload_n 0, 1), (71, .getfield 63, 3), (74, .lastore, 1), (75, .aload_n 0, 1), (76, .dup, 1), (77, .getfield 35, 3), (80, .iconst 1, 1), (81, .iadd, 1), (82, .putfield 35, 3), (85, .return_, 1)]
theorem yz_X9_keepChosen_ok : ∀ q ∈ yz_X9_keepChosen, decode cX9_keepChosen q.1 = .ok q.2 := by decide +kernel
theorem yd_yX9_keepChosen : yX9_keepChosen.cls = RX9 ∧ yX9_keepChosen.cls ≠ "java/lang/invoke/MethodHandle" ∧ yX9_keepChosen.cls ≠ "java/lang/invoke/VarHandle" ∧ (parseMethodDescriptor yX9_keepChosen.desc).map (fun d => d.parameters.length) = some 0 := by decide +kernel
def yz_X9_make : List (Nat × (Instr × Nat)) := [(0, .aload_n 0, 1), (1, .aload_n 1, 1), (2, .getfield 66, 3), (5, .putfield 31, 3), (8, .iconst 0, 1), (9, .istore_n 3, 1), (10, .iload_n 3, 1), (11, .aload_n 0, 1), (12, .getfield 31, 3), (15, .if_icmp .ge 22, 3), (18, .aload_n 0, 1), (19, .getfield 28, 3), (22, .iload_n 3, 1), (23, .aload_n 1, 1), (24, .getfield 69, 3), (27, .iload_n 3, 1), (28, .iaload, 1), (29, .i2l, 1), (30, .lastore, 1), (31, .iinc 3 1, 3), (34, .goto (-24), 3), (37, .aload_n 0, 1), (38, .iconst 0, 1), (39, .putfield 35, 3), (42, .aload_n 0, 1), (43, .iconst 0, 1), (44, .putfield 38, 3), (47, .iconst 0, 1), (48, .istore_n 3, 1), (49, .iload_n 3, 1), (50, .iload_n 2, 1), (51, .if_icmp .ge 21, 3), (54, .aload_n 0, 1), (55, .getfield 38, 3), (58, .ifCond .ne 14, 3), (61, .aload_n 0, 1), (62, .aload_n 1, 1), (63, .invokevirtual 72, 3), (66, .iinc 3 1, 3), (69, .goto (-20), 3), (72, .return_, 1)]
theorem yz_X9_make_ok : ∀ q ∈ yz_X9_make, decode cX9_make q.1 = .ok q.2 := by decide +kernel
theorem yd_yX9_make : yX9_make.cls = RX9 ∧ yX9_make.cls ≠ "java/lang/invoke/MethodHandle" ∧ yX9_make.cls ≠ "java/lang/invoke/VarHandle" ∧ (parseMethodDescriptor yX9_make.desc).map (fun d => d.parameters.length) = some 2 := by decide +kernel
def yz_X9_multiply : List (Nat × (Instr × Nat)) := [(0, .lconst 0, 1), (1, .lstore_n 3, 1), (2, .iconst 0, 1), (3, .istore 5, 2), (5, .iload 5, 2), (7, .bipush 40, 2), (9, .if_icmp .ge 35, 3), (12, .aload_n 0, 1), (13, .iload 5, 2), (15, .laload, 1), (16, .lload_n 1, 1), (17, .lmul, 1), (18, .lload_n 3, 1), (19, .ladd, 1), (20, .lstore 6, 2), (22, .aload_n 0, 1), (23, .iload 5, 2), (25, .lload 6, 2), (27, .ldc2_w 149, 3), (30, .land, 1), (31, .lastore, 1), (32, .lload 6, 2), (34, .bipush 16, 2), (36, .lshr, 1), (37, .lstore_n 3, 1), (38, .iinc 5 1, 3), (41, .goto (-36), 3), (44, .return_, 1)]
theorem yz_X9_multiply_ok : ∀ q ∈ yz_X9_multiply, decode cX9_multiply q.1 = .ok q.2 := by decide +kernel
theorem yd_yX9_multiply : yX9_multiply.cls ≠ "java/lang/invoke/MethodHandle" ∧ yX9_multiply.cls ≠ "java/lang/invoke/VarHandle" ∧ (parseMethodDescriptor yX9_multiply.desc).map (fun d => d.parameters.length) = some 2 := by decide +kernel
def yz_X9_offer : List (Nat × (Instr × Nat)) := [(0, .iload_n 1, 1), (1, .aload_n 0, 1), (2, .getfield 50, 3), (5, .if_icmp .ne 15, 3), (8, .iload_n 2, 1), (9, .aload_n 0, 1), (10, .getfield 53, 3), (13, .if_icmp .ge 7, 3), (16, .iconst 1, 1), (17, .goto 4, 3), (20, .iconst 0, 1), (21, .istore 6, 2), (23, .lload 4, 2), (25, .aload_n 0, 1), (26, .getfield 59, 3), (29, .lcmp, 1), (30, .ifCond .lt 18, 3), (33, .lload 4, 2), (35, .aload_n 0, 1), (36, .getfield 59, 3), (39, .lcmp, 1), (40, .ifCond .ne 29, 3), (43, .iload 6, 2), (45, .ifCond .eq 24, 3), (48, .aload_n 0, 1), (49, .iload_n 1, 1), (50, .putfield 50, 3), (53, .aload_n 0, 1), (54, .iload_n 2, 1), (55, .putfield 53, 3), (58, .aload_n 0, 1), (59, .iload_n 3, 1), (60, .putfield 56, 3), (63, .aload_n 0, 1), (64, .lload 4, 2), (66, .putfield 59, 3), (69, .return_, 1)]
theorem yz_X9_offer_ok : ∀ q ∈ yz_X9_offer, decode cX9_offer q.1 = .ok q.2 := by decide +kernel
theorem yd_yX9_offer : yX9_offer.cls = RX9 ∧ yX9_offer.cls ≠ "java/lang/invoke/MethodHandle" ∧ yX9_offer.cls ≠ "java/lang/invoke/VarHandle" ∧ (parseMethodDescriptor yX9_offer.desc).map (fun d => d.parameters.length) = some 4 := by decide +kernel
def yz_X9_playRound : List (Nat × (Instr × Nat)) := [(0, .aload_n 0, 1), (1, .aload_n 1, 1), (2, .invokevirtual 76, 3), (5, .aload_n 0, 1), (6, .getfield 59, 3), (9, .lconst 0, 1), (10, .lcmp, 1), (11, .ifCond .ne 20, 3), (14, .aload_n 0, 1), (15, .iconst 0, 1), (16, .putfield 35, 3), (19, .aload_n 0, 1), (20, .invokevirtual 79, 3), (23, .aload_n 0, 1), (24, .iconst 1, 1), (25, .putfield 38, 3), (28, .goto 44, 3), (31, .ldc2_w 82, 3), (34, .aload_n 0, 1), (35, .getfield 59, 3), (38, .lmul, 1), (39, .aload_n 0, 1), (40, .getfield 63, 3), (43, .lcmp, 1), (44, .ifCond .lt 11, 3), (47, .aload_n 0, 1), (48, .iconst 2, 1), (49, .putfield 38, 3), (52, .goto 20, 3), (55, .aload_n 0, 1), (56, .invokevirtual 79, 3), (59, .aload_n 0, 1), (60, .aload_n 1, 1), (61, .invokevirtual 84, 3), (64, .ifCond .ne 8, 3), (67, .aload_n 0, 1), (68, .iconst 3, 1), (69, .putfield 38, 3), (72, .return_, 1)]
theorem yz_X9_playRound_ok : ∀ q ∈ yz_X9_playRound, decode cX9_playRound q.1 = .ok q.2 := by decide +kernel
theorem yd_yX9_playRound : yX9_playRound.cls = RX9 ∧ yX9_playRound.cls ≠ "java/lang/invoke/MethodHandle" ∧ yX9_playRound.cls ≠ "java/lang/invoke/VarHandle" ∧ (parseMethodDescriptor yX9_playRound.desc).map (fun d => d.parameters.length) = some 1 := by decide +kernel
def yz_X9_poll : List (Nat × (Instr × Nat)) := [(0, .aload_n 0, 1), (1, .getfield 38, 3), (4, .iconst 1, 1), (5, .if_icmp .ne 43, 3), (8, .aload_n 0, 1), (9, .getfield 35, 3), (12, .iconst 1, 1), (13, .if_icmp .ne 35, 3), (16, .aload_n 0, 1), (17, .getfield 9, 3), (20, .iconst 0, 1), (21, .iaload, 1), (22, .aload_n 0, 1), (23, .getfield 15, 3), (26, .iconst 0, 1), (27, .iaload, 1), (28, .aload_n 0, 1), (29, .getfield 18, 3), (32, .iconst 0, 1), (33, .iaload, 1), (34, .iload_n 1, 1), (35, .iload_n 2, 1), (36, .invokestatic 98, 3), (39, .ifCond .eq 7, 3), (42, .iconst 1, 1), (43, .goto 4, 3), (46, .iconst 0, 1), (47, .ireturn, 1), (48, .aload_n 0, 1), (49, .getfield 44, 3), (52, .invokestatic 136, 3), (55, .aload_n 0, 1), (56, .getfield 47, 3), (59, .invokestatic 136, 3), (62, .iconst 0, 1), (63, .istore_n 3, 1), (64, .iload_n 3, 1), (65, .aload_n 0, 1), (66, .getfield 35, 3), (69, .if_icmp .ge 91, 3), (72, .aload_n 0, 1), (73, .getfield 9, 3), (76, .iload_n 3, 1), (77, .iaload, 1), (78, .aload_n 0, 1), (79, .getfield 15, 3), (82, .iload_n 3, 1), (83, .iaload, 1), (84, .aload_n 0, 1), (85, .getfield 18, 3), (88, .iload_n 3, 1), (89, .iaload, 1), (90, .iload_n 1, 1), (91, .iload_n 2, 1), (92, .invokestatic 98, 3), (95, .istore 4, 2), (97, .iload 4, 2), (99, .ifCond .eq 10, 3), (102, .aload_n 0, 1), (103, .getfield 44, 3), (106, .goto 7, 3), (109, .aload_n 0, 1), (110, .getfield 47, 3), (113, .aload_n 0, 1), (114, .getfield 25, 3), (117, .iload_n 3, 1), (118, .laload, 1), (119, .aload_n 0, 1), (120, .getfield 21, 3), (123, .iload_n 3, 1), (124, .laload, 1), (125, .lsub, 1), (126, .invokestatic 140, 3), (129, .iload 4, 2), (131, .ifCond .eq 10, 3), (134, .aload_n 0, 1), (135, .getfield 47, 3), (138, .goto 7, 3), (141, .aload_n 0, 1), (142, .getfield 44, 3), (145, .aload_n 0, 1), (146, .getfield 21, 3), (149, .iload_n 3, 1), (150, .laload, 1), (151, .invokestatic 140, 3), (154, .iinc 3 1, 3), (157, .goto (-93), 3), (160, .bipush 39, 2), (162, .istore_n 3, 1), (163, .iload_n 3, 1), (164, .ifCond .lt 47, 3), (167, .aload_n 0, 1), (168, .getfield 44, 3), (171, .iload_n 3, 1), (172, .laload, 1), (173, .aload_n 0, 1), (174, .getfield 47, 3), (177, .iload_n 3, 1), (178, .laload, 1), (179, .lcmp, 1), (180, .ifCond .eq 25, 3), (183, .aload_n 0, 1), (184, .getfield 44, 3), (187, .iload_n 3, 1), (188, .laload, 1), (189, .aload_n 0, 1), (190, .getfield 47, 3), (193, .iload_n 3, 1), (194, .laload, 1), (195, .lcmp, 1), (196, .ifCond .le 7, 3), (199, .iconst 1, 1), (200, .goto 4, 3), (203, .iconst 0, 1), (204, .ireturn, 1), (205, .iinc 3 (-1), 3), (208, .goto (-45), 3), (211, .iconst 2, 1), (212, .ireturn, 1)]
theorem yz_X9_poll_ok : ∀ q ∈ yz_X9_poll, decode cX9_poll q.1 = .ok q.2 := by decide +kernel
theorem yd_yX9_poll : yX9_poll.cls = RX9 ∧ yX9_poll.cls ≠ "java/lang/invoke/MethodHandle" ∧ yX9_poll.cls ≠ "java/lang/invoke/VarHandle" ∧ (parseMethodDescriptor yX9_poll.desc).map (fun d => d.parameters.length) = some 2 := by decide +kernel
def yz_X9_reweigh : List (Nat × (Instr × Nat)) := [(0, .aload_n 0, 1), (1, .getfield 59, 3), (4, .aload_n 0, 1), (5, .getfield 63, 3), (8, .aload_n 0, 1), (9, .getfield 59, 3), (12, .lsub, 1), (13, .invokestatic 113, 3), (16, .lstore_n 2, 1), (17, .aload_n 0, 1), (18, .getfield 63, 3), (21, .aload_n 0, 1), (22, .getfield 59, 3), (25, .lsub, 1), (26, .lload_n 2, 1), (27, .ldiv, 1), (28, .lstore 4, 2), (30, .aload_n 0, 1), (31, .getfield 59, 3), (34, .lload_n 2, 1), (35, .ldiv, 1), (36, .lstore 6, 2), (38, .aload_n 0, 1), (39, .aload_n 1, 1), (40, .iconst 1, 1), (41, .invokevirtual 124, 3), (44, .lstore 8, 2), (46, .aload_n 0, 1), (47, .aload_n 1, 1), (48, .iconst 0, 1), (49, .invokevirtual 124, 3), (52, .lstore 10, 2), (54, .lload 8, 2), (56, .lload 10, 2), (58, .invokestatic 113, 3), (61, .lstore 12, 2), (63, .lload 8, 2), (65, .lload 12, 2), (67, .ldiv, 1), (68, .lload 6, 2), (70, .invokestatic 113, 3), (73, .lstore 14, 2), (75, .lload 10, 2), (77, .lload 12, 2), (79, .ldiv, 1), (80, .lload 4, 2), (82, .invokestatic 113, 3), (85, .lstore 16, 2), (87, .iconst 0, 1), (88, .istore 18, 2), (90, .iload 18, 2), (92, .aload_n 0, 1), (93, .getfield 31, 3), (96, .if_icmp .ge 96, 3), (99, .aload_n 0, 1), (100, .aload_n 1, 1), (101, .iload 18, 2), (103, .invokevirtual 109, 3), (106, .istore 19, 2), (108, .aload_n 0, 1), (109, .getfield 28, 3), (112, .iload 18, 2), (114, .laload, 1), (115, .lload 12, 2), (117, .ldiv, 1), (118, .iload 19, 2), (120, .ifCond .eq 8, 3), (123, .lload 14, 2), (125, .goto 5, 3), (128, .lload 16, 2), (130, .ldiv, 1), (131, .lstore 20, 2), (133, .iload 19, 2), (135, .ifCond .eq 11, 3), (138, .lload 4, 2), (140, .lload 16, 2), (142, .ldiv, 1), (143, .goto 8, 3), (146, .lload 6, 2), (148, .lload 14, 2), (150, .ldiv, 1), (151, .lstore 22, 2), (153, .lload 20, 2), (155, .lconst 1, 1), (156, .lcmp, 1), (157, .ifCond .lt 15, 3), (160, .lload 22, 2), (162, .ldc2_w 128, 3), (165, .lload 20, 2), (167, .ldiv, 1), (168, .lcmp, 1), (169, .ifCond .le 5, 3), (172, .iconst 0, 1), (173, .ireturn, 1), (174, .aload_n 0, 1), (175, .getfield 41, 3), (178, .iload 18, 2), (180, .lload 20, 2), (182, .lload 22, 2), (184, .lmul, 1), (185, .lastore, 1), (186, .iinc 18 1, 3), (189, .goto (-99), 3), (192, .aload_n 0, 1), (193, .getfield 41, 3), (196, .iconst 0, 1), (197, .aload_n 0, 1), (198, .getfield 28, 3), (201, .iconst 0, 1), (202, .aload_n 0, 1), (203, .getfield 31, 3), (206, .invokestatic 130, 3), (209, .iconst 1, 1), (210, .ireturn, 1)]
theorem yz_X9_reweigh_ok : ∀ q ∈ yz_X9_reweigh, decode cX9_reweigh q.1 = .ok q.2 := by decide +kernel
theorem yd_yX9_reweigh : yX9_reweigh.cls = RX9 ∧ yX9_reweigh.cls ≠ "java/lang/invoke/MethodHandle" ∧ yX9_reweigh.cls ≠ "java/lang/invoke/VarHandle" ∧ (parseMethodDescriptor yX9_reweigh.desc).map (fun d => d.parameters.length) = some 1 := by decide +kernel
def yz_X9_saysYes : List (Nat × (Instr × Nat)) := [(0, .iload_n 0, 1), (1, .ifCond .ne 7, 3), (4, .iload_n 3, 1), (5, .goto 5, 3), (8, .iload 4, 2), (10, .iload_n 1, 1), (11, .if_icmp .le 7, 3), (14, .iconst 1, 1), (15, .goto 4, 3), (18, .iconst 0, 1), (19, .istore 5, 2), (21, .iload 5, 2), (23, .iload_n 2, 1), (24, .ifCond .ne 7, 3), (27, .iconst 1, 1), (28, .goto 4, 3), (31, .iconst 0, 1), (32, .if_icmp .ne 7, 3), (35, .iconst 1, 1), (36, .goto 4, 3), (39, .iconst 0, 1), (40, .ireturn, 1)]
theorem yz_X9_saysYes_ok : ∀ q ∈ yz_X9_saysYes, decode cX9_saysYes q.1 = .ok q.2 := by decide +kernel
theorem yd_yX9_saysYes : yX9_saysYes.cls ≠ "java/lang/invoke/MethodHandle" ∧ yX9_saysYes.cls ≠ "java/lang/invoke/VarHandle" ∧ (parseMethodDescriptor yX9_saysYes.desc).map (fun d => d.parameters.length) = some 5 := by decide +kernel
def yz_X9_setToOne : List (Nat × (Instr × Nat)) := [(0, .aload_n 0, 1), (1, .lconst 0, 1), (2, .invokestatic 144, 3), (5, .aload_n 0, 1), (6, .iconst 0, 1), (7, .lconst 1, 1), (8, .lastore, 1), (9, .return_, 1)]
theorem yz_X9_setToOne_ok : ∀ q ∈ yz_X9_setToOne, decode cX9_setToOne q.1 = .ok q.2 := by decide +kernel
theorem yd_yX9_setToOne : yX9_setToOne.cls ≠ "java/lang/invoke/MethodHandle" ∧ yX9_setToOne.cls ≠ "java/lang/invoke/VarHandle" ∧ (parseMethodDescriptor yX9_setToOne.desc).map (fun d => d.parameters.length) = some 1 := by decide +kernel
def yz_X9_weigh : List (Nat × (Instr × Nat)) := [(0, .lconst 0, 1), (1, .lstore 4, 2), (3, .iconst 0, 1), (4, .istore 6, 2), (6, .iload 6, 2), (8, .aload_n 0, 1), (9, .getfield 31, 3), (12, .if_icmp .ge 60, 3), (15, .iload_n 2, 1), (16, .iload_n 3, 1), (17, .iconst 0, 1), (18, .aload_n 1, 1), (19, .getfield 92, 3), (22, .iload 6, 2), (24, .iaload, 1), (25, .aload_n 1, 1), (26, .getfield 95, 3), (29, .iload 6, 2), (31, .iaload, 1), (32, .invokestatic 98, 3), (35, .aload_n 1, 1), (36, .getfield 102, 3), (39, .iload 6, 2), (41, .iaload, 1), (42, .iconst 1, 1), (43, .if_icmp .ne 7, 3), (46, .iconst 1, 1), (47, .goto 4, 3), (50, .iconst 0, 1), (51, .if_icmp .eq 15, 3), (54, .lload 4, 2), (56, .aload_n 0, 1), (57, .getfield 28, 3), (60, .iload 6, 2), (62, .laload, 1), (63, .ladd, 1), (64, .lstore 4, 2), (66, .iinc 6 1, 3), (69, .goto (-63), 3), (72, .aload_n 0, 1), (73, .iload_n 2, 1), (74, .iload_n 3, 1), (75, .iconst 0, 1), (76, .lload 4, 2), (78, .invokevirtual 105, 3), (81, .aload_n 0, 1), (82, .iload_n 2, 1), (83, .iload_n 3, 1), (84, .iconst 1, 1), (85, .aload_n 0, 1), (86, .getfield 63, 3), (89, .lload 4, 2), (91, .lsub, 1), (92, .invokevirtual 105, 3), (95, .return_, 1)]
theorem yz_X9_weigh_ok : ∀ q ∈ yz_X9_weigh, decode cX9_weigh q.1 = .ok q.2 := by decide +kernel
theorem yd_yX9_weigh : yX9_weigh.cls = RX9 ∧ yX9_weigh.cls ≠ "java/lang/invoke/MethodHandle" ∧ yX9_weigh.cls ≠ "java/lang/invoke/VarHandle" ∧ (parseMethodDescriptor yX9_weigh.desc).map (fun d => d.parameters.length) = some 3 := by decide +kernel
def yz_X10_find : List (Nat × (Instr × Nat)) := [(0, .aload_n 0, 1), (1, .getfield 36, 3), (4, .aload_n 1, 1), (5, .getfield 51, 3), (8, .if_icmp .ne 4, 3), (11, .return_, 1), (12, .aload_n 0, 1), (13, .aload_n 1, 1), (14, .getfield 51, 3), (17, .putfield 36, 3), (20, .aload_n 0, 1), (21, .iconst 0, 1), (22, .putfield 18, 3), (25, .aload_n 1, 1), (26, .invokevirtual 56, 3), (29, .ifCond .ne 4, 3), (32, .return_, 1), (33, .iconst 0, 1), (34, .istore_n 2, 1), (35, .iload_n 2, 1), (36, .aload_n 1, 1), (37, .getfield 60, 3), (40, .if_icmp .ge 34, 3), (43, .iload_n 2, 1), (44, .iconst 1, 1), (45, .iadd, 1), (46, .istore_n 3, 1), (47, .iload_n 3, 1), (48, .aload_n 1, 1), (49, .getfield 60, 3), (52, .if_icmp .ge 16, 3), (55, .aload_n 0, 1), (56, .aload_n 1, 1), (57, .iload_n 2, 1), (58, .iload_n 3, 1), (59, .invokevirtual 63, 3), (62, .iinc 3 1, 3), (65, .goto (-18), 3), (68, .iinc 2 1, 3), (71, .goto (-36), 3), (74, .aload_n 0, 1), (75, .getfield 18, 3), (78, .ifCond .eq 8, 3), (81, .aload_n 0, 1), (82, .aload_n 1, 1), (83, .invokevirtual 67, 3), (86, .return_, 1)]
theorem yz_X10_find_ok : ∀ q ∈ yz_X10_find, decode cX10_find q.1 = .ok q.2 := by decide +kernel
theorem yd_yX10_find : yX10_find.cls = RX10 ∧ yX10_find.cls ≠ "java/lang/invoke/MethodHandle" ∧ yX10_find.cls ≠ "java/lang/invoke/VarHandle" ∧ (parseMethodDescriptor yX10_find.desc).map (fun d => d.parameters.length) = some 1 := by decide +kernel
def yz_X10_finish : List (Nat × (Instr × Nat)) := [(0, .aload_n 0, 1), (1, .getfield 45, 3), (4, .aload_n 0, 1), (5, .getfield 48, 3), (8, .isub, 1), (9, .i2l, 1), (10, .lstore_n 2, 1), (11, .aload_n 0, 1), (12, .getfield 12, 3), (15, .lload_n 2, 1), (16, .lload_n 2, 1), (17, .lmul, 1), (18, .aload_n 0, 1), (19, .getfield 39, 3), (22, .i2l, 1), (23, .aload_n 0, 1), (24, .getfield 42, 3), (27, .i2l, 1), (28, .invokestatic 103, 3), (31, .invokevirtual 107, 3), (34, .aload_n 0, 1), (35, .getfield 45, 3), (38, .aload_n 0, 1), (39, .getfield 48, 3), (42, .iadd, 1), (43, .i2l, 1), (44, .lstore 4, 2), (46, .ldc2_w 111, 3), (49, .aload_n 0, 1), (50, .getfield 39, 3), (53, .i2l, 1), (54, .lmul, 1), (55, .ldc2_w 111, 3), (58, .aload_n 0, 1), (59, .getfield 42, 3), (62, .i2l, 1), (63, .lmul, 1), (64, .invokestatic 113, 3), (67, .lload 4, 2), (69, .invokestatic 113, 3), (72, .lstore 6, 2), (74, .aload_n 0, 1), (75, .ldc2_w 111, 3), (78, .aload_n 0, 1), (79, .getfield 39, 3), (82, .i2l, 1), (83, .lmul, 1), (84, .lload 6, 2), (86, .ldiv, 1), (87, .putfield 22, 3), (90, .aload_n 0, 1), (91, .ldc2_w 111, 3), (94, .aload_n 0, 1), (95, .getfield 42, 3), (98, .i2l, 1), (99, .lmul, 1), (100, .lload 6, 2), (102, .ldiv, 1), (103, .putfield 26, 3), (106, .aload_n 0, 1), (107, .lload 4, 2), (109, .lload 6, 2), (111, .ldiv, 1), (112, .putfield 29, 3), (115, .aload_n 0, 1), (116, .iconst 0, 1), (117, .putfield 32, 3), (120, .iconst 0, 1), (121, .istore 8, 2), (123, .iload 8, 2), (125, .aload_n 1, 1), (126, .getfield 60, 3), (129, .if_icmp .ge 29, 3), (132, .aload_n 0, 1), (133, .aload_n 1, 1), (134, .iload 8, 2), (136, .invokevirtual 116, 3), (139, .ifCond .eq 13, 3), (142, .aload_n 0, 1), (143, .dup, 1), (144, .getfield 32, 3), (147, .iconst 1, 1), (148, .iadd, 1), (149, .putfield 32, 3), (152, .iinc 8 1, 3), (155, .goto (-32), 3), (158, .return_, 1)]
theorem yz_X10_finish_ok : ∀ q ∈ yz_X10_finish, decode cX10_finish q.1 = .ok q.2 := by decide +kernel
theorem yd_yX10_finish : yX10_finish.cls = RX10 ∧ yX10_finish.cls ≠ "java/lang/invoke/MethodHandle" ∧ yX10_finish.cls ≠ "java/lang/invoke/VarHandle" ∧ (parseMethodDescriptor yX10_finish.desc).map (fun d => d.parameters.length) = some 1 := by decide +kernel
def yz_X10_isAtSide : List (Nat × (Instr × Nat)) := [(0, .aload_n 0, 1), (1, .getfield 39, 3), (4, .aload_n 1, 1), (5, .getfield 71, 3), (8, .iload_n 2, 1), (9, .iaload, 1), (10, .imul, 1), (11, .aload_n 0, 1), (12, .getfield 42, 3), (15, .aload_n 1, 1), (16, .getfield 75, 3), (19, .iload_n 2, 1), (20, .iaload, 1), (21, .imul, 1), (22, .iadd, 1), (23, .istore_n 3, 1), (24, .iload_n 3, 1), (25, .aload_n 0, 1), (26, .getfield 45, 3), (29, .if_icmp .eq 11, 3), (32, .iload_n 3, 1), (33, .aload_n 0, 1), (34, .getfield 48, 3), (37, .if_icmp .ne 7, 3), (40, .iconst 1, 1), (41, .goto 4, 3), (44, .iconst 0, 1), (45, .ireturn, 1)]
theorem yz_X10_isAtSide_ok : ∀ q ∈ yz_X10_isAtSide, decode cX10_isAtSide q.1 = .ok q.2 := by decide +kernel
theorem yd_yX10_isAtSide : yX10_isAtSide.cls = RX10 ∧ yX10_isAtSide.cls ≠ "java/lang/invoke/MethodHandle" ∧ yX10_isAtSide.cls ≠ "java/lang/invoke/VarHandle" ∧ (parseMethodDescriptor yX10_isAtSide.desc).map (fun d => d.parameters.length) = some 2 := by decide +kernel
def yz_X10_isWider : List (Nat × (Instr × Nat)) := [(0, .aload_n 0, 1), (1, .getfield 45, 3), (4, .aload_n 0, 1), (5, .getfield 48, 3), (8, .isub, 1), (9, .i2l, 1), (10, .lstore 5, 2), (12, .lload_n 1, 1), (13, .lload_n 1, 1), (14, .lmul, 1), (15, .aload_n 0, 1), (16, .getfield 39, 3), (19, .i2l, 1), (20, .aload_n 0, 1), (21, .getfield 42, 3), (24, .i2l, 1), (25, .invokestatic 103, 3), (28, .lmul, 1), (29, .lload 5, 2), (31, .lload 5, 2), (33, .lmul, 1), (34, .iload_n 3, 1), (35, .i2l, 1), (36, .iload 4, 2), (38, .i2l, 1), (39, .invokestatic 103, 3), (42, .lmul, 1), (43, .lcmp, 1), (44, .ifCond .le 7, 3), (47, .iconst 1, 1), (48, .goto 4, 3), (51, .iconst 0, 1), (52, .ireturn, 1)]
theorem yz_X10_isWider_ok : ∀ q ∈ yz_X10_isWider, decode cX10_isWider q.1 = .ok q.2 := by decide +kernel
theorem yd_yX10_isWider : yX10_isWider.cls = RX10 ∧ yX10_isWider.cls ≠ "java/lang/invoke/MethodHandle" ∧ yX10_isWider.cls ≠ "java/lang/invoke/VarHandle" ∧ (parseMethodDescriptor yX10_isWider.desc).map (fun d => d.parameters.length) = some 3 := by decide +kernel
def yz_X10_squareSum : List (Nat × (Instr × Nat)) := [(0, .lload_n 0, 1), (1, .lload_n 0, 1), (2, .lmul, 1), (3, .lload_n 2, 1), (4, .lload_n 2, 1), (5, .lmul, 1), (6, .ladd, 1), (7, .lreturn, 1)]
theorem yz_X10_squareSum_ok : ∀ q ∈ yz_X10_squareSum, decode cX10_squareSum q.1 = .ok q.2 := by decide +kernel
theorem yd_yX10_squareSum : yX10_squareSum.cls ≠ "java/lang/invoke/MethodHandle" ∧ yX10_squareSum.cls ≠ "java/lang/invoke/VarHandle" ∧ (parseMethodDescriptor yX10_squareSum.desc).map (fun d => d.parameters.length) = some 2 := by decide +kernel
def yz_X10_tryAcross : List (Nat × (Instr × Nat)) := [(0, .ldc 88, 2), (2, .istore 4, 2), (4, .ldc 89, 2), (6, .istore 5, 2), (8, .iconst 0, 1), (9, .istore 6, 2), (11, .iload 6, 2), (13, .aload_n 1, 1), (14, .getfield 60, 3), (17, .if_icmp .ge 70, 3), (20, .iload_n 2, 1), (21, .aload_n 1, 1), (22, .getfield 71, 3), (25, .iload 6, 2), (27, .iaload, 1), (28, .imul, 1), (29, .iload_n 3, 1), (30, .aload_n 1, 1), (31, .getfield 75, 3), (34, .iload 6, 2), (36, .iaload, 1), (37, .imul, 1), (38, .iadd, 1), (39, .istore 7, 2), (41, .aload_n 1, 1), (42, .getfield 82, 3), (45, .iload 6, 2), (47, .iaload, 1), (48, .iconst 1, 1), (49, .if_icmp .ne 15, 3), (52, .iload 4, 2), (54, .iload 7, 2), (56, .invokestatic 90, 3), (59, .istore 4, 2), (61, .goto 12, 3), (64, .iload 5, 2), (66, .iload 7, 2), (68, .invokestatic 96, 3), (71, .istore 5, 2), (73, .iload 5, 2), (75, .iload 4, 2), (77, .if_icmp .lt 4, 3), (80, .return_, 1), (81, .iinc 6 1, 3), (84, .goto (-73), 3), (87, .aload_n 0, 1), (88, .getfield 18, 3), (91, .ifCond .eq 18, 3), (94, .aload_n 0, 1), (95, .iload 4, 2), (97, .iload 5, 2), (99, .isub, 1), (100, .i2l, 1), (101, .iload_n 2, 1), (102, .iload_n 3, 1), (103, .invokevirtual 99, 3), (106, .ifCond .eq 30, 3), (109, .aload_n 0, 1), (110, .iconst 1, 1), (111, .putfield 18, 3), (114, .aload_n 0, 1), (115, .iload_n 2, 1), (116, .putfield 39, 3), (119, .aload_n 0, 1), (120, .iload_n 3, 1), (121, .putfield 42, 3), (124, .aload_n 0, 1), (125, .iload 4, 2), (127, .putfield 45, 3), (130, .aload_n 0, 1), (131, .iload 5, 2), (133, .putfield 48, 3), (136, .return_, 1)]
theorem yz_X10_tryAcross_ok : ∀ q ∈ yz_X10_tryAcross, decode cX10_tryAcross q.1 = .ok q.2 := by decide +kernel
theorem yd_yX10_tryAcross : yX10_tryAcross.cls = RX10 ∧ yX10_tryAcross.cls ≠ "java/lang/invoke/MethodHandle" ∧ yX10_tryAcross.cls ≠ "java/lang/invoke/VarHandle" ∧ (parseMethodDescriptor yX10_tryAcross.desc).map (fun d => d.parameters.length) = some 3 := by decide +kernel
def yz_X10_tryPair : List (Nat × (Instr × Nat)) := [(0, .aload_n 1, 1), (1, .iload_n 2, 1), (2, .iload_n 3, 1), (3, .invokevirtual 78, 3), (6, .ifCond .eq 4, 3), (9, .return_, 1), (10, .aload_n 1, 1), (11, .getfield 71, 3), (14, .iload_n 3, 1), (15, .iaload, 1), (16, .aload_n 1, 1), (17, .getfield 71, 3), (20, .iload_n 2, 1), (21, .iaload, 1), (22, .isub, 1), (23, .istore 4, 2), (25, .aload_n 1, 1), (26, .getfield 75, 3), (29, .iload_n 3, 1), (30, .iaload, 1), (31, .aload_n 1, 1), (32, .getfield 75, 3), (35, .iload_n 2, 1), (36, .iaload, 1), (37, .isub, 1), (38, .istore 5, 2), (40, .aload_n 1, 1), (41, .getfield 82, 3), (44, .iload_n 2, 1), (45, .iaload, 1), (46, .aload_n 1, 1), (47, .getfield 82, 3), (50, .iload_n 3, 1), (51, .iaload, 1), (52, .if_icmp .ne 26, 3), (55, .aload_n 0, 1), (56, .aload_n 1, 1), (57, .iload 5, 2), (59, .ineg, 1), (60, .iload 4, 2), (62, .invokevirtual 85, 3), (65, .aload_n 0, 1), (66, .aload_n 1, 1), (67, .iload 5, 2), (69, .iload 4, 2), (71, .ineg, 1), (72, .invokevirtual 85, 3), (75, .goto 36, 3), (78, .aload_n 1, 1), (79, .getfield 82, 3), (82, .iload_n 3, 1), (83, .iaload, 1), (84, .iconst 1, 1), (85, .if_icmp .ne 15, 3), (88, .aload_n 0, 1), (89, .aload_n 1, 1), (90, .iload 4, 2), (92, .iload 5, 2), (94, .invokevirtual 85, 3), (97, .goto 14, 3), (100, .aload_n 0, 1), (101, .aload_n 1, 1), (102, .iload 4, 2), (104, .ineg, 1), (105, .iload 5, 2), (107, .ineg, 1), (108, .invokevirtual 85, 3), (111, .return_, 1)]
theorem yz_X10_tryPair_ok : ∀ q ∈ yz_X10_tryPair, decode cX10_tryPair q.1 = .ok q.2 := by decide +kernel
theorem yd_yX10_tryPair : yX10_tryPair.cls = RX10 ∧ yX10_tryPair.cls ≠ "java/lang/invoke/MethodHandle" ∧ yX10_tryPair.cls ≠ "java/lang/invoke/VarHandle" ∧ (parseMethodDescriptor yX10_tryPair.desc).map (fun d => d.parameters.length) = some 3 := by decide +kernel
def yz_X12_add : List (Nat × (Instr × Nat)) := [(0, .aload_n 0, 1), (1, .getfield 7, 3), (4, .aload_n 0, 1), (5, .getfield 130, 3), (8, .iload_n 1, 1), (9, .iastore, 1), (10, .aload_n 0, 1), (11, .getfield 13, 3), (14, .aload_n 0, 1), (15, .getfield 130, 3), (18, .iload_n 2, 1), (19, .iastore, 1), (20, .aload_n 0, 1), (21, .getfield 16, 3), (24, .aload_n 0, 1), (25, .getfield 130, 3), (28, .iload_n 3, 1), (29, .iastore, 1), (30, .aload_n 0, 1), (31, .getfield 19, 3), (34, .aload_n 0, 1), (35, .getfield 130, 3), (38, .iconst 1, 1), (39, .iastore, 1), (40, .aload_n 0, 1), (41, .dup, 1), (42, .getfield 130, 3), (45, .iconst 1, 1), (46, .iadd, 1), (47, .putfield 130, 3), (50, .return_, 1)]
theorem yz_X12_add_ok : ∀ q ∈ yz_X12_add, decode cX12_add q.1 = .ok q.2 := by decide +kernel
theorem yd_yX12_add : yX12_add.cls = RX12 ∧ yX12_add.cls ≠ "java/lang/invoke/MethodHandle" ∧ yX12_add.cls ≠ "java/lang/invoke/VarHandle" ∧ (parseMethodDescriptor yX12_add.desc).map (fun d => d.parameters.length) = some 3 := by decide +kernel
def yz_X12_anew : List (Nat × (Instr × Nat)) := [(0, .aload_n 0, 1), (1, .iconst 0, 1), (2, .putfield 124, 3), (5, .aload_n 0, 1), (6, .lconst 0, 1), (7, .putfield 345, 3), (10, .aload_n 0, 1), (11, .lconst 0, 1), (12, .putfield 348, 3), (15, .aload_n 0, 1), (16, .lconst 0, 1), (17, .putfield 351, 3), (20, .aload_n 0, 1), (21, .lconst 0, 1), (22, .putfield 357, 3), (25, .aload_n 0, 1), (26, .lconst 0, 1), (27, .putfield 354, 3), (30, .iconst 0, 1), (31, .ireturn, 1)]
theorem yz_X12_anew_ok : ∀ q ∈ yz_X12_anew, decode cX12_anew q.1 = .ok q.2 := by decide +kernel
theorem yd_yX12_anew : yX12_anew.cls = RX12 ∧ yX12_anew.cls ≠ "java/lang/invoke/MethodHandle" ∧ yX12_anew.cls ≠ "java/lang/invoke/VarHandle" ∧ (parseMethodDescriptor yX12_anew.desc).map (fun d => d.parameters.length) = some 0 := by decide +kernel
def yz_X12_area : List (Nat × (Instr × Nat)) := [(0, .aload_n 0, 1), (1, .getfield 7, 3), (4, .iload_n 2, 1), (5, .iaload, 1), (6, .aload_n 0, 1), (7, .getfield 7, 3), (10, .iload_n 1, 1), (11, .iaload, 1), (12, .isub, 1), (13, .i2l, 1), (14, .aload_n 0, 1), (15, .getfield 13, 3), (18, .iload_n 2, 1), (19, .iaload, 1), (20, .aload_n 0, 1), (21, .getfield 13, 3), (24, .iload_n 1, 1), (25, .iaload, 1), (26, .isub, 1), (27, .i2l, 1), (28, .aload_n 0, 1), (29, .getfield 7, 3), (32, .iload_n 3, 1), (33, .iaload, 1), (34, .aload_n 0, 1), (35, .getfield 7, 3), (38, .iload_n 1, 1), (39, .iaload, 1), (40, .isub, 1), (41, .i2l, 1), (42, .aload_n 0, 1), (43, .getfield 13, 3), (46, .iload_n 3, 1), (47, .iaload, 1), (48, .aload_n 0, 1), (49, .getfield 13, 3), (52, .iload_n 1, 1), (53, .iaload, 1), (54, .isub, 1), (55, .i2l, 1), (56, .invokestatic 170, 3), (59, .lreturn, 1)]
theorem yz_X12_area_ok : ∀ q ∈ yz_X12_area, decode cX12_area q.1 = .ok q.2 := by decide +kernel
theorem yd_yX12_area : yX12_area.cls = RX12 ∧ yX12_area.cls ≠ "java/lang/invoke/MethodHandle" ∧ yX12_area.cls ≠ "java/lang/invoke/VarHandle" ∧ (parseMethodDescriptor yX12_area.desc).map (fun d => d.parameters.length) = some 3 := by decide +kernel
def yz_X12_back : List (Nat × (Instr × Nat)) := [(0, .aload_n 0, 1), (1, .iconst 0, 1), (2, .putfield 124, 3), (5, .iload_n 1, 1), (6, .i2l, 1), (7, .lconst 0, 1), (8, .ldc2_w 168, 3), (11, .invokestatic 133, 3), (14, .ifCond .ne 9, 3), (17, .aload_n 0, 1), (18, .iconst (-1), 1), (19, .invokevirtual 141, 3), (22, .ireturn, 1), (23, .aload_n 0, 1), (24, .getfield 106, 3), (27, .iload_n 1, 1), (28, .baload, 1), (29, .ifCond .ne 10, 3), (32, .aload_n 0, 1), (33, .bipush (-6), 2), (35, .invokevirtual 141, 3), (38, .ireturn, 1), (39, .aload_n 0, 1), (40, .aload_n 0, 1), (41, .getfield 109, 3), (44, .iload_n 1, 1), (45, .iaload, 1), (46, .putfield 130, 3), (49, .iconst 0, 1), (50, .istore_n 2, 1), (51, .iload_n 2, 1), (52, .aload_n 0, 1), (53, .getfield 130, 3), (56, .if_icmp .ge 95, 3), (59, .aload_n 0, 1), (60, .getfield 7, 3), (63, .iload_n 2, 1), (64, .aload_n 0, 1), (65, .getfield 112, 3), (68, .sipush 160, 3), (71, .iload_n 1, 1), (72, .imul, 1), (73, .iconst 4, 1), (74, .iload_n 2, 1), (75, .imul, 1), (76, .iadd, 1), (77, .iaload, 1), (78, .iastore, 1), (79, .aload_n 0, 1), (80, .getfield 13, 3), (83, .iload_n 2, 1), (84, .aload_n 0, 1), (85, .getfield 112, 3), (88, .sipush 160, 3), (91, .iload_n 1, 1), (92, .imul, 1), (93, .iconst 4, 1), (94, .iload_n 2, 1), (95, .imul, 1), (96, .iadd, 1), (97, .iconst 1, 1), (98, .iadd, 1), (99, .iaload, 1), (100, .iastore, 1), (101, .aload_n 0, 1), (102, .getfield 16, 3), (105, .iload_n 2, 1), (106, .aload_n 0, 1), (107, .getfield 112, 3), (110, .sipush 160, 3), (113, .iload_n 1, 1), (114, .imul, 1), (115, .iconst 4, 1), (116, .iload_n 2, 1), (117, .imul, 1), (118, .iadd, 1), (119, .iconst 2, 1), (120, .iadd, 1), (121, .iaload, 1), (122, .iastore, 1), (123, .aload_n 0, 1), (124, .getfield 19, 3), (127, .iload_n 2, 1), (128, .aload_n 0, 1), (129, .getfield 112, 3), (132, .sipush 160, 3), (135, .iload_n 1, 1), (136, .imul, 1), (137, .iconst 4, 1), (138, .iload_n 2, 1), (139, .imul, 1), (140, .iadd, 1), (141, .iconst 3, 1), (142, .iadd, 1), (143, .iaload, 1), (144, .iastore, 1), (145, .iinc 2 1, 3), (148, .goto (-97), 3), (151, .aload_n 0, 1), (152, .aload_n 0, 1), (153, .getfield 115, 3), (156, .iload_n 1, 1), (157, .iaload, 1), (158, .putfield 360, 3), (161, .iconst 0, 1), (162, .istore_n 2, 1), (163, .iload_n 2, 1), (164, .aload_n 0, 1), (165, .getfield 360, 3), (168, .if_icmp .ge 70, 3), (171, .aload_n 0, 1), (172, .getfield 54, 3), (175, .iload_n 2, 1), (176, .aload_n 0, 1), (177, .getfield 118, 3), (180, .bipush 36, 2), (182, .iload_n 1, 1), (183, .imul, 1), (184, .iconst 3, 1), (185, .iload_n 2, 1), (186, .imul, 1), (187, .iadd, 1), (188, .iaload, 1), (189, .iastore, 1), (190, .aload_n 0, 1), (191, .getfield 57, 3), (194, .iload_n 2, 1), (195, .aload_n 0, 1), (196, .getfield 118, 3), (199, .bipush 36, 2), (201, .iload_n 1, 1), (202, .imul, 1), (203, .iconst 3, 1), (204, .iload_n 2, 1), (205, .imul, 1), (206, .iadd, 1), (207, .iconst 1, 1), (208, .iadd, 1), (209, .iaload, 1), (210, .iastore, 1), (211, .aload_n 0, 1), (212, .getfield 60, 3), (215, .iload_n 2, 1), (216, .aload_n 0, 1), (217, .getfield 118, 3), (220, .bipush 36, 2), (222, .iload_n 1, 1), (223, .imul, 1), (224, .iconst 3, 1), (225, .iload_n 2, 1), (226, .imul, 1), (227, .iadd, 1), (228, .iconst 2, 1), (229, .iadd, 1), (230, .iaload, 1), (231, .iastore, 1), (232, .iinc 2 1, 3), (235, .goto (-72), 3), (238, .aload_n 0, 1), (239, .aload_n 0, 1), (240, .getfield 121, 3), (243, .iconst 5, 1), (244, .iload_n 1, 1), (245, .imul, 1), (246, .laload, 1), (247, .putfield 345, 3), (250, .aload_n 0, 1), (251, .aload_n 0, 1), (252, .getfield 121, 3), (255, .iconst 5, 1), (256, .iload_n 1, 1), (257, .imul, 1), (258, .iconst 1, 1), (259, .iadd, 1), (260, .laload, 1), (261, .putfield 348, 3), (264, .aload_n 0, 1), (265, .aload_n 0, 1), (266, .getfield 121, 3), (269, .iconst 5, 1), (270, .iload_n 1, 1), (271, .imul, 1), (272, .iconst 2, 1), (273, .iadd, 1), (274, .laload, 1), (275, .putfield 351, 3), (278, .aload_n 0, 1), (279, .aload_n 0, 1), (280, .getfield 121, 3), (283, .iconst 5, 1), (284, .iload_n 1, 1), (285, .imul, 1), (286, .iconst 3, 1), (287, .iadd, 1), (288, .laload, 1), (289, .putfield 357, 3), (292, .aload_n 0, 1), (293, .aload_n 0, 1), (294, .getfield 121, 3), (297, .iconst 5, 1), (298, .iload_n 1, 1), (299, .imul, 1), (300, .iconst 4, 1), (301, .iadd, 1), (302, .laload, 1), (303, .putfield 354, 3), (306, .aload_n 0, 1), (307, .iconst 0, 1), (308, .invokevirtual 141, 3), (311, .ireturn, 1)]
theorem yz_X12_back_ok : ∀ q ∈ yz_X12_back, decode cX12_back q.1 = .ok q.2 := by decide +kernel
theorem yd_yX12_back : yX12_back.cls = RX12 ∧ yX12_back.cls ≠ "java/lang/invoke/MethodHandle" ∧ yX12_back.cls ≠ "java/lang/invoke/VarHandle" ∧ (parseMethodDescriptor yX12_back.desc).map (fun d => d.parameters.length) = some 1 := by decide +kernel
def yz_X12_best : List (Nat × (Instr × Nat)) := [(0, .aload_n 0, 1), (1, .iconst 0, 1), (2, .putfield 124, 3), (5, .aload_n 0, 1), (6, .iload_n 1, 1), (7, .invokevirtual 338, 3), (10, .ifCond .eq 13, 3), (13, .iload_n 2, 1), (14, .i2l, 1), (15, .lconst 0, 1), (16, .lconst 1, 1), (17, .invokestatic 133, 3), (20, .ifCond .ne 5, 3), (23, .iconst (-1), 1), (24, .ireturn, 1), (25, .aload_n 0, 1), (26, .iconst 1, 1), (27, .iload_n 1, 1), (28, .ishl, 1), (29, .iconst 1, 1), (30, .isub, 1), (31, .invokevirtual 341, 3), (34, .ldc_w 344, 3), (37, .istore_n 3, 1), (38, .iconst 0, 1), (39, .istore 4, 2), (41, .iconst 0, 1), (42, .istore 5, 2), (44, .iload 5, 2), (46, .iconst 1, 1), (47, .iload_n 1, 1), (48, .ishl, 1), (49, .if_icmp .ge 83, 3), (52, .iconst 0, 1), (53, .istore 6, 2), (55, .iconst 0, 1), (56, .istore 7, 2), (58, .iload 7, 2), (60, .iload_n 1, 1), (61, .if_icmp .ge 42, 3), (64, .iload 6, 2), (66, .iload 5, 2), (68, .iload 7, 2), (70, .ishr, 1), (71, .iconst 1, 1), (72, .iand, 1), (73, .aload_n 0, 1), (74, .getfield 16, 3), (77, .iload 7, 2), (79, .iaload, 1), (80, .if_icmp .ne 7, 3), (83, .iconst 0, 1), (84, .goto 10, 3), (87, .aload_n 0, 1), (88, .getfield 19, 3), (91, .iload 7, 2), (93, .iaload, 1), (94, .iadd, 1), (95, .istore 6, 2), (97, .iinc 7 1, 3), (100, .goto (-42), 3), (103, .aload_n 0, 1), (104, .getfield 44, 3), (107, .iload 5, 2), (109, .baload, 1), (110, .ifCond .eq 16, 3), (113, .iload 6, 2), (115, .iload_n 3, 1), (116, .if_icmp .ge 10, 3), (119, .iload 6, 2), (121, .istore_n 3, 1), (122, .iload 5, 2), (124, .istore 4, 2), (126, .iinc 5 1, 3), (129, .goto (-85), 3), (132, .iload_n 2, 1), (133, .ifCond .ne 7, 3), (136, .iload_n 3, 1), (137, .goto 5, 3), (140, .iload 4, 2), (142, .ireturn, 1)]
theorem yz_X12_best_ok : ∀ q ∈ yz_X12_best, decode cX12_best q.1 = .ok q.2 := by decide +kernel
theorem yd_yX12_best : yX12_best.cls = RX12 ∧ yX12_best.cls ≠ "java/lang/invoke/MethodHandle" ∧ yX12_best.cls ≠ "java/lang/invoke/VarHandle" ∧ (parseMethodDescriptor yX12_best.desc).map (fun d => d.parameters.length) = some 2 := by decide +kernel
def yz_X12_check : List (Nat × (Instr × Nat)) := [(0, .aload_n 0, 1), (1, .iconst 0, 1), (2, .putfield 124, 3), (5, .iload_n 1, 1), (6, .iload_n 2, 1), (7, .iload_n 3, 1), (8, .invokestatic 315, 3), (11, .ifCond .ne 5, 3), (14, .iconst (-1), 1), (15, .ireturn, 1), (16, .iconst 0, 1), (17, .istore 4, 2), (19, .iconst 0, 1), (20, .istore 5, 2), (22, .iload 5, 2), (24, .aload_n 0, 1), (25, .getfield 130, 3), (28, .if_icmp .ge 54, 3), (31, .iload 4, 2), (33, .iload_n 1, 1), (34, .i2l, 1), (35, .iload_n 2, 1), (36, .i2l, 1), (37, .iload_n 3, 1), (38, .i2l, 1), (39, .aload_n 0, 1), (40, .getfield 7, 3), (43, .iload 5, 2), (45, .iaload, 1), (46, .i2l, 1), (47, .aload_n 0, 1), (48, .getfield 13, 3), (51, .iload 5, 2), (53, .iaload, 1), (54, .i2l, 1), (55, .invokestatic 318, 3), (58, .aload_n 0, 1), (59, .getfield 16, 3), (62, .iload 5, 2), (64, .iaload, 1), (65, .if_icmp .ne 7, 3), (68, .iconst 0, 1), (69, .goto 4, 3), (72, .iconst 1, 1), (73, .iadd, 1), (74, .istore 4, 2), (76, .iinc 5 1, 3), (79, .goto (-57), 3), (82, .iload 4, 2), (84, .ireturn, 1)]
theorem yz_X12_check_ok : ∀ q ∈ yz_X12_check, decode cX12_check q.1 = .ok q.2 := by decide +kernel
theorem yd_yX12_check : yX12_check.cls = RX12 ∧ yX12_check.cls ≠ "java/lang/invoke/MethodHandle" ∧ yX12_check.cls ≠ "java/lang/invoke/VarHandle" ∧ (parseMethodDescriptor yX12_check.desc).map (fun d => d.parameters.length) = some 3 := by decide +kernel
def yz_X12_choose : List (Nat × (Instr × Nat)) := [(0, .aload_n 0, 1), (1, .iconst 0, 1), (2, .putfield 322, 3), (5, .iconst 0, 1), (6, .istore_n 2, 1), (7, .iload_n 2, 1), (8, .bipush 12, 2), (10, .if_icmp .ge 38, 3), (13, .iload_n 1, 1), (14, .iload_n 2, 1), (15, .ishr, 1), (16, .iconst 1, 1), (17, .iand, 1), (18, .iconst 1, 1), (19, .if_icmp .ne 23, 3), (22, .aload_n 0, 1), (23, .getfield 48, 3), (26, .aload_n 0, 1), (27, .getfield 322, 3), (30, .iload_n 2, 1), (31, .iastore, 1), (32, .aload_n 0, 1), (33, .dup, 1), (34, .getfield 322, 3), (37, .iconst 1, 1), (38, .iadd, 1), (39, .putfield 322, 3), (42, .iinc 2 1, 3), (45, .goto (-38), 3), (48, .return_, 1)]
theorem yz_X12_choose_ok : ∀ q ∈ yz_X12_choose, decode cX12_choose q.1 = .ok q.2 := by decide +kernel
theorem yd_yX12_choose : yX12_choose.cls = RX12 ∧ yX12_choose.cls ≠ "java/lang/invoke/MethodHandle" ∧ yX12_choose.cls ≠ "java/lang/invoke/VarHandle" ∧ (parseMethodDescriptor yX12_choose.desc).map (fun d => d.parameters.length) = some 1 := by decide +kernel
def yz_X12_copy : List (Nat × (Instr × Nat)) := [(0, .aload_n 0, 1), (1, .iconst 0, 1), (2, .putfield 124, 3), (5, .iload_n 1, 1), (6, .invokestatic 157, 3), (9, .ifCond .eq 15, 3), (12, .iload_n 3, 1), (13, .invokestatic 157, 3), (16, .ifCond .eq 8, 3), (19, .iload 5, 2), (21, .ifCond .ge 9, 3), (24, .aload_n 0, 1), (25, .iconst (-1), 1), (26, .invokevirtual 141, 3), (29, .ireturn, 1), (30, .aload_n 0, 1), (31, .getfield 26, 3), (34, .iload_n 1, 1), (35, .iaload, 1), (36, .ifCond .lt 12, 3), (39, .aload_n 0, 1), (40, .getfield 26, 3), (43, .iload_n 3, 1), (44, .iaload, 1), (45, .ifCond .ge 10, 3), (48, .aload_n 0, 1), (49, .bipush (-2), 2), (51, .invokevirtual 141, 3), (54, .ireturn, 1), (55, .iload_n 2, 1), (56, .i2l, 1), (57, .lconst 0, 1), (58, .aload_n 0, 1), (59, .getfield 29, 3), (62, .iload_n 1, 1), (63, .iaload, 1), (64, .i2l, 1), (65, .iload 5, 2), (67, .i2l, 1), (68, .lsub, 1), (69, .invokestatic 133, 3), (72, .ifCond .eq 24, 3), (75, .iload 4, 2), (77, .i2l, 1), (78, .lconst 0, 1), (79, .aload_n 0, 1), (80, .getfield 29, 3), (83, .iload_n 3, 1), (84, .iaload, 1), (85, .i2l, 1), (86, .iload 5, 2), (88, .i2l, 1), (89, .lsub, 1), (90, .invokestatic 133, 3), (93, .ifCond .ne 10, 3), (96, .aload_n 0, 1), (97, .bipush (-3), 2), (99, .invokevirtual 141, 3), (102, .ireturn, 1), (103, .iconst 0, 1), (104, .istore 6, 2), (106, .iload 6, 2), (108, .iload 5, 2), (110, .if_icmp .ge 30, 3), (113, .aload_n 0, 1), (114, .getfield 32, 3), (117, .iload 6, 2), (119, .aload_n 0, 1), (120, .getfield 22, 3), (123, .bipush 100, 2), (125, .iload_n 1, 1), (126, .imul, 1), (127, .iload_n 2, 1), (128, .iadd, 1), (129, .iload 6, 2), (131, .iadd, 1), (132, .laload, 1), (133, .lastore, 1), (134, .iinc 6 1, 3), (137, .goto (-31), 3), (140, .iconst 0, 1), (141, .istore 6, 2), (143, .iload 6, 2), (145, .iload 5, 2), (147, .if_icmp .ge 40, 3), (150, .aload_n 0, 1), (151, .getfield 22, 3), (154, .bipush 100, 2), (156, .iload_n 3, 1), (157, .imul, 1), (158, .iload 4, 2), (160, .iadd, 1), (161, .iload 6, 2), (163, .iadd, 1), (164, .aload_n 0, 1), (165, .getfield 26, 3), (168, .iload_n 3, 1), (169, .iaload, 1), (170, .aload_n 0, 1), (171, .getfield 32, 3), (174, .iload 6, 2), (176, .laload, 1), (177, .invokestatic 160, 3), (180, .lastore, 1), (181, .iinc 6 1, 3), (184, .goto (-41), 3), (187, .aload_n 0, 1), (188, .iload 5, 2), (190, .invokevirtual 141, 3), (193, .ireturn, 1)]
theorem yz_X12_copy_ok : ∀ q ∈ yz_X12_copy, decode cX12_copy q.1 = .ok q.2 := by decide +kernel
theorem yd_yX12_copy : yX12_copy.cls = RX12 ∧ yX12_copy.cls ≠ "java/lang/invoke/MethodHandle" ∧ yX12_copy.cls ≠ "java/lang/invoke/VarHandle" ∧ (parseMethodDescriptor yX12_copy.desc).map (fun d => d.parameters.length) = some 5 := by decide +kernel
def yz_X12_count : List (Nat × (Instr × Nat)) := [(0, .aload_n 0, 1), (1, .iconst 0, 1), (2, .putfield 124, 3), (5, .iload_n 1, 1), (6, .tableswitch 123 0 5 #[38, 43, 49, 55, 60, 89], 38), (44, .aload_n 0, 1), (45, .getfield 130, 3), (48, .ireturn, 1), (49, .aload_n 0, 1), (50, .iconst 1, 1), (51, .invokevirtual 298, 3), (54, .ireturn, 1), (55, .aload_n 0, 1), (56, .iconst 0, 1), (57, .invokevirtual 298, 3), (60, .ireturn, 1), (61, .aload_n 0, 1), (62, .getfield 360, 3), (65, .ireturn, 1), (66, .iconst 0, 1), (67, .istore_n 2, 1), (68, .iconst 0, 1), (69, .istore_n 3, 1), (70, .iload_n 3, 1), (71, .aload_n 0, 1), (72, .getfield 130, 3), (75, .if_icmp .ge 18, 3), (78, .iload_n 2, 1), (79, .aload_n 0, 1), (80, .getfield 19, 3), (83, .iload_n 3, 1), (84, .iaload, 1), (85, .iadd, 1), (86, .istore_n 2, 1), (87, .iinc 3 1, 3), (90, .goto (-20), 3), (93, .iload_n 2, 1), (94, .ireturn, 1), (95, .iconst 0, 1), (96, .istore_n 2, 1), (97, .iconst 0, 1), (98, .istore_n 3, 1), (99, .iload_n 3, 1), (100, .iconst 4, 1), (101, .if_icmp .ge 26, 3), (104, .iload_n 2, 1), (105, .aload_n 0, 1), (106, .getfield 26, 3), (109, .iload_n 3, 1), (110, .iaload, 1), (111, .ifCond .lt 7, 3), (114, .iconst 1, 1), (115, .goto 4, 3), (118, .iconst 0, 1), (119, .iadd, 1), (120, .istore_n 2, 1), (121, .iinc 3 1, 3), (124, .goto (-25), 3), (127, .iload_n 2, 1), (128, .ireturn, 1), (129, .iconst (-1), 1), (130, .ireturn, 1)]
theorem yz_X12_count_ok : ∀ q ∈ yz_X12_count, decode cX12_count q.1 = .ok q.2 := by decide +kernel
theorem yd_yX12_count : yX12_count.cls = RX12 ∧ yX12_count.cls ≠ "java/lang/invoke/MethodHandle" ∧ yX12_count.cls ≠ "java/lang/invoke/VarHandle" ∧ (parseMethodDescriptor yX12_count.desc).map (fun d => d.parameters.length) = some 1 := by decide +kernel
def yz_X12_cross : List (Nat × (Instr × Nat)) := [(0, .lload_n 0, 1), (1, .lload 6, 2), (3, .lmul, 1), (4, .lload_n 2, 1), (5, .lload 4, 2), (7, .lmul, 1), (8, .lsub, 1), (9, .lreturn, 1)]
theorem yz_X12_cross_ok : ∀ q ∈ yz_X12_cross, decode cX12_cross q.1 = .ok q.2 := by decide +kernel
theorem yd_yX12_cross : yX12_cross.cls ≠ "java/lang/invoke/MethodHandle" ∧ yX12_cross.cls ≠ "java/lang/invoke/VarHandle" ∧ (parseMethodDescriptor yX12_cross.desc).map (fun d => d.parameters.length) = some 4 := by decide +kernel
def yz_X12_cut : List (Nat × (Instr × Nat)) := [(0, .iload_n 0, 1), (1, .ifCond .ne 10, 3), (4, .lload_n 1, 1), (5, .l2i, 1), (6, .i2b, 1), (7, .i2l, 1), (8, .goto 27, 3), (11, .iload_n 0, 1), (12, .iconst 1, 1), (13, .if_icmp .ne 10, 3), (16, .lload_n 1, 1), (17, .l2i, 1), (18, .i2s, 1), (19, .i2l, 1), (20, .goto 15, 3), (23, .iload_n 0, 1), (24, .iconst 2, 1), (25, .if_icmp .ne 9, 3), (28, .lload_n 1, 1), (29, .l2i, 1), (30, .i2l, 1), (31, .goto 4, 3), (34, .lload_n 1, 1), (35, .lreturn, 1)]
theorem yz_X12_cut_ok : ∀ q ∈ yz_X12_cut, decode cX12_cut q.1 = .ok q.2 := by decide +kernel
theorem yd_yX12_cut : yX12_cut.cls ≠ "java/lang/invoke/MethodHandle" ∧ yX12_cut.cls ≠ "java/lang/invoke/VarHandle" ∧ (parseMethodDescriptor yX12_cut.desc).map (fun d => d.parameters.length) = some 2 := by decide +kernel
def yz_X12_depth : List (Nat × (Instr × Nat)) := [(0, .aload_n 0, 1), (1, .iconst 0, 1), (2, .putfield 124, 3), (5, .iload_n 1, 1), (6, .i2l, 1), (7, .ldc2_w 406, 3), (10, .ldc2_w 155, 3), (13, .invokestatic 133, 3), (16, .ifCond .eq 17, 3), (19, .iload_n 2, 1), (20, .i2l, 1), (21, .ldc2_w 406, 3), (24, .ldc2_w 155, 3), (27, .invokestatic 133, 3), (30, .ifCond .ne 5, 3), (33, .iconst (-1), 1), (34, .ireturn, 1), (35, .iconst 0, 1), (36, .istore_n 3, 1), (37, .aload_n 0, 1), (38, .getfield 130, 3), (41, .istore 4, 2), (43, .iconst 0, 1), (44, .istore 5, 2), (46, .iload 5, 2), (48, .aload_n 0, 1), (49, .getfield 130, 3), (52, .if_icmp .ge 303, 3), (55, .aload_n 0, 1), (56, .getfield 7, 3), (59, .iload 5, 2), (61, .iaload, 1), (62, .iload_n 1, 1), (63, .isub, 1), (64, .i2l, 1), (65, .lstore 6, 2), (67, .aload_n 0, 1), (68, .getfield 13, 3), (71, .iload 5, 2), (73, .iaload, 1), (74, .iload_n 2, 1), (75, .isub, 1), (76, .i2l, 1), (77, .lstore 8, 2), (79, .lload 6, 2), (81, .lconst 0, 1), (82, .lcmp, 1), (83, .ifCond .ne 16, 3), (86, .lload 8, 2), (88, .lconst 0, 1), (89, .lcmp, 1), (90, .ifCond .ne 9, 3), (93, .iinc 3 1, 3), (96, .goto 253, 3), (99, .iconst 0, 1), (100, .istore 10, 2), (102, .iconst 0, 1), (103, .istore 11, 2), (105, .iconst 0, 1), (106, .istore 12, 2), (108, .iconst 0, 1), (109, .istore 13, 2), (111, .iconst 0, 1), (112, .istore 14, 2), (114, .iload 14, 2), (116, .aload_n 0, 1), (117, .getfield 130, 3), (120, .if_icmp .ge 141, 3), (123, .aload_n 0, 1), (124, .getfield 7, 3), (127, .iload 14, 2), (129, .iaload, 1), (130, .iload_n 1, 1), (131, .isub, 1), (132, .i2l, 1), (133, .lstore 15, 2), (135, .aload_n 0, 1), (136, .getfield 13, 3), (139, .iload 14, 2), (141, .iaload, 1), (142, .iload_n 2, 1), (143, .isub, 1), (144, .i2l, 1), (145, .lstore 17, 2), (147, .lload 6, 2), (149, .lload 8, 2), (151, .lload 15, 2), (153, .lload 17, 2), (155, .invokestatic 170, 3), (158, .lstore 19, 2), (160, .lload 6, 2), (162, .lload 15, 2), (164, .lmul, 1), (165, .lload 8, 2), (167, .lload 17, 2), (169, .lmul, 1), (170, .ladd, 1), (171, .lstore 21, 2), (173, .iload 10, 2), (175, .lload 19, 2), (177, .lconst 0, 1), (178, .lcmp, 1), (179, .ifCond .le 7, 3), (182, .iconst 1, 1), (183, .goto 4, 3), (186, .iconst 0, 1), (187, .iadd, 1), (188, .istore 10, 2), (190, .iload 11, 2), (192, .lload 19, 2), (194, .lconst 0, 1), (195, .lcmp, 1), (196, .ifCond .ge 7, 3), (199, .iconst 1, 1), (200, .goto 4, 3), (203, .iconst 0, 1), (204, .iadd, 1), (205, .istore 11, 2), (207, .iload 12, 2), (209, .lload 19, 2), (211, .lconst 0, 1), (212, .lcmp, 1), (213, .ifCond .ne 14, 3), (216, .lload 21, 2), (218, .lconst 0, 1), (219, .lcmp, 1), (220, .ifCond .le 7, 3), (223, .iconst 1, 1), (224, .goto 4, 3), (227, .iconst 0, 1), (228, .iadd, 1), (229, .istore 12, 2), (231, .iload 13, 2), (233, .lload 19, 2), (235, .lconst 0, 1), (236, .lcmp, 1), (237, .ifCond .ne 14, 3), (240, .lload 21, 2), (242, .lconst 0, 1), (243, .lcmp, 1), (244, .ifCond .ge 7, 3), (247, .iconst 1, 1), (248, .goto 4, 3), (251, .iconst 0, 1), (252, .iadd, 1), (253, .istore 13, 2), (255, .iinc 14 1, 3), (258, .goto (-144), 3), (261, .iload 10, 2), (263, .iload 13, 2), (265, .iadd, 1), (266, .iload 11, 2), (268, .iload 12, 2), (270, .iadd, 1), (271, .if_icmp .ge 11, 3), (274, .iload 10, 2), (276, .iload 13, 2), (278, .iadd, 1), (279, .goto 8, 3), (282, .iload 11, 2), (284, .iload 12, 2), (286, .iadd, 1), (287, .istore 14, 2), (289, .iload 10, 2), (291, .iload 12, 2), (293, .iadd, 1), (294, .iload 11, 2), (296, .iload 13, 2), (298, .iadd, 1), (299, .if_icmp .ge 11, 3), (302, .iload 10, 2), (304, .iload 12, 2), (306, .iadd, 1), (307, .goto 8, 3), (310, .iload 11, 2), (312, .iload 13, 2), (314, .iadd, 1), (315, .istore 15, 2), (317, .iload 14, 2), (319, .iload 15, 2), (321, .if_icmp .ge 8, 3), (324, .iload 14, 2), (326, .goto 5, 3), (329, .iload 15, 2), (331, .istore 16, 2), (333, .iload 16, 2), (335, .iload 4, 2), (337, .if_icmp .ge 8, 3), (340, .iload 16, 2), (342, .goto 5, 3), (345, .iload 4, 2), (347, .istore 4, 2), (349, .iinc 5 1, 3), (352, .goto (-306), 3), (355, .iload 4, 2), (357, .aload_n 0, 1), (358, .getfield 130, 3), (361, .if_icmp .ne 7, 3), (364, .iload_n 3, 1), (365, .goto 7, 3), (368, .iload 4, 2), (370, .iload_n 3, 1), (371, .iadd, 1), (372, .ireturn, 1)]
theorem yz_X12_depth_ok : ∀ q ∈ yz_X12_depth, decode cX12_depth q.1 = .ok q.2 := by decide +kernel
theorem yd_yX12_depth : yX12_depth.cls = RX12 ∧ yX12_depth.cls ≠ "java/lang/invoke/MethodHandle" ∧ yX12_depth.cls ≠ "java/lang/invoke/VarHandle" ∧ (parseMethodDescriptor yX12_depth.desc).map (fun d => d.parameters.length) = some 2 := by decide +kernel
def yz_X12_dismiss : List (Nat × (Instr × Nat)) := [(0, .aload_n 0, 1), (1, .iconst 0, 1), (2, .putfield 124, 3), (5, .aload_n 0, 1), (6, .getfield 360, 3), (9, .istore_n 1, 1), (10, .aload_n 0, 1), (11, .iconst 0, 1), (12, .putfield 360, 3), (15, .iload_n 1, 1), (16, .ireturn, 1)]
theorem yz_X12_dismiss_ok : ∀ q ∈ yz_X12_dismiss, decode cX12_dismiss q.1 = .ok q.2 := by decide +kernel
theorem yd_yX12_dismiss : yX12_dismiss.cls = RX12 ∧ yX12_dismiss.cls ≠ "java/lang/invoke/MethodHandle" ∧ yX12_dismiss.cls ≠ "java/lang/invoke/VarHandle" ∧ (parseMethodDescriptor yX12_dismiss.desc).map (fun d => d.parameters.length) = some 0 := by decide +kernel
def yz_X12_drop : List (Nat × (Instr × Nat)) := [(0, .aload_n 0, 1), (1, .iconst 0, 1), (2, .putfield 124, 3), (5, .aload_n 0, 1), (6, .iload_n 1, 1), (7, .invokevirtual 149, 3), (10, .ifCond .ne 9, 3), (13, .aload_n 0, 1), (14, .iconst (-1), 1), (15, .invokevirtual 141, 3), (18, .ireturn, 1), (19, .aload_n 0, 1), (20, .dup, 1), (21, .getfield 130, 3), (24, .iconst 1, 1), (25, .isub, 1), (26, .putfield 130, 3), (29, .iload_n 1, 1), (30, .istore_n 2, 1), (31, .iload_n 2, 1), (32, .aload_n 0, 1), (33, .getfield 130, 3), (36, .if_icmp .ge 65, 3), (39, .aload_n 0, 1), (40, .getfield 7, 3), (43, .iload_n 2, 1), (44, .aload_n 0, 1), (45, .getfield 7, 3), (48, .iload_n 2, 1), (49, .iconst 1, 1), (50, .iadd, 1), (51, .iaload, 1), (52, .iastore, 1), (53, .aload_n 0, 1), (54, .getfield 13, 3), (57, .iload_n 2, 1), (58, .aload_n 0, 1), (59, .getfield 13, 3), (62, .iload_n 2, 1), (63, .iconst 1, 1), (64, .iadd, 1), (65, .iaload, 1), (66, .iastore, 1), (67, .aload_n 0, 1), (68, .getfield 16, 3), (71, .iload_n 2, 1), (72, .aload_n 0, 1), (73, .getfield 16, 3), (76, .iload_n 2, 1), (77, .iconst 1, 1), (78, .iadd, 1), (79, .iaload, 1), (80, .iastore, 1), (81, .aload_n 0, 1), (82, .getfield 19, 3), (85, .iload_n 2, 1), (86, .aload_n 0, 1), (87, .getfield 19, 3), (90, .iload_n 2, 1), (91, .iconst 1, 1), (92, .iadd, 1), (93, .iaload, 1), (94, .iastore, 1), (95, .iinc 2 1, 3), (98, .goto (-67), 3), (101, .aload_n 0, 1), (102, .aload_n 0, 1), (103, .getfield 130, 3), (106, .invokevirtual 141, 3), (109, .ireturn, 1)]
theorem yz_X12_drop_ok : ∀ q ∈ yz_X12_drop, decode cX12_drop q.1 = .ok q.2 := by decide +kernel
theorem yd_yX12_drop : yX12_drop.cls = RX12 ∧ yX12_drop.cls ≠ "java/lang/invoke/MethodHandle" ∧ yX12_drop.cls ≠ "java/lang/invoke/VarHandle" ∧ (parseMethodDescriptor yX12_drop.desc).map (fun d => d.parameters.length) = some 1 := by decide +kernel
def yz_X12_end : List (Nat × (Instr × Nat)) := [(0, .aload_n 0, 1), (1, .iconst 0, 1), (2, .putfield 124, 3), (5, .aload_n 0, 1), (6, .getfield 78, 3), (9, .ireturn, 1)]
theorem yz_X12_end_ok : ∀ q ∈ yz_X12_end, decode cX12_end q.1 = .ok q.2 := by decide +kernel
theorem yd_yX12_end : yX12_end.cls = RX12 ∧ yX12_end.cls ≠ "java/lang/invoke/MethodHandle" ∧ yX12_end.cls ≠ "java/lang/invoke/VarHandle" ∧ (parseMethodDescriptor yX12_end.desc).map (fun d => d.parameters.length) = some 0 := by decide +kernel
def yz_X12_findBetween : List (Nat × (Instr × Nat)) := [(0, .iconst 0, 1), (1, .istore_n 1, 1), (2, .iload_n 1, 1), (3, .aload_n 0, 1), (4, .getfield 130, 3), (7, .if_icmp .ge 93, 3), (10, .iconst 0, 1), (11, .istore_n 2, 1), (12, .iload_n 2, 1), (13, .aload_n 0, 1), (14, .getfield 130, 3), (17, .if_icmp .ge 77, 3), (20, .aload_n 0, 1), (21, .getfield 16, 3), (24, .iload_n 1, 1), (25, .iaload, 1), (26, .iconst 1, 1), (27, .if_icmp .ne 67, 3), (30, .iload_n 2, 1), (31, .iconst 1, 1), (32, .iadd, 1), (33, .istore_n 3, 1), (34, .iload_n 3, 1), (35, .aload_n 0, 1), (36, .getfield 130, 3), (39, .if_icmp .ge 49, 3), (42, .aload_n 0, 1), (43, .getfield 16, 3), (46, .iload_n 2, 1), (47, .iaload, 1), (48, .ifCond .ne 40, 3), (51, .aload_n 0, 1), (52, .getfield 16, 3), (55, .iload_n 3, 1), (56, .iaload, 1), (57, .ifCond .ne 25, 3), (60, .aload_n 0, 1), (61, .iload_n 1, 1), (62, .iload_n 2, 1), (63, .iload_n 3, 1), (64, .invokevirtual 208, 3), (67, .ifCond .eq 15, 3), (70, .aload_n 0, 1), (71, .iconst 2, 1), (72, .iconst 3, 1), (73, .iload_n 1, 1), (74, .iload_n 2, 1), (75, .iload_n 3, 1), (76, .iconst (-1), 1), (77, .invokevirtual 212, 3), (80, .iconst 1, 1), (81, .ireturn, 1), (82, .iinc 3 1, 3), (85, .goto (-51), 3), (88, .iinc 2 1, 3), (91, .goto (-79), 3), (94, .iinc 1 1, 3), (97, .goto (-95), 3), (100, .iconst 0, 1), (101, .istore_n 1, 1), (102, .iload_n 1, 1), (103, .aload_n 0, 1), (104, .getfield 130, 3), (107, .if_icmp .ge 94, 3), (110, .iload_n 1, 1), (111, .iconst 1, 1), (112, .iadd, 1), (113, .istore_n 2, 1), (114, .iload_n 2, 1), (115, .aload_n 0, 1), (116, .getfield 130, 3), (119, .if_icmp .ge 76, 3), (122, .aload_n 0, 1), (123, .getfield 16, 3), (126, .iload_n 1, 1), (127, .iaload, 1), (128, .iconst 1, 1), (129, .if_icmp .ne 66, 3), (132, .iconst 0, 1), (133, .istore_n 3, 1), (134, .iload_n 3, 1), (135, .aload_n 0, 1), (136, .getfield 130, 3), (139, .if_icmp .ge 50, 3), (142, .aload_n 0, 1), (143, .getfield 16, 3), (146, .iload_n 2, 1), (147, .iaload, 1), (148, .iconst 1, 1), (149, .if_icmp .ne 40, 3), (152, .aload_n 0, 1), (153, .getfield 16, 3), (156, .iload_n 3, 1), (157, .iaload, 1), (158, .ifCond .ne 25, 3), (161, .aload_n 0, 1), (162, .iload_n 3, 1), (163, .iload_n 1, 1), (164, .iload_n 2, 1), (165, .invokevirtual 208, 3), (168, .ifCond .eq 15, 3), (171, .aload_n 0, 1), (172, .iconst 2, 1), (173, .iconst 3, 1), (174, .iload_n 3, 1), (175, .iload_n 1, 1), (176, .iload_n 2, 1), (177, .iconst (-1), 1), (178, .invokevirtual 212, 3), (181, .iconst 1, 1), (182, .ireturn, 1), (183, .iinc 3 1, 3), (186, .goto (-52), 3), (189, .iinc 2 1, 3), (192, .goto (-78), 3), (195, .iinc 1 1, 3), (198, .goto (-96), 3), (201, .iconst 0, 1), (202, .ireturn, 1)]
theorem yz_X12_findBetween_ok : ∀ q ∈ yz_X12_findBetween, decode cX12_findBetween q.1 = .ok q.2 := by decide +kernel
theorem yd_yX12_findBetween : yX12_findBetween.cls = RX12 ∧ yX12_findBetween.cls ≠ "java/lang/invoke/MethodHandle" ∧ yX12_findBetween.cls ≠ "java/lang/invoke/VarHandle" ∧ (parseMethodDescriptor yX12_findBetween.desc).map (fun d => d.parameters.length) = some 0 := by decide +kernel
def yz_X12_findCrossed : List (Nat × (Instr × Nat)) := [(0, .iload_n 3, 1), (1, .iconst 1, 1), (2, .iadd, 1), (3, .istore 4, 2), (5, .iload 4, 2), (7, .aload_n 0, 1), (8, .getfield 130, 3), (11, .if_icmp .ge 192, 3), (14, .aload_n 0, 1), (15, .getfield 16, 3), (18, .iload 4, 2), (20, .iaload, 1), (21, .iconst 1, 1), (22, .if_icmp .eq 175, 3), (25, .aload_n 0, 1), (26, .iload_n 1, 1), (27, .iload_n 2, 1), (28, .iload_n 3, 1), (29, .iload 4, 2), (31, .invokevirtual 233, 3), (34, .ifCond .ne 6, 3), (37, .goto 160, 3), (40, .aload_n 0, 1), (41, .iconst 4, 1), (42, .putfield 202, 3), (45, .aload_n 0, 1), (46, .iconst 4, 1), (47, .putfield 205, 3), (50, .aload_n 0, 1), (51, .iload_n 3, 1), (52, .iload 4, 2), (54, .iload_n 1, 1), (55, .invokevirtual 174, 3), (58, .lstore 5, 2), (60, .aload_n 0, 1), (61, .iload_n 3, 1), (62, .iload 4, 2), (64, .iload_n 2, 1), (65, .invokevirtual 174, 3), (68, .lstore 7, 2), (70, .lload 5, 2), (72, .lload 7, 2), (74, .lsub, 1), (75, .lstore 9, 2), (77, .aload_n 0, 1), (78, .iconst 0, 1), (79, .iload_n 1, 1), (80, .lload 7, 2), (82, .lneg, 1), (83, .lload 9, 2), (85, .invokevirtual 194, 3), (88, .aload_n 0, 1), (89, .iconst 1, 1), (90, .iload_n 2, 1), (91, .lload 5, 2), (93, .lload 9, 2), (95, .invokevirtual 194, 3), (98, .aload_n 0, 1), (99, .iload_n 1, 1), (100, .iload_n 2, 1), (101, .iload_n 3, 1), (102, .invokevirtual 174, 3), (105, .lstore 11, 2), (107, .aload_n 0, 1), (108, .iload_n 1, 1), (109, .iload_n 2, 1), (110, .iload 4, 2), (112, .invokevirtual 174, 3), (115, .lstore 13, 2), (117, .aload_n 0, 1), (118, .iconst 2, 1), (119, .iload_n 3, 1), (120, .lload 13, 2), (122, .lneg, 1), (123, .lload 11, 2), (125, .lload 13, 2), (127, .lsub, 1), (128, .invokevirtual 194, 3), (131, .aload_n 0, 1), (132, .iconst 3, 1), (133, .iload 4, 2), (135, .lload 11, 2), (137, .lload 11, 2), (139, .lload 13, 2), (141, .lsub, 1), (142, .invokevirtual 194, 3), (145, .aload_n 0, 1), (146, .lload 7, 2), (148, .lneg, 1), (149, .aload_n 0, 1), (150, .getfield 7, 3), (153, .iload_n 1, 1), (154, .iaload, 1), (155, .i2l, 1), (156, .lmul, 1), (157, .lload 5, 2), (159, .aload_n 0, 1), (160, .getfield 7, 3), (163, .iload_n 2, 1), (164, .iaload, 1), (165, .i2l, 1), (166, .lmul, 1), (167, .ladd, 1), (168, .lload 7, 2), (170, .lneg, 1), (171, .aload_n 0, 1), (172, .getfield 13, 3), (175, .iload_n 1, 1), (176, .iaload, 1), (177, .i2l, 1), (178, .lmul, 1), (179, .lload 5, 2), (181, .aload_n 0, 1), (182, .getfield 13, 3), (185, .iload_n 2, 1), (186, .iaload, 1), (187, .i2l, 1), (188, .lmul, 1), (189, .ladd, 1), (190, .lload 9, 2), (192, .invokevirtual 198, 3), (195, .iconst 1, 1), (196, .ireturn, 1), (197, .iinc 4 1, 3), (200, .goto (-195), 3), (203, .iconst 0, 1), (204, .ireturn, 1)]
theorem yz_X12_findCrossed_ok : ∀ q ∈ yz_X12_findCrossed, decode cX12_findCrossed q.1 = .ok q.2 := by decide +kernel
theorem yd_yX12_findCrossed : yX12_findCrossed.cls = RX12 ∧ yX12_findCrossed.cls ≠ "java/lang/invoke/MethodHandle" ∧ yX12_findCrossed.cls ≠ "java/lang/invoke/VarHandle" ∧ (parseMethodDescriptor yX12_findCrossed.desc).map (fun d => d.parameters.length) = some 3 := by decide +kernel
def yz_X12_findCrossing : List (Nat × (Instr × Nat)) := [(0, .iconst 0, 1), (1, .istore_n 1, 1), (2, .iload_n 1, 1), (3, .aload_n 0, 1), (4, .getfield 130, 3), (7, .if_icmp .ge 84, 3), (10, .iload_n 1, 1), (11, .iconst 1, 1), (12, .iadd, 1), (13, .istore_n 2, 1), (14, .iload_n 2, 1), (15, .aload_n 0, 1), (16, .getfield 130, 3), (19, .if_icmp .ge 66, 3), (22, .aload_n 0, 1), (23, .getfield 16, 3), (26, .iload_n 1, 1), (27, .iaload, 1), (28, .iconst 1, 1), (29, .if_icmp .ne 56, 3), (32, .iconst 0, 1), (33, .istore_n 3, 1), (34, .iload_n 3, 1), (35, .aload_n 0, 1), (36, .getfield 130, 3), (39, .if_icmp .ge 40, 3), (42, .aload_n 0, 1), (43, .getfield 16, 3), (46, .iload_n 2, 1), (47, .iaload, 1), (48, .iconst 1, 1), (49, .if_icmp .ne 30, 3), (52, .aload_n 0, 1), (53, .getfield 16, 3), (56, .iload_n 3, 1), (57, .iaload, 1), (58, .ifCond .ne 15, 3), (61, .aload_n 0, 1), (62, .iload_n 1, 1), (63, .iload_n 2, 1), (64, .iload_n 3, 1), (65, .invokevirtual 230, 3), (68, .ifCond .eq 5, 3), (71, .iconst 1, 1), (72, .ireturn, 1), (73, .iinc 3 1, 3), (76, .goto (-42), 3), (79, .iinc 2 1, 3), (82, .goto (-68), 3), (85, .iinc 1 1, 3), (88, .goto (-86), 3), (91, .iconst 0, 1), (92, .ireturn, 1)]
theorem yz_X12_findCrossing_ok : ∀ q ∈ yz_X12_findCrossing, decode cX12_findCrossing q.1 = .ok q.2 := by decide +kernel
theorem yd_yX12_findCrossing : yX12_findCrossing.cls = RX12 ∧ yX12_findCrossing.cls ≠ "java/lang/invoke/MethodHandle" ∧ yX12_findCrossing.cls ≠ "java/lang/invoke/VarHandle" ∧ (parseMethodDescriptor yX12_findCrossing.desc).map (fun d => d.parameters.length) = some 0 := by decide +kernel
def yz_X12_findInner : List (Nat × (Instr × Nat)) := [(0, .iconst 0, 1), (1, .istore 4, 2), (3, .iload 4, 2), (5, .aload_n 0, 1), (6, .getfield 130, 3), (9, .if_icmp .ge 44, 3), (12, .aload_n 0, 1), (13, .getfield 16, 3), (16, .iload 4, 2), (18, .iaload, 1), (19, .ifCond .ne 28, 3), (22, .aload_n 0, 1), (23, .iload 4, 2), (25, .iload_n 1, 1), (26, .iload_n 2, 1), (27, .iload_n 3, 1), (28, .invokevirtual 226, 3), (31, .ifCond .eq 16, 3), (34, .aload_n 0, 1), (35, .iconst 3, 1), (36, .iconst 4, 1), (37, .iload 4, 2), (39, .iload_n 1, 1), (40, .iload_n 2, 1), (41, .iload_n 3, 1), (42, .invokevirtual 212, 3), (45, .iconst 1, 1), (46, .ireturn, 1), (47, .iinc 4 1, 3), (50, .goto (-47), 3), (53, .iconst 0, 1), (54, .ireturn, 1)]
theorem yz_X12_findInner_ok : ∀ q ∈ yz_X12_findInner, decode cX12_findInner q.1 = .ok q.2 := by decide +kernel
theorem yd_yX12_findInner : yX12_findInner.cls = RX12 ∧ yX12_findInner.cls ≠ "java/lang/invoke/MethodHandle" ∧ yX12_findInner.cls ≠ "java/lang/invoke/VarHandle" ∧ (parseMethodDescriptor yX12_findInner.desc).map (fun d => d.parameters.length) = some 3 := by decide +kernel
def yz_X12_findMeeting : List (Nat × (Instr × Nat)) := [(0, .aload_n 0, 1), (1, .iconst 0, 1), (2, .putfield 202, 3), (5, .aload_n 0, 1), (6, .invokevirtual 236, 3), (9, .ifCond .ne 24, 3), (12, .aload_n 0, 1), (13, .invokevirtual 240, 3), (16, .ifCond .ne 17, 3), (19, .aload_n 0, 1), (20, .invokevirtual 243, 3), (23, .ifCond .ne 10, 3), (26, .aload_n 0, 1), (27, .invokevirtual 246, 3), (30, .ifCond .eq 7, 3), (33, .iconst 1, 1), (34, .goto 4, 3), (37, .iconst 0, 1), (38, .istore_n 1, 1), (39, .aload_n 0, 1), (40, .iload_n 1, 1), (41, .ifCond .eq 10, 3), (44, .aload_n 0, 1), (45, .getfield 202, 3), (48, .goto 4, 3), (51, .iconst 0, 1), (52, .putfield 202, 3), (55, .return_, 1)]
theorem yz_X12_findMeeting_ok : ∀ q ∈ yz_X12_findMeeting, decode cX12_findMeeting q.1 = .ok q.2 := by decide +kernel
theorem yd_yX12_findMeeting : yX12_findMeeting.cls = RX12 ∧ yX12_findMeeting.cls ≠ "java/lang/invoke/MethodHandle" ∧ yX12_findMeeting.cls ≠ "java/lang/invoke/VarHandle" ∧ (parseMethodDescriptor yX12_findMeeting.desc).map (fun d => d.parameters.length) = some 0 := by decide +kernel
def yz_X12_findOthers : List (Nat × (Instr × Nat)) := [(0, .iload_n 2, 1), (1, .iconst 1, 1), (2, .iadd, 1), (3, .istore_n 3, 1), (4, .iload_n 3, 1), (5, .aload_n 0, 1), (6, .getfield 130, 3), (9, .if_icmp .ge 73, 3), (12, .iload_n 3, 1), (13, .iconst 1, 1), (14, .iadd, 1), (15, .istore 4, 2), (17, .iload 4, 2), (19, .aload_n 0, 1), (20, .getfield 130, 3), (23, .if_icmp .ge 53, 3), (26, .aload_n 0, 1), (27, .getfield 16, 3), (30, .iload_n 3, 1), (31, .iaload, 1), (32, .ifCond .ne 44, 3), (35, .aload_n 0, 1), (36, .getfield 16, 3), (39, .iload 4, 2), (41, .iaload, 1), (42, .ifCond .ne 28, 3), (45, .aload_n 0, 1), (46, .iload_n 1, 1), (47, .iload_n 2, 1), (48, .iload_n 3, 1), (49, .iload 4, 2), (51, .invokevirtual 226, 3), (54, .ifCond .eq 16, 3), (57, .aload_n 0, 1), (58, .iconst 3, 1), (59, .iconst 4, 1), (60, .iload_n 1, 1), (61, .iload_n 2, 1), (62, .iload_n 3, 1), (63, .iload 4, 2), (65, .invokevirtual 212, 3), (68, .iconst 1, 1), (69, .ireturn, 1), (70, .iinc 4 1, 3), (73, .goto (-56), 3), (76, .iinc 3 1, 3), (79, .goto (-75), 3), (82, .iconst 0, 1), (83, .ireturn, 1)]
theorem yz_X12_findOthers_ok : ∀ q ∈ yz_X12_findOthers, decode cX12_findOthers q.1 = .ok q.2 := by decide +kernel
theorem yd_yX12_findOthers : yX12_findOthers.cls = RX12 ∧ yX12_findOthers.cls ≠ "java/lang/invoke/MethodHandle" ∧ yX12_findOthers.cls ≠ "java/lang/invoke/VarHandle" ∧ (parseMethodDescriptor yX12_findOthers.desc).map (fun d => d.parameters.length) = some 2 := by decide +kernel
def yz_X12_findSame : List (Nat × (Instr × Nat)) := [(0, .iconst 0, 1), (1, .istore_n 1, 1), (2, .iload_n 1, 1), (3, .aload_n 0, 1), (4, .getfield 130, 3), (7, .if_icmp .ge 100, 3), (10, .iconst 0, 1), (11, .istore_n 2, 1), (12, .iload_n 2, 1), (13, .aload_n 0, 1), (14, .getfield 130, 3), (17, .if_icmp .ge 84, 3), (20, .aload_n 0, 1), (21, .getfield 16, 3), (24, .iload_n 1, 1), (25, .iaload, 1), (26, .iconst 1, 1), (27, .if_icmp .ne 74, 3), (30, .aload_n 0, 1), (31, .getfield 16, 3), (34, .iload_n 2, 1), (35, .iaload, 1), (36, .ifCond .ne 59, 3), (39, .aload_n 0, 1), (40, .iload_n 1, 1), (41, .iload_n 2, 1), (42, .invokevirtual 178, 3), (45, .ifCond .eq 50, 3), (48, .aload_n 0, 1), (49, .iconst 1, 1), (50, .putfield 202, 3), (53, .aload_n 0, 1), (54, .iconst 2, 1), (55, .putfield 205, 3), (58, .aload_n 0, 1), (59, .iconst 0, 1), (60, .iload_n 1, 1), (61, .lconst 1, 1), (62, .lconst 1, 1), (63, .invokevirtual 194, 3), (66, .aload_n 0, 1), (67, .iconst 1, 1), (68, .iload_n 2, 1), (69, .lconst 1, 1), (70, .lconst 1, 1), (71, .invokevirtual 194, 3), (74, .aload_n 0, 1), (75, .aload_n 0, 1), (76, .getfield 7, 3), (79, .iload_n 1, 1), (80, .iaload, 1), (81, .i2l, 1), (82, .aload_n 0, 1), (83, .getfield 13, 3), (86, .iload_n 1, 1), (87, .iaload, 1), (88, .i2l, 1), (89, .lconst 1, 1), (90, .invokevirtual 198, 3), (93, .iconst 1, 1), (94, .ireturn, 1), (95, .iinc 2 1, 3), (98, .goto (-86), 3), (101, .iinc 1 1, 3), (104, .goto (-102), 3), (107, .iconst 0, 1), (108, .ireturn, 1)]
theorem yz_X12_findSame_ok : ∀ q ∈ yz_X12_findSame, decode cX12_findSame q.1 = .ok q.2 := by decide +kernel
theorem yd_yX12_findSame : yX12_findSame.cls = RX12 ∧ yX12_findSame.cls ≠ "java/lang/invoke/MethodHandle" ∧ yX12_findSame.cls ≠ "java/lang/invoke/VarHandle" ∧ (parseMethodDescriptor yX12_findSame.desc).map (fun d => d.parameters.length) = some 0 := by decide +kernel
def yz_X12_findSets : List (Nat × (Instr × Nat)) := [(0, .aload_n 0, 1), (1, .iload_n 1, 1), (2, .invokevirtual 325, 3), (5, .iconst 0, 1), (6, .istore_n 2, 1), (7, .iload_n 2, 1), (8, .sipush 4096, 3), (11, .if_icmp .ge 16, 3), (14, .aload_n 0, 1), (15, .getfield 44, 3), (18, .iload_n 2, 1), (19, .iconst 0, 1), (20, .bastore, 1), (21, .iinc 2 1, 3), (24, .goto (-17), 3), (27, .aload_n 0, 1), (28, .getfield 44, 3), (31, .iconst 0, 1), (32, .iconst 1, 1), (33, .bastore, 1), (34, .aload_n 0, 1), (35, .getfield 44, 3), (38, .iload_n 1, 1), (39, .iconst 1, 1), (40, .bastore, 1), (41, .iconst 0, 1), (42, .istore_n 2, 1), (43, .iload_n 2, 1), (44, .aload_n 0, 1), (45, .getfield 322, 3), (48, .if_icmp .ge 60, 3), (51, .iconst 0, 1), (52, .istore_n 3, 1), (53, .iload_n 3, 1), (54, .aload_n 0, 1), (55, .getfield 322, 3), (58, .if_icmp .ge 44, 3), (61, .aload_n 0, 1), (62, .aload_n 0, 1), (63, .getfield 48, 3), (66, .iload_n 2, 1), (67, .iaload, 1), (68, .aload_n 0, 1), (69, .getfield 48, 3), (72, .iload_n 3, 1), (73, .iaload, 1), (74, .invokevirtual 178, 3), (77, .ifCond .ne 19, 3), (80, .aload_n 0, 1), (81, .aload_n 0, 1), (82, .getfield 48, 3), (85, .iload_n 2, 1), (86, .iaload, 1), (87, .aload_n 0, 1), (88, .getfield 48, 3), (91, .iload_n 3, 1), (92, .iaload, 1), (93, .invokevirtual 329, 3), (96, .iinc 3 1, 3), (99, .goto (-46), 3), (102, .iinc 2 1, 3), (105, .goto (-62), 3), (108, .return_, 1)]
theorem yz_X12_findSets_ok : ∀ q ∈ yz_X12_findSets, decode cX12_findSets q.1 = .ok q.2 := by decide +kernel
theorem yd_yX12_findSets : yX12_findSets.cls = RX12 ∧ yX12_findSets.cls ≠ "java/lang/invoke/MethodHandle" ∧ yX12_findSets.cls ≠ "java/lang/invoke/VarHandle" ∧ (parseMethodDescriptor yX12_findSets.desc).map (fun d => d.parameters.length) = some 1 := by decide +kernel
def yz_X12_findWithin : List (Nat × (Instr × Nat)) := [(0, .iconst 0, 1), (1, .istore_n 1, 1), (2, .iload_n 1, 1), (3, .aload_n 0, 1), (4, .getfield 130, 3), (7, .if_icmp .ge 55, 3), (10, .iconst 0, 1), (11, .istore_n 2, 1), (12, .iload_n 2, 1), (13, .aload_n 0, 1), (14, .getfield 130, 3), (17, .if_icmp .ge 39, 3), (20, .aload_n 0, 1), (21, .getfield 16, 3), (24, .iload_n 1, 1), (25, .iaload, 1), (26, .iconst 1, 1), (27, .if_icmp .ne 29, 3), (30, .aload_n 0, 1), (31, .getfield 16, 3), (34, .iload_n 2, 1), (35, .iaload, 1), (36, .ifCond .ne 14, 3), (39, .aload_n 0, 1), (40, .iload_n 1, 1), (41, .iload_n 2, 1), (42, .invokevirtual 220, 3), (45, .ifCond .eq 5, 3), (48, .iconst 1, 1), (49, .ireturn, 1), (50, .iinc 2 1, 3), (53, .goto (-41), 3), (56, .iinc 1 1, 3), (59, .goto (-57), 3), (62, .iconst 0, 1), (63, .istore_n 1, 1), (64, .iload_n 1, 1), (65, .aload_n 0, 1), (66, .getfield 130, 3), (69, .if_icmp .ge 87, 3), (72, .iload_n 1, 1), (73, .iconst 1, 1), (74, .iadd, 1), (75, .istore_n 2, 1), (76, .iload_n 2, 1), (77, .aload_n 0, 1), (78, .getfield 130, 3), (81, .if_icmp .ge 69, 3), (84, .aload_n 0, 1), (85, .getfield 16, 3), (88, .iload_n 1, 1), (89, .iaload, 1), (90, .iconst 1, 1), (91, .if_icmp .ne 59, 3), (94, .iload_n 2, 1), (95, .iconst 1, 1), (96, .iadd, 1), (97, .istore_n 3, 1), (98, .iload_n 3, 1), (99, .aload_n 0, 1), (100, .getfield 130, 3), (103, .if_icmp .ge 41, 3), (106, .aload_n 0, 1), (107, .getfield 16, 3), (110, .iload_n 2, 1), (111, .iaload, 1), (112, .iconst 1, 1), (113, .if_icmp .ne 31, 3), (116, .aload_n 0, 1), (117, .getfield 16, 3), (120, .iload_n 3, 1), (121, .iaload, 1), (122, .iconst 1, 1), (123, .if_icmp .ne 15, 3), (126, .aload_n 0, 1), (127, .iload_n 1, 1), (128, .iload_n 2, 1), (129, .iload_n 3, 1), (130, .invokevirtual 223, 3), (133, .ifCond .eq 5, 3), (136, .iconst 1, 1), (137, .ireturn, 1), (138, .iinc 3 1, 3), (141, .goto (-43), 3), (144, .iinc 2 1, 3), (147, .goto (-71), 3), (150, .iinc 1 1, 3), (153, .goto (-89), 3), (156, .iconst 0, 1), (157, .ireturn, 1)]
theorem yz_X12_findWithin_ok : ∀ q ∈ yz_X12_findWithin, decode cX12_findWithin q.1 = .ok q.2 := by decide +kernel
theorem yd_yX12_findWithin : yX12_findWithin.cls = RX12 ∧ yX12_findWithin.cls ≠ "java/lang/invoke/MethodHandle" ∧ yX12_findWithin.cls ≠ "java/lang/invoke/VarHandle" ∧ (parseMethodDescriptor yX12_findWithin.desc).map (fun d => d.parameters.length) = some 0 := by decide +kernel
def yz_X12_further : List (Nat × (Instr × Nat)) := [(0, .aload_n 0, 1), (1, .getfield 7, 3), (4, .iload_n 2, 1), (5, .iaload, 1), (6, .aload_n 0, 1), (7, .getfield 7, 3), (10, .iload_n 1, 1), (11, .iaload, 1), (12, .isub, 1), (13, .i2l, 1), (14, .aload_n 0, 1), (15, .getfield 7, 3), (18, .iload_n 3, 1), (19, .iaload, 1), (20, .i2l, 1), (21, .lmul, 1), (22, .aload_n 0, 1), (23, .getfield 13, 3), (26, .iload_n 2, 1), (27, .iaload, 1), (28, .aload_n 0, 1), (29, .getfield 13, 3), (32, .iload_n 1, 1), (33, .iaload, 1), (34, .isub, 1), (35, .i2l, 1), (36, .aload_n 0, 1), (37, .getfield 13, 3), (40, .iload_n 3, 1), (41, .iaload, 1), (42, .i2l, 1), (43, .lmul, 1), (44, .ladd, 1), (45, .lreturn, 1)]
theorem yz_X12_further_ok : ∀ q ∈ yz_X12_further, decode cX12_further q.1 = .ok q.2 := by decide +kernel
theorem yd_yX12_further : yX12_further.cls = RX12 ∧ yX12_further.cls ≠ "java/lang/invoke/MethodHandle" ∧ yX12_further.cls ≠ "java/lang/invoke/VarHandle" ∧ (parseMethodDescriptor yX12_further.desc).map (fun d => d.parameters.length) = some 3 := by decide +kernel
def yz_X12_halve : List (Nat × (Instr × Nat)) := [(0, .aload_n 0, 1), (1, .iconst 0, 1), (2, .putfield 124, 3), (5, .aload_n 0, 1), (6, .getfield 360, 3), (9, .ifCond .ne 10, 3), (12, .aload_n 0, 1), (13, .bipush (-6), 2), (15, .invokevirtual 141, 3), (18, .ireturn, 1), (19, .iconst 1, 1), (20, .aload_n 0, 1), (21, .getfield 360, 3), (24, .ishl, 1), (25, .iconst 1, 1), (26, .isub, 1), (27, .istore_n 1, 1), (28, .iconst 0, 1), (29, .istore_n 2, 1), (30, .iconst 0, 1), (31, .istore_n 3, 1), (32, .iload_n 3, 1), (33, .aload_n 0, 1), (34, .getfield 130, 3), (37, .if_icmp .ge 199, 3), (40, .iconst 0, 1), (41, .istore 4, 2), (43, .iconst 0, 1), (44, .istore 5, 2), (46, .iconst 0, 1), (47, .istore 6, 2), (49, .iconst 0, 1), (50, .istore 7, 2), (52, .iload 7, 2), (54, .aload_n 0, 1), (55, .getfield 360, 3), (58, .if_icmp .ge 140, 3), (61, .aload_n 0, 1), (62, .getfield 54, 3), (65, .iload 7, 2), (67, .iaload, 1), (68, .i2l, 1), (69, .aload_n 0, 1), (70, .getfield 57, 3), (73, .iload 7, 2), (75, .iaload, 1), (76, .i2l, 1), (77, .aload_n 0, 1), (78, .getfield 60, 3), (81, .iload 7, 2), (83, .iaload, 1), (84, .i2l, 1), (85, .aload_n 0, 1), (86, .getfield 7, 3), (89, .iload_n 3, 1), (90, .iaload, 1), (91, .i2l, 1), (92, .aload_n 0, 1), (93, .getfield 13, 3), (96, .iload_n 3, 1), (97, .iaload, 1), (98, .i2l, 1), (99, .invokestatic 318, 3), (102, .istore 8, 2), (104, .iload_n 1, 1), (105, .iload 7, 2), (107, .ishr, 1), (108, .iconst 1, 1), (109, .iand, 1), (110, .iconst 1, 1), (111, .if_icmp .ne 7, 3), (114, .iconst 1, 1), (115, .goto 4, 3), (118, .iconst 0, 1), (119, .istore 9, 2), (121, .iload 4, 2), (123, .iload 9, 2), (125, .ifCond .eq 13, 3), (128, .iload 8, 2), (130, .iconst 1, 1), (131, .if_icmp .ne 7, 3), (134, .iconst 1, 1), (135, .goto 4, 3), (138, .iconst 0, 1), (139, .iadd, 1), (140, .istore 4, 2), (142, .iload 5, 2), (144, .iload 9, 2), (146, .ifCond .eq 13, 3), (149, .iload 8, 2), (151, .iconst 1, 1), (152, .if_icmp .eq 7, 3), (155, .iconst 1, 1), (156, .goto 4, 3), (159, .iconst 0, 1), (160, .iadd, 1), (161, .istore 5, 2), (163, .iload 6, 2), (165, .iload 9, 2), (167, .ifCond .eq 21, 3), (170, .iload 8, 2), (172, .aload_n 0, 1), (173, .getfield 16, 3), (176, .iload_n 3, 1), (177, .iaload, 1), (178, .if_icmp .ne 10, 3), (181, .iconst 1, 1), (182, .iload 7, 2), (184, .ishl, 1), (185, .goto 4, 3), (188, .iconst 0, 1), (189, .ior, 1), (190, .istore 6, 2), (192, .iinc 7 1, 3), (195, .goto (-143), 3), (198, .iload_n 2, 1), (199, .iload 4, 2), (201, .iload 5, 2), (203, .if_icmp .le 7, 3), (206, .iconst 1, 1), (207, .goto 4, 3), (210, .iconst 0, 1), (211, .aload_n 0, 1), (212, .getfield 16, 3), (215, .iload_n 3, 1), (216, .iaload, 1), (217, .if_icmp .ne 7, 3), (220, .iconst 0, 1), (221, .goto 4, 3), (224, .iconst 1, 1), (225, .iadd, 1), (226, .istore_n 2, 1), (227, .iload 6, 2), (229, .istore_n 1, 1), (230, .iinc 3 1, 3), (233, .goto (-201), 3), (236, .aload_n 0, 1), (237, .iload_n 1, 1), (238, .putfield 363, 3), (241, .aload_n 0, 1), (242, .iload_n 2, 1), (243, .invokevirtual 141, 3), (246, .ireturn, 1)]
theorem yz_X12_halve_ok : ∀ q ∈ yz_X12_halve, decode cX12_halve q.1 = .ok q.2 := by decide +kernel
theorem yd_yX12_halve : yX12_halve.cls = RX12 ∧ yX12_halve.cls ≠ "java/lang/invoke/MethodHandle" ∧ yX12_halve.cls ≠ "java/lang/invoke/VarHandle" ∧ (parseMethodDescriptor yX12_halve.desc).map (fun d => d.parameters.length) = some 0 := by decide +kernel
def yz_X12_halves : List (Nat × (Instr × Nat)) := [(0, .aload_n 0, 1), (1, .iconst 0, 1), (2, .putfield 124, 3), (5, .aload_n 0, 1), (6, .iconst 0, 1), (7, .invokevirtual 298, 3), (10, .istore_n 1, 1), (11, .aload_n 0, 1), (12, .iconst 1, 1), (13, .invokevirtual 298, 3), (16, .istore_n 2, 1), (17, .iconst 0, 1), (18, .istore_n 3, 1), (19, .iload_n 3, 1), (20, .aload_n 0, 1), (21, .getfield 130, 3), (24, .if_icmp .ge 71, 3), (27, .iload_n 3, 1), (28, .iconst 1, 1), (29, .iadd, 1), (30, .istore 4, 2), (32, .iload 4, 2), (34, .aload_n 0, 1), (35, .getfield 130, 3), (38, .if_icmp .ge 51, 3), (41, .aload_n 0, 1), (42, .iload_n 3, 1), (43, .iload 4, 2), (45, .invokevirtual 178, 3), (48, .ifCond .ne 35, 3), (51, .aload_n 0, 1), (52, .iload_n 3, 1), (53, .iload 4, 2), (55, .iconst 0, 1), (56, .iload_n 1, 1), (57, .invokevirtual 408, 3), (60, .ifCond .eq 23, 3), (63, .aload_n 0, 1), (64, .iload_n 3, 1), (65, .iload 4, 2), (67, .iconst 1, 1), (68, .iload_n 2, 1), (69, .invokevirtual 408, 3), (72, .ifCond .eq 11, 3), (75, .bipush 100, 2), (77, .iload_n 3, 1), (78, .imul, 1), (79, .iload 4, 2), (81, .iadd, 1), (82, .ireturn, 1), (83, .iinc 4 1, 3), (86, .goto (-54), 3), (89, .iinc 3 1, 3), (92, .goto (-73), 3), (95, .bipush (-6), 2), (97, .ireturn, 1)]
theorem yz_X12_halves_ok : ∀ q ∈ yz_X12_halves, decode cX12_halves q.1 = .ok q.2 := by decide +kernel
theorem yd_yX12_halves : yX12_halves.cls = RX12 ∧ yX12_halves.cls ≠ "java/lang/invoke/MethodHandle" ∧ yX12_halves.cls ≠ "java/lang/invoke/VarHandle" ∧ (parseMethodDescriptor yX12_halves.desc).map (fun d => d.parameters.length) = some 0 := by decide +kernel
def yz_X12_image : List (Nat × (Instr × Nat)) := [(0, .aload_n 0, 1), (1, .iconst 0, 1), (2, .putfield 124, 3), (5, .iload_n 1, 1), (6, .i2l, 1), (7, .lconst 0, 1), (8, .ldc2_w 168, 3), (11, .invokestatic 133, 3), (14, .ifCond .ne 9, 3), (17, .aload_n 0, 1), (18, .iconst (-1), 1), (19, .invokevirtual 141, 3), (22, .ireturn, 1), (23, .aload_n 0, 1), (24, .getfield 106, 3), (27, .iload_n 1, 1), (28, .iconst 1, 1), (29, .bastore, 1), (30, .aload_n 0, 1), (31, .getfield 109, 3), (34, .iload_n 1, 1), (35, .aload_n 0, 1), (36, .getfield 130, 3), (39, .iastore, 1), (40, .iconst 0, 1), (41, .istore_n 2, 1), (42, .iload_n 2, 1), (43, .aload_n 0, 1), (44, .getfield 130, 3), (47, .if_icmp .ge 95, 3), (50, .aload_n 0, 1), (51, .getfield 112, 3), (54, .sipush 160, 3), (57, .iload_n 1, 1), (58, .imul, 1), (59, .iconst 4, 1), (60, .iload_n 2, 1), (61, .imul, 1), (62, .iadd, 1), (63, .aload_n 0, 1), (64, .getfield 7, 3), (67, .iload_n 2, 1), (68, .iaload, 1), (69, .iastore, 1), (70, .aload_n 0, 1), (71, .getfield 112, 3), (74, .sipush 160, 3), (77, .iload_n 1, 1), (78, .imul, 1), (79, .iconst 4, 1), (80, .iload_n 2, 1), (81, .imul, 1), (82, .iadd, 1), (83, .iconst 1, 1), (84, .iadd, 1), (85, .aload_n 0, 1), (86, .getfield 13, 3), (89, .iload_n 2, 1), (90, .iaload, 1), (91, .iastore, 1), (92, .aload_n 0, 1), (93, .getfield 112, 3), (96, .sipush 160, 3), (99, .iload_n 1, 1), (100, .imul, 1), (101, .iconst 4, 1), (102, .iload_n 2, 1), (103, .imul, 1), (104, .iadd, 1), (105, .iconst 2, 1), (106, .iadd, 1), (107, .aload_n 0, 1), (108, .getfield 16, 3), (111, .iload_n 2, 1), (112, .iaload, 1), (113, .iastore, 1), (114, .aload_n 0, 1), (115, .getfield 112, 3), (118, .sipush 160, 3), (121, .iload_n 1, 1), (122, .imul, 1), (123, .iconst 4, 1), (124, .iload_n 2, 1), (125, .imul, 1), (126, .iadd, 1), (127, .iconst 3, 1), (128, .iadd, 1), (129, .aload_n 0, 1), (130, .getfield 19, 3), (133, .iload_n 2, 1), (134, .iaload, 1), (135, .iastore, 1), (136, .iinc 2 1, 3), (139, .goto (-97), 3), (142, .aload_n 0, 1), (143, .getfield 115, 3), (146, .iload_n 1, 1), (147, .aload_n 0, 1), (148, .getfield 360, 3), (151, .iastore, 1), (152, .iconst 0, 1), (153, .istore_n 2, 1), (154, .iload_n 2, 1), (155, .aload_n 0, 1), (156, .getfield 360, 3), (159, .if_icmp .ge 70, 3), (162, .aload_n 0, 1), (163, .getfield 118, 3), (166, .bipush 36, 2), (168, .iload_n 1, 1), (169, .imul, 1), (170, .iconst 3, 1), (171, .iload_n 2, 1), (172, .imul, 1), (173, .iadd, 1), (174, .aload_n 0, 1), (175, .getfield 54, 3), (178, .iload_n 2, 1), (179, .iaload, 1), (180, .iastore, 1), (181, .aload_n 0, 1), (182, .getfield 118, 3), (185, .bipush 36, 2), (187, .iload_n 1, 1), (188, .imul, 1), (189, .iconst 3, 1), (190, .iload_n 2, 1), (191, .imul, 1), (192, .iadd, 1), (193, .iconst 1, 1), (194, .iadd, 1), (195, .aload_n 0, 1), (196, .getfield 57, 3), (199, .iload_n 2, 1), (200, .iaload, 1), (201, .iastore, 1), (202, .aload_n 0, 1), (203, .getfield 118, 3), (206, .bipush 36, 2), (208, .iload_n 1, 1), (209, .imul, 1), (210, .iconst 3, 1), (211, .iload_n 2, 1), (212, .imul, 1), (213, .iadd, 1), (214, .iconst 2, 1), (215, .iadd, 1), (216, .aload_n 0, 1), (217, .getfield 60, 3), (220, .iload_n 2, 1), (221, .iaload, 1), (222, .iastore, 1), (223, .iinc 2 1, 3), (226, .goto (-72), 3), (229, .iconst 0, 1), (230, .istore_n 2, 1), (231, .iload_n 2, 1), (232, .iconst 5, 1), (233, .if_icmp .ge 24, 3), (236, .aload_n 0, 1), (237, .getfield 121, 3), (240, .iconst 5, 1), (241, .iload_n 1, 1), (242, .imul, 1), (243, .iload_n 2, 1), (244, .iadd, 1), (245, .aload_n 0, 1), (246, .iload_n 2, 1), (247, .invokevirtual 414, 3), (250, .lastore, 1), (251, .iinc 2 1, 3), (254, .goto (-23), 3), (257, .aload_n 0, 1), (258, .iconst 0, 1), (259, .invokevirtual 141, 3), (262, .ireturn, 1)]
theorem yz_X12_image_ok : ∀ q ∈ yz_X12_image, decode cX12_image q.1 = .ok q.2 := by decide +kernel
theorem yd_yX12_image : yX12_image.cls = RX12 ∧ yX12_image.cls ≠ "java/lang/invoke/MethodHandle" ∧ yX12_image.cls ≠ "java/lang/invoke/VarHandle" ∧ (parseMethodDescriptor yX12_image.desc).map (fun d => d.parameters.length) = some 1 := by decide +kernel
def yz_X12_in : List (Nat × (Instr × Nat)) := [(0, .lload_n 0, 1), (1, .lload_n 2, 1), (2, .lcmp, 1), (3, .ifCond .lt 14, 3), (6, .lload_n 0, 1), (7, .lload 4, 2), (9, .lcmp, 1), (10, .ifCond .gt 7, 3), (13, .iconst 1, 1), (14, .goto 4, 3), (17, .iconst 0, 1), (18, .ireturn, 1)]
theorem yz_X12_in_ok : ∀ q ∈ yz_X12_in, decode cX12_in q.1 = .ok q.2 := by decide +kernel
theorem yd_yX12_in : yX12_in.cls ≠ "java/lang/invoke/MethodHandle" ∧ yX12_in.cls ≠ "java/lang/invoke/VarHandle" ∧ (parseMethodDescriptor yX12_in.desc).map (fun d => d.parameters.length) = some 3 := by decide +kernel
def yz_X12_isAt : List (Nat × (Instr × Nat)) := [(0, .aload_n 0, 1), (1, .getfield 7, 3), (4, .iload_n 1, 1), (5, .iaload, 1), (6, .aload_n 0, 1), (7, .getfield 7, 3), (10, .iload_n 2, 1), (11, .iaload, 1), (12, .if_icmp .ne 22, 3), (15, .aload_n 0, 1), (16, .getfield 13, 3), (19, .iload_n 1, 1), (20, .iaload, 1), (21, .aload_n 0, 1), (22, .getfield 13, 3), (25, .iload_n 2, 1), (26, .iaload, 1), (27, .if_icmp .ne 7, 3), (30, .iconst 1, 1), (31, .goto 4, 3), (34, .iconst 0, 1), (35, .ireturn, 1)]
theorem yz_X12_isAt_ok : ∀ q ∈ yz_X12_isAt, decode cX12_isAt q.1 = .ok q.2 := by decide +kernel
theorem yd_yX12_isAt : yX12_isAt.cls = RX12 ∧ yX12_isAt.cls ≠ "java/lang/invoke/MethodHandle" ∧ yX12_isAt.cls ≠ "java/lang/invoke/VarHandle" ∧ (parseMethodDescriptor yX12_isAt.desc).map (fun d => d.parameters.length) = some 2 := by decide +kernel
def yz_X12_isBetween : List (Nat × (Instr × Nat)) := [(0, .aload_n 0, 1), (1, .iload_n 2, 1), (2, .iload_n 3, 1), (3, .iload_n 1, 1), (4, .invokevirtual 174, 3), (7, .lconst 0, 1), (8, .lcmp, 1), (9, .ifCond .ne 30, 3), (12, .aload_n 0, 1), (13, .iload_n 1, 1), (14, .iload_n 2, 1), (15, .invokevirtual 178, 3), (18, .ifCond .ne 21, 3), (21, .aload_n 0, 1), (22, .iload_n 1, 1), (23, .iload_n 3, 1), (24, .invokevirtual 178, 3), (27, .ifCond .ne 12, 3), (30, .aload_n 0, 1), (31, .iload_n 2, 1), (32, .iload_n 3, 1), (33, .invokevirtual 178, 3), (36, .ifCond .eq 5, 3), (39, .iconst 0, 1), (40, .ireturn, 1), (41, .aload_n 0, 1), (42, .getfield 7, 3), (45, .iload_n 2, 1), (46, .iaload, 1), (47, .aload_n 0, 1), (48, .getfield 7, 3), (51, .iload_n 1, 1), (52, .iaload, 1), (53, .isub, 1), (54, .i2l, 1), (55, .aload_n 0, 1), (56, .getfield 7, 3), (59, .iload_n 3, 1), (60, .iaload, 1), (61, .aload_n 0, 1), (62, .getfield 7, 3), (65, .iload_n 1, 1), (66, .iaload, 1), (67, .isub, 1), (68, .i2l, 1), (69, .lmul, 1), (70, .aload_n 0, 1), (71, .getfield 13, 3), (74, .iload_n 2, 1), (75, .iaload, 1), (76, .aload_n 0, 1), (77, .getfield 13, 3), (80, .iload_n 1, 1), (81, .iaload, 1), (82, .isub, 1), (83, .i2l, 1), (84, .aload_n 0, 1), (85, .getfield 13, 3), (88, .iload_n 3, 1), (89, .iaload, 1), (90, .aload_n 0, 1), (91, .getfield 13, 3), (94, .iload_n 1, 1), (95, .iaload, 1), (96, .isub, 1), (97, .i2l, 1), (98, .lmul, 1), (99, .ladd, 1), (100, .lstore 4, 2), (102, .lload 4, 2), (104, .lconst 0, 1), (105, .lcmp, 1), (106, .ifCond .ge 7, 3), (109, .iconst 1, 1), (110, .goto 4, 3), (113, .iconst 0, 1), (114, .ireturn, 1)]
theorem yz_X12_isBetween_ok : ∀ q ∈ yz_X12_isBetween, decode cX12_isBetween q.1 = .ok q.2 := by decide +kernel
theorem yd_yX12_isBetween : yX12_isBetween.cls = RX12 ∧ yX12_isBetween.cls ≠ "java/lang/invoke/MethodHandle" ∧ yX12_isBetween.cls ≠ "java/lang/invoke/VarHandle" ∧ (parseMethodDescriptor yX12_isBetween.desc).map (fun d => d.parameters.length) = some 3 := by decide +kernel
def yz_X12_isCrossing : List (Nat × (Instr × Nat)) := [(0, .aload_n 0, 1), (1, .iload_n 1, 1), (2, .iload_n 2, 1), (3, .iload_n 3, 1), (4, .invokevirtual 174, 3), (7, .lstore 5, 2), (9, .aload_n 0, 1), (10, .iload_n 1, 1), (11, .iload_n 2, 1), (12, .iload 4, 2), (14, .invokevirtual 174, 3), (17, .lstore 7, 2), (19, .aload_n 0, 1), (20, .iload_n 3, 1), (21, .iload 4, 2), (23, .iload_n 1, 1), (24, .invokevirtual 174, 3), (27, .lstore 9, 2), (29, .aload_n 0, 1), (30, .iload_n 3, 1), (31, .iload 4, 2), (33, .iload_n 2, 1), (34, .invokevirtual 174, 3), (37, .lstore 11, 2), (39, .lload 5, 2), (41, .lconst 0, 1), (42, .lcmp, 1), (43, .ifCond .le 10, 3), (46, .lload 7, 2), (48, .lconst 0, 1), (49, .lcmp, 1), (50, .ifCond .lt 17, 3), (53, .lload 5, 2), (55, .lconst 0, 1), (56, .lcmp, 1), (57, .ifCond .ge 42, 3), (60, .lload 7, 2), (62, .lconst 0, 1), (63, .lcmp, 1), (64, .ifCond .le 35, 3), (67, .lload 9, 2), (69, .lconst 0, 1), (70, .lcmp, 1), (71, .ifCond .le 10, 3), (74, .lload 11, 2), (76, .lconst 0, 1), (77, .lcmp, 1), (78, .ifCond .lt 17, 3), (81, .lload 9, 2), (83, .lconst 0, 1), (84, .lcmp, 1), (85, .ifCond .ge 14, 3), (88, .lload 11, 2), (90, .lconst 0, 1), (91, .lcmp, 1), (92, .ifCond .le 7, 3), (95, .iconst 1, 1), (96, .goto 4, 3), (99, .iconst 0, 1), (100, .ireturn, 1)]
theorem yz_X12_isCrossing_ok : ∀ q ∈ yz_X12_isCrossing, decode cX12_isCrossing q.1 = .ok q.2 := by decide +kernel
theorem yd_yX12_isCrossing : yX12_isCrossing.cls = RX12 ∧ yX12_isCrossing.cls ≠ "java/lang/invoke/MethodHandle" ∧ yX12_isCrossing.cls ≠ "java/lang/invoke/VarHandle" ∧ (parseMethodDescriptor yX12_isCrossing.desc).map (fun d => d.parameters.length) = some 4 := by decide +kernel
def yz_X12_isHalf : List (Nat × (Instr × Nat)) := [(0, .iconst 0, 1), (1, .istore 5, 2), (3, .iconst 0, 1), (4, .istore 6, 2), (6, .iconst 0, 1), (7, .istore 7, 2), (9, .iload 7, 2), (11, .aload_n 0, 1), (12, .getfield 130, 3), (15, .if_icmp .ge 75, 3), (18, .aload_n 0, 1), (19, .iload_n 1, 1), (20, .iload_n 2, 1), (21, .iload 7, 2), (23, .invokevirtual 174, 3), (26, .lstore 8, 2), (28, .iload 5, 2), (30, .aload_n 0, 1), (31, .getfield 16, 3), (34, .iload 7, 2), (36, .iaload, 1), (37, .iload_n 3, 1), (38, .if_icmp .ne 14, 3), (41, .lload 8, 2), (43, .lconst 0, 1), (44, .lcmp, 1), (45, .ifCond .le 7, 3), (48, .iconst 1, 1), (49, .goto 4, 3), (52, .iconst 0, 1), (53, .iadd, 1), (54, .istore 5, 2), (56, .iload 6, 2), (58, .aload_n 0, 1), (59, .getfield 16, 3), (62, .iload 7, 2), (64, .iaload, 1), (65, .iload_n 3, 1), (66, .if_icmp .ne 14, 3), (69, .lload 8, 2), (71, .lconst 0, 1), (72, .lcmp, 1), (73, .ifCond .ge 7, 3), (76, .iconst 1, 1), (77, .goto 4, 3), (80, .iconst 0, 1), (81, .iadd, 1), (82, .istore 6, 2), (84, .iinc 7 1, 3), (87, .goto (-78), 3), (90, .iconst 2, 1), (91, .iload 5, 2), (93, .imul, 1), (94, .iload 4, 2), (96, .if_icmp .gt 16, 3), (99, .iconst 2, 1), (100, .iload 6, 2), (102, .imul, 1), (103, .iload 4, 2), (105, .if_icmp .gt 7, 3), (108, .iconst 1, 1), (109, .goto 4, 3), (112, .iconst 0, 1), (113, .ireturn, 1)]
theorem yz_X12_isHalf_ok : ∀ q ∈ yz_X12_isHalf, decode cX12_isHalf q.1 = .ok q.2 := by decide +kernel
theorem yd_yX12_isHalf : yX12_isHalf.cls = RX12 ∧ yX12_isHalf.cls ≠ "java/lang/invoke/MethodHandle" ∧ yX12_isHalf.cls ≠ "java/lang/invoke/VarHandle" ∧ (parseMethodDescriptor yX12_isHalf.desc).map (fun d => d.parameters.length) = some 4 := by decide +kernel
def yz_X12_isLine : List (Nat × (Instr × Nat)) := [(0, .iload_n 0, 1), (1, .i2l, 1), (2, .ldc2_w 270, 3), (5, .ldc2_w 313, 3), (8, .invokestatic 133, 3), (11, .ifCond .eq 43, 3), (14, .iload_n 1, 1), (15, .i2l, 1), (16, .ldc2_w 270, 3), (19, .ldc2_w 313, 3), (22, .invokestatic 133, 3), (25, .ifCond .eq 29, 3), (28, .iload_n 2, 1), (29, .i2l, 1), (30, .ldc2_w 270, 3), (33, .ldc2_w 313, 3), (36, .invokestatic 133, 3), (39, .ifCond .eq 15, 3), (42, .iload_n 0, 1), (43, .ifCond .ne 7, 3), (46, .iload_n 1, 1), (47, .ifCond .eq 7, 3), (50, .iconst 1, 1), (51, .goto 4, 3), (54, .iconst 0, 1), (55, .ireturn, 1)]
theorem yz_X12_isLine_ok : ∀ q ∈ yz_X12_isLine, decode cX12_isLine q.1 = .ok q.2 := by decide +kernel
theorem yd_yX12_isLine : yX12_isLine.cls ≠ "java/lang/invoke/MethodHandle" ∧ yX12_isLine.cls ≠ "java/lang/invoke/VarHandle" ∧ (parseMethodDescriptor yX12_isLine.desc).map (fun d => d.parameters.length) = some 3 := by decide +kernel
def yz_X12_isMany : List (Nat × (Instr × Nat)) := [(0, .iload_n 1, 1), (1, .i2l, 1), (2, .lconst 0, 1), (3, .ldc2_w 336, 3), (6, .invokestatic 133, 3), (9, .ifCond .eq 15, 3), (12, .iload_n 1, 1), (13, .aload_n 0, 1), (14, .getfield 130, 3), (17, .if_icmp .gt 7, 3), (20, .iconst 1, 1), (21, .goto 4, 3), (24, .iconst 0, 1), (25, .ireturn, 1)]
theorem yz_X12_isMany_ok : ∀ q ∈ yz_X12_isMany, decode cX12_isMany q.1 = .ok q.2 := by decide +kernel
theorem yd_yX12_isMany : yX12_isMany.cls = RX12 ∧ yX12_isMany.cls ≠ "java/lang/invoke/MethodHandle" ∧ yX12_isMany.cls ≠ "java/lang/invoke/VarHandle" ∧ (parseMethodDescriptor yX12_isMany.desc).map (fun d => d.parameters.length) = some 1 := by decide +kernel
def yz_X12_isPoint : List (Nat × (Instr × Nat)) := [(0, .iload_n 1, 1), (1, .i2l, 1), (2, .lconst 0, 1), (3, .aload_n 0, 1), (4, .getfield 130, 3), (7, .i2l, 1), (8, .lconst 1, 1), (9, .lsub, 1), (10, .invokestatic 133, 3), (13, .ireturn, 1)]
theorem yz_X12_isPoint_ok : ∀ q ∈ yz_X12_isPoint, decode cX12_isPoint q.1 = .ok q.2 := by decide +kernel
theorem yd_yX12_isPoint : yX12_isPoint.cls = RX12 ∧ yX12_isPoint.cls ≠ "java/lang/invoke/MethodHandle" ∧ yX12_isPoint.cls ≠ "java/lang/invoke/VarHandle" ∧ (parseMethodDescriptor yX12_isPoint.desc).map (fun d => d.parameters.length) = some 1 := by decide +kernel
def yz_X12_isSheet : List (Nat × (Instr × Nat)) := [(0, .iload_n 0, 1), (1, .i2l, 1), (2, .lconst 0, 1), (3, .ldc2_w 153, 3), (6, .invokestatic 133, 3), (9, .ireturn, 1)]
theorem yz_X12_isSheet_ok : ∀ q ∈ yz_X12_isSheet, decode cX12_isSheet q.1 = .ok q.2 := by decide +kernel
theorem yd_yX12_isSheet : yX12_isSheet.cls ≠ "java/lang/invoke/MethodHandle" ∧ yX12_isSheet.cls ≠ "java/lang/invoke/VarHandle" ∧ (parseMethodDescriptor yX12_isSheet.desc).map (fun d => d.parameters.length) = some 1 := by decide +kernel
def yz_X12_isWay : List (Nat × (Instr × Nat)) := [(0, .aload_n 0, 1), (1, .iconst 0, 1), (2, .putfield 124, 3), (5, .aload_n 0, 1), (6, .iload_n 1, 1), (7, .invokevirtual 338, 3), (10, .ifCond .eq 17, 3), (13, .iload_n 2, 1), (14, .i2l, 1), (15, .lconst 0, 1), (16, .lconst 1, 1), (17, .iload_n 1, 1), (18, .lshl, 1), (19, .lconst 1, 1), (20, .lsub, 1), (21, .invokestatic 133, 3), (24, .ifCond .ne 5, 3), (27, .iconst (-1), 1), (28, .ireturn, 1), (29, .aload_n 0, 1), (30, .iconst 1, 1), (31, .iload_n 1, 1), (32, .ishl, 1), (33, .iconst 1, 1), (34, .isub, 1), (35, .invokevirtual 341, 3), (38, .aload_n 0, 1), (39, .getfield 44, 3), (42, .iload_n 2, 1), (43, .baload, 1), (44, .ifCond .eq 7, 3), (47, .iconst 1, 1), (48, .goto 4, 3), (51, .iconst 0, 1), (52, .ireturn, 1)]
theorem yz_X12_isWay_ok : ∀ q ∈ yz_X12_isWay, decode cX12_isWay q.1 = .ok q.2 := by decide +kernel
theorem yd_yX12_isWay : yX12_isWay.cls = RX12 ∧ yX12_isWay.cls ≠ "java/lang/invoke/MethodHandle" ∧ yX12_isWay.cls ≠ "java/lang/invoke/VarHandle" ∧ (parseMethodDescriptor yX12_isWay.desc).map (fun d => d.parameters.length) = some 2 := by decide +kernel
def yz_X12_isWithin : List (Nat × (Instr × Nat)) := [(0, .aload_n 0, 1), (1, .iload_n 2, 1), (2, .iload_n 3, 1), (3, .iload_n 1, 1), (4, .invokevirtual 174, 3), (7, .lstore 5, 2), (9, .aload_n 0, 1), (10, .iload_n 3, 1), (11, .iload 4, 2), (13, .iload_n 1, 1), (14, .invokevirtual 174, 3), (17, .lstore 7, 2), (19, .aload_n 0, 1), (20, .iload 4, 2), (22, .iload_n 2, 1), (23, .iload_n 1, 1), (24, .invokevirtual 174, 3), (27, .lstore 9, 2), (29, .lload 5, 2), (31, .lconst 0, 1), (32, .lcmp, 1), (33, .ifCond .le 17, 3), (36, .lload 7, 2), (38, .lconst 0, 1), (39, .lcmp, 1), (40, .ifCond .le 10, 3), (43, .lload 9, 2), (45, .lconst 0, 1), (46, .lcmp, 1), (47, .ifCond .gt 24, 3), (50, .lload 5, 2), (52, .lconst 0, 1), (53, .lcmp, 1), (54, .ifCond .ge 21, 3), (57, .lload 7, 2), (59, .lconst 0, 1), (60, .lcmp, 1), (61, .ifCond .ge 14, 3), (64, .lload 9, 2), (66, .lconst 0, 1), (67, .lcmp, 1), (68, .ifCond .ge 7, 3), (71, .iconst 1, 1), (72, .goto 4, 3), (75, .iconst 0, 1), (76, .ireturn, 1)]
theorem yz_X12_isWithin_ok : ∀ q ∈ yz_X12_isWithin, decode cX12_isWithin q.1 = .ok q.2 := by decide +kernel
theorem yd_yX12_isWithin : yX12_isWithin.cls = RX12 ∧ yX12_isWithin.cls ≠ "java/lang/invoke/MethodHandle" ∧ yX12_isWithin.cls ≠ "java/lang/invoke/VarHandle" ∧ (parseMethodDescriptor yX12_isWithin.desc).map (fun d => d.parameters.length) = some 4 := by decide +kernel
def yz_X12_judge : List (Nat × (Instr × Nat)) := [(0, .aload_n 0, 1), (1, .iconst 0, 1), (2, .putfield 124, 3), (5, .iload_n 1, 1), (6, .iload_n 2, 1), (7, .iload_n 3, 1), (8, .invokestatic 315, 3), (11, .ifCond .ne 9, 3), (14, .aload_n 0, 1), (15, .iconst (-1), 1), (16, .invokevirtual 141, 3), (19, .ireturn, 1), (20, .aload_n 0, 1), (21, .getfield 360, 3), (24, .bipush 12, 2), (26, .if_icmp .ne 10, 3), (29, .aload_n 0, 1), (30, .bipush (-5), 2), (32, .invokevirtual 141, 3), (35, .ireturn, 1), (36, .aload_n 0, 1), (37, .getfield 54, 3), (40, .aload_n 0, 1), (41, .getfield 360, 3), (44, .iload_n 1, 1), (45, .iastore, 1), (46, .aload_n 0, 1), (47, .getfield 57, 3), (50, .aload_n 0, 1), (51, .getfield 360, 3), (54, .iload_n 2, 1), (55, .iastore, 1), (56, .aload_n 0, 1), (57, .getfield 60, 3), (60, .aload_n 0, 1), (61, .getfield 360, 3), (64, .iload_n 3, 1), (65, .iastore, 1), (66, .aload_n 0, 1), (67, .dup, 1), (68, .getfield 360, 3), (71, .iconst 1, 1), (72, .iadd, 1), (73, .putfield 360, 3), (76, .aload_n 0, 1), (77, .aload_n 0, 1), (78, .getfield 360, 3), (81, .invokevirtual 141, 3), (84, .ireturn, 1)]
theorem yz_X12_judge_ok : ∀ q ∈ yz_X12_judge, decode cX12_judge q.1 = .ok q.2 := by decide +kernel
theorem yd_yX12_judge : yX12_judge.cls = RX12 ∧ yX12_judge.cls ≠ "java/lang/invoke/MethodHandle" ∧ yX12_judge.cls ≠ "java/lang/invoke/VarHandle" ∧ (parseMethodDescriptor yX12_judge.desc).map (fun d => d.parameters.length) = some 3 := by decide +kernel
def yz_X12_learn : List (Nat × (Instr × Nat)) := [(0, .aload_n 0, 1), (1, .iconst 0, 1), (2, .putfield 124, 3), (5, .iload_n 1, 1), (6, .i2l, 1), (7, .lconst 0, 1), (8, .ldc2_w 155, 3), (11, .invokestatic 133, 3), (14, .ifCond .ne 9, 3), (17, .aload_n 0, 1), (18, .iconst (-1), 1), (19, .invokevirtual 141, 3), (22, .ireturn, 1), (23, .iconst 0, 1), (24, .istore_n 2, 1), (25, .iconst 1, 1), (26, .istore_n 3, 1), (27, .iconst 0, 1), (28, .istore 4, 2), (30, .iload 4, 2), (32, .iload_n 1, 1), (33, .if_icmp .ge 198, 3), (36, .iload_n 3, 1), (37, .ifCond .eq 194, 3), (40, .iconst 0, 1), (41, .istore_n 3, 1), (42, .iconst 0, 1), (43, .istore 5, 2), (45, .iload 5, 2), (47, .aload_n 0, 1), (48, .getfield 130, 3), (51, .if_icmp .ge 164, 3), (54, .aload_n 0, 1), (55, .getfield 345, 3), (58, .aload_n 0, 1), (59, .getfield 7, 3), (62, .iload 5, 2), (64, .iaload, 1), (65, .i2l, 1), (66, .lmul, 1), (67, .aload_n 0, 1), (68, .getfield 348, 3), (71, .aload_n 0, 1), (72, .getfield 13, 3), (75, .iload 5, 2), (77, .iaload, 1), (78, .i2l, 1), (79, .lmul, 1), (80, .ladd, 1), (81, .aload_n 0, 1), (82, .getfield 351, 3), (85, .ladd, 1), (86, .lstore 6, 2), (88, .aload_n 0, 1), (89, .getfield 16, 3), (92, .iload 5, 2), (94, .iaload, 1), (95, .iconst 1, 1), (96, .if_icmp .ne 18, 3), (99, .lload 6, 2), (101, .lconst 0, 1), (102, .lcmp, 1), (103, .ifCond .gt 7, 3), (106, .iconst 1, 1), (107, .goto 19, 3), (110, .iconst 0, 1), (111, .goto 15, 3), (114, .lload 6, 2), (116, .lconst 0, 1), (117, .lcmp, 1), (118, .ifCond .lt 7, 3), (121, .iconst 1, 1), (122, .goto 4, 3), (125, .iconst 0, 1), (126, .istore 8, 2), (128, .iload 8, 2), (130, .ifCond .eq 79, 3), (133, .aload_n 0, 1), (134, .getfield 16, 3), (137, .iload 5, 2), (139, .iaload, 1), (140, .iconst 1, 1), (141, .if_icmp .ne 7, 3), (144, .lconst 1, 1), (145, .goto 6, 3), (148, .ldc2_w 182, 3), (151, .lstore 9, 2), (153, .aload_n 0, 1), (154, .dup, 1), (155, .getfield 345, 3), (158, .lload 9, 2), (160, .aload_n 0, 1), (161, .getfield 7, 3), (164, .iload 5, 2), (166, .iaload, 1), (167, .i2l, 1), (168, .lmul, 1), (169, .ladd, 1), (170, .putfield 345, 3), (173, .aload_n 0, 1), (174, .dup, 1), (175, .getfield 348, 3), (178, .lload 9, 2), (180, .aload_n 0, 1), (181, .getfield 13, 3), (184, .iload 5, 2), (186, .iaload, 1), (187, .i2l, 1), (188, .lmul, 1), (189, .ladd, 1), (190, .putfield 348, 3), (193, .aload_n 0, 1), (194, .dup, 1), (195, .getfield 351, 3), (198, .lload 9, 2), (200, .ladd, 1), (201, .putfield 351, 3), (204, .iinc 2 1, 3), (207, .iconst 1, 1), (208, .istore_n 3, 1), (209, .iinc 5 1, 3), (212, .goto (-167), 3), (215, .aload_n 0, 1), (216, .dup, 1), (217, .getfield 354, 3), (220, .lconst 1, 1), (221, .ladd, 1), (222, .putfield 354, 3), (225, .iinc 4 1, 3), (228, .goto (-198), 3), (231, .aload_n 0, 1), (232, .dup, 1), (233, .getfield 357, 3), (236, .iload_n 2, 1), (237, .i2l, 1), (238, .ladd, 1), (239, .putfield 357, 3), (242, .aload_n 0, 1), (243, .iload_n 2, 1), (244, .invokevirtual 141, 3), (247, .ireturn, 1)]
theorem yz_X12_learn_ok : ∀ q ∈ yz_X12_learn, decode cX12_learn q.1 = .ok q.2 := by decide +kernel
theorem yd_yX12_learn : yX12_learn.cls = RX12 ∧ yX12_learn.cls ≠ "java/lang/invoke/MethodHandle" ∧ yX12_learn.cls ≠ "java/lang/invoke/VarHandle" ∧ (parseMethodDescriptor yX12_learn.desc).map (fun d => d.parameters.length) = some 1 := by decide +kernel
def yz_X12_learnt : List (Nat × (Instr × Nat)) := [(0, .aload_n 0, 1), (1, .iconst 0, 1), (2, .putfield 124, 3), (5, .iload_n 1, 1), (6, .tableswitch 59 0 4 #[34, 39, 44, 49, 54], 34), (40, .aload_n 0, 1), (41, .getfield 345, 3), (44, .lreturn, 1), (45, .aload_n 0, 1), (46, .getfield 348, 3), (49, .lreturn, 1), (50, .aload_n 0, 1), (51, .getfield 351, 3), (54, .lreturn, 1), (55, .aload_n 0, 1), (56, .getfield 357, 3), (59, .lreturn, 1), (60, .aload_n 0, 1), (61, .getfield 354, 3), (64, .lreturn, 1), (65, .ldc2_w 270, 3), (68, .lreturn, 1)]
theorem yz_X12_learnt_ok : ∀ q ∈ yz_X12_learnt, decode cX12_learnt q.1 = .ok q.2 := by decide +kernel
theorem yd_yX12_learnt : yX12_learnt.cls = RX12 ∧ yX12_learnt.cls ≠ "java/lang/invoke/MethodHandle" ∧ yX12_learnt.cls ≠ "java/lang/invoke/VarHandle" ∧ (parseMethodDescriptor yX12_learnt.desc).map (fun d => d.parameters.length) = some 1 := by decide +kernel
def yz_X12_left : List (Nat × (Instr × Nat)) := [(0, .aload_n 0, 1), (1, .iconst 0, 1), (2, .putfield 124, 3), (5, .aload_n 0, 1), (6, .getfield 363, 3), (9, .ireturn, 1)]
theorem yz_X12_left_ok : ∀ q ∈ yz_X12_left, decode cX12_left q.1 = .ok q.2 := by decide +kernel
theorem yd_yX12_left : yX12_left.cls = RX12 ∧ yX12_left.cls ≠ "java/lang/invoke/MethodHandle" ∧ yX12_left.cls ≠ "java/lang/invoke/VarHandle" ∧ (parseMethodDescriptor yX12_left.desc).map (fun d => d.parameters.length) = some 0 := by decide +kernel
def yz_X12_many : List (Nat × (Instr × Nat)) := [(0, .iconst 0, 1), (1, .istore_n 2, 1), (2, .iconst 0, 1), (3, .istore_n 3, 1), (4, .iload_n 3, 1), (5, .aload_n 0, 1), (6, .getfield 130, 3), (9, .if_icmp .ge 27, 3), (12, .iload_n 2, 1), (13, .aload_n 0, 1), (14, .getfield 16, 3), (17, .iload_n 3, 1), (18, .iaload, 1), (19, .iload_n 1, 1), (20, .if_icmp .ne 7, 3), (23, .iconst 1, 1), (24, .goto 4, 3), (27, .iconst 0, 1), (28, .iadd, 1), (29, .istore_n 2, 1), (30, .iinc 3 1, 3), (33, .goto (-29), 3), (36, .iload_n 2, 1), (37, .ireturn, 1)]
theorem yz_X12_many_ok : ∀ q ∈ yz_X12_many, decode cX12_many q.1 = .ok q.2 := by decide +kernel
theorem yd_yX12_many : yX12_many.cls = RX12 ∧ yX12_many.cls ≠ "java/lang/invoke/MethodHandle" ∧ yX12_many.cls ≠ "java/lang/invoke/VarHandle" ∧ (parseMethodDescriptor yX12_many.desc).map (fun d => d.parameters.length) = some 1 := by decide +kernel
def yz_X12_mass : List (Nat × (Instr × Nat)) := [(0, .aload_n 0, 1), (1, .iconst 0, 1), (2, .putfield 124, 3), (5, .iload_n 1, 1), (6, .i2l, 1), (7, .lconst 0, 1), (8, .aload_n 0, 1), (9, .getfield 366, 3), (12, .i2l, 1), (13, .lconst 1, 1), (14, .lsub, 1), (15, .invokestatic 133, 3), (18, .ifCond .eq 12, 3), (21, .aload_n 0, 1), (22, .getfield 82, 3), (25, .iload_n 1, 1), (26, .laload, 1), (27, .goto 6, 3), (30, .ldc2_w 182, 3), (33, .lreturn, 1)]
theorem yz_X12_mass_ok : ∀ q ∈ yz_X12_mass, decode cX12_mass q.1 = .ok q.2 := by decide +kernel
theorem yd_yX12_mass : yX12_mass.cls = RX12 ∧ yX12_mass.cls ≠ "java/lang/invoke/MethodHandle" ∧ yX12_mass.cls ≠ "java/lang/invoke/VarHandle" ∧ (parseMethodDescriptor yX12_mass.desc).map (fun d => d.parameters.length) = some 1 := by decide +kernel
def yz_X12_meetsAt : List (Nat × (Instr × Nat)) := [(0, .aload_n 0, 1), (1, .getfield 16, 3), (4, .iload_n 1, 1), (5, .iaload, 1), (6, .iconst 1, 1), (7, .if_icmp .ne 7, 3), (10, .iconst 1, 1), (11, .goto 4, 3), (14, .iconst 0, 1), (15, .istore 5, 2), (17, .iload 5, 2), (19, .ifCond .eq 7, 3), (22, .iconst 0, 1), (23, .goto 13, 3), (26, .iload 4, 2), (28, .ifCond .ge 7, 3), (31, .iconst 2, 1), (32, .goto 4, 3), (35, .iconst 3, 1), (36, .istore 6, 2), (38, .iload 5, 2), (40, .ifCond .eq 7, 3), (43, .iconst 1, 1), (44, .goto 4, 3), (47, .iconst 0, 1), (48, .istore 7, 2), (50, .aload_n 0, 1), (51, .iload 6, 2), (53, .iload_n 1, 1), (54, .lconst 1, 1), (55, .lconst 1, 1), (56, .invokevirtual 194, 3), (59, .aload_n 0, 1), (60, .aload_n 0, 1), (61, .getfield 7, 3), (64, .iload_n 1, 1), (65, .iaload, 1), (66, .i2l, 1), (67, .aload_n 0, 1), (68, .getfield 13, 3), (71, .iload_n 1, 1), (72, .iaload, 1), (73, .i2l, 1), (74, .lconst 1, 1), (75, .invokevirtual 198, 3), (78, .iload 4, 2), (80, .ifCond .ge 127, 3), (83, .aload_n 0, 1), (84, .getfield 7, 3), (87, .iload_n 2, 1), (88, .iaload, 1), (89, .aload_n 0, 1), (90, .getfield 7, 3), (93, .iload_n 3, 1), (94, .iaload, 1), (95, .if_icmp .eq 20, 3), (98, .aload_n 0, 1), (99, .getfield 7, 3), (102, .iload_n 3, 1), (103, .iaload, 1), (104, .aload_n 0, 1), (105, .getfield 7, 3), (108, .iload_n 2, 1), (109, .iaload, 1), (110, .isub, 1), (111, .i2l, 1), (112, .goto 17, 3), (115, .aload_n 0, 1), (116, .getfield 13, 3), (119, .iload_n 3, 1), (120, .iaload, 1), (121, .aload_n 0, 1), (122, .getfield 13, 3), (125, .iload_n 2, 1), (126, .iaload, 1), (127, .isub, 1), (128, .i2l, 1), (129, .lstore 8, 2), (131, .aload_n 0, 1), (132, .getfield 7, 3), (135, .iload_n 2, 1), (136, .iaload, 1), (137, .aload_n 0, 1), (138, .getfield 7, 3), (141, .iload_n 3, 1), (142, .iaload, 1), (143, .if_icmp .eq 20, 3), (146, .aload_n 0, 1), (147, .getfield 7, 3), (150, .iload_n 1, 1), (151, .iaload, 1), (152, .aload_n 0, 1), (153, .getfield 7, 3), (156, .iload_n 2, 1), (157, .iaload, 1), (158, .isub, 1), (159, .i2l, 1), (160, .goto 17, 3), (163, .aload_n 0, 1), (164, .getfield 13, 3), (167, .iload_n 1, 1), (168, .iaload, 1), (169, .aload_n 0, 1), (170, .getfield 13, 3), (173, .iload_n 2, 1), (174, .iaload, 1), (175, .isub, 1), (176, .i2l, 1), (177, .lstore 10, 2), (179, .aload_n 0, 1), (180, .iload 7, 2), (182, .iload_n 2, 1), (183, .lload 8, 2), (185, .lload 10, 2), (187, .lsub, 1), (188, .lload 8, 2), (190, .invokevirtual 194, 3), (193, .aload_n 0, 1), (194, .iload 7, 2), (196, .iconst 1, 1), (197, .iadd, 1), (198, .iload_n 3, 1), (199, .lload 10, 2), (201, .lload 8, 2), (203, .invokevirtual 194, 3), (206, .return_, 1), (207, .aload_n 0, 1), (208, .iload_n 2, 1), (209, .iload_n 3, 1), (210, .iload 4, 2), (212, .invokevirtual 174, 3), (215, .lstore 8, 2), (217, .aload_n 0, 1), (218, .iload 7, 2), (220, .iload_n 2, 1), (221, .aload_n 0, 1), (222, .iload_n 1, 1), (223, .iload_n 3, 1), (224, .iload 4, 2), (226, .invokevirtual 174, 3), (229, .lload 8, 2), (231, .invokevirtual 194, 3), (234, .aload_n 0, 1), (235, .iload 7, 2), (237, .iconst 1, 1), (238, .iadd, 1), (239, .iload_n 3, 1), (240, .aload_n 0, 1), (241, .iload_n 2, 1), (242, .iload_n 1, 1), (243, .iload 4, 2), (245, .invokevirtual 174, 3), (248, .lload 8, 2), (250, .invokevirtual 194, 3), (253, .aload_n 0, 1), (254, .iload 7, 2), (256, .iconst 2, 1), (257, .iadd, 1), (258, .iload 4, 2), (260, .aload_n 0, 1), (261, .iload_n 2, 1), (262, .iload_n 3, 1), (263, .iload_n 1, 1), (264, .invokevirtual 174, 3), (267, .lload 8, 2), (269, .invokevirtual 194, 3), (272, .return_, 1)]
theorem yz_X12_meetsAt_ok : ∀ q ∈ yz_X12_meetsAt, decode cX12_meetsAt q.1 = .ok q.2 := by decide +kernel
theorem yd_yX12_meetsAt : yX12_meetsAt.cls = RX12 ∧ yX12_meetsAt.cls ≠ "java/lang/invoke/MethodHandle" ∧ yX12_meetsAt.cls ≠ "java/lang/invoke/VarHandle" ∧ (parseMethodDescriptor yX12_meetsAt.desc).map (fun d => d.parameters.length) = some 4 := by decide +kernel
def yz_X12_meetsBy : List (Nat × (Instr × Nat)) := [(0, .aload_n 0, 1), (1, .iload_n 1, 1), (2, .putfield 202, 3), (5, .aload_n 0, 1), (6, .iload_n 2, 1), (7, .putfield 205, 3), (10, .aload_n 0, 1), (11, .iload_n 3, 1), (12, .iload 4, 2), (14, .iload 5, 2), (16, .iload 6, 2), (18, .invokevirtual 216, 3), (21, .return_, 1)]
theorem yz_X12_meetsBy_ok : ∀ q ∈ yz_X12_meetsBy, decode cX12_meetsBy q.1 = .ok q.2 := by decide +kernel
theorem yd_yX12_meetsBy : yX12_meetsBy.cls = RX12 ∧ yX12_meetsBy.cls ≠ "java/lang/invoke/MethodHandle" ∧ yX12_meetsBy.cls ≠ "java/lang/invoke/VarHandle" ∧ (parseMethodDescriptor yX12_meetsBy.desc).map (fun d => d.parameters.length) = some 6 := by decide +kernel
def yz_X12_member : List (Nat × (Instr × Nat)) := [(0, .lload 5, 2), (2, .lconst 0, 1), (3, .lcmp, 1), (4, .ifCond .ge 9, 3), (7, .ldc2_w 182, 3), (10, .goto 4, 3), (13, .lconst 1, 1), (14, .lstore 7, 2), (16, .aload_n 0, 1), (17, .getfield 35, 3), (20, .iload_n 1, 1), (21, .iload_n 2, 1), (22, .iastore, 1), (23, .aload_n 0, 1), (24, .getfield 38, 3), (27, .iload_n 1, 1), (28, .lload 7, 2), (30, .lload_n 3, 1), (31, .lmul, 1), (32, .lastore, 1), (33, .aload_n 0, 1), (34, .getfield 41, 3), (37, .iload_n 1, 1), (38, .lload 7, 2), (40, .lload 5, 2), (42, .lmul, 1), (43, .lastore, 1), (44, .return_, 1)]
theorem yz_X12_member_ok : ∀ q ∈ yz_X12_member, decode cX12_member q.1 = .ok q.2 := by decide +kernel
theorem yd_yX12_member : yX12_member.cls = RX12 ∧ yX12_member.cls ≠ "java/lang/invoke/MethodHandle" ∧ yX12_member.cls ≠ "java/lang/invoke/VarHandle" ∧ (parseMethodDescriptor yX12_member.desc).map (fun d => d.parameters.length) = some 4 := by decide +kernel
def yz_X12_of : List (Nat × (Instr × Nat)) := [(0, .aload_n 0, 1), (1, .iconst 0, 1), (2, .putfield 124, 3), (5, .aload_n 0, 1), (6, .iload_n 1, 1), (7, .invokevirtual 149, 3), (10, .ifCond .eq 15, 3), (13, .iload_n 2, 1), (14, .i2l, 1), (15, .lconst 0, 1), (16, .ldc2_w 153, 3), (19, .invokestatic 133, 3), (22, .ifCond .ne 7, 3), (25, .sipush (-1000), 3), (28, .ireturn, 1), (29, .iload_n 2, 1), (30, .ifCond .ne 12, 3), (33, .aload_n 0, 1), (34, .getfield 7, 3), (37, .iload_n 1, 1), (38, .iaload, 1), (39, .goto 37, 3), (42, .iload_n 2, 1), (43, .iconst 1, 1), (44, .if_icmp .ne 12, 3), (47, .aload_n 0, 1), (48, .getfield 13, 3), (51, .iload_n 1, 1), (52, .iaload, 1), (53, .goto 23, 3), (56, .iload_n 2, 1), (57, .iconst 2, 1), (58, .if_icmp .ne 12, 3), (61, .aload_n 0, 1), (62, .getfield 16, 3), (65, .iload_n 1, 1), (66, .iaload, 1), (67, .goto 9, 3), (70, .aload_n 0, 1), (71, .getfield 19, 3), (74, .iload_n 1, 1), (75, .iaload, 1), (76, .ireturn, 1)]
theorem yz_X12_of_ok : ∀ q ∈ yz_X12_of, decode cX12_of q.1 = .ok q.2 := by decide +kernel
theorem yd_yX12_of : yX12_of.cls = RX12 ∧ yX12_of.cls ≠ "java/lang/invoke/MethodHandle" ∧ yX12_of.cls ≠ "java/lang/invoke/VarHandle" ∧ (parseMethodDescriptor yX12_of.desc).map (fun d => d.parameters.length) = some 2 := by decide +kernel
def yz_X12_paint : List (Nat × (Instr × Nat)) := [(0, .aload_n 0, 1), (1, .iconst 0, 1), (2, .putfield 124, 3), (5, .aload_n 0, 1), (6, .iload_n 1, 1), (7, .invokevirtual 149, 3), (10, .ifCond .eq 25, 3), (13, .iload_n 2, 1), (14, .i2l, 1), (15, .lconst 0, 1), (16, .lconst 1, 1), (17, .invokestatic 133, 3), (20, .ifCond .eq 15, 3), (23, .iload_n 3, 1), (24, .i2l, 1), (25, .lconst 1, 1), (26, .ldc2_w 155, 3), (29, .invokestatic 133, 3), (32, .ifCond .ne 9, 3), (35, .aload_n 0, 1), (36, .iconst (-1), 1), (37, .invokevirtual 141, 3), (40, .ireturn, 1), (41, .aload_n 0, 1), (42, .getfield 16, 3), (45, .iload_n 1, 1), (46, .iload_n 2, 1), (47, .iastore, 1), (48, .aload_n 0, 1), (49, .getfield 19, 3), (52, .iload_n 1, 1), (53, .iload_n 3, 1), (54, .iastore, 1), (55, .aload_n 0, 1), (56, .iconst 0, 1), (57, .invokevirtual 141, 3), (60, .ireturn, 1)]
theorem yz_X12_paint_ok : ∀ q ∈ yz_X12_paint, decode cX12_paint q.1 = .ok q.2 := by decide +kernel
theorem yd_yX12_paint : yX12_paint.cls = RX12 ∧ yX12_paint.cls ≠ "java/lang/invoke/MethodHandle" ∧ yX12_paint.cls ≠ "java/lang/invoke/VarHandle" ∧ (parseMethodDescriptor yX12_paint.desc).map (fun d => d.parameters.length) = some 3 := by decide +kernel
def yz_X12_parted : List (Nat × (Instr × Nat)) := [(0, .aload_n 0, 1), (1, .iconst 0, 1), (2, .putfield 124, 3), (5, .aload_n 0, 1), (6, .invokevirtual 249, 3), (9, .aload_n 0, 1), (10, .getfield 202, 3), (13, .ifCond .ne 7, 3), (16, .iconst 1, 1), (17, .goto 4, 3), (20, .iconst 0, 1), (21, .ireturn, 1)]
theorem yz_X12_parted_ok : ∀ q ∈ yz_X12_parted, decode cX12_parted q.1 = .ok q.2 := by decide +kernel
theorem yd_yX12_parted : yX12_parted.cls = RX12 ∧ yX12_parted.cls ≠ "java/lang/invoke/MethodHandle" ∧ yX12_parted.cls ≠ "java/lang/invoke/VarHandle" ∧ (parseMethodDescriptor yX12_parted.desc).map (fun d => d.parameters.length) = some 0 := by decide +kernel
def yz_X12_place : List (Nat × (Instr × Nat)) := [(0, .lload 5, 2), (2, .lconst 0, 1), (3, .lcmp, 1), (4, .ifCond .ge 9, 3), (7, .ldc2_w 182, 3), (10, .goto 4, 3), (13, .lconst 1, 1), (14, .lstore 7, 2), (16, .aload_n 0, 1), (17, .lload 7, 2), (19, .lload_n 1, 1), (20, .lmul, 1), (21, .putfield 184, 3), (24, .aload_n 0, 1), (25, .lload 7, 2), (27, .lload_n 3, 1), (28, .lmul, 1), (29, .putfield 188, 3), (32, .aload_n 0, 1), (33, .lload 7, 2), (35, .lload 5, 2), (37, .lmul, 1), (38, .putfield 191, 3), (41, .return_, 1)]
theorem yz_X12_place_ok : ∀ q ∈ yz_X12_place, decode cX12_place q.1 = .ok q.2 := by decide +kernel
theorem yd_yX12_place : yX12_place.cls = RX12 ∧ yX12_place.cls ≠ "java/lang/invoke/MethodHandle" ∧ yX12_place.cls ≠ "java/lang/invoke/VarHandle" ∧ (parseMethodDescriptor yX12_place.desc).map (fun d => d.parameters.length) = some 3 := by decide +kernel
def yz_X12_point : List (Nat × (Instr × Nat)) := [(0, .aload_n 0, 1), (1, .iconst 0, 1), (2, .putfield 124, 3), (5, .iload_n 1, 1), (6, .i2l, 1), (7, .ldc2_w 137, 3), (10, .ldc2_w 139, 3), (13, .invokestatic 133, 3), (16, .ifCond .eq 27, 3), (19, .iload_n 2, 1), (20, .i2l, 1), (21, .ldc2_w 137, 3), (24, .ldc2_w 139, 3), (27, .invokestatic 133, 3), (30, .ifCond .eq 13, 3), (33, .iload_n 3, 1), (34, .i2l, 1), (35, .lconst 0, 1), (36, .lconst 1, 1), (37, .invokestatic 133, 3), (40, .ifCond .ne 9, 3), (43, .aload_n 0, 1), (44, .iconst (-1), 1), (45, .invokevirtual 141, 3), (48, .ireturn, 1), (49, .aload_n 0, 1), (50, .getfield 130, 3), (53, .bipush 40, 2), (55, .if_icmp .ne 10, 3), (58, .aload_n 0, 1), (59, .bipush (-5), 2), (61, .invokevirtual 141, 3), (64, .ireturn, 1), (65, .aload_n 0, 1), (66, .iload_n 1, 1), (67, .iload_n 2, 1), (68, .iload_n 3, 1), (69, .invokevirtual 145, 3), (72, .aload_n 0, 1), (73, .aload_n 0, 1), (74, .getfield 130, 3), (77, .invokevirtual 141, 3), (80, .ireturn, 1)]
theorem yz_X12_point_ok : ∀ q ∈ yz_X12_point, decode cX12_point q.1 = .ok q.2 := by decide +kernel
theorem yd_yX12_point : yX12_point.cls = RX12 ∧ yX12_point.cls ≠ "java/lang/invoke/MethodHandle" ∧ yX12_point.cls ≠ "java/lang/invoke/VarHandle" ∧ (parseMethodDescriptor yX12_point.desc).map (fun d => d.parameters.length) = some 3 := by decide +kernel
def yz_X12_read : List (Nat × (Instr × Nat)) := [(0, .aload_n 0, 1), (1, .iconst 0, 1), (2, .putfield 124, 3), (5, .iload_n 1, 1), (6, .invokestatic 157, 3), (9, .ifCond .eq 44, 3), (12, .aload_n 0, 1), (13, .getfield 26, 3), (16, .iload_n 1, 1), (17, .iaload, 1), (18, .ifCond .lt 35, 3), (21, .iload_n 2, 1), (22, .i2l, 1), (23, .lconst 0, 1), (24, .aload_n 0, 1), (25, .getfield 29, 3), (28, .iload_n 1, 1), (29, .iaload, 1), (30, .i2l, 1), (31, .lconst 1, 1), (32, .lsub, 1), (33, .invokestatic 133, 3), (36, .ifCond .eq 17, 3), (39, .aload_n 0, 1), (40, .getfield 22, 3), (43, .bipush 100, 2), (45, .iload_n 1, 1), (46, .imul, 1), (47, .iload_n 2, 1), (48, .iadd, 1), (49, .laload, 1), (50, .goto 6, 3), (53, .ldc2_w 164, 3), (56, .lreturn, 1)]
theorem yz_X12_read_ok : ∀ q ∈ yz_X12_read, decode cX12_read q.1 = .ok q.2 := by decide +kernel
theorem yd_yX12_read : yX12_read.cls = RX12 ∧ yX12_read.cls ≠ "java/lang/invoke/MethodHandle" ∧ yX12_read.cls ≠ "java/lang/invoke/VarHandle" ∧ (parseMethodDescriptor yX12_read.desc).map (fun d => d.parameters.length) = some 2 := by decide +kernel
def yz_X12_says : List (Nat × (Instr × Nat)) := [(0, .lload_n 0, 1), (1, .lload 6, 2), (3, .lmul, 1), (4, .lload_n 2, 1), (5, .lload 8, 2), (7, .lmul, 1), (8, .ladd, 1), (9, .lstore 10, 2), (11, .lload 10, 2), (13, .lload 4, 2), (15, .lcmp, 1), (16, .ifCond .le 7, 3), (19, .iconst 1, 1), (20, .goto 16, 3), (23, .lload 10, 2), (25, .lload 4, 2), (27, .lcmp, 1), (28, .ifCond .ge 7, 3), (31, .iconst 0, 1), (32, .goto 4, 3), (35, .iconst (-1), 1), (36, .ireturn, 1)]
theorem yz_X12_says_ok : ∀ q ∈ yz_X12_says, decode cX12_says q.1 = .ok q.2 := by decide +kernel
theorem yd_yX12_says : yX12_says.cls ≠ "java/lang/invoke/MethodHandle" ∧ yX12_says.cls ≠ "java/lang/invoke/VarHandle" ∧ (parseMethodDescriptor yX12_says.desc).map (fun d => d.parameters.length) = some 5 := by decide +kernel
def yz_X12_shatter : List (Nat × (Instr × Nat)) := [(0, .aload_n 0, 1), (1, .iconst 0, 1), (2, .putfield 124, 3), (5, .aload_n 0, 1), (6, .getfield 130, 3), (9, .bipush 12, 2), (11, .if_icmp .ge 10, 3), (14, .aload_n 0, 1), (15, .getfield 130, 3), (18, .goto 5, 3), (21, .bipush 12, 2), (23, .istore_n 2, 1), (24, .iload_n 1, 1), (25, .i2l, 1), (26, .lconst 0, 1), (27, .lconst 1, 1), (28, .iload_n 2, 1), (29, .lshl, 1), (30, .lconst 1, 1), (31, .lsub, 1), (32, .invokestatic 133, 3), (35, .ifCond .ne 5, 3), (38, .iconst (-1), 1), (39, .ireturn, 1), (40, .aload_n 0, 1), (41, .iload_n 1, 1), (42, .invokevirtual 341, 3), (45, .iconst 1, 1), (46, .istore_n 3, 1), (47, .iconst 0, 1), (48, .istore 4, 2), (50, .iload 4, 2), (52, .sipush 4096, 3), (55, .if_icmp .ge 38, 3), (58, .iload_n 3, 1), (59, .ifCond .eq 26, 3), (62, .iload 4, 2), (64, .iload_n 1, 1), (65, .iconst (-1), 1), (66, .ixor, 1), (67, .iand, 1), (68, .ifCond .ne 13, 3), (71, .aload_n 0, 1), (72, .getfield 44, 3), (75, .iload 4, 2), (77, .baload, 1), (78, .ifCond .eq 7, 3), (81, .iconst 1, 1), (82, .goto 4, 3), (85, .iconst 0, 1), (86, .istore_n 3, 1), (87, .iinc 4 1, 3), (90, .goto (-40), 3), (93, .iload_n 3, 1), (94, .ifCond .eq 7, 3), (97, .iconst 1, 1), (98, .goto 4, 3), (101, .iconst 0, 1), (102, .ireturn, 1)]
theorem yz_X12_shatter_ok : ∀ q ∈ yz_X12_shatter, decode cX12_shatter q.1 = .ok q.2 := by decide +kernel
theorem yd_yX12_shatter : yX12_shatter.cls = RX12 ∧ yX12_shatter.cls ≠ "java/lang/invoke/MethodHandle" ∧ yX12_shatter.cls ≠ "java/lang/invoke/VarHandle" ∧ (parseMethodDescriptor yX12_shatter.desc).map (fun d => d.parameters.length) = some 1 := by decide +kernel
def yz_X12_sheet : List (Nat × (Instr × Nat)) := [(0, .aload_n 0, 1), (1, .iconst 0, 1), (2, .putfield 124, 3), (5, .iload_n 1, 1), (6, .invokestatic 157, 3), (9, .ifCond .eq 21, 3), (12, .iload_n 2, 1), (13, .i2l, 1), (14, .lconst 0, 1), (15, .ldc2_w 153, 3), (18, .invokestatic 133, 3), (21, .ifCond .eq 9, 3), (24, .iload_n 3, 1), (25, .bipush 100, 2), (27, .if_icmp .le 9, 3), (30, .aload_n 0, 1), (31, .iconst (-1), 1), (32, .invokevirtual 141, 3), (35, .ireturn, 1), (36, .aload_n 0, 1), (37, .getfield 26, 3), (40, .iload_n 1, 1), (41, .iload_n 3, 1), (42, .ifCond .ge 7, 3), (45, .iconst (-1), 1), (46, .goto 4, 3), (49, .iload_n 2, 1), (50, .iastore, 1), (51, .aload_n 0, 1), (52, .getfield 29, 3), (55, .iload_n 1, 1), (56, .iload_n 3, 1), (57, .ifCond .ge 7, 3), (60, .iconst 0, 1), (61, .goto 4, 3), (64, .iload_n 3, 1), (65, .iastore, 1), (66, .iconst 0, 1), (67, .istore 4, 2), (69, .iload 4, 2), (71, .bipush 100, 2), (73, .if_icmp .ge 22, 3), (76, .aload_n 0, 1), (77, .getfield 22, 3), (80, .bipush 100, 2), (82, .iload_n 1, 1), (83, .imul, 1), (84, .iload 4, 2), (86, .iadd, 1), (87, .lconst 0, 1), (88, .lastore, 1), (89, .iinc 4 1, 3), (92, .goto (-23), 3), (95, .aload_n 0, 1), (96, .iload_n 3, 1), (97, .ifCond .ge 8, 3), (100, .bipush (-4), 2), (102, .goto 4, 3), (105, .iload_n 3, 1), (106, .invokevirtual 141, 3), (109, .ireturn, 1)]
theorem yz_X12_sheet_ok : ∀ q ∈ yz_X12_sheet, decode cX12_sheet q.1 = .ok q.2 := by decide +kernel
theorem yd_yX12_sheet : yX12_sheet.cls = RX12 ∧ yX12_sheet.cls ≠ "java/lang/invoke/MethodHandle" ∧ yX12_sheet.cls ≠ "java/lang/invoke/VarHandle" ∧ (parseMethodDescriptor yX12_sheet.desc).map (fun d => d.parameters.length) = some 3 := by decide +kernel
def yz_X12_status : List (Nat × (Instr × Nat)) := [(0, .aload_n 0, 1), (1, .iconst 0, 1), (2, .putfield 124, 3), (5, .aload_n 0, 1), (6, .getfield 127, 3), (9, .ireturn, 1)]
theorem yz_X12_status_ok : ∀ q ∈ yz_X12_status, decode cX12_status q.1 = .ok q.2 := by decide +kernel
theorem yd_yX12_status : yX12_status.cls = RX12 ∧ yX12_status.cls ≠ "java/lang/invoke/MethodHandle" ∧ yX12_status.cls ≠ "java/lang/invoke/VarHandle" ∧ (parseMethodDescriptor yX12_status.desc).map (fun d => d.parameters.length) = some 0 := by decide +kernel
def yz_X12_step : List (Nat × (Instr × Nat)) := [(0, .aload_n 0, 1), (1, .iconst 0, 1), (2, .putfield 124, 3), (5, .iload_n 1, 1), (6, .i2l, 1), (7, .lconst 0, 1), (8, .aload_n 0, 1), (9, .getfield 376, 3), (12, .i2l, 1), (13, .lconst 1, 1), (14, .lsub, 1), (15, .invokestatic 133, 3), (18, .ifCond .ne 7, 3), (21, .ldc2_w 270, 3), (24, .lreturn, 1), (25, .iload_n 2, 1), (26, .tableswitch 72 0 4 #[34, 42, 50, 58, 65], 34), (60, .aload_n 0, 1), (61, .getfield 63, 3), (64, .iload_n 1, 1), (65, .iaload, 1), (66, .i2l, 1), (67, .lreturn, 1), (68, .aload_n 0, 1), (69, .getfield 66, 3), (72, .iload_n 1, 1), (73, .iaload, 1), (74, .i2l, 1), (75, .lreturn, 1), (76, .aload_n 0, 1), (77, .getfield 69, 3), (80, .iload_n 1, 1), (81, .iaload, 1), (82, .i2l, 1), (83, .lreturn, 1), (84, .aload_n 0, 1), (85, .getfield 72, 3), (88, .iload_n 1, 1), (89, .laload, 1), (90, .lreturn, 1), (91, .aload_n 0, 1), (92, .getfield 75, 3), (95, .iload_n 1, 1), (96, .laload, 1), (97, .lreturn, 1), (98, .ldc2_w 270, 3), (101, .lreturn, 1)]
theorem yz_X12_step_ok : ∀ q ∈ yz_X12_step, decode cX12_step q.1 = .ok q.2 := by decide +kernel
theorem yd_yX12_step : yX12_step.cls = RX12 ∧ yX12_step.cls ≠ "java/lang/invoke/MethodHandle" ∧ yX12_step.cls ≠ "java/lang/invoke/VarHandle" ∧ (parseMethodDescriptor yX12_step.desc).map (fun d => d.parameters.length) = some 2 := by decide +kernel
def yz_X12_stepSays : List (Nat × (Instr × Nat)) := [(0, .iload_n 0, 1), (1, .ifCond .ne 7, 3), (4, .iload_n 3, 1), (5, .goto 5, 3), (8, .iload 4, 2), (10, .iload_n 1, 1), (11, .if_icmp .le 7, 3), (14, .iconst 1, 1), (15, .goto 4, 3), (18, .iconst 0, 1), (19, .istore 5, 2), (21, .iload 5, 2), (23, .iload_n 2, 1), (24, .ifCond .ne 7, 3), (27, .iconst 1, 1), (28, .goto 4, 3), (31, .iconst 0, 1), (32, .if_icmp .ne 7, 3), (35, .iconst 1, 1), (36, .goto 4, 3), (39, .iconst 0, 1), (40, .ireturn, 1)]
theorem yz_X12_stepSays_ok : ∀ q ∈ yz_X12_stepSays, decode cX12_stepSays q.1 = .ok q.2 := by decide +kernel
theorem yd_yX12_stepSays : yX12_stepSays.cls ≠ "java/lang/invoke/MethodHandle" ∧ yX12_stepSays.cls ≠ "java/lang/invoke/VarHandle" ∧ (parseMethodDescriptor yX12_stepSays.desc).map (fun d => d.parameters.length) = some 5 := by decide +kernel
def yz_X12_times : List (Nat × (Instr × Nat)) := [(0, .iconst 0, 1), (1, .istore 4, 2), (3, .iload 4, 2), (5, .bipush 80, 2), (7, .if_icmp .ge 25, 3), (10, .aload_n 0, 1), (11, .getfield 91, 3), (14, .iload 4, 2), (16, .aload_n 1, 1), (17, .iload 4, 2), (19, .iaload, 1), (20, .iastore, 1), (21, .aload_n 1, 1), (22, .iload 4, 2), (24, .iconst 0, 1), (25, .iastore, 1), (26, .iinc 4 1, 3), (29, .goto (-26), 3), (32, .lconst 0, 1), (33, .lstore 4, 2), (35, .iconst 0, 1), (36, .istore 6, 2), (38, .iload 6, 2), (40, .bipush 80, 2), (42, .if_icmp .ge 81, 3), (45, .lload 4, 2), (47, .lstore 7, 2), (49, .iconst 0, 1), (50, .istore 9, 2), (52, .iload 9, 2), (54, .iconst 3, 1), (55, .if_icmp .ge 44, 3), (58, .iload 9, 2), (60, .iload 6, 2), (62, .if_icmp .gt 37, 3), (65, .lload 7, 2), (67, .aload_n 0, 1), (68, .getfield 91, 3), (71, .iload 6, 2), (73, .iload 9, 2), (75, .isub, 1), (76, .iaload, 1), (77, .i2l, 1), (78, .lload_n 2, 1), (79, .bipush 16, 2), (81, .iload 9, 2), (83, .imul, 1), (84, .lshr, 1), (85, .ldc2_w 390, 3), (88, .land, 1), (89, .lmul, 1), (90, .ladd, 1), (91, .lstore 7, 2), (93, .iinc 9 1, 3), (96, .goto (-44), 3), (99, .aload_n 1, 1), (100, .iload 6, 2), (102, .lload 7, 2), (104, .ldc2_w 390, 3), (107, .land, 1), (108, .l2i, 1), (109, .iastore, 1), (110, .lload 7, 2), (112, .bipush 16, 2), (114, .lshr, 1), (115, .lstore 4, 2), (117, .iinc 6 1, 3), (120, .goto (-82), 3), (123, .return_, 1)]
theorem yz_X12_times_ok : ∀ q ∈ yz_X12_times, decode cX12_times q.1 = .ok q.2 := by decide +kernel
theorem yd_yX12_times : yX12_times.cls = RX12 ∧ yX12_times.cls ≠ "java/lang/invoke/MethodHandle" ∧ yX12_times.cls ≠ "java/lang/invoke/VarHandle" ∧ (parseMethodDescriptor yX12_times.desc).map (fun d => d.parameters.length) = some 2 := by decide +kernel
def yz_X12_told : List (Nat × (Instr × Nat)) := [(0, .aload_n 0, 1), (1, .iload_n 1, 1), (2, .ifCond .ge 7, 3), (5, .iload_n 1, 1), (6, .goto 4, 3), (9, .iconst 0, 1), (10, .putfield 127, 3), (13, .iload_n 1, 1), (14, .ireturn, 1)]
theorem yz_X12_told_ok : ∀ q ∈ yz_X12_told, decode cX12_told q.1 = .ok q.2 := by decide +kernel
theorem yd_yX12_told : yX12_told.cls = RX12 ∧ yX12_told.cls ≠ "java/lang/invoke/MethodHandle" ∧ yX12_told.cls ≠ "java/lang/invoke/VarHandle" ∧ (parseMethodDescriptor yX12_told.desc).map (fun d => d.parameters.length) = some 1 := by decide +kernel
def yz_X12_turnAbout : List (Nat × (Instr × Nat)) := [(0, .iconst 0, 1), (1, .istore_n 3, 1), (2, .iconst 0, 1), (3, .istore 4, 2), (5, .iconst 0, 1), (6, .istore 5, 2), (8, .iload 5, 2), (10, .aload_n 0, 1), (11, .getfield 322, 3), (14, .if_icmp .ge 65, 3), (17, .aload_n 0, 1), (18, .getfield 48, 3), (21, .iload 5, 2), (23, .iaload, 1), (24, .istore 6, 2), (26, .aload_n 0, 1), (27, .iload_n 1, 1), (28, .iload_n 2, 1), (29, .iload 6, 2), (31, .invokevirtual 174, 3), (34, .lstore 7, 2), (36, .iload_n 3, 1), (37, .lload 7, 2), (39, .lconst 0, 1), (40, .lcmp, 1), (41, .ifCond .le 10, 3), (44, .iconst 1, 1), (45, .iload 6, 2), (47, .ishl, 1), (48, .goto 4, 3), (51, .iconst 0, 1), (52, .ior, 1), (53, .istore_n 3, 1), (54, .lload 7, 2), (56, .lconst 0, 1), (57, .lcmp, 1), (58, .ifCond .ne 15, 3), (61, .aload_n 0, 1), (62, .getfield 51, 3), (65, .iload 4, 2), (67, .iload 6, 2), (69, .iastore, 1), (70, .iinc 4 1, 3), (73, .iinc 5 1, 3), (76, .goto (-68), 3), (79, .iconst 0, 1), (80, .istore 5, 2), (82, .iload 5, 2), (84, .iload 4, 2), (86, .if_icmp .ge 198, 3), (89, .iload_n 3, 1), (90, .istore 6, 2), (92, .iload_n 3, 1), (93, .istore 7, 2), (95, .iload_n 3, 1), (96, .istore 8, 2), (98, .iload_n 3, 1), (99, .istore 9, 2), (101, .iconst 0, 1), (102, .istore 10, 2), (104, .iload 10, 2), (106, .iload 4, 2), (108, .if_icmp .ge 138, 3), (111, .aload_n 0, 1), (112, .iload_n 1, 1), (113, .iload_n 2, 1), (114, .aload_n 0, 1), (115, .getfield 51, 3), (118, .iload 10, 2), (120, .iaload, 1), (121, .invokevirtual 333, 3), (124, .aload_n 0, 1), (125, .iload_n 1, 1), (126, .iload_n 2, 1), (127, .aload_n 0, 1), (128, .getfield 51, 3), (131, .iload 5, 2), (133, .iaload, 1), (134, .invokevirtual 333, 3), (137, .lsub, 1), (138, .lstore 11, 2), (140, .iload 6, 2), (142, .lload 11, 2), (144, .lconst 0, 1), (145, .lcmp, 1), (146, .ifCond .gt 15, 3), (149, .iconst 1, 1), (150, .aload_n 0, 1), (151, .getfield 51, 3), (154, .iload 10, 2), (156, .iaload, 1), (157, .ishl, 1), (158, .goto 4, 3), (161, .iconst 0, 1), (162, .ior, 1), (163, .istore 6, 2), (165, .iload 7, 2), (167, .lload 11, 2), (169, .lconst 0, 1), (170, .lcmp, 1), (171, .ifCond .ge 15, 3), (174, .iconst 1, 1), (175, .aload_n 0, 1), (176, .getfield 51, 3), (179, .iload 10, 2), (181, .iaload, 1), (182, .ishl, 1), (183, .goto 4, 3), (186, .iconst 0, 1), (187, .ior, 1), (188, .istore 7, 2), (190, .iload 8, 2), (192, .lload 11, 2), (194, .lconst 0, 1), (195, .lcmp, 1), (196, .ifCond .lt 15, 3), (199, .iconst 1, 1), (200, .aload_n 0, 1), (201, .getfield 51, 3), (204, .iload 10, 2), (206, .iaload, 1), (207, .ishl, 1), (208, .goto 4, 3), (211, .iconst 0, 1), (212, .ior, 1), (213, .istore 8, 2), (215, .iload 9, 2), (217, .lload 11, 2), (219, .lconst 0, 1), (220, .lcmp, 1), (221, .ifCond .le 15, 3), (224, .iconst 1, 1), (225, .aload_n 0, 1), (226, .getfield 51, 3), (229, .iload 10, 2), (231, .iaload, 1), (232, .ishl, 1), (233, .goto 4, 3), (236, .iconst 0, 1), (237, .ior, 1), (238, .istore 9, 2), (240, .iinc 10 1, 3), (243, .goto (-139), 3), (246, .aload_n 0, 1), (247, .getfield 44, 3), (250, .iload 6, 2), (252, .iconst 1, 1), (253, .bastore, 1), (254, .aload_n 0, 1), (255, .getfield 44, 3), (258, .iload 7, 2), (260, .iconst 1, 1), (261, .bastore, 1), (262, .aload_n 0, 1), (263, .getfield 44, 3), (266, .iload 8, 2), (268, .iconst 1, 1), (269, .bastore, 1), (270, .aload_n 0, 1), (271, .getfield 44, 3), (274, .iload 9, 2), (276, .iconst 1, 1), (277, .bastore, 1), (278, .iinc 5 1, 3), (281, .goto (-199), 3), (284, .return_, 1)]
theorem yz_X12_turnAbout_ok : ∀ q ∈ yz_X12_turnAbout, decode cX12_turnAbout q.1 = .ok q.2 := by decide +kernel
theorem yd_yX12_turnAbout : yX12_turnAbout.cls = RX12 ∧ yX12_turnAbout.cls ≠ "java/lang/invoke/MethodHandle" ∧ yX12_turnAbout.cls ≠ "java/lang/invoke/VarHandle" ∧ (parseMethodDescriptor yX12_turnAbout.desc).map (fun d => d.parameters.length) = some 2 := by decide +kernel
def yz_X12_vote : List (Nat × (Instr × Nat)) := [(0, .aload_n 0, 1), (1, .iconst 0, 1), (2, .putfield 124, 3), (5, .aload_n 0, 1), (6, .getfield 376, 3), (9, .ifCond .ne 5, 3), (12, .iconst 2, 1), (13, .ireturn, 1), (14, .aload_n 0, 1), (15, .getfield 78, 3), (18, .iconst 1, 1), (19, .if_icmp .ne 27, 3), (22, .aload_n 0, 1), (23, .getfield 63, 3), (26, .iconst 0, 1), (27, .iaload, 1), (28, .aload_n 0, 1), (29, .getfield 66, 3), (32, .iconst 0, 1), (33, .iaload, 1), (34, .aload_n 0, 1), (35, .getfield 69, 3), (38, .iconst 0, 1), (39, .iaload, 1), (40, .iload_n 1, 1), (41, .iload_n 2, 1), (42, .invokestatic 369, 3), (45, .ireturn, 1), (46, .iconst 0, 1), (47, .istore_n 3, 1), (48, .iload_n 3, 1), (49, .bipush 80, 2), (51, .if_icmp .ge 39, 3), (54, .aload_n 0, 1), (55, .getfield 85, 3), (58, .iload_n 3, 1), (59, .iload_n 3, 1), (60, .ifCond .ne 7, 3), (63, .iconst 1, 1), (64, .goto 4, 3), (67, .iconst 0, 1), (68, .iastore, 1), (69, .aload_n 0, 1), (70, .getfield 88, 3), (73, .iload_n 3, 1), (74, .iload_n 3, 1), (75, .ifCond .ne 7, 3), (78, .iconst 1, 1), (79, .goto 4, 3), (82, .iconst 0, 1), (83, .iastore, 1), (84, .iinc 3 1, 3), (87, .goto (-39), 3), (90, .iconst 0, 1), (91, .istore_n 3, 1), (92, .iload_n 3, 1), (93, .aload_n 0, 1), (94, .getfield 376, 3), (97, .if_icmp .ge 102, 3), (100, .aload_n 0, 1), (101, .getfield 63, 3), (104, .iload_n 3, 1), (105, .iaload, 1), (106, .aload_n 0, 1), (107, .getfield 66, 3), (110, .iload_n 3, 1), (111, .iaload, 1), (112, .aload_n 0, 1), (113, .getfield 69, 3), (116, .iload_n 3, 1), (117, .iaload, 1), (118, .iload_n 1, 1), (119, .iload_n 2, 1), (120, .invokestatic 369, 3), (123, .iconst 1, 1), (124, .if_icmp .ne 7, 3), (127, .iconst 1, 1), (128, .goto 4, 3), (131, .iconst 0, 1), (132, .istore 4, 2), (134, .aload_n 0, 1), (135, .iload 4, 2), (137, .ifCond .eq 10, 3), (140, .aload_n 0, 1), (141, .getfield 85, 3), (144, .goto 7, 3), (147, .aload_n 0, 1), (148, .getfield 88, 3), (151, .aload_n 0, 1), (152, .getfield 75, 3), (155, .iload_n 3, 1), (156, .laload, 1), (157, .aload_n 0, 1), (158, .getfield 72, 3), (161, .iload_n 3, 1), (162, .laload, 1), (163, .lsub, 1), (164, .invokevirtual 392, 3), (167, .aload_n 0, 1), (168, .iload 4, 2), (170, .ifCond .eq 10, 3), (173, .aload_n 0, 1), (174, .getfield 88, 3), (177, .goto 7, 3), (180, .aload_n 0, 1), (181, .getfield 85, 3), (184, .aload_n 0, 1), (185, .getfield 72, 3), (188, .iload_n 3, 1), (189, .laload, 1), (190, .invokevirtual 392, 3), (193, .iinc 3 1, 3), (196, .goto (-104), 3), (199, .bipush 79, 2), (201, .istore_n 3, 1), (202, .iload_n 3, 1), (203, .ifCond .lt 45, 3), (206, .aload_n 0, 1), (207, .getfield 85, 3), (210, .iload_n 3, 1), (211, .iaload, 1), (212, .aload_n 0, 1), (213, .getfield 88, 3), (216, .iload_n 3, 1), (217, .iaload, 1), (218, .if_icmp .eq 24, 3), (221, .aload_n 0, 1), (222, .getfield 85, 3), (225, .iload_n 3, 1), (226, .iaload, 1), (227, .aload_n 0, 1), (228, .getfield 88, 3), (231, .iload_n 3, 1), (232, .iaload, 1), (233, .if_icmp .le 7, 3), (236, .iconst 1, 1), (237, .goto 4, 3), (240, .iconst 0, 1), (241, .ireturn, 1), (242, .iinc 3 (-1), 3), (245, .goto (-43), 3), (248, .iconst 2, 1), (249, .ireturn, 1)]
theorem yz_X12_vote_ok : ∀ q ∈ yz_X12_vote, decode cX12_vote q.1 = .ok q.2 := by decide +kernel
theorem yd_yX12_vote : yX12_vote.cls = RX12 ∧ yX12_vote.cls ≠ "java/lang/invoke/MethodHandle" ∧ yX12_vote.cls ≠ "java/lang/invoke/VarHandle" ∧ (parseMethodDescriptor yX12_vote.desc).map (fun d => d.parameters.length) = some 2 := by decide +kernel
def yz_X12_ways : List (Nat × (Instr × Nat)) := [(0, .aload_n 0, 1), (1, .iconst 0, 1), (2, .putfield 124, 3), (5, .aload_n 0, 1), (6, .iload_n 1, 1), (7, .invokevirtual 338, 3), (10, .ifCond .ne 5, 3), (13, .iconst (-1), 1), (14, .ireturn, 1), (15, .aload_n 0, 1), (16, .iconst 1, 1), (17, .iload_n 1, 1), (18, .ishl, 1), (19, .iconst 1, 1), (20, .isub, 1), (21, .invokevirtual 341, 3), (24, .iconst 0, 1), (25, .istore_n 2, 1), (26, .iconst 0, 1), (27, .istore_n 3, 1), (28, .iload_n 3, 1), (29, .sipush 4096, 3), (32, .if_icmp .ge 26, 3), (35, .iload_n 2, 1), (36, .aload_n 0, 1), (37, .getfield 44, 3), (40, .iload_n 3, 1), (41, .baload, 1), (42, .ifCond .eq 7, 3), (45, .iconst 1, 1), (46, .goto 4, 3), (49, .iconst 0, 1), (50, .iadd, 1), (51, .istore_n 2, 1), (52, .iinc 3 1, 3), (55, .goto (-27), 3), (58, .iload_n 2, 1), (59, .ireturn, 1)]
theorem yz_X12_ways_ok : ∀ q ∈ yz_X12_ways, decode cX12_ways q.1 = .ok q.2 := by decide +kernel
theorem yd_yX12_ways : yX12_ways.cls = RX12 ∧ yX12_ways.cls ≠ "java/lang/invoke/MethodHandle" ∧ yX12_ways.cls ≠ "java/lang/invoke/VarHandle" ∧ (parseMethodDescriptor yX12_ways.desc).map (fun d => d.parameters.length) = some 1 := by decide +kernel
def yz_X12_write : List (Nat × (Instr × Nat)) := [(0, .aload_n 0, 1), (1, .iconst 0, 1), (2, .putfield 124, 3), (5, .iload_n 1, 1), (6, .invokestatic 157, 3), (9, .ifCond .ne 9, 3), (12, .aload_n 0, 1), (13, .iconst (-1), 1), (14, .invokevirtual 141, 3), (17, .ireturn, 1), (18, .aload_n 0, 1), (19, .getfield 26, 3), (22, .iload_n 1, 1), (23, .iaload, 1), (24, .ifCond .ge 10, 3), (27, .aload_n 0, 1), (28, .bipush (-2), 2), (30, .invokevirtual 141, 3), (33, .ireturn, 1), (34, .iload_n 2, 1), (35, .i2l, 1), (36, .lconst 0, 1), (37, .aload_n 0, 1), (38, .getfield 29, 3), (41, .iload_n 1, 1), (42, .iaload, 1), (43, .i2l, 1), (44, .lconst 1, 1), (45, .lsub, 1), (46, .invokestatic 133, 3), (49, .ifCond .ne 10, 3), (52, .aload_n 0, 1), (53, .bipush (-3), 2), (55, .invokevirtual 141, 3), (58, .ireturn, 1), (59, .aload_n 0, 1), (60, .getfield 22, 3), (63, .bipush 100, 2), (65, .iload_n 1, 1), (66, .imul, 1), (67, .iload_n 2, 1), (68, .iadd, 1), (69, .aload_n 0, 1), (70, .getfield 26, 3), (73, .iload_n 1, 1), (74, .iaload, 1), (75, .lload_n 3, 1), (76, .invokestatic 160, 3), (79, .lastore, 1), (80, .aload_n 0, 1), (81, .iconst 0, 1), (82, .invokevirtual 141, 3), (85, .ireturn, 1)]
theorem yz_X12_write_ok : ∀ q ∈ yz_X12_write, decode cX12_write q.1 = .ok q.2 := by decide +kernel
theorem yd_yX12_write : yX12_write.cls = RX12 ∧ yX12_write.cls ≠ "java/lang/invoke/MethodHandle" ∧ yX12_write.cls ≠ "java/lang/invoke/VarHandle" ∧ (parseMethodDescriptor yX12_write.desc).map (fun d => d.parameters.length) = some 3 := by decide +kernel
def yz_J6_bitCount_0f7a4 : List (Nat × (Instr × Nat)) := [(0, .iload_n 0, 1), (1, .iload_n 0, 1), (2, .iconst 1, 1), (3, .iushr, 1), (4, .ldc_w 265, 3), (7, .iand, 1), (8, .isub, 1), (9, .istore_n 0, 1), (10, .iload_n 0, 1), (11, .ldc_w 266, 3), (14, .iand, 1), (15, .iload_n 0, 1), (16, .iconst 2, 1), (17, .iushr, 1), (18, .ldc_w 266, 3), (21, .iand, 1), (22, .iadd, 1), (23, .istore_n 0, 1), (24, .iload_n 0, 1), (25, .iload_n 0, 1), (26, .iconst 4, 1), (27, .iushr, 1), (28, .iadd, 1), (29, .ldc_w 267, 3), (32, .iand, 1), (33, .istore_n 0, 1), (34, .iload_n 0, 1), (35, .iload_n 0, 1), (36, .bipush 8, 2), (38, .iushr, 1), (39, .iadd, 1), (40, .istore_n 0, 1), (41, .iload_n 0, 1), (42, .iload_n 0, 1), (43, .bipush 16, 2), (45, .iushr, 1), (46, .iadd, 1), (47, .istore_n 0, 1), (48, .iload_n 0, 1), (49, .bipush 63, 2), (51, .iand, 1), (52, .ireturn, 1)]
theorem yz_J6_bitCount_0f7a4_ok : ∀ q ∈ yz_J6_bitCount_0f7a4, decode cJ6_bitCount_0f7a4 q.1 = .ok q.2 := by decide +kernel
theorem yd_yJ6_bitCount_0f7a4 : yJ6_bitCount_0f7a4.cls ≠ "java/lang/invoke/MethodHandle" ∧ yJ6_bitCount_0f7a4.cls ≠ "java/lang/invoke/VarHandle" ∧ (parseMethodDescriptor yJ6_bitCount_0f7a4.desc).map (fun d => d.parameters.length) = some 1 := by decide +kernel
def yz_J13_bitCount_95d88 : List (Nat × (Instr × Nat)) := [(0, .lload_n 0, 1), (1, .lload_n 0, 1), (2, .iconst 1, 1), (3, .lushr, 1), (4, .ldc2_w 314, 3), (7, .land, 1), (8, .lsub, 1), (9, .lstore_n 0, 1), (10, .lload_n 0, 1), (11, .ldc2_w 316, 3), (14, .land, 1), (15, .lload_n 0, 1), (16, .iconst 2, 1), (17, .lushr, 1), (18, .ldc2_w 316, 3), (21, .land, 1), (22, .ladd, 1), (23, .lstore_n 0, 1), (24, .lload_n 0, 1), (25, .lload_n 0, 1), (26, .iconst 4, 1), (27, .lushr, 1), (28, .ladd, 1), (29, .ldc2_w 318, 3), (32, .land, 1), (33, .lstore_n 0, 1), (34, .lload_n 0, 1), (35, .lload_n 0, 1), (36, .bipush 8, 2), (38, .lushr, 1), (39, .ladd, 1), (40, .lstore_n 0, 1), (41, .lload_n 0, 1), (42, .lload_n 0, 1), (43, .bipush 16, 2), (45, .lushr, 1), (46, .ladd, 1), (47, .lstore_n 0, 1), (48, .lload_n 0, 1), (49, .lload_n 0, 1), (50, .bipush 32, 2), (52, .lushr, 1), (53, .ladd, 1), (54, .lstore_n 0, 1), (55, .lload_n 0, 1), (56, .l2i, 1), (57, .bipush 127, 2), (59, .iand, 1), (60, .ireturn, 1)]
theorem yz_J13_bitCount_95d88_ok : ∀ q ∈ yz_J13_bitCount_95d88, decode cJ13_bitCount_95d88 q.1 = .ok q.2 := by decide +kernel
theorem yd_yJ13_bitCount_95d88 : yJ13_bitCount_95d88.cls ≠ "java/lang/invoke/MethodHandle" ∧ yJ13_bitCount_95d88.cls ≠ "java/lang/invoke/VarHandle" ∧ (parseMethodDescriptor yJ13_bitCount_95d88.desc).map (fun d => d.parameters.length) = some 1 := by decide +kernel
def yz_J7_fill_031fb : List (Nat × (Instr × Nat)) := [(0, .iconst 0, 1), (1, .istore_n 2, 1), (2, .aload_n 0, 1), (3, .arraylength, 1), (4, .istore_n 3, 1), (5, .iload_n 2, 1), (6, .iload_n 3, 1), (7, .if_icmp .ge 13, 3), (10, .aload_n 0, 1), (11, .iload_n 2, 1), (12, .iload_n 1, 1), (13, .bastore, 1), (14, .iinc 2 1, 3), (17, .goto (-12), 3), (20, .return_, 1)]
theorem yz_J7_fill_031fb_ok : ∀ q ∈ yz_J7_fill_031fb, decode cJ7_fill_031fb q.1 = .ok q.2 := by decide +kernel
theorem yd_yJ7_fill_031fb : yJ7_fill_031fb.cls ≠ "java/lang/invoke/MethodHandle" ∧ yJ7_fill_031fb.cls ≠ "java/lang/invoke/VarHandle" ∧ (parseMethodDescriptor yJ7_fill_031fb.desc).map (fun d => d.parameters.length) = some 2 := by decide +kernel
def yz_J7_fill_d0a16 : List (Nat × (Instr × Nat)) := [(0, .iconst 0, 1), (1, .istore_n 3, 1), (2, .aload_n 0, 1), (3, .arraylength, 1), (4, .istore 4, 2), (6, .iload_n 3, 1), (7, .iload 4, 2), (9, .if_icmp .ge 13, 3), (12, .aload_n 0, 1), (13, .iload_n 3, 1), (14, .lload_n 1, 1), (15, .lastore, 1), (16, .iinc 3 1, 3), (19, .goto (-13), 3), (22, .return_, 1)]
theorem yz_J7_fill_d0a16_ok : ∀ q ∈ yz_J7_fill_d0a16, decode cJ7_fill_d0a16 q.1 = .ok q.2 := by decide +kernel
theorem yd_yJ7_fill_d0a16 : yJ7_fill_d0a16.cls ≠ "java/lang/invoke/MethodHandle" ∧ yJ7_fill_d0a16.cls ≠ "java/lang/invoke/VarHandle" ∧ (parseMethodDescriptor yJ7_fill_d0a16.desc).map (fun d => d.parameters.length) = some 2 := by decide +kernel
end
section
/-! contracts without words -/
def yx_Ty (tys : List (ClassId × FieldType)) (cT : Nat → ClassId) : Prop := tys[0]? = some (cT 0, .int) ∧ tys[1]? = some (cT 1, .long) ∧ tys[2]? = some (cT 2, .byte) ∧ tys[3]? = some (cT 3, .boolean) ∧ ∀ i, 4 ≤ i → i < 9 → ∃ C, tys[i]? = some (cT i, .object C)
def yx_kinds (sh : List ys_C) : Bool := sh.all (fun c => match c with
  | .inl _ => true
  | .inr y => decide (y.1 < 9))
theorem yx_ty {tys : List (ClassId × FieldType)} {cT : Nat → ClassId} {sh : List ys_C} (h : yx_Ty tys cT) (hk : yx_kinds sh = true) : ys_Ty tys cT sh := by
  obtain ⟨h0, h1, h2, h3, h4⟩ := h
  have hlt : ∀ (k : Nat) (y : Nat × Nat × List Nat), sh[k]? = some (.inr y) → y.1 < 9 := fun k y hy => of_decide_eq_true (List.all_eq_true.mp hk _ (List.mem_of_getElem? hy))
  refine ⟨h0, h1, h2, h3, fun k y hy => ?_, fun k y hy h => h4 y.1 h (hlt k y hy)⟩
  have h5 := hlt k y hy
  by_cases h6 : 4 ≤ y.1
  · obtain ⟨C, hC⟩ := h4 y.1 h6 h5
    exact ⟨_, hC⟩
  · rcases (show y.1 = 0 ∨ y.1 = 1 ∨ y.1 = 2 ∨ y.1 = 3 by omega) with q | q | q | q
    · rw [q]; exact ⟨_, h0⟩
    · rw [q]; exact ⟨_, h1⟩
    · rw [q]; exact ⟨_, h2⟩
    · rw [q]; exact ⟨_, h3⟩
abbrev yx_C (l : Launch) (D : va_G) (cT : Nat → ClassId) (tys : List (ClassId × FieldType)) (sh : List ys_C) (K : ys_K) : Prop := yt_Con l D vwCl cT tys yG sh K (fun _ _ => True) (fun _ _ _ _ => True)
def yx_chk (sh : List ys_C) (calls : List yt_CE) (K : ys_K) (Z : yt_Q) (n : Nat) : Bool := yx_kinds sh && (calls.all (fun C => yt_shok C.1.2.2.2 C.2.1 sh) && (Z.2.2.2.isEmpty && yt_chk sh calls K Z n []))
theorem yx_method {l : Launch} {D : va_G} {cT : Nat → ClassId} {tys : List (ClassId × FieldType)} {sh : List ys_C} {K : ys_K} {calls : List yt_CE} {Z : yt_Q} (n : Nat) (hy : plainName K.1.1.1.cls = true) (hcode : ∀ q ∈ Z.1, decode K.1.1.2.1 q.1 = .ok q.2) (hty : yx_Ty tys cT) (hLk : ys_Lk K.1.1.1.cls (ys_ws yG K) vwCl Z.2.1.1 Z.2.1.2.1 Z.2.1.2.2.1 Z.2.1.2.2.2.1) (hCq : ∀ v, v ∈ Z.2.1.2.2.2.2 → yt_Cq K.1.1.1.cls (ys_ws yG K) v) (hcalls : ∀ C ∈ calls, yx_C l D cT tys C.2.1 C.2.2 ∧ ys_CL K.1.1.1.cls (ys_ws yG K) vwCl C.2.1 yG (if C.1.1.2 = true then .invokestatic C.1.1.1 else .invokevirtual C.1.1.1) C.2.2) (hchk : yx_chk sh calls K Z n = true) : yx_C l D cT tys sh K := by
  unfold yx_chk at hchk
  rw [Bool.and_eq_true, Bool.and_eq_true, Bool.and_eq_true] at hchk
  obtain ⟨c1, c2, c3, c4⟩ := hchk
  exact yt_method (tb := fun _ _ _ _ _ => True) (pt := fun _ _ _ => True) (Ga := fun _ _ _ _ => True) (vs := []) n hy hcode (yx_ty hty c1) hLk hCq (fun C hC => ⟨(hcalls C hC).1, (hcalls C hC).2, List.all_eq_true.mp c2 C hC, fun _ _ _ => trivial⟩) (fun _ _ _ _ _ _ _ => trivial) (fun _ _ _ _ _ => trivial) c4 (fun v hv => absurd hv List.not_mem_nil) (fun _ _ _ v hv => absurd hv List.not_mem_nil)
def ys_fs (F : List (List ys_V)) (x : List (Nat × Nat × ys_V)) : List (List ys_V) := x.foldl (fun F q => ys_fset F q.1 q.2.1 q.2.2) F
def ys_rs (A : List ys_R) (x : List (Nat × ys_R)) : List ys_R := x.foldl (fun A q => A.set q.1 q.2) A
end
section
def yw_s0 : List ys_C := [.inl 3]
def yw_f0 (n : Nat) : List (List ys_V) := [[.inl (.inr ([(n + 0, 1)], 0)), .inl (.inr ([(n + 1, 1)], 0)), .inl (.inr ([(n + 2, 1)], 0)), .inl (.inr ([(n + 3, 1)], 0)), .inl (.inr ([(n + 4, 1)], 0))]]
def yw_e0 : ys_E := [((-9223372036854775808), 9223372036854775807), ((-9223372036854775808), 9223372036854775807), ((-9223372036854775808), 9223372036854775807), ((-9223372036854775808), 9223372036854775807), ((-9223372036854775808), 9223372036854775807)]
def yw_r0 : List ys_R := [((0, 0), [])]
def xf_0 : ys_F := (yw_f0 0, yw_r0)
def xk_0 : ys_K := (((yX3_forget, cX3_forget, 1, none), (0, 0)), ([.inr (some 0)], ([] ++ yw_e0, []), xf_0), ([([], [], ((ys_fs xf_0.1 [(0, 0, .inl (.inr ([], 0))), (0, 1, .inl (.inr ([], 0))), (0, 2, .inl (.inr ([], 0))), (0, 3, .inl (.inr ([], 0))), (0, 4, .inl (.inr ([], 0)))]), xf_0.2), none)], []))
def xq_0 : yt_Q := (yz_X3_forget, (yl_flX3, yl_ciX3, yl_cjX3, yl_cpX3, yl_cqX3), [], [])
def xa_0 : List yt_CE := []
theorem xc_0 {l : Launch} {D : va_G} {cT : Nat → ClassId} {tys : List (ClassId × FieldType)} (hty : yx_Ty tys cT) : yx_C l D cT tys yw_s0 xk_0 := yx_method (calls := xa_0) (Z := xq_0) 300 (by decide +kernel) yz_X3_forget_ok hty (yl_lkX3 _) (yl_cqkX3 _) (fun _ h => absurd h List.not_mem_nil) (by decide +kernel)
def yw_s1 : List ys_C := [.inl 11, .inl 6, .inr (0, 40, []), .inr (0, 40, []), .inr (0, 40, []), .inr (0, 40, []), .inl 2, .inr (0, 12, []), .inr (0, 12, []), .inr (0, 12, []), .inl 3, .inr (4, 4, [12, 14, 16, 18]), .inl 8, .inr (1, 100, []), .inl 8, .inr (1, 100, []), .inl 8, .inr (1, 100, []), .inl 8, .inr (1, 100, []), .inr (5, 3, [21, 26, 31]), .inl 6, .inr (0, 40, []), .inr (0, 40, []), .inr (0, 40, []), .inr (0, 40, []), .inl 6, .inr (0, 40, []), .inr (0, 40, []), .inr (0, 40, []), .inr (0, 40, []), .inl 6, .inr (0, 40, []), .inr (0, 40, []), .inr (0, 40, []), .inr (0, 40, []), .inr (6, 3, [37, 41, 45]), .inl 2, .inr (0, 12, []), .inr (0, 12, []), .inr (0, 12, []), .inl 2, .inr (0, 12, []), .inr (0, 12, []), .inr (0, 12, []), .inl 2, .inr (0, 12, []), .inr (0, 12, []), .inr (0, 12, []), .inr (7, 3, [50, 51, 52]), .inl 3, .inl 3, .inl 3, .inr (3, 3, []), .inl 10, .inl 1, .inl 4, .inl 1, .inl 1, .inr (0, 4, []), .inr (8, 4, [61, 62, 63, 64]), .inl 1, .inl 1, .inl 1, .inl 1, .inr (0, 40, []), .inr (0, 40, []), .inl 5, .inr (1, 64, []), .inl 9, .inr (0, 12, []), .inr (0, 12, []), .inr (0, 12, []), .inr (1, 12, []), .inr (1, 12, []), .inr (1, 40, []), .inr (1, 40, []), .inr (1, 40, []), .inr (1, 40, []), .inl 7, .inr (0, 40, []), .inl 0, .inr (0, 12, []), .inr (0, 144, []), .inr (2, 4096, [])]
def yw_f1 (n : Nat) : List (List ys_V) := [[.inr (some 1), .inr (some 6), .inr (some 10), .inr (some 11), .inr (some 20), .inr (some 36), .inr (some 49), .inr (some 53), .inr (some 54), .inr (some 56), .inr (some 67), .inr (some 69), .inr (some 79), .inr (some 81), .inl (.inl ([(n + 0, 1)], 0))], [.inr (some 2), .inr (some 3), .inr (some 4), .inr (some 5), .inl (.inl ([(n + 1, 1)], 0)), .inl (.inl ([(n + 2, 1)], 0))], [], [], [], [], [.inl (.inl ([(n + 3, 1)], 0)), .inl (.inl ([(n + 4, 1)], 0)), .inr (some 7), .inr (some 8), .inr (some 9)], [], [], [], [.inl (.inr ([(n + 5, 1)], 0)), .inl (.inr ([(n + 6, 1)], 0)), .inl (.inr ([(n + 7, 1)], 0)), .inl (.inr ([(n + 8, 1)], 0)), .inl (.inr ([(n + 9, 1)], 0))], [], [.inr (some 13), .inl (.inl ([(n + 10, 1)], 0)), .inl (.inl ([(n + 11, 1)], 0)), .inl (.inl ([(n + 12, 1)], 0))], [], [.inr (some 15), .inl (.inl ([(n + 13, 1)], 0)), .inl (.inl ([(n + 14, 1)], 0)), .inl (.inl ([(n + 15, 1)], 0))], [], [.inr (some 17), .inl (.inl ([(n + 16, 1)], 0)), .inl (.inl ([(n + 17, 1)], 0)), .inl (.inl ([(n + 18, 1)], 0))], [], [.inr (some 19), .inl (.inl ([(n + 19, 1)], 0)), .inl (.inl ([(n + 20, 1)], 0)), .inl (.inl ([(n + 21, 1)], 0))], [], [], [.inr (some 22), .inr (some 23), .inr (some 24), .inr (some 25), .inl (.inl ([(n + 22, 1)], 0)), .inl (.inl ([(n + 23, 1)], 0))], [], [], [], [], [.inr (some 27), .inr (some 28), .inr (some 29), .inr (some 30), .inl (.inl ([(n + 24, 1)], 0)), .inl (.inl ([(n + 25, 1)], 0))], [], [], [], [], [.inr (some 32), .inr (some 33), .inr (some 34), .inr (some 35), .inl (.inl ([(n + 26, 1)], 0)), .inl (.inl ([(n + 27, 1)], 0))], [], [], [], [], [], [.inl (.inl ([(n + 28, 1)], 0)), .inl (.inl ([(n + 29, 1)], 0)), .inr (some 38), .inr (some 39), .inr (some 40)], [], [], [], [.inl (.inl ([(n + 30, 1)], 0)), .inl (.inl ([(n + 31, 1)], 0)), .inr (some 42), .inr (some 43), .inr (some 44)], [], [], [], [.inl (.inl ([(n + 32, 1)], 0)), .inl (.inl ([(n + 33, 1)], 0)), .inr (some 46), .inr (some 47), .inr (some 48)], [], [], [], [], [.inl (.inr ([(n + 34, 1)], 0)), .inl (.inr ([(n + 35, 1)], 0)), .inl (.inr ([(n + 36, 1)], 0)), .inl (.inr ([(n + 37, 1)], 0)), .inl (.inr ([(n + 38, 1)], 0))], [.inl (.inr ([(n + 39, 1)], 0)), .inl (.inr ([(n + 40, 1)], 0)), .inl (.inr ([(n + 41, 1)], 0)), .inl (.inr ([(n + 42, 1)], 0)), .inl (.inr ([(n + 43, 1)], 0))], [.inl (.inr ([(n + 44, 1)], 0)), .inl (.inr ([(n + 45, 1)], 0)), .inl (.inr ([(n + 46, 1)], 0)), .inl (.inr ([(n + 47, 1)], 0)), .inl (.inr ([(n + 48, 1)], 0))], [], [.inr (some 55), .inl (.inl ([(n + 49, 1)], 0)), .inl (.inr ([(n + 50, 1)], 0)), .inl (.inr ([(n + 51, 1)], 0)), .inl (.inr ([(n + 52, 1)], 0)), .inl (.inl ([(n + 53, 1)], 0)), .inl (.inl ([(n + 54, 1)], 0)), .inl (.inl ([(n + 55, 1)], 0)), .inl (.inl ([(n + 56, 1)], 0)), .inl (.inl ([(n + 57, 1)], 0)), .inl (.inl ([(n + 58, 1)], 0))], [.inl (.inr ([(n + 59, 1)], 0)), .inl (.inr ([(n + 60, 1)], 0))], [.inr (some 57), .inr (some 58), .inl (.inl ([(n + 61, 1)], 0)), .inl (.inl ([(n + 62, 1)], 0)), .inr (some 59), .inr (some 60), .inr (some 65), .inr (some 66), .inl (.inl ([(n + 63, 1)], 0)), .inl (.inl ([(n + 64, 1)], 0)), .inl (.inl ([(n + 65, 1)], 0))], [.inl (.inr ([(n + 66, 1)], 0)), .inl (.inr ([(n + 67, 1)], 0))], [.inl (.inr ([(n + 68, 1)], 0)), .inl (.inr ([(n + 69, 1)], 0))], [], [], [.inl (.inr ([(n + 70, 1)], 0)), .inl (.inr ([(n + 71, 1)], 0))], [.inl (.inr ([(n + 72, 1)], 0)), .inl (.inr ([(n + 73, 1)], 0))], [.inl (.inr ([(n + 74, 1)], 0)), .inl (.inr ([(n + 75, 1)], 0))], [.inl (.inr ([(n + 76, 1)], 0)), .inl (.inr ([(n + 77, 1)], 0))], [], [], [.inl (.inl ([(n + 78, 1)], 0)), .inl (.inl ([(n + 79, 1)], 0)), .inr (some 68), .inl (.inl ([(n + 80, 1)], 0))], [], [.inr (some 70), .inr (some 71), .inr (some 72), .inr (some 73), .inr (some 74), .inr (some 75), .inl (.inl ([(n + 81, 1)], 0)), .inl (.inl ([(n + 82, 1)], 0)), .inl (.inl ([(n + 83, 1)], 0)), .inr (some 76), .inr (some 77), .inr (some 78), .inl (.inl ([(n + 84, 1)], 0)), .inl (.inl ([(n + 85, 1)], 0)), .inl (.inl ([(n + 86, 1)], 0)), .inl (.inr ([(n + 87, 1)], 0)), .inl (.inr ([(n + 88, 1)], 0))], [], [], [], [], [], [], [], [], [], [.inr (some 80), .inl (.inl ([(n + 89, 1)], 0))], [], [.inr (some 82), .inl (.inl ([(n + 90, 1)], 0)), .inr (some 83), .inl (.inl ([(n + 91, 1)], 0)), .inr (some 84)], [], [], []]
def yw_e1 : ys_E := [((-2147483648), 2147483647), (0, 40), ((-2147483648), 2147483647), (0, 12), ((-2147483648), 2147483647), ((-9223372036854775808), 9223372036854775807), ((-9223372036854775808), 9223372036854775807), ((-9223372036854775808), 9223372036854775807), ((-9223372036854775808), 9223372036854775807), ((-9223372036854775808), 9223372036854775807), (0, 1), ((-2147483648), 2147483647), (0, 100), (0, 1), ((-2147483648), 2147483647), (0, 100), (0, 1), ((-2147483648), 2147483647), (0, 100), (0, 1), ((-2147483648), 2147483647), (0, 100), (0, 40), ((-2147483648), 2147483647), (0, 40), ((-2147483648), 2147483647), (0, 40), ((-2147483648), 2147483647), (0, 12), ((-2147483648), 2147483647), (0, 12), ((-2147483648), 2147483647), (0, 12), ((-2147483648), 2147483647), ((-9223372036854775808), 9223372036854775807), ((-9223372036854775808), 9223372036854775807), ((-9223372036854775808), 9223372036854775807), ((-9223372036854775808), 9223372036854775807), ((-9223372036854775808), 9223372036854775807), ((-9223372036854775808), 9223372036854775807), ((-9223372036854775808), 9223372036854775807), ((-9223372036854775808), 9223372036854775807), ((-9223372036854775808), 9223372036854775807), ((-9223372036854775808), 9223372036854775807), ((-9223372036854775808), 9223372036854775807), ((-9223372036854775808), 9223372036854775807), ((-9223372036854775808), 9223372036854775807), ((-9223372036854775808), 9223372036854775807), ((-9223372036854775808), 9223372036854775807), (0, 1), ((-9223372036854775808), 9223372036854775807), ((-9223372036854775808), 9223372036854775807), ((-9223372036854775808), 9223372036854775807), ((-2147483648), 2147483647), ((-2147483648), 2147483647), ((-2147483648), 2147483647), ((-2147483648), 2147483647), ((-2147483648), 2147483647), ((-2147483648), 2147483647), ((-9223372036854775808), 9223372036854775807), ((-9223372036854775808), 9223372036854775807), ((-2147483648), 2147483647), (0, 4), (0, 40), (0, 40), ((-2147483648), 2147483647), ((-9223372036854775808), 9223372036854775807), ((-9223372036854775808), 9223372036854775807), ((-9223372036854775808), 9223372036854775807), ((-9223372036854775808), 9223372036854775807), ((-9223372036854775808), 9223372036854775807), ((-9223372036854775808), 9223372036854775807), ((-9223372036854775808), 9223372036854775807), ((-9223372036854775808), 9223372036854775807), ((-9223372036854775808), 9223372036854775807), ((-9223372036854775808), 9223372036854775807), ((-9223372036854775808), 9223372036854775807), ((-9223372036854775808), 9223372036854775807), ((-2147483648), 2147483647), ((-2147483648), 2147483647), (0, 4095), (0, 40), (0, 12), ((-2147483648), 2147483647), ((-2147483648), 2147483647), ((-2147483648), 2147483647), ((-2147483648), 2147483647), ((-9223372036854775808), 9223372036854775807), ((-9223372036854775808), 9223372036854775807), (0, 40), (0, 12), (0, 144)]
def yw_r1 : List ys_R := [((0, 0), []), ((0, 0), []), (((-2147483648), 2147483647), []), (((-2147483648), 2147483647), []), (((-2147483648), 2147483647), []), (((-2147483648), 2147483647), []), ((0, 0), []), (((-2147483648), 2147483647), []), (((-2147483648), 2147483647), []), (((-2147483648), 2147483647), []), ((0, 0), []), ((0, 0), []), ((0, 0), []), (((-9223372036854775808), 9223372036854775807), []), ((0, 0), []), (((-9223372036854775808), 9223372036854775807), []), ((0, 0), []), (((-9223372036854775808), 9223372036854775807), []), ((0, 0), []), (((-9223372036854775808), 9223372036854775807), []), ((0, 0), []), ((0, 0), []), (((-2147483648), 2147483647), []), (((-2147483648), 2147483647), []), (((-2147483648), 2147483647), []), (((-2147483648), 2147483647), []), ((0, 0), []), (((-2147483648), 2147483647), []), (((-2147483648), 2147483647), []), (((-2147483648), 2147483647), []), (((-2147483648), 2147483647), []), ((0, 0), []), (((-2147483648), 2147483647), []), (((-2147483648), 2147483647), []), (((-2147483648), 2147483647), []), (((-2147483648), 2147483647), []), ((0, 0), []), ((0, 0), []), (((-2147483648), 2147483647), []), (((-2147483648), 2147483647), []), (((-2147483648), 2147483647), []), ((0, 0), []), (((-2147483648), 2147483647), []), (((-2147483648), 2147483647), []), (((-2147483648), 2147483647), []), ((0, 0), []), (((-2147483648), 2147483647), []), (((-2147483648), 2147483647), []), (((-2147483648), 2147483647), []), ((0, 0), []), ((0, 0), []), ((0, 0), []), ((0, 0), []), ((0, 1), []), ((0, 0), []), ((0, 0), []), ((0, 0), []), ((0, 0), []), ((0, 0), []), ((0, 39), []), ((0, 0), []), ((0, 0), []), ((0, 0), []), ((0, 0), []), ((0, 0), []), ((0, 39), []), ((0, 39), []), ((0, 0), []), (((-9223372036854775808), 9223372036854775807), []), ((0, 0), []), (((-2147483648), 2147483647), []), (((-2147483648), 2147483647), []), (((-2147483648), 2147483647), []), (((-9223372036854775808), 9223372036854775807), []), (((-9223372036854775808), 9223372036854775807), []), (((-9223372036854775808), 9223372036854775807), []), (((-9223372036854775808), 9223372036854775807), []), (((-9223372036854775808), 9223372036854775807), []), (((-9223372036854775808), 9223372036854775807), []), ((0, 0), []), (((-2147483648), 2147483647), []), ((0, 0), []), ((0, 39), []), ((0, 4095), []), (((-128), 127), [])]
def xf_1 : ys_F := (yw_f1 0, yw_r1)
def xk_1 : ys_K := (((yX11_anew, cX11_anew, 1, (some .int)), (1, 20)), ([.inr (some 0)], ([] ++ yw_e1, []), xf_1), ([([], [], ((ys_fs xf_1.1 [(10, 0, .inl (.inr ([], 0))), (10, 1, .inl (.inr ([], 0))), (10, 2, .inl (.inr ([], 0))), (10, 3, .inl (.inr ([], 0))), (10, 4, .inl (.inr ([], 0)))]), xf_1.2), some (.inl (.inl ([], 0))))], []))
def xq_1 : yt_Q := (yz_X11_anew, (yl_flX11, yl_ciX11, yl_cjX11, yl_cpX11, yl_cqX11), [], [])
def xa_1 : List yt_CE := [(((307, false), (0, false, [10])), (yw_s0, xk_0))]
theorem xc_1 {l : Launch} {D : va_G} {cT : Nat → ClassId} {tys : List (ClassId × FieldType)} (hty : yx_Ty tys cT) : yx_C l D cT tys yw_s1 xk_1 := yx_method (calls := xa_1) (Z := xq_1) 300 (by decide +kernel) yz_X11_anew_ok hty (yl_lkX11 _) (yl_cqkX11 _) (List.forall_mem_cons.mpr ⟨⟨xc_0 hty, yg_CLv rfl rfl rfl yl_wX11_307 yd_yX3_forget⟩, fun _ h => absurd h List.not_mem_nil⟩) (by decide +kernel)
def yw_s2 : List ys_C := []
def yw_f2 (n : Nat) : List (List ys_V) := []
def yw_e2 : ys_E := []
def yw_r2 : List ys_R := []
def xf_2 : ys_F := (yw_f2 1, yw_r2)
def xk_2 : ys_K := (((yX11_isImage, cX11_isImage, 1, (some .boolean)), (0, 0)), ([.inl (.inl ([(0, 1)], 0))], ([((-2147483648), 2147483647)] ++ yw_e2, []), xf_2), ([([], [], (xf_2.1, xf_2.2), some (.inl (.inl ([], 0)))), ([], [([(0, 1)], 0), ([(0, (-1))], 2)], (xf_2.1, xf_2.2), some (.inl (.inl ([], 1))))], []))
def xq_2 : yt_Q := (yz_X11_isImage, (yl_flX11, yl_ciX11, yl_cjX11, yl_cpX11, yl_cqX11), [], [])
def xa_2 : List yt_CE := []
theorem xc_2 {l : Launch} {D : va_G} {cT : Nat → ClassId} {tys : List (ClassId × FieldType)} (hty : yx_Ty tys cT) : yx_C l D cT tys yw_s2 xk_2 := yx_method (calls := xa_2) (Z := xq_2) 300 (by decide +kernel) yz_X11_isImage_ok hty (yl_lkX11 _) (yl_cqkX11 _) (fun _ h => absurd h List.not_mem_nil) (by decide +kernel)
def xf_3 : ys_F := (yw_f1 1, yw_r1)
def xk_3 : ys_K := (((yX11_told, cX11_told, 2, (some .int)), (0, 0)), ([.inr (some 0), .inl (.inl ([(0, 1)], 0))], ([((-2147483648), 2147483647)] ++ yw_e1, []), xf_3), ([([((-2147483648), 0)], [], ((ys_fs xf_3.1 [(0, 14, .inl (.inl ([(93, 1)], 0)))]), xf_3.2), some (.inl (.inl ([(0, 1)], 0))))], []))
def xq_3 : yt_Q := (yz_X11_told, (yl_flX11, yl_ciX11, yl_cjX11, yl_cpX11, yl_cqX11), [], [])
def xa_3 : List yt_CE := []
theorem xc_3 {l : Launch} {D : va_G} {cT : Nat → ClassId} {tys : List (ClassId × FieldType)} (hty : yx_Ty tys cT) : yx_C l D cT tys yw_s1 xk_3 := yx_method (calls := xa_3) (Z := xq_3) 300 (by decide +kernel) yz_X11_told_ok hty (yl_lkX11 _) (yl_cqkX11 _) (fun _ h => absurd h List.not_mem_nil) (by decide +kernel)
def yw_s3 : List ys_C := [.inl 6, .inr (0, 40, []), .inr (0, 40, []), .inr (0, 40, []), .inr (0, 40, []), .inl 6, .inr (0, 40, []), .inr (0, 40, []), .inr (0, 40, []), .inr (0, 40, [])]
def yw_f3 (n : Nat) : List (List ys_V) := [[.inr (some 1), .inr (some 2), .inr (some 3), .inr (some 4), .inl (.inl ([(n + 0, 1)], 0)), .inl (.inl ([(n + 1, 1)], 0))], [], [], [], [], [.inr (some 6), .inr (some 7), .inr (some 8), .inr (some 9), .inl (.inl ([(n + 2, 1)], 0)), .inl (.inl ([(n + 3, 1)], 0))], [], [], [], []]
def yw_e3 : ys_E := [(0, 40), ((-2147483648), 2147483647), (0, 40), ((-2147483648), 2147483647)]
def yw_r3 : List ys_R := [((0, 0), []), (((-2147483648), 2147483647), []), (((-2147483648), 2147483647), []), (((-2147483648), 2147483647), []), (((-2147483648), 2147483647), []), ((0, 0), []), (((-2147483648), 2147483647), []), (((-2147483648), 2147483647), []), (((-2147483648), 2147483647), []), (((-2147483648), 2147483647), [])]
def xf_4 : ys_F := (yw_f3 0, yw_r3)
def xk_4 : ys_K := (((yX6_become, cX6_become, 2, none), (1, 18)), ([.inr (some 0), .inr (some 5)], ([] ++ yw_e3, []), xf_4), ([([((-2147483648), 2147483647)], [], ((ys_fs xf_4.1 [(0, 4, .inl (.inl ([(2, 1)], 0))), (0, 5, .inl (.inl ([(4, 1)], 0)))]), xf_4.2), none)], [1, 2, 3, 4]))
def xq_4 : yt_Q := (yz_X6_become, (yl_flX6, yl_ciX6, yl_cjX6, yl_cpX6, yl_cqX6), [], [])
def xa_4 : List yt_CE := []
theorem xc_4 {l : Launch} {D : va_G} {cT : Nat → ClassId} {tys : List (ClassId × FieldType)} (hty : yx_Ty tys cT) : yx_C l D cT tys yw_s3 xk_4 := yx_method (calls := xa_4) (Z := xq_4) 300 (by decide +kernel) yz_X6_become_ok hty (yl_lkX6 _) (yl_cqkX6 _) (fun _ h => absurd h List.not_mem_nil) (by decide +kernel)
def yw_s4 : List ys_C := [.inl 2, .inr (0, 12, []), .inr (0, 12, []), .inr (0, 12, []), .inl 2, .inr (0, 12, []), .inr (0, 12, []), .inr (0, 12, [])]
def yw_f4 (n : Nat) : List (List ys_V) := [[.inl (.inl ([(n + 0, 1)], 0)), .inl (.inl ([(n + 1, 1)], 0)), .inr (some 1), .inr (some 2), .inr (some 3)], [], [], [], [.inl (.inl ([(n + 2, 1)], 0)), .inl (.inl ([(n + 3, 1)], 0)), .inr (some 5), .inr (some 6), .inr (some 7)], [], [], []]
def yw_e4 : ys_E := [(0, 12), ((-2147483648), 2147483647), (0, 12), ((-2147483648), 2147483647)]
def yw_r4 : List ys_R := [((0, 0), []), (((-2147483648), 2147483647), []), (((-2147483648), 2147483647), []), (((-2147483648), 2147483647), []), ((0, 0), []), (((-2147483648), 2147483647), []), (((-2147483648), 2147483647), []), (((-2147483648), 2147483647), [])]
def xf_5 : ys_F := (yw_f4 0, yw_r4)
def xk_5 : ys_K := (((yX2_become, cX2_become, 2, none), (1, 18)), ([.inr (some 0), .inr (some 4)], ([] ++ yw_e4, []), xf_5), ([([], [], ((ys_fs xf_5.1 [(0, 0, .inl (.inl ([(2, 1)], 0)))]), xf_5.2), none)], [1, 2, 3]))
def xq_5 : yt_Q := (yz_X2_become, (yl_flX2, yl_ciX2, yl_cjX2, yl_cpX2, yl_cqX2), [], [])
def xa_5 : List yt_CE := []
theorem xc_5 {l : Launch} {D : va_G} {cT : Nat → ClassId} {tys : List (ClassId × FieldType)} (hty : yx_Ty tys cT) : yx_C l D cT tys yw_s4 xk_5 := yx_method (calls := xa_5) (Z := xq_5) 300 (by decide +kernel) yz_X2_become_ok hty (yl_lkX2 _) (yl_cqkX2 _) (fun _ h => absurd h List.not_mem_nil) (by decide +kernel)
def yw_s5 : List ys_C := [.inl 3, .inl 3]
def yw_f5 (n : Nat) : List (List ys_V) := [[.inl (.inr ([(n + 0, 1)], 0)), .inl (.inr ([(n + 1, 1)], 0)), .inl (.inr ([(n + 2, 1)], 0)), .inl (.inr ([(n + 3, 1)], 0)), .inl (.inr ([(n + 4, 1)], 0))], [.inl (.inr ([(n + 5, 1)], 0)), .inl (.inr ([(n + 6, 1)], 0)), .inl (.inr ([(n + 7, 1)], 0)), .inl (.inr ([(n + 8, 1)], 0)), .inl (.inr ([(n + 9, 1)], 0))]]
def yw_e5 : ys_E := [((-9223372036854775808), 9223372036854775807), ((-9223372036854775808), 9223372036854775807), ((-9223372036854775808), 9223372036854775807), ((-9223372036854775808), 9223372036854775807), ((-9223372036854775808), 9223372036854775807), ((-9223372036854775808), 9223372036854775807), ((-9223372036854775808), 9223372036854775807), ((-9223372036854775808), 9223372036854775807), ((-9223372036854775808), 9223372036854775807), ((-9223372036854775808), 9223372036854775807)]
def yw_r5 : List ys_R := [((0, 0), []), ((0, 0), [])]
def xf_6 : ys_F := (yw_f5 0, yw_r5)
def xk_6 : ys_K := (((yX3_become, cX3_become, 2, none), (0, 0)), ([.inr (some 0), .inr (some 1)], ([] ++ yw_e5, []), xf_6), ([([], [], ((ys_fs xf_6.1 [(0, 0, .inl (.inr ([(5, 1)], 0))), (0, 1, .inl (.inr ([(6, 1)], 0))), (0, 2, .inl (.inr ([(7, 1)], 0))), (0, 3, .inl (.inr ([(8, 1)], 0))), (0, 4, .inl (.inr ([(9, 1)], 0)))]), xf_6.2), none)], []))
def xq_6 : yt_Q := (yz_X3_become, (yl_flX3, yl_ciX3, yl_cjX3, yl_cpX3, yl_cqX3), [], [])
def xa_6 : List yt_CE := []
theorem xc_6 {l : Launch} {D : va_G} {cT : Nat → ClassId} {tys : List (ClassId × FieldType)} (hty : yx_Ty tys cT) : yx_C l D cT tys yw_s5 xk_6 := yx_method (calls := xa_6) (Z := xq_6) 300 (by decide +kernel) yz_X3_become_ok hty (yl_lkX3 _) (yl_cqkX3 _) (fun _ h => absurd h List.not_mem_nil) (by decide +kernel)
def xf_7 : ys_F := (yw_f1 1, yw_r1)
def xk_7 : ys_K := (((yX11_back, cX11_back, 2, (some .int)), (2, 39)), ([.inr (some 0), .inl (.inl ([(0, 1)], 0))], ([((-2147483648), 2147483647)] ++ yw_e1, []), xf_7), ([([((-6), 0), ((-2147483648), 0), (0, 40), ((-2147483648), 2147483647), (0, 12), ((-9223372036854775808), 9223372036854775807), ((-9223372036854775808), 9223372036854775807), ((-9223372036854775808), 9223372036854775807), ((-9223372036854775808), 9223372036854775807), ((-9223372036854775808), 9223372036854775807)], [], ((ys_fs xf_7.1 [(0, 14, .inl (.inl ([(94, 1)], 0))), (1, 4, .inl (.inl ([(95, 1)], 0))), (1, 5, .inl (.inl ([(96, 1)], 0))), (6, 0, .inl (.inl ([(97, 1)], 0))), (10, 0, .inl (.inr ([(98, 1)], 0))), (10, 1, .inl (.inr ([(99, 1)], 0))), (10, 2, .inl (.inr ([(100, 1)], 0))), (10, 3, .inl (.inr ([(101, 1)], 0))), (10, 4, .inl (.inr ([(102, 1)], 0)))]), xf_7.2), some (.inl (.inl ([(93, 1)], 0))))], [2, 3, 4, 5, 7, 8, 9]))
def xq_7 : yt_Q := (yz_X11_back, (yl_flX11, yl_ciX11, yl_cjX11, yl_cpX11, yl_cqX11), [], [])
def xa_7 : List yt_CE := [(((377, true), (0, false, [])), (yw_s2, xk_2)), (((107, false), (0, false, [0, 1, 2, 3, 4, 5, 6, 7, 8, 9, 10, 11, 12, 13, 14, 15, 16, 17, 18, 19, 20, 21, 22, 23, 24, 25, 26, 27, 28, 29, 30, 31, 32, 33, 34, 35, 36, 37, 38, 39, 40, 41, 42, 43, 44, 45, 46, 47, 48, 49, 50, 51, 52, 53, 54, 55, 56, 57, 58, 59, 60, 61, 62, 63, 64, 65, 66, 67, 68, 69, 70, 71, 72, 73, 74, 75, 76, 77, 78, 79, 80, 81, 82, 83, 84])), (yw_s1, xk_3)), (((380, false), (0, false, [1, 2, 3, 4, 5, 31, 32, 33, 34, 35])), (yw_s3, xk_4)), (((383, false), (0, false, [6, 7, 8, 9, 45, 46, 47, 48])), (yw_s4, xk_5)), (((386, false), (0, false, [10, 52])), (yw_s5, xk_6)), (((380, false), (0, false, [1, 2, 3, 4, 5, 26, 27, 28, 29, 30])), (yw_s3, xk_4)), (((383, false), (0, false, [6, 7, 8, 9, 41, 42, 43, 44])), (yw_s4, xk_5)), (((386, false), (0, false, [10, 51])), (yw_s5, xk_6)), (((380, false), (0, false, [1, 2, 3, 4, 5, 21, 22, 23, 24, 25])), (yw_s3, xk_4)), (((383, false), (0, false, [6, 7, 8, 9, 37, 38, 39, 40])), (yw_s4, xk_5)), (((386, false), (0, false, [10, 50])), (yw_s5, xk_6))]
theorem xc_7 {l : Launch} {D : va_G} {cT : Nat → ClassId} {tys : List (ClassId × FieldType)} (hty : yx_Ty tys cT) : yx_C l D cT tys yw_s1 xk_7 := yx_method (calls := xa_7) (Z := xq_7) 300 (by decide +kernel) yz_X11_back_ok hty (yl_lkX11 _) (yl_cqkX11 _) (List.forall_mem_cons.mpr ⟨⟨xc_2 hty, yg_CLs yl_wX11_377 yd_yX11_isImage⟩, List.forall_mem_cons.mpr ⟨⟨xc_3 hty, yg_CLv rfl rfl rfl yl_wX11_107 yd_yX11_told⟩, List.forall_mem_cons.mpr ⟨⟨xc_4 hty, yg_CLv rfl rfl rfl yl_wX11_380 yd_yX6_become⟩, List.forall_mem_cons.mpr ⟨⟨xc_5 hty, yg_CLv rfl rfl rfl yl_wX11_383 yd_yX2_become⟩, List.forall_mem_cons.mpr ⟨⟨xc_6 hty, yg_CLv rfl rfl rfl yl_wX11_386 yd_yX3_become⟩, List.forall_mem_cons.mpr ⟨⟨xc_4 hty, yg_CLv rfl rfl rfl yl_wX11_380 yd_yX6_become⟩, List.forall_mem_cons.mpr ⟨⟨xc_5 hty, yg_CLv rfl rfl rfl yl_wX11_383 yd_yX2_become⟩, List.forall_mem_cons.mpr ⟨⟨xc_6 hty, yg_CLv rfl rfl rfl yl_wX11_386 yd_yX3_become⟩, List.forall_mem_cons.mpr ⟨⟨xc_4 hty, yg_CLv rfl rfl rfl yl_wX11_380 yd_yX6_become⟩, List.forall_mem_cons.mpr ⟨⟨xc_5 hty, yg_CLv rfl rfl rfl yl_wX11_383 yd_yX2_become⟩, List.forall_mem_cons.mpr ⟨⟨xc_6 hty, yg_CLv rfl rfl rfl yl_wX11_386 yd_yX3_become⟩, fun _ h => absurd h List.not_mem_nil⟩⟩⟩⟩⟩⟩⟩⟩⟩⟩⟩) (by decide +kernel)
def xf_8 : ys_F := (yw_f1 1, yw_r1)
def xk_8 : ys_K := (((yX11_canPartFirst, cX11_canPartFirst, 2, (some .boolean)), (0, 0)), ([.inr (some 0), .inl (.inl ([(0, 1)], 0))], ([((-2147483648), 2147483647)] ++ yw_e1, []), xf_8), ([([], [], (xf_8.1, xf_8.2), some (.inl (.inl ([], 0)))), ([], [([(0, 1)], 0), ([(0, (-1))], 12), ([(0, (-1)), (2, 1)], 0)], (xf_8.1, xf_8.2), some (.inl (.inl ([], 1))))], []))
def xq_8 : yt_Q := (yz_X11_canPartFirst, (yl_flX11, yl_ciX11, yl_cjX11, yl_cpX11, yl_cqX11), [], [])
def xa_8 : List yt_CE := []
theorem xc_8 {l : Launch} {D : va_G} {cT : Nat → ClassId} {tys : List (ClassId × FieldType)} (hty : yx_Ty tys cT) : yx_C l D cT tys yw_s1 xk_8 := yx_method (calls := xa_8) (Z := xq_8) 300 (by decide +kernel) yz_X11_canPartFirst_ok hty (yl_lkX11 _) (yl_cqkX11 _) (fun _ h => absurd h List.not_mem_nil) (by decide +kernel)
def yw_s6 : List ys_C := [.inr (1, 64, [])]
def yw_f6 (n : Nat) : List (List ys_V) := [[]]
def yw_e6 : ys_E := []
def yw_r6 : List ys_R := [(((-9223372036854775808), 9223372036854775807), [])]
def xf_9 : ys_F := (yw_f6 1, yw_r6)
def xk_9 : ys_K := (((yJ7_fill_d0a16, cJ7_fill_d0a16, 5, none), (0, 0)), ([.inr (some 0), .inl (.inr ([(0, 1)], 0))], ([((-9223372036854775808), 9223372036854775807)] ++ yw_e6, []), xf_9), ([([], [], (xf_9.1, xf_9.2), none)], [0]))
def xq_9 : yt_Q := (yz_J7_fill_d0a16, (yl_flJ7, yl_ciJ7, yl_cjJ7, yl_cpJ7, yl_cqJ7), [(6, ([(0, 99)], [], (xf_9.1, xf_9.2), [(0, .inr (some 0)), (1, .inl (.inr ([(0, 1)], 0))), (3, .inl (.inl ([(1, 1)], 0))), (4, .inl (.inl ([], 64)))], [], ([(1, (-1))], 99)), [], false)], [])
def xa_9 : List yt_CE := []
theorem xc_9 {l : Launch} {D : va_G} {cT : Nat → ClassId} {tys : List (ClassId × FieldType)} (hty : yx_Ty tys cT) : yx_C l D cT tys yw_s6 xk_9 := yx_method (calls := xa_9) (Z := xq_9) 300 (by decide +kernel) yz_J7_fill_d0a16_ok hty (yl_lkJ7 _) (yl_cqkJ7 _) (fun _ h => absurd h List.not_mem_nil) (by decide +kernel)
def yw_s7 : List ys_C := [.inl 5, .inr (1, 64, [])]
def yw_f7 (n : Nat) : List (List ys_V) := [[.inl (.inl ([(n + 0, 1)], 0)), .inl (.inl ([(n + 1, 1)], 0)), .inr (some 1), .inl (.inl ([(n + 2, 1)], 0))], []]
def yw_e7 : ys_E := [((-2147483648), 2147483647), ((-2147483648), 2147483647), (0, 4095)]
def yw_r7 : List ys_R := [((0, 0), []), (((-9223372036854775808), 9223372036854775807), [])]
def xf_10 : ys_F := (yw_f7 1, yw_r7)
def xk_10 : ys_K := (((yX5_mark, cX5_mark, 2, none), (0, 0)), ([.inr (some 0), .inl (.inl ([(0, 1)], 0))], ([((-2147483648), 2147483647)] ++ yw_e7, []), xf_10), ([([], [], (xf_10.1, xf_10.2), none)], [1]))
def xq_10 : yt_Q := (yz_X5_mark, (yl_flX5, yl_ciX5, yl_cjX5, yl_cpX5, yl_cqX5), [], [])
def xa_10 : List yt_CE := []
theorem xc_10 {l : Launch} {D : va_G} {cT : Nat → ClassId} {tys : List (ClassId × FieldType)} (hty : yx_Ty tys cT) : yx_C l D cT tys yw_s7 xk_10 := yx_method (calls := xa_10) (Z := xq_10) 300 (by decide +kernel) yz_X5_mark_ok hty (yl_lkX5 _) (yl_cqkX5 _) (fun _ h => absurd h List.not_mem_nil) (by decide +kernel)
def xf_11 : ys_F := (yw_f7 1, yw_r7)
def xk_11 : ys_K := (((yX5_markBoth, cX5_markBoth, 2, none), (1, 21)), ([.inr (some 0), .inl (.inl ([(0, 1)], 0))], ([((-2147483648), 2147483647)] ++ yw_e7, []), xf_11), ([([], [], (xf_11.1, xf_11.2), none)], [1]))
def xq_11 : yt_Q := (yz_X5_markBoth, (yl_flX5, yl_ciX5, yl_cjX5, yl_cpX5, yl_cqX5), [], [])
def xa_11 : List yt_CE := [(((52, false), (0, false, [0, 1])), (yw_s7, xk_10))]
theorem xc_11 {l : Launch} {D : va_G} {cT : Nat → ClassId} {tys : List (ClassId × FieldType)} (hty : yx_Ty tys cT) : yx_C l D cT tys yw_s7 xk_11 := yx_method (calls := xa_11) (Z := xq_11) 300 (by decide +kernel) yz_X5_markBoth_ok hty (yl_lkX5 _) (yl_cqkX5 _) (List.forall_mem_cons.mpr ⟨⟨xc_10 hty, yg_CLv rfl rfl rfl yl_wX5_52 yd_yX5_mark⟩, fun _ h => absurd h List.not_mem_nil⟩) (by decide +kernel)
def yw_s8 : List ys_C := [.inl 6, .inr (0, 40, []), .inr (0, 40, []), .inr (0, 40, []), .inr (0, 40, [])]
def yw_f8 (n : Nat) : List (List ys_V) := [[.inr (some 1), .inr (some 2), .inr (some 3), .inr (some 4), .inl (.inl ([(n + 0, 1)], 0)), .inl (.inl ([(n + 1, 1)], 0))], [], [], [], []]
def yw_e8 : ys_E := [(0, 40), ((-2147483648), 2147483647)]
def yw_r8 : List ys_R := [((0, 0), []), (((-2147483648), 2147483647), []), (((-2147483648), 2147483647), []), (((-2147483648), 2147483647), []), (((-2147483648), 2147483647), [])]
def xf_12 : ys_F := (yw_f8 2, yw_r8)
def xk_12 : ys_K := (((yX6_samePlace, cX6_samePlace, 3, (some .boolean)), (0, 0)), ([.inr (some 0), .inl (.inl ([(0, 1)], 0)), .inl (.inl ([(1, 1)], 0))], ([(0, 39), (0, 39)] ++ yw_e8, []), xf_12), ([([], [], (xf_12.1, xf_12.2), some (.inl (.inl ([], 0)))), ([], [], (xf_12.1, xf_12.2), some (.inl (.inl ([], 1))))], []))
def xq_12 : yt_Q := (yz_X6_samePlace, (yl_flX6, yl_ciX6, yl_cjX6, yl_cpX6, yl_cqX6), [], [])
def xa_12 : List yt_CE := []
theorem xc_12 {l : Launch} {D : va_G} {cT : Nat → ClassId} {tys : List (ClassId × FieldType)} (hty : yx_Ty tys cT) : yx_C l D cT tys yw_s8 xk_12 := yx_method (calls := xa_12) (Z := xq_12) 300 (by decide +kernel) yz_X6_samePlace_ok hty (yl_lkX6 _) (yl_cqkX6 _) (fun _ h => absurd h List.not_mem_nil) (by decide +kernel)
def xf_13 : ys_F := (yw_f8 3, yw_r8)
def xk_13 : ys_K := (((yX6_turn, cX6_turn, 4, (some .int)), (0, 0)), ([.inr (some 0), .inl (.inl ([(0, 1)], 0)), .inl (.inl ([(1, 1)], 0)), .inl (.inl ([(2, 1)], 0))], ([(0, 39), (0, 39), (0, 39)] ++ yw_e8, []), xf_13), ([([((-2147483648), 2147483647)], [], (xf_13.1, xf_13.2), some (.inl (.inl ([(5, 1)], 0))))], []))
def xq_13 : yt_Q := (yz_X6_turn, (yl_flX6, yl_ciX6, yl_cjX6, yl_cpX6, yl_cqX6), [], [])
def xa_13 : List yt_CE := []
theorem xc_13 {l : Launch} {D : va_G} {cT : Nat → ClassId} {tys : List (ClassId × FieldType)} (hty : yx_Ty tys cT) : yx_C l D cT tys yw_s8 xk_13 := yx_method (calls := xa_13) (Z := xq_13) 300 (by decide +kernel) yz_X6_turn_ok hty (yl_lkX6 _) (yl_cqkX6 _) (fun _ h => absurd h List.not_mem_nil) (by decide +kernel)
def xf_14 : ys_F := (yw_f8 3, yw_r8)
def xk_14 : ys_K := (((yX6_reach, cX6_reach, 4, (some .int)), (0, 0)), ([.inr (some 0), .inl (.inl ([(0, 1)], 0)), .inl (.inl ([(1, 1)], 0)), .inl (.inl ([(2, 1)], 0))], ([(0, 39), (0, 39), (0, 39)] ++ yw_e8, []), xf_14), ([([((-2147483648), 2147483647)], [], (xf_14.1, xf_14.2), some (.inl (.inl ([(5, 1)], 0))))], []))
def xq_14 : yt_Q := (yz_X6_reach, (yl_flX6, yl_ciX6, yl_cjX6, yl_cpX6, yl_cqX6), [], [])
def xa_14 : List yt_CE := []
theorem xc_14 {l : Launch} {D : va_G} {cT : Nat → ClassId} {tys : List (ClassId × FieldType)} (hty : yx_Ty tys cT) : yx_C l D cT tys yw_s8 xk_14 := yx_method (calls := xa_14) (Z := xq_14) 300 (by decide +kernel) yz_X6_reach_ok hty (yl_lkX6 _) (yl_cqkX6 _) (fun _ h => absurd h List.not_mem_nil) (by decide +kernel)
def yw_s9 : List ys_C := [.inl 5, .inr (1, 64, []), .inl 6, .inr (0, 40, []), .inr (0, 40, []), .inr (0, 40, []), .inr (0, 40, [])]
def yw_f9 (n : Nat) : List (List ys_V) := [[.inl (.inl ([(n + 0, 1)], 0)), .inl (.inl ([(n + 1, 1)], 0)), .inr (some 1), .inl (.inl ([(n + 2, 1)], 0))], [], [.inr (some 3), .inr (some 4), .inr (some 5), .inr (some 6), .inl (.inl ([(n + 3, 1)], 0)), .inl (.inl ([(n + 4, 1)], 0))], [], [], [], []]
def yw_e9 : ys_E := [((-2147483648), 2147483647), ((-2147483648), 2147483647), (0, 4095), (0, 40), ((-2147483648), 2147483647)]
def yw_r9 : List ys_R := [((0, 0), []), (((-9223372036854775808), 9223372036854775807), []), ((0, 0), []), (((-2147483648), 2147483647), []), (((-2147483648), 2147483647), []), (((-2147483648), 2147483647), []), (((-2147483648), 2147483647), [])]
def xf_15 : ys_F := (yw_f9 3, yw_r9)
def xk_15 : ys_K := (((yX5_markAlong, cX5_markAlong, 10, none), (2, 42)), ([.inr (some 0), .inr (some 2), .inl (.inl ([(0, 1)], 0)), .inl (.inl ([(1, 1)], 0)), .inl (.inl ([(2, 1)], 0))], ([(0, 39), (0, 39), (0, 39)] ++ yw_e9, []), xf_15), ([([], [], (xf_15.1, xf_15.2), none)], [1]))
def xq_15 : yt_Q := (yz_X5_markAlong, (yl_flX5, yl_ciX5, yl_cjX5, yl_cpX5, yl_cqX5), [(12, ([((-2147483648), 2147483647), ((-2147483648), 2147483647), ((-2147483648), 2147483647), (0, 39)], [], (xf_15.1, xf_15.2), [(0, .inr (some 0)), (1, .inr (some 2)), (2, .inl (.inl ([(0, 1)], 0))), (3, .inl (.inl ([(1, 1)], 0))), (4, .inl (.inl ([(2, 1)], 0))), (5, .inl (.inl ([(8, 1)], 0))), (6, .inl (.inl ([(9, 1)], 0))), (7, .inl (.inl ([(10, 1)], 0))), (8, .inl (.inl ([(11, 1)], 0)))], [], ([(11, (-1))], 39)), [], false)], [])
def xa_15 : List yt_CE := [(((45, false), (0, false, [2, 3, 4, 5, 6])), (yw_s8, xk_13)), (((49, false), (0, false, [2, 3, 4, 5, 6])), (yw_s8, xk_14)), (((31, false), (0, false, [0, 1])), (yw_s7, xk_11))]
theorem xc_15 {l : Launch} {D : va_G} {cT : Nat → ClassId} {tys : List (ClassId × FieldType)} (hty : yx_Ty tys cT) : yx_C l D cT tys yw_s9 xk_15 := yx_method (calls := xa_15) (Z := xq_15) 300 (by decide +kernel) yz_X5_markAlong_ok hty (yl_lkX5 _) (yl_cqkX5 _) (List.forall_mem_cons.mpr ⟨⟨xc_13 hty, yg_CLv rfl rfl rfl yl_wX5_45 yd_yX6_turn⟩, List.forall_mem_cons.mpr ⟨⟨xc_14 hty, yg_CLv rfl rfl rfl yl_wX5_49 yd_yX6_reach⟩, List.forall_mem_cons.mpr ⟨⟨xc_11 hty, yg_CLv rfl rfl rfl yl_wX5_31 yd_yX5_markBoth⟩, fun _ h => absurd h List.not_mem_nil⟩⟩⟩) (by decide +kernel)
def xf_16 : ys_F := (yw_f9 1, yw_r9)
def xk_16 : ys_K := (((yX5_find, cX5_find, 5, none), (3, 71)), ([.inr (some 0), .inr (some 2), .inl (.inl ([(0, 1)], 0))], ([(0, 12)] ++ yw_e9, []), xf_16), ([([(0, 4095)], [], ((ys_fs xf_16.1 [(0, 3, .inl (.inl ([(6, 1)], 0)))]), xf_16.2), none)], [1]))
def xq_16 : yt_Q := (yz_X5_find, (yl_flX5, yl_ciX5, yl_cjX5, yl_cpX5, yl_cqX5), [(24, ([(0, 12), (0, 4095)], [], ((ys_fs xf_16.1 [(0, 3, .inl (.inl ([(7, 1)], 0)))]), xf_16.2), [(0, .inr (some 0)), (1, .inr (some 2)), (2, .inl (.inl ([(0, 1)], 0))), (3, .inl (.inl ([(6, 1)], 0)))], [], ([(6, (-15))], 194)), [], false), (32, ([(0, 11), (0, 12), (0, 4095)], [([(0, 1)], (-1))], ((ys_fs xf_16.1 [(0, 3, .inl (.inl ([(8, 1)], 0)))]), xf_16.2), [(0, .inr (some 0)), (1, .inr (some 2)), (2, .inl (.inl ([(0, 1)], 0))), (3, .inl (.inl ([(6, 1)], 0))), (4, .inl (.inl ([(7, 1)], 0)))], [], ([(6, (-15)), (7, (-1))], 192)), [], false)], [])
def xa_16 : List yt_CE := [(((25, true), (0, false, [1])), (yw_s6, xk_9)), (((31, false), (0, false, [0, 1])), (yw_s7, xk_11)), (((35, false), (0, false, [2, 3, 4, 5, 6])), (yw_s8, xk_12)), (((41, false), (0, false, [0, 1, 2, 3, 4, 5, 6])), (yw_s9, xk_15))]
theorem xc_16 {l : Launch} {D : va_G} {cT : Nat → ClassId} {tys : List (ClassId × FieldType)} (hty : yx_Ty tys cT) : yx_C l D cT tys yw_s9 xk_16 := yx_method (calls := xa_16) (Z := xq_16) 300 (by decide +kernel) yz_X5_find_ok hty (yl_lkX5 _) (yl_cqkX5 _) (List.forall_mem_cons.mpr ⟨⟨xc_9 hty, yg_CLs yl_wX5_25 yd_yJ7_fill_d0a16⟩, List.forall_mem_cons.mpr ⟨⟨xc_11 hty, yg_CLv rfl rfl rfl yl_wX5_31 yd_yX5_markBoth⟩, List.forall_mem_cons.mpr ⟨⟨xc_12 hty, yg_CLv rfl rfl rfl yl_wX5_35 yd_yX6_samePlace⟩, List.forall_mem_cons.mpr ⟨⟨xc_15 hty, yg_CLv rfl rfl rfl yl_wX5_41 yd_yX5_markAlong⟩, fun _ h => absurd h List.not_mem_nil⟩⟩⟩⟩) (by decide +kernel)
def xf_17 : ys_F := (yw_f7 1, yw_r7)
def xk_17 : ys_K := (((yX5_isMarked, cX5_isMarked, 2, (some .boolean)), (0, 0)), ([.inr (some 0), .inl (.inl ([(0, 1)], 0))], ([((-2147483648), 2147483647)] ++ yw_e7, []), xf_17), ([([], [], (xf_17.1, xf_17.2), some (.inl (.inl ([], 0)))), ([], [], (xf_17.1, xf_17.2), some (.inl (.inl ([], 1))))], []))
def xq_17 : yt_Q := (yz_X5_isMarked, (yl_flX5, yl_ciX5, yl_cjX5, yl_cpX5, yl_cqX5), [], [])
def xa_17 : List yt_CE := []
theorem xc_17 {l : Launch} {D : va_G} {cT : Nat → ClassId} {tys : List (ClassId × FieldType)} (hty : yx_Ty tys cT) : yx_C l D cT tys yw_s7 xk_17 := yx_method (calls := xa_17) (Z := xq_17) 300 (by decide +kernel) yz_X5_isMarked_ok hty (yl_lkX5 _) (yl_cqkX5 _) (fun _ h => absurd h List.not_mem_nil) (by decide +kernel)
def xf_18 : ys_F := (yw_f8 2, yw_r8)
def xk_18 : ys_K := (((yX5_wrongBy, cX5_wrongBy, 5, (some .int)), (0, 0)), ([.inr (some 0), .inl (.inl ([(0, 1)], 0)), .inl (.inl ([(1, 1)], 0))], ([(0, 39), (0, 4096)] ++ yw_e8, []), xf_18), ([([((-2147483648), 2147483647)], [], (xf_18.1, xf_18.2), some (.inl (.inl ([(4, 1)], 0))))], []))
def xq_18 : yt_Q := (yz_X5_wrongBy, (yl_flX5, yl_ciX5, yl_cjX5, yl_cpX5, yl_cqX5), [(5, ([((-2147483648), 2147483647), (0, 39)], [], (xf_18.1, xf_18.2), [(0, .inr (some 0)), (1, .inl (.inl ([(0, 1)], 0))), (2, .inl (.inl ([(1, 1)], 0))), (3, .inl (.inl ([(4, 1)], 0))), (4, .inl (.inl ([(5, 1)], 0)))], [], ([(5, (-1))], 39)), [], false)], [])
def xa_18 : List yt_CE := []
theorem xc_18 {l : Launch} {D : va_G} {cT : Nat → ClassId} {tys : List (ClassId × FieldType)} (hty : yx_Ty tys cT) : yx_C l D cT tys yw_s8 xk_18 := yx_method (calls := xa_18) (Z := xq_18) 300 (by decide +kernel) yz_X5_wrongBy_ok hty (yl_lkX5 _) (yl_cqkX5 _) (fun _ h => absurd h List.not_mem_nil) (by decide +kernel)
def xf_19 : ys_F := (yw_f9 1, yw_r9)
def xk_19 : ys_K := (((yX5_findLeastWrong, cX5_findLeastWrong, 5, none), (1, 24)), ([.inr (some 0), .inr (some 2), .inl (.inl ([(0, 1)], 0))], ([(0, 39)] ++ yw_e9, []), xf_19), ([([((-2147483648), 12001), ((-2147483648), 2147483647)], [], ((ys_fs xf_19.1 [(0, 0, .inl (.inl ([(6, 1)], 0))), (0, 1, .inl (.inl ([(7, 1)], 0)))]), xf_19.2), none)], []))
def xq_19 : yt_Q := (yz_X5_findLeastWrong, (yl_flX5, yl_ciX5, yl_cjX5, yl_cpX5, yl_cqX5), [(9, ([(0, 4096), ((-2147483648), 12001), ((-2147483648), 2147483647)], [], ((ys_fs xf_19.1 [(0, 0, .inl (.inl ([(7, 1)], 0))), (0, 1, .inl (.inl ([(8, 1)], 0)))]), xf_19.2), [(0, .inr (some 0)), (1, .inr (some 2)), (2, .inl (.inl ([(0, 1)], 0))), (3, .inl (.inl ([(6, 1)], 0)))], [], ([(6, (-1))], 4096)), [], false)], [])
def xa_19 : List yt_CE := [(((61, false), (0, false, [0, 1])), (yw_s7, xk_17)), (((65, true), (0, false, [2, 3, 4, 5, 6])), (yw_s8, xk_18))]
theorem xc_19 {l : Launch} {D : va_G} {cT : Nat → ClassId} {tys : List (ClassId × FieldType)} (hty : yx_Ty tys cT) : yx_C l D cT tys yw_s9 xk_19 := yx_method (calls := xa_19) (Z := xq_19) 300 (by decide +kernel) yz_X5_findLeastWrong_ok hty (yl_lkX5 _) (yl_cqkX5 _) (List.forall_mem_cons.mpr ⟨⟨xc_17 hty, yg_CLv rfl rfl rfl yl_wX5_61 yd_yX5_isMarked⟩, List.forall_mem_cons.mpr ⟨⟨xc_18 hty, yg_CLs yl_wX5_65 yd_yX5_wrongBy⟩, fun _ h => absurd h List.not_mem_nil⟩⟩) (by decide +kernel)
def xf_20 : ys_F := (yw_f1 2, yw_r1)
def xk_20 : ys_K := (((yX11_best, cX11_best, 3, (some .int)), (4, 95)), ([.inr (some 0), .inl (.inl ([(0, 1)], 0)), .inl (.inl ([(1, 1)], 0))], ([((-2147483648), 2147483647), ((-2147483648), 2147483647)] ++ yw_e1, []), xf_20), ([([((-2147483648), 2147483647), ((-2147483648), 2147483647), ((-2147483648), 2147483647), (0, 4095)], [], ((ys_fs xf_20.1 [(67, 0, .inl (.inl ([(95, 1)], 0))), (67, 1, .inl (.inl ([(96, 1)], 0))), (67, 3, .inl (.inl ([(97, 1)], 0)))]), xf_20.2), some (.inl (.inl ([(94, 1)], 0))))], [68]))
def xq_20 : yt_Q := (yz_X11_best, (yl_flX11, yl_ciX11, yl_cjX11, yl_cpX11, yl_cqX11), [], [])
def xa_20 : List yt_CE := [(((254, false), (0, false, [0, 1, 2, 3, 4, 5, 6, 7, 8, 9, 10, 11, 12, 13, 14, 15, 16, 17, 18, 19, 20, 21, 22, 23, 24, 25, 26, 27, 28, 29, 30, 31, 32, 33, 34, 35, 36, 37, 38, 39, 40, 41, 42, 43, 44, 45, 46, 47, 48, 49, 50, 51, 52, 53, 54, 55, 56, 57, 58, 59, 60, 61, 62, 63, 64, 65, 66, 67, 68, 69, 70, 71, 72, 73, 74, 75, 76, 77, 78, 79, 80, 81, 82, 83, 84])), (yw_s1, xk_8)), (((257, false), (0, false, [67, 68, 1, 2, 3, 4, 5])), (yw_s9, xk_16)), (((270, false), (0, false, [67, 68, 1, 2, 3, 4, 5])), (yw_s9, xk_19))]
theorem xc_20 {l : Launch} {D : va_G} {cT : Nat → ClassId} {tys : List (ClassId × FieldType)} (hty : yx_Ty tys cT) : yx_C l D cT tys yw_s1 xk_20 := yx_method (calls := xa_20) (Z := xq_20) 300 (by decide +kernel) yz_X11_best_ok hty (yl_lkX11 _) (yl_cqkX11 _) (List.forall_mem_cons.mpr ⟨⟨xc_8 hty, yg_CLv rfl rfl rfl yl_wX11_254 yd_yX11_canPartFirst⟩, List.forall_mem_cons.mpr ⟨⟨xc_16 hty, yg_CLv rfl rfl rfl yl_wX11_257 yd_yX5_find⟩, List.forall_mem_cons.mpr ⟨⟨xc_19 hty, yg_CLv rfl rfl rfl yl_wX11_270 yd_yX5_findLeastWrong⟩, fun _ h => absurd h List.not_mem_nil⟩⟩⟩) (by decide +kernel)
def xf_21 : ys_F := (yw_f8 1, yw_r8)
def xk_21 : ys_K := (((yX6_tally, cX6_tally, 4, (some .int)), (0, 0)), ([.inr (some 0), .inl (.inl ([(0, 1)], 0))], ([((-2147483648), 2147483647)] ++ yw_e8, []), xf_21), ([([((-2147483648), 2147483647)], [], (xf_21.1, xf_21.2), some (.inl (.inl ([(3, 1)], 0))))], []))
def xq_21 : yt_Q := (yz_X6_tally, (yl_flX6, yl_ciX6, yl_cjX6, yl_cpX6, yl_cqX6), [(4, ([((-2147483648), 2147483647), (0, 40)], [], (xf_21.1, xf_21.2), [(0, .inr (some 0)), (1, .inl (.inl ([(0, 1)], 0))), (2, .inl (.inl ([(3, 1)], 0))), (3, .inl (.inl ([(4, 1)], 0)))], [], ([(4, (-1))], 40)), [], false)], [])
def xa_21 : List yt_CE := []
theorem xc_21 {l : Launch} {D : va_G} {cT : Nat → ClassId} {tys : List (ClassId × FieldType)} (hty : yx_Ty tys cT) : yx_C l D cT tys yw_s8 xk_21 := yx_method (calls := xa_21) (Z := xq_21) 300 (by decide +kernel) yz_X6_tally_ok hty (yl_lkX6 _) (yl_cqkX6 _) (fun _ h => absurd h List.not_mem_nil) (by decide +kernel)
def xf_22 : ys_F := (yw_f8 0, yw_r8)
def xk_22 : ys_K := (((yX6_coloursShareAPlace, cX6_coloursShareAPlace, 3, (some .boolean)), (1, 22)), ([.inr (some 0)], ([] ++ yw_e8, []), xf_22), ([([], [], (xf_22.1, xf_22.2), some (.inl (.inl ([], 0)))), ([], [([(0, 1)], (-2)), ([(0, 1)], (-1))], (xf_22.1, xf_22.2), some (.inl (.inl ([], 1))))], []))
def xq_22 : yt_Q := (yz_X6_coloursShareAPlace, (yl_flX6, yl_ciX6, yl_cjX6, yl_cpX6, yl_cqX6), [(2, ([(0, 40)], [], (xf_22.1, xf_22.2), [(0, .inr (some 0)), (1, .inl (.inl ([(2, 1)], 0)))], [], ([(2, (-42))], 1721)), [], false), (14, ([(0, 39), (1, 40)], [([(0, 1)], (-1))], (xf_22.1, xf_22.2), [(0, .inr (some 0)), (1, .inl (.inl ([(2, 1)], 0))), (2, .inl (.inl ([(3, 1)], 0)))], [], ([(2, (-42)), (3, (-1))], 1720)), [], false)], [])
def xa_22 : List yt_CE := [(((49, false), (0, false, [0, 1, 2, 3, 4])), (yw_s8, xk_12))]
theorem xc_22 {l : Launch} {D : va_G} {cT : Nat → ClassId} {tys : List (ClassId × FieldType)} (hty : yx_Ty tys cT) : yx_C l D cT tys yw_s8 xk_22 := yx_method (calls := xa_22) (Z := xq_22) 300 (by decide +kernel) yz_X6_coloursShareAPlace_ok hty (yl_lkX6 _) (yl_cqkX6 _) (List.forall_mem_cons.mpr ⟨⟨xc_12 hty, yg_CLv rfl rfl rfl yl_wX6_49 yd_yX6_samePlace⟩, fun _ h => absurd h List.not_mem_nil⟩) (by decide +kernel)
def yw_s10 : List ys_C := [.inl 0, .inr (0, 12, []), .inr (0, 144, []), .inr (2, 4096, []), .inl 6, .inr (0, 40, []), .inr (0, 40, []), .inr (0, 40, []), .inr (0, 40, [])]
def yw_f10 (n : Nat) : List (List ys_V) := [[.inr (some 1), .inl (.inl ([(n + 0, 1)], 0)), .inr (some 2), .inl (.inl ([(n + 1, 1)], 0)), .inr (some 3)], [], [], [], [.inr (some 5), .inr (some 6), .inr (some 7), .inr (some 8), .inl (.inl ([(n + 2, 1)], 0)), .inl (.inl ([(n + 3, 1)], 0))], [], [], [], []]
def yw_e10 : ys_E := [(0, 12), (0, 144), (0, 40), ((-2147483648), 2147483647)]
def yw_r10 : List ys_R := [((0, 0), []), ((0, 39), []), ((0, 4095), []), (((-128), 127), []), ((0, 0), []), (((-2147483648), 2147483647), []), (((-2147483648), 2147483647), []), (((-2147483648), 2147483647), []), (((-2147483648), 2147483647), [])]
def xf_23 : ys_F := (yw_f10 0, yw_r10)
def xk_23 : ys_K := (((yX0_gather, cX0_gather, 3, none), (0, 0)), ([.inr (some 0), .inr (some 4)], ([] ++ yw_e10, []), xf_23), ([([(0, 12)], [], ((ys_fs xf_23.1 [(0, 1, .inl (.inl ([(4, 1)], 0)))]), xf_23.2), none)], [1]))
def xq_23 : yt_Q := (yz_X0_gather, (yl_flX0, yl_ciX0, yl_cjX0, yl_cpX0, yl_cqX0), [(7, ([(0, 40), (0, 12)], [], ((ys_fs xf_23.1 [(0, 1, .inl (.inl ([(5, 1)], 0)))]), xf_23.2), [(0, .inr (some 0)), (1, .inr (some 4)), (2, .inl (.inl ([(4, 1)], 0)))], [], ([(4, (-1))], 40)), [], false)], [])
def xa_23 : List yt_CE := []
theorem xc_23 {l : Launch} {D : va_G} {cT : Nat → ClassId} {tys : List (ClassId × FieldType)} (hty : yx_Ty tys cT) : yx_C l D cT tys yw_s10 xk_23 := yx_method (calls := xa_23) (Z := xq_23) 300 (by decide +kernel) yz_X0_gather_ok hty (yl_lkX0 _) (yl_cqkX0 _) (fun _ h => absurd h List.not_mem_nil) (by decide +kernel)
def yw_s11 : List ys_C := [.inr (2, 4096, [])]
def yw_f11 (n : Nat) : List (List ys_V) := [[]]
def yw_e11 : ys_E := []
def yw_r11 : List ys_R := [(((-128), 127), [])]
def xf_24 : ys_F := (yw_f11 1, yw_r11)
def xk_24 : ys_K := (((yJ7_fill_031fb, cJ7_fill_031fb, 4, none), (0, 0)), ([.inr (some 0), .inl (.inl ([(0, 1)], 0))], ([(0, 100)] ++ yw_e11, []), xf_24), ([([], [], (xf_24.1, xf_24.2), none)], [0]))
def xq_24 : yt_Q := (yz_J7_fill_031fb, (yl_flJ7, yl_ciJ7, yl_cjJ7, yl_cpJ7, yl_cqJ7), [(5, ([(0, 4096)], [], (xf_24.1, xf_24.2), [(0, .inr (some 0)), (1, .inl (.inl ([(0, 1)], 0))), (2, .inl (.inl ([(1, 1)], 0))), (3, .inl (.inl ([], 4096)))], [], ([(1, (-1))], 4096)), [], false)], [])
def xa_24 : List yt_CE := []
theorem xc_24 {l : Launch} {D : va_G} {cT : Nat → ClassId} {tys : List (ClassId × FieldType)} (hty : yx_Ty tys cT) : yx_C l D cT tys yw_s11 xk_24 := yx_method (calls := xa_24) (Z := xq_24) 300 (by decide +kernel) yz_J7_fill_031fb_ok hty (yl_lkJ7 _) (yl_cqkJ7 _) (fun _ h => absurd h List.not_mem_nil) (by decide +kernel)
def xf_25 : ys_F := (yw_f10 3, yw_r10)
def xk_25 : ys_K := (((yX0_setWithin, cX0_setWithin, 11, (some .int)), (1, 13)), ([.inr (some 0), .inr (some 4), .inl (.inl ([(0, 1)], 0)), .inl (.inl ([(1, 1)], 0)), .inl (.inl ([(2, 1)], 0))], ([(0, 11), ((-2147483648), 2147483647), ((-2147483648), 2147483647)] ++ yw_e10, []), xf_25), ([([(0, 4095)], [], (xf_25.1, xf_25.2), some (.inl (.inl ([(7, 1)], 0))))], []))
def xq_25 : yt_Q := (yz_X0_setWithin, (yl_flX0, yl_ciX0, yl_cjX0, yl_cpX0, yl_cqX0), [(26, ([((-2147483648), 2147483647), ((-2147483648), 301), ((-301), 2147483647), (0, 40)], [], (xf_25.1, xf_25.2), [(0, .inr (some 0)), (1, .inr (some 4)), (3, .inl (.inl ([(1, 1)], 0))), (4, .inl (.inl ([(2, 1)], 0))), (5, .inl (.inl ([(7, 1)], 0))), (6, .inl (.inl ([(8, 1)], 0))), (7, .inl (.inl ([(9, 1)], 0))), (8, .inl (.inl ([(10, 1)], 0)))], [], ([(10, (-1))], 54)), [], false), (137, ([((-2147483648), 301), ((-301), 2147483647), (0, 4095), (0, 12)], [], (xf_25.1, xf_25.2), [(0, .inr (some 0)), (1, .inr (some 4)), (3, .inl (.inl ([(1, 1)], 0))), (4, .inl (.inl ([(2, 1)], 0))), (6, .inl (.inl ([(7, 1)], 0))), (7, .inl (.inl ([(8, 1)], 0))), (8, .inl (.inl ([(9, 1)], 0))), (9, .inl (.inl ([(10, 1)], 0)))], [], ([(10, (-1))], 12)), [], false)], [])
def xa_25 : List yt_CE := []
theorem xc_25 {l : Launch} {D : va_G} {cT : Nat → ClassId} {tys : List (ClassId × FieldType)} (hty : yx_Ty tys cT) : yx_C l D cT tys yw_s10 xk_25 := yx_method (calls := xa_25) (Z := xq_25) 300 (by decide +kernel) yz_X0_setWithin_ok hty (yl_lkX0 _) (yl_cqkX0 _) (fun _ h => absurd h List.not_mem_nil) (by decide +kernel)
def yw_s12 : List ys_C := [.inl 0, .inr (0, 12, []), .inr (0, 144, []), .inr (2, 4096, [])]
def yw_f12 (n : Nat) : List (List ys_V) := [[.inr (some 1), .inl (.inl ([(n + 0, 1)], 0)), .inr (some 2), .inl (.inl ([(n + 1, 1)], 0)), .inr (some 3)], [], [], []]
def yw_e12 : ys_E := [(0, 12), (0, 144)]
def yw_r12 : List ys_R := [((0, 0), []), ((0, 39), []), ((0, 4095), []), (((-128), 127), [])]
def xf_26 : ys_F := (yw_f12 1, yw_r12)
def xk_26 : ys_K := (((yX0_addSet, cX0_addSet, 3, none), (0, 0)), ([.inr (some 0), .inl (.inl ([(0, 1)], 0))], ([(0, 4095)] ++ yw_e12, []), xf_26), ([([(1, 144)], [], ((ys_fs xf_26.1 [(0, 3, .inl (.inl ([(3, 1)], 0)))]), xf_26.2), none)], [2]))
def xq_26 : yt_Q := (yz_X0_addSet, (yl_flX0, yl_ciX0, yl_cjX0, yl_cpX0, yl_cqX0), [(2, ([(0, 144)], [], (xf_26.1, xf_26.2), [(0, .inr (some 0)), (1, .inl (.inl ([(0, 1)], 0))), (2, .inl (.inl ([(3, 1)], 0)))], [], ([(3, (-1))], 144)), [], false)], [])
def xa_26 : List yt_CE := []
theorem xc_26 {l : Launch} {D : va_G} {cT : Nat → ClassId} {tys : List (ClassId × FieldType)} (hty : yx_Ty tys cT) : yx_C l D cT tys yw_s12 xk_26 := yx_method (calls := xa_26) (Z := xq_26) 300 (by decide +kernel) yz_X0_addSet_ok hty (yl_lkX0 _) (yl_cqkX0 _) (fun _ h => absurd h List.not_mem_nil) (by decide +kernel)
def xf_27 : ys_F := (yw_f10 1, yw_r10)
def xk_27 : ys_K := (((yX0_findSets, cX0_findSets, 8, none), (2, 43)), ([.inr (some 0), .inr (some 4), .inl (.inl ([(0, 1)], 0))], ([(0, 11)] ++ yw_e10, []), xf_27), ([([(0, 144)], [], ((ys_fs xf_27.1 [(0, 3, .inl (.inl ([(5, 1)], 0)))]), xf_27.2), none)], [2]))
def xq_27 : yt_Q := (yz_X0_findSets, (yl_flX0, yl_ciX0, yl_cjX0, yl_cpX0, yl_cqX0), [(20, ([((-2147483648), 2147483647), (0, 12), (0, 144)], [], ((ys_fs xf_27.1 [(0, 3, .inl (.inl ([(7, 1)], 0)))]), xf_27.2), [(0, .inr (some 0)), (1, .inr (some 4)), (2, .inl (.inl ([(0, 1)], 0))), (3, .inl (.inl ([(5, 1)], 0))), (4, .inl (.inl ([(6, 1)], 0)))], [], ([(6, (-15))], 194)), [], false), (32, ([((-2147483648), 2147483647), (0, 11), (0, 12), (0, 144)], [([(1, 1)], (-1))], ((ys_fs xf_27.1 [(0, 3, .inl (.inl ([(8, 1)], 0)))]), xf_27.2), [(0, .inr (some 0)), (1, .inr (some 4)), (2, .inl (.inl ([(0, 1)], 0))), (3, .inl (.inl ([(5, 1)], 0))), (4, .inl (.inl ([(6, 1)], 0))), (5, .inl (.inl ([(7, 1)], 0)))], [], ([(6, (-15)), (7, (-1))], 192)), [], false)], [])
def xa_27 : List yt_CE := [(((58, false), (0, false, [0, 1, 2, 3, 4, 5, 6, 7, 8])), (yw_s10, xk_25)), (((62, false), (0, false, [0, 1, 2, 3])), (yw_s12, xk_26))]
theorem xc_27 {l : Launch} {D : va_G} {cT : Nat → ClassId} {tys : List (ClassId × FieldType)} (hty : yx_Ty tys cT) : yx_C l D cT tys yw_s10 xk_27 := yx_method (calls := xa_27) (Z := xq_27) 300 (by decide +kernel) yz_X0_findSets_ok hty (yl_lkX0 _) (yl_cqkX0 _) (List.forall_mem_cons.mpr ⟨⟨xc_25 hty, yg_CLv rfl rfl rfl yl_wX0_58 yd_yX0_setWithin⟩, List.forall_mem_cons.mpr ⟨⟨xc_26 hty, yg_CLv rfl rfl rfl yl_wX0_62 yd_yX0_addSet⟩, fun _ h => absurd h List.not_mem_nil⟩⟩) (by decide +kernel)
def xf_28 : ys_F := (yw_f12 1, yw_r12)
def xk_28 : ys_K := (((yX0_widen, cX0_widen, 5, none), (0, 0)), ([.inr (some 0), .inl (.inl ([(0, 1)], 0))], ([(0, 4095)] ++ yw_e12, []), xf_28), ([([], [], (xf_28.1, xf_28.2), none)], [3]))
def xq_28 : yt_Q := (yz_X0_widen, (yl_flX0, yl_ciX0, yl_cjX0, yl_cpX0, yl_cqX0), [(11, ([((-127), 128), (0, 4095)], [], (xf_28.1, xf_28.2), [(0, .inr (some 0)), (1, .inl (.inl ([(0, 1)], 0))), (2, .inl (.inl ([(3, 1)], 0))), (3, .inl (.inl ([(4, 1)], 0)))], [], ([(4, (-1))], 4095)), [], false)], [])
def xa_28 : List yt_CE := []
theorem xc_28 {l : Launch} {D : va_G} {cT : Nat → ClassId} {tys : List (ClassId × FieldType)} (hty : yx_Ty tys cT) : yx_C l D cT tys yw_s12 xk_28 := yx_method (calls := xa_28) (Z := xq_28) 300 (by decide +kernel) yz_X0_widen_ok hty (yl_lkX0 _) (yl_cqkX0 _) (fun _ h => absurd h List.not_mem_nil) (by decide +kernel)
def xf_29 : ys_F := (yw_f10 0, yw_r10)
def xk_29 : ys_K := (((yX0_fewest, cX0_fewest, 5, (some .int)), (3, 70)), ([.inr (some 0), .inr (some 4)], ([] ++ yw_e10, []), xf_29), ([([((-128), 127), (0, 12), (0, 144)], [], ((ys_fs xf_29.1 [(0, 1, .inl (.inl ([(5, 1)], 0))), (0, 3, .inl (.inl ([(6, 1)], 0)))]), xf_29.2), some (.inl (.inl ([(4, 1)], 0))))], [1, 2, 3]))
def xq_29 : yt_Q := (yz_X0_fewest, (yl_flX0, yl_ciX0, yl_cjX0, yl_cpX0, yl_cqX0), [(32, ([(0, 4095), (0, 12), (0, 12), (0, 144)], [], ((ys_fs xf_29.1 [(0, 1, .inl (.inl ([(6, 1)], 0))), (0, 3, .inl (.inl ([(7, 1)], 0)))]), xf_29.2), [(0, .inr (some 0)), (1, .inr (some 4)), (2, .inl (.inl ([(4, 1)], 0))), (3, .inl (.inl ([(5, 1)], 0)))], [], ([(5, (-8194))], 106521)), [], false), (53, ([(0, 4095), (0, 11), (0, 8191), (1, 12), (0, 144)], [], ((ys_fs xf_29.1 [(0, 1, .inl (.inl ([(7, 1)], 0))), (0, 3, .inl (.inl ([(8, 1)], 0)))]), xf_29.2), [(0, .inr (some 0)), (1, .inr (some 4)), (2, .inl (.inl ([(4, 1)], 0))), (3, .inl (.inl ([(5, 1)], 0))), (4, .inl (.inl ([(6, 1)], 0)))], [], ([(5, (-8194)), (6, (-1))], 106519)), [], false)], [])
def xa_29 : List yt_CE := [(((29, false), (0, false, [0, 1, 2, 3, 4, 5, 6, 7, 8])), (yw_s10, xk_23)), (((33, true), (0, false, [3])), (yw_s11, xk_24)), (((39, false), (0, false, [0, 1, 2, 3, 4, 5, 6, 7, 8])), (yw_s10, xk_27)), (((43, false), (0, false, [0, 1, 2, 3])), (yw_s12, xk_28))]
theorem xc_29 {l : Launch} {D : va_G} {cT : Nat → ClassId} {tys : List (ClassId × FieldType)} (hty : yx_Ty tys cT) : yx_C l D cT tys yw_s10 xk_29 := yx_method (calls := xa_29) (Z := xq_29) 300 (by decide +kernel) yz_X0_fewest_ok hty (yl_lkX0 _) (yl_cqkX0 _) (List.forall_mem_cons.mpr ⟨⟨xc_23 hty, yg_CLv rfl rfl rfl yl_wX0_29 yd_yX0_gather⟩, List.forall_mem_cons.mpr ⟨⟨xc_24 hty, yg_CLs yl_wX0_33 yd_yJ7_fill_031fb⟩, List.forall_mem_cons.mpr ⟨⟨xc_27 hty, yg_CLv rfl rfl rfl yl_wX0_39 yd_yX0_findSets⟩, List.forall_mem_cons.mpr ⟨⟨xc_28 hty, yg_CLv rfl rfl rfl yl_wX0_43 yd_yX0_widen⟩, fun _ h => absurd h List.not_mem_nil⟩⟩⟩⟩) (by decide +kernel)
def xf_30 : ys_F := (yw_f1 0, yw_r1)
def xk_30 : ys_K := (((yX11_boxes, cX11_boxes, 1, (some .int)), (4, 94)), ([.inr (some 0)], ([] ++ yw_e1, []), xf_30), ([([((-128), 127), (0, 12), (0, 144)], [], ((ys_fs xf_30.1 [(81, 1, .inl (.inl ([(93, 1)], 0))), (81, 3, .inl (.inl ([(94, 1)], 0)))]), xf_30.2), some (.inl (.inl ([(92, 1)], 0))))], [82, 83, 84]))
def xq_30 : yt_Q := (yz_X11_boxes, (yl_flX11, yl_ciX11, yl_cjX11, yl_cpX11, yl_cqX11), [], [])
def xa_30 : List yt_CE := [(((369, false), (0, false, [1, 2, 3, 4, 5])), (yw_s8, xk_21)), (((371, false), (0, false, [1, 2, 3, 4, 5])), (yw_s8, xk_22)), (((374, false), (0, false, [81, 82, 83, 84, 1, 2, 3, 4, 5])), (yw_s10, xk_29))]
theorem xc_30 {l : Launch} {D : va_G} {cT : Nat → ClassId} {tys : List (ClassId × FieldType)} (hty : yx_Ty tys cT) : yx_C l D cT tys yw_s1 xk_30 := yx_method (calls := xa_30) (Z := xq_30) 300 (by decide +kernel) yz_X11_boxes_ok hty (yl_lkX11 _) (yl_cqkX11 _) (List.forall_mem_cons.mpr ⟨⟨xc_21 hty, yg_CLv rfl rfl rfl yl_wX11_369 yd_yX6_tally⟩, List.forall_mem_cons.mpr ⟨⟨xc_22 hty, yg_CLv rfl rfl rfl yl_wX11_371 yd_yX6_coloursShareAPlace⟩, List.forall_mem_cons.mpr ⟨⟨xc_29 hty, yg_CLv rfl rfl rfl yl_wX11_374 yd_yX0_fewest⟩, fun _ h => absurd h List.not_mem_nil⟩⟩⟩) (by decide +kernel)
def xf_31 : ys_F := (yw_f2 1, yw_r2)
def xk_31 : ys_K := (((yX2_canBe, cX2_canBe, 1, (some .boolean)), (0, 0)), ([.inl (.inl ([(0, 1)], 0))], ([((-2147483648), 2147483647)] ++ yw_e2, []), xf_31), ([([], [], (xf_31.1, xf_31.2), some (.inl (.inl ([], 0)))), ([], [([(0, 1)], 1000000), ([(0, (-1))], 1000000)], (xf_31.1, xf_31.2), some (.inl (.inl ([], 1))))], []))
def xq_31 : yt_Q := (yz_X2_canBe, (yl_flX2, yl_ciX2, yl_cjX2, yl_cpX2, yl_cqX2), [], [])
def xa_31 : List yt_CE := []
theorem xc_31 {l : Launch} {D : va_G} {cT : Nat → ClassId} {tys : List (ClassId × FieldType)} (hty : yx_Ty tys cT) : yx_C l D cT tys yw_s2 xk_31 := yx_method (calls := xa_31) (Z := xq_31) 300 (by decide +kernel) yz_X2_canBe_ok hty (yl_lkX2 _) (yl_cqkX2 _) (fun _ h => absurd h List.not_mem_nil) (by decide +kernel)
def xf_32 : ys_F := (yw_f2 3, yw_r2)
def xk_32 : ys_K := (((yX2_isLine, cX2_isLine, 3, (some .boolean)), (1, 20)), ([.inl (.inl ([(0, 1)], 0)), .inl (.inl ([(1, 1)], 0)), .inl (.inl ([(2, 1)], 0))], ([((-2147483648), 2147483647), ((-2147483648), 2147483647), ((-2147483648), 2147483647)] ++ yw_e2, []), xf_32), ([([], [], (xf_32.1, xf_32.2), some (.inl (.inl ([], 0)))), ([], [([(2, 1)], 1000000), ([(2, (-1))], 1000000)], (xf_32.1, xf_32.2), some (.inl (.inl ([], 1))))], []))
def xq_32 : yt_Q := (yz_X2_isLine, (yl_flX2, yl_ciX2, yl_cjX2, yl_cpX2, yl_cqX2), [], [])
def xa_32 : List yt_CE := [(((28, true), (0, false, [])), (yw_s2, xk_31))]
theorem xc_32 {l : Launch} {D : va_G} {cT : Nat → ClassId} {tys : List (ClassId × FieldType)} (hty : yx_Ty tys cT) : yx_C l D cT tys yw_s2 xk_32 := yx_method (calls := xa_32) (Z := xq_32) 300 (by decide +kernel) yz_X2_isLine_ok hty (yl_lkX2 _) (yl_cqkX2 _) (List.forall_mem_cons.mpr ⟨⟨xc_31 hty, yg_CLs yl_wX2_28 yd_yX2_canBe⟩, fun _ h => absurd h List.not_mem_nil⟩) (by decide +kernel)
def xf_33 : ys_F := (yw_f2 5, yw_r2)
def xk_33 : ys_K := (((yX2_heightAbove, cX2_heightAbove, 8, (some .long)), (0, 0)), ([.inl (.inr ([(0, 1)], 0)), .inl (.inr ([(1, 1)], 0)), .inl (.inr ([(2, 1)], 0)), .inl (.inl ([(3, 1)], 0)), .inl (.inl ([(4, 1)], 0))], ([((-9223372036854775808), 9223372036854775807), ((-9223372036854775808), 9223372036854775807), ((-9223372036854775808), 9223372036854775807), ((-2147483648), 2147483647), ((-2147483648), 2147483647)] ++ yw_e2, []), xf_33), ([([((-9223372036854775808), 9223372036854775807)], [], (xf_33.1, xf_33.2), some (.inl (.inr ([(5, 1)], 0))))], []))
def xq_33 : yt_Q := (yz_X2_heightAbove, (yl_flX2, yl_ciX2, yl_cjX2, yl_cpX2, yl_cqX2), [], [])
def xa_33 : List yt_CE := []
theorem xc_33 {l : Launch} {D : va_G} {cT : Nat → ClassId} {tys : List (ClassId × FieldType)} (hty : yx_Ty tys cT) : yx_C l D cT tys yw_s2 xk_33 := yx_method (calls := xa_33) (Z := xq_33) 300 (by decide +kernel) yz_X2_heightAbove_ok hty (yl_lkX2 _) (yl_cqkX2 _) (fun _ h => absurd h List.not_mem_nil) (by decide +kernel)
def xf_34 : ys_F := (yw_f1 3, yw_r1)
def xk_34 : ys_K := (((yX11_check, cX11_check, 9, (some .int)), (2, 42)), ([.inr (some 0), .inl (.inl ([(0, 1)], 0)), .inl (.inl ([(1, 1)], 0)), .inl (.inl ([(2, 1)], 0))], ([((-2147483648), 2147483647), ((-2147483648), 2147483647), ((-2147483648), 2147483647)] ++ yw_e1, []), xf_34), ([([((-2147483648), 2147483647)], [], (xf_34.1, xf_34.2), some (.inl (.inl ([(95, 1)], 0))))], []))
def xq_34 : yt_Q := (yz_X11_check, (yl_flX11, yl_ciX11, yl_cjX11, yl_cpX11, yl_cqX11), [(17, ([((-2147483648), 2147483647), (0, 40)], [([(2, 1)], 1000000), ([(2, (-1))], 1000000)], (xf_34.1, xf_34.2), [(0, .inr (some 0)), (1, .inl (.inl ([(0, 1)], 0))), (2, .inl (.inl ([(1, 1)], 0))), (3, .inl (.inl ([(2, 1)], 0))), (4, .inl (.inl ([(95, 1)], 0))), (5, .inl (.inl ([(96, 1)], 0)))], [], ([(96, (-1))], 40)), [], false)], [])
def xa_34 : List yt_CE := [(((246, true), (0, false, [])), (yw_s2, xk_32)), (((250, true), (0, false, [])), (yw_s2, xk_33))]
theorem xc_34 {l : Launch} {D : va_G} {cT : Nat → ClassId} {tys : List (ClassId × FieldType)} (hty : yx_Ty tys cT) : yx_C l D cT tys yw_s1 xk_34 := yx_method (calls := xa_34) (Z := xq_34) 300 (by decide +kernel) yz_X11_check_ok hty (yl_lkX11 _) (yl_cqkX11 _) (List.forall_mem_cons.mpr ⟨⟨xc_32 hty, yg_CLs yl_wX11_246 yd_yX2_isLine⟩, List.forall_mem_cons.mpr ⟨⟨xc_33 hty, yg_CLs yl_wX11_250 yd_yX2_heightAbove⟩, fun _ h => absurd h List.not_mem_nil⟩⟩) (by decide +kernel)
def xf_35 : ys_F := (yw_f2 1, yw_r2)
def xk_35 : ys_K := (((yX11_isSheet, cX11_isSheet, 1, (some .boolean)), (0, 0)), ([.inl (.inl ([(0, 1)], 0))], ([((-2147483648), 2147483647)] ++ yw_e2, []), xf_35), ([([], [], (xf_35.1, xf_35.2), some (.inl (.inl ([], 0)))), ([], [([(0, 1)], 0), ([(0, (-1))], 3)], (xf_35.1, xf_35.2), some (.inl (.inl ([], 1))))], []))
def xq_35 : yt_Q := (yz_X11_isSheet, (yl_flX11, yl_ciX11, yl_cjX11, yl_cpX11, yl_cqX11), [], [])
def xa_35 : List yt_CE := []
theorem xc_35 {l : Launch} {D : va_G} {cT : Nat → ClassId} {tys : List (ClassId × FieldType)} (hty : yx_Ty tys cT) : yx_C l D cT tys yw_s2 xk_35 := yx_method (calls := xa_35) (Z := xq_35) 300 (by decide +kernel) yz_X11_isSheet_ok hty (yl_lkX11 _) (yl_cqkX11 _) (fun _ h => absurd h List.not_mem_nil) (by decide +kernel)
def yw_s13 : List ys_C := [.inl 8, .inr (1, 100, [])]
def yw_f13 (n : Nat) : List (List ys_V) := [[.inr (some 1), .inl (.inl ([(n + 0, 1)], 0)), .inl (.inl ([(n + 1, 1)], 0)), .inl (.inl ([(n + 2, 1)], 0))], []]
def yw_e13 : ys_E := [(0, 1), ((-2147483648), 2147483647), (0, 100)]
def yw_r13 : List ys_R := [((0, 0), []), (((-9223372036854775808), 9223372036854775807), [])]
def xf_36 : ys_F := (yw_f13 2, yw_r13)
def xk_36 : ys_K := (((yX8_hasAll, cX8_hasAll, 3, (some .boolean)), (0, 0)), ([.inr (some 0), .inl (.inl ([(0, 1)], 0)), .inl (.inl ([(1, 1)], 0))], ([((-2147483648), 2147483647), ((-2147483648), 2147483647)] ++ yw_e13, []), xf_36), ([([], [], (xf_36.1, xf_36.2), some (.inl (.inl ([], 0)))), ([], [([(0, 1)], 0), ([(0, (-1))], 100), ([(1, 1)], 0), ([(1, (-1))], 100), ([(0, (-1)), (4, 1), (1, (-1))], 0)], (xf_36.1, xf_36.2), some (.inl (.inl ([], 1))))], []))
def xq_36 : yt_Q := (yz_X8_hasAll, (yl_flX8, yl_ciX8, yl_cjX8, yl_cpX8, yl_cqX8), [], [])
def xa_36 : List yt_CE := []
theorem xc_36 {l : Launch} {D : va_G} {cT : Nat → ClassId} {tys : List (ClassId × FieldType)} (hty : yx_Ty tys cT) : yx_C l D cT tys yw_s13 xk_36 := yx_method (calls := xa_36) (Z := xq_36) 300 (by decide +kernel) yz_X8_hasAll_ok hty (yl_lkX8 _) (yl_cqkX8 _) (fun _ h => absurd h List.not_mem_nil) (by decide +kernel)
def xf_37 : ys_F := (yw_f13 1, yw_r13)
def xk_37 : ys_K := (((yX8_cut, cX8_cut, 3, (some .long)), (0, 0)), ([.inr (some 0), .inl (.inr ([(0, 1)], 0))], ([((-9223372036854775808), 9223372036854775807)] ++ yw_e13, []), xf_37), ([([((-9223372036854775808), 9223372036854775807)], [], (xf_37.1, xf_37.2), some (.inl (.inr ([(4, 1)], 0))))], []))
def xq_37 : yt_Q := (yz_X8_cut, (yl_flX8, yl_ciX8, yl_cjX8, yl_cpX8, yl_cqX8), [], [])
def xa_37 : List yt_CE := []
theorem xc_37 {l : Launch} {D : va_G} {cT : Nat → ClassId} {tys : List (ClassId × FieldType)} (hty : yx_Ty tys cT) : yx_C l D cT tys yw_s13 xk_37 := yx_method (calls := xa_37) (Z := xq_37) 300 (by decide +kernel) yz_X8_cut_ok hty (yl_lkX8 _) (yl_cqkX8 _) (fun _ h => absurd h List.not_mem_nil) (by decide +kernel)
def xf_38 : ys_F := (yw_f13 3, yw_r13)
def xk_38 : ys_K := (((yX8_putAll, cX8_putAll, 6, none), (1, 22)), ([.inr (some 0), .inl (.inl ([(0, 1)], 0)), .inr (some 0), .inl (.inl ([(1, 1)], 0)), .inl (.inl ([(2, 1)], 0))], ([(0, 100), (0, 100), (0, 100)] ++ yw_e13, [([(2, (-1)), (0, (-1))], 100), ([(2, (-1)), (1, (-1))], 100)]), xf_38), ([([], [([(2, (-1)), (0, (-1))], 101)], (xf_38.1, xf_38.2), none)], [1]))
def xq_38 : yt_Q := (yz_X8_putAll, (yl_flX8, yl_ciX8, yl_cjX8, yl_cpX8, yl_cqX8), [(18, ([(0, 101)], [], (xf_38.1, xf_38.2), [(0, .inr (some 0)), (1, .inl (.inl ([(0, 1)], 0))), (4, .inl (.inl ([(2, 1)], 0))), (5, .inl (.inl ([(6, 1)], 0)))], [], ([(6, (-1))], 101)), [], false)], [])
def xa_38 : List yt_CE := [(((32, false), (0, false, [0, 1])), (yw_s13, xk_37))]
theorem xc_38 {l : Launch} {D : va_G} {cT : Nat → ClassId} {tys : List (ClassId × FieldType)} (hty : yx_Ty tys cT) : yx_C l D cT tys yw_s13 xk_38 := yx_method (calls := xa_38) (Z := xq_38) 300 (by decide +kernel) yz_X8_putAll_ok hty (yl_lkX8 _) (yl_cqkX8 _) (List.forall_mem_cons.mpr ⟨⟨xc_37 hty, yg_CLv rfl rfl rfl yl_wX8_32 yd_yX8_cut⟩, fun _ h => absurd h List.not_mem_nil⟩) (by decide +kernel)
def yw_s14 : List ys_C := [.inl 8, .inr (1, 100, []), .inl 8, .inr (1, 100, [])]
def yw_f14 (n : Nat) : List (List ys_V) := [[.inr (some 1), .inl (.inl ([(n + 0, 1)], 0)), .inl (.inl ([(n + 1, 1)], 0)), .inl (.inl ([(n + 2, 1)], 0))], [], [.inr (some 3), .inl (.inl ([(n + 3, 1)], 0)), .inl (.inl ([(n + 4, 1)], 0)), .inl (.inl ([(n + 5, 1)], 0))], []]
def yw_e14 : ys_E := [(0, 1), ((-2147483648), 2147483647), (0, 100), (0, 1), ((-2147483648), 2147483647), (0, 100)]
def yw_r14 : List ys_R := [((0, 0), []), (((-9223372036854775808), 9223372036854775807), []), ((0, 0), []), (((-9223372036854775808), 9223372036854775807), [])]
def xf_39 : ys_F := (yw_f14 3, yw_r14)
def xk_39 : ys_K := (((yX8_putAll, cX8_putAll, 6, none), (1, 22)), ([.inr (some 0), .inl (.inl ([(0, 1)], 0)), .inr (some 2), .inl (.inl ([(1, 1)], 0)), .inl (.inl ([(2, 1)], 0))], ([(0, 100), (0, 100), (0, 100)] ++ yw_e14, [([(2, (-1)), (0, (-1))], 100), ([(2, (-1)), (1, (-1))], 100)]), xf_39), ([([], [([(2, (-1)), (0, (-1))], 101)], (xf_39.1, xf_39.2), none)], [1]))
def xq_39 : yt_Q := (yz_X8_putAll, (yl_flX8, yl_ciX8, yl_cjX8, yl_cpX8, yl_cqX8), [(18, ([(0, 101)], [], (xf_39.1, xf_39.2), [(0, .inr (some 0)), (1, .inl (.inl ([(0, 1)], 0))), (4, .inl (.inl ([(2, 1)], 0))), (5, .inl (.inl ([(9, 1)], 0)))], [], ([(9, (-1))], 101)), [], false)], [])
def xa_39 : List yt_CE := [(((32, false), (0, false, [0, 1])), (yw_s13, xk_37))]
theorem xc_39 {l : Launch} {D : va_G} {cT : Nat → ClassId} {tys : List (ClassId × FieldType)} (hty : yx_Ty tys cT) : yx_C l D cT tys yw_s14 xk_39 := yx_method (calls := xa_39) (Z := xq_39) 300 (by decide +kernel) yz_X8_putAll_ok hty (yl_lkX8 _) (yl_cqkX8 _) (List.forall_mem_cons.mpr ⟨⟨xc_37 hty, yg_CLv rfl rfl rfl yl_wX8_32 yd_yX8_cut⟩, fun _ h => absurd h List.not_mem_nil⟩) (by decide +kernel)
end
