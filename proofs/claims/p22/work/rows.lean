section
/-! linear numbers over symbols, their bounds, what follows from facts -/
abbrev ys_L : Type := List (Nat × Int) × Int
def ys_sum (r : Nat → Int) : List (Nat × Int) → Int
  | [] => 0
  | q :: t => q.2 * r q.1 + ys_sum r t
def ys_ev (r : Nat → Int) (e : ys_L) : Int := ys_sum r e.1 + e.2
def ys_ins (i : Nat) (c : Int) : List (Nat × Int) → List (Nat × Int)
  | [] => [(i, c)]
  | q :: t => if i = q.1 then (if c + q.2 = 0 then t else (i, c + q.2) :: t) else q :: ys_ins i c t
def ys_addl : List (Nat × Int) → List (Nat × Int) → List (Nat × Int)
  | [], m => m
  | q :: t, m => ys_ins q.1 q.2 (ys_addl t m)
def ys_add (a b : ys_L) : ys_L := (ys_addl a.1 b.1, a.2 + b.2)
def ys_scl (k : Int) : List (Nat × Int) → List (Nat × Int)
  | [] => []
  | q :: t => (q.1, k * q.2) :: ys_scl k t
def ys_scale (k : Int) (a : ys_L) : ys_L := if k = 0 then ([], 0) else (ys_scl k a.1, k * a.2)
def ys_sub (a b : ys_L) : ys_L := ys_add a (ys_scale (-1) b)
def ys_cst (k : Int) : ys_L := ([], k)
def ys_sym (i : Nat) : ys_L := ([(i, 1)], 0)
theorem ys_ins_ev (r : Nat → Int) (i : Nat) (c : Int) : ∀ l, ys_sum r (ys_ins i c l) = c * r i + ys_sum r l
  | [] => rfl
  | q :: t => by
    unfold ys_ins
    by_cases h : i = q.1
    · rw [if_pos h]
      by_cases h2 : c + q.2 = 0
      · rw [if_pos h2]
        show _ = c * r i + (q.2 * r q.1 + ys_sum r t)
        rw [h, ← Int.add_assoc, ← Int.add_mul, h2, Int.zero_mul, Int.zero_add]
      · rw [if_neg h2]
        show (c + q.2) * r i + ys_sum r t = c * r i + (q.2 * r q.1 + ys_sum r t)
        rw [h, ← Int.add_assoc, ← Int.add_mul]
    · rw [if_neg h]
      show q.2 * r q.1 + ys_sum r (ys_ins i c t) = c * r i + (q.2 * r q.1 + ys_sum r t)
      rw [ys_ins_ev r i c t]
      omega
theorem ys_addl_ev (r : Nat → Int) : ∀ l m, ys_sum r (ys_addl l m) = ys_sum r l + ys_sum r m
  | [], m => (Int.zero_add _).symm
  | q :: t, m => by
    show ys_sum r (ys_ins q.1 q.2 (ys_addl t m)) = q.2 * r q.1 + ys_sum r t + ys_sum r m
    rw [ys_ins_ev, ys_addl_ev r t m]
    omega
theorem ys_add_ev (r : Nat → Int) (a b : ys_L) : ys_ev r (ys_add a b) = ys_ev r a + ys_ev r b := by
  show ys_sum r (ys_addl a.1 b.1) + (a.2 + b.2) = (ys_sum r a.1 + a.2) + (ys_sum r b.1 + b.2)
  rw [ys_addl_ev]
  omega
theorem ys_scl_ev (r : Nat → Int) (k : Int) : ∀ l, ys_sum r (ys_scl k l) = k * ys_sum r l
  | [] => (Int.mul_zero k).symm
  | q :: t => by
    show k * q.2 * r q.1 + ys_sum r (ys_scl k t) = k * (q.2 * r q.1 + ys_sum r t)
    rw [ys_scl_ev r k t, Int.mul_add, Int.mul_assoc]
theorem ys_scale_ev (r : Nat → Int) (k : Int) (a : ys_L) : ys_ev r (ys_scale k a) = k * ys_ev r a := by
  unfold ys_scale
  by_cases h : k = 0
  · rw [if_pos h, h, Int.zero_mul]
    rfl
  · rw [if_neg h]
    show ys_sum r (ys_scl k a.1) + k * a.2 = k * (ys_sum r a.1 + a.2)
    rw [ys_scl_ev, Int.mul_add]
theorem ys_sub_ev (r : Nat → Int) (a b : ys_L) : ys_ev r (ys_sub a b) = ys_ev r a - ys_ev r b := by
  show ys_ev r (ys_add a (ys_scale (-1) b)) = _
  rw [ys_add_ev, ys_scale_ev]
  omega
theorem ys_cst_ev (r : Nat → Int) (k : Int) : ys_ev r (ys_cst k) = k := Int.zero_add k
theorem ys_sym_ev (r : Nat → Int) (i : Nat) : ys_ev r (ys_sym i) = r i := by
  show 1 * r i + 0 + 0 = r i
  omega
/-- bounds of the symbols -/
abbrev ys_E : Type := List (Int × Int)
def ys_ok (r : Nat → Int) (v : ys_E) : Prop := ∀ (i : Nat) (q : Int × Int), v[i]? = some q → q.1 ≤ r i ∧ r i ≤ q.2
def ys_lo (v : ys_E) : List (Nat × Int) → Option Int
  | [] => some 0
  | q :: t => match v[q.1]?, ys_lo v t with
    | some w, some z => some ((if 0 ≤ q.2 then q.2 * w.1 else q.2 * w.2) + z)
    | _, _ => none
def ys_low (v : ys_E) (e : ys_L) : Option Int := match ys_lo v e.1 with
  | some z => some (z + e.2)
  | none => none
theorem ys_lo_le {r : Nat → Int} {v : ys_E} (h : ys_ok r v) : ∀ (l : List (Nat × Int)) (z : Int), ys_lo v l = some z → z ≤ ys_sum r l
  | [], z, hz => by
    cases hz
    exact Int.le_refl 0
  | q :: t, z, hz => by
    unfold ys_lo at hz
    cases h1 : v[q.1]? with
    | none => rw [h1] at hz; cases hz
    | some w =>
      cases h2 : ys_lo v t with
      | none => rw [h1, h2] at hz; cases hz
      | some y =>
        rw [h1, h2] at hz
        have hy := ys_lo_le h t y h2
        have hw := h q.1 w h1
        have hz := Option.some.inj hz
        show z ≤ q.2 * r q.1 + ys_sum r t
        by_cases hc : 0 ≤ q.2
        · rw [if_pos hc] at hz
          have := Int.mul_le_mul_of_nonneg_left hw.1 hc
          omega
        · rw [if_neg hc] at hz
          have := Int.mul_le_mul_of_nonpos_left (a := q.2) (Int.le_of_lt (Int.not_le.mp hc)) hw.2
          omega
theorem ys_low_le {r : Nat → Int} {v : ys_E} (h : ys_ok r v) {e : ys_L} {z : Int} (hz : ys_low v e = some z) : z ≤ ys_ev r e := by
  unfold ys_low at hz
  cases h1 : ys_lo v e.1 with
  | none => rw [h1] at hz; cases hz
  | some y =>
    rw [h1] at hz
    have hy := ys_lo_le h e.1 y h1
    have hz := Option.some.inj hz
    show z ≤ ys_sum r e.1 + e.2
    omega
/-- at least k by the bounds alone -/
def ys_geb (v : ys_E) (e : ys_L) (k : Int) : Bool := match ys_low v e with
  | some z => decide (k ≤ z)
  | none => false
theorem ys_geb_le {r : Nat → Int} {v : ys_E} (h : ys_ok r v) {e : ys_L} {k : Int} (hz : ys_geb v e k = true) : k ≤ ys_ev r e := by
  unfold ys_geb at hz
  cases h1 : ys_low v e with
  | none => rw [h1] at hz; cases hz
  | some y =>
    rw [h1] at hz
    exact Int.le_trans (of_decide_eq_true hz) (ys_low_le h h1)
def ys_high (v : ys_E) (e : ys_L) : Option Int := match ys_low v (ys_scale (-1) e) with
  | some z => some (-z)
  | none => none
theorem ys_high_le {r : Nat → Int} {v : ys_E} (h : ys_ok r v) {e : ys_L} {z : Int} (hz : ys_high v e = some z) : ys_ev r e ≤ z := by
  unfold ys_high at hz
  cases h1 : ys_low v (ys_scale (-1) e) with
  | none => rw [h1] at hz; cases hz
  | some y =>
    rw [h1] at hz
    have h2 := ys_low_le h h1
    rw [ys_scale_ev] at h2
    have hz := Option.some.inj hz
    omega
/-- facts: each is at least 0 -/
def ys_fk (r : Nat → Int) (fs : List ys_L) : Prop := ∀ f ∈ fs, 0 ≤ ys_ev r f
def ys_ge (v : ys_E) (fs : List ys_L) : Nat → ys_L → Bool
  | 0, e => ys_geb v e 0
  | d + 1, e => ys_geb v e 0 || fs.any (fun f => ys_ge v fs d (ys_sub e f))
theorem ys_ge_le {r : Nat → Int} {v : ys_E} {fs : List ys_L} (h : ys_ok r v) (hf : ys_fk r fs) : ∀ (d : Nat) (e : ys_L), ys_ge v fs d e = true → 0 ≤ ys_ev r e
  | 0, e, hz => ys_geb_le h hz
  | d + 1, e, hz => by
    unfold ys_ge at hz
    rcases (Bool.or_eq_true _ _).mp hz with h1 | h1
    · exact ys_geb_le h h1
    · obtain ⟨f, hm, h2⟩ := List.any_eq_true.mp h1
      have h3 := ys_ge_le h hf d _ h2
      rw [ys_sub_ev] at h3
      have := hf f hm
      omega
/-- a fact makes bounds tighter -/
def ys_tg (f : ys_L) : List (Nat × Int) → ys_E → ys_E
  | [], v => v
  | q :: t, v => ys_tg f t (match v[q.1]? with
    | none => v
    | some w =>
      if q.2 = 1 then (match ys_high v (ys_add f ([(q.1, -1)], 0)) with
        | some u => if w.1 < -u then v.set q.1 (-u, w.2) else v
        | none => v)
      else if q.2 = -1 then (match ys_high v (ys_add f ([(q.1, 1)], 0)) with
        | some u => if u < w.2 then v.set q.1 (w.1, u) else v
        | none => v)
      else v)
theorem ys_ok_set {r : Nat → Int} {v : ys_E} (h : ys_ok r v) (i : Nat) (w : Int × Int) (hw : w.1 ≤ r i ∧ r i ≤ w.2) : ys_ok r (v.set i w) := by
  intro j q hq
  by_cases hj : i = j
  · subst hj
    by_cases hl : i < v.length
    · rw [List.getElem?_set_self hl] at hq
      cases hq
      exact hw
    · rw [List.getElem?_eq_none (by rw [List.length_set]; omega)] at hq
      cases hq
  · rw [List.getElem?_set_ne hj] at hq
    exact h j q hq
theorem ys_tg_len (f : ys_L) : ∀ (l : List (Nat × Int)) (v : ys_E), (ys_tg f l v).length = v.length
  | [], v => rfl
  | q :: t, v => by
    unfold ys_tg
    rw [ys_tg_len f t]
    split
    · rfl
    · split
      · split
        · split
          · exact List.length_set
          · rfl
        · rfl
      · split
        · split
          · split
            · exact List.length_set
            · rfl
          · rfl
        · rfl
theorem ys_tg_ok {r : Nat → Int} {f : ys_L} (hf : 0 ≤ ys_ev r f) : ∀ (l : List (Nat × Int)) (v : ys_E), ys_ok r v → ys_ok r (ys_tg f l v)
  | [], v, h => h
  | q :: t, v, h => by
    unfold ys_tg
    refine ys_tg_ok hf t _ ?_
    split
    · exact h
    · rename_i w hw
      have hb := h q.1 w hw
      have one : ∀ c : Int, ys_ev r ([(q.1, c)], 0) = c * r q.1 := by
        intro c
        show c * r q.1 + 0 + 0 = _
        omega
      split
      · split
        · rename_i u hu
          have h2 := ys_high_le h hu
          rw [ys_add_ev, one] at h2
          split
          · exact ys_ok_set h _ _ ⟨by show -u ≤ _; omega, hb.2⟩
          · exact h
        · exact h
      · split
        · split
          · rename_i u hu
            have h2 := ys_high_le h hu
            rw [ys_add_ev, one] at h2
            split
            · exact ys_ok_set h _ _ ⟨hb.1, by show _ ≤ u; omega⟩
            · exact h
          · exact h
        · exact h
/-- bounds and facts -/
abbrev ys_B : Type := ys_E × List ys_L
def ys_okB (r : Nat → Int) (b : ys_B) : Prop := ys_ok r b.1 ∧ ys_fk r b.2
/-- one more fact: nothing, if it can't be -/
def ys_as (b : ys_B) (f : ys_L) : Option ys_B :=
  if ys_geb b.1 (ys_scale (-1) f) 1 then none
  else some (ys_tg f f.1 b.1, match f.1 with
    | [] => b.2
    | [q] => if q.2 = 1 then b.2 else if q.2 = -1 then b.2 else f :: b.2
    | _ => f :: b.2)
theorem ys_as_ok {r : Nat → Int} {b : ys_B} {f : ys_L} (h : ys_okB r b) (hf : 0 ≤ ys_ev r f) : ∃ b', ys_as b f = some b' ∧ ys_okB r b' := by
  unfold ys_as
  have hn : ¬ ys_geb b.1 (ys_scale (-1) f) 1 = true := by
    intro h1
    have h2 := ys_geb_le h.1 h1
    rw [ys_scale_ev] at h2
    omega
  rw [if_neg hn]
  refine ⟨_, rfl, ys_tg_ok hf _ _ h.1, ?_⟩
  have hc : ys_fk r (f :: b.2) := fun g hg => by
    rcases List.mem_cons.mp hg with e | e
    · rw [e]; exact hf
    · exact h.2 g e
  show ys_fk r (match f.1 with
    | [] => b.2
    | [q] => if q.2 = 1 then b.2 else if q.2 = -1 then b.2 else f :: b.2
    | _ => f :: b.2)
  split
  · exact h.2
  · split
    · exact h.2
    · split
      · exact h.2
      · exact hc
  · exact hc
theorem ys_as_len {b b' : ys_B} {f : ys_L} (h : ys_as b f = some b') : b'.1.length = b.1.length := by
  unfold ys_as at h
  split at h
  · cases h
  · cases Option.some.inj h
    exact ys_tg_len _ _ _
/-- several facts -/
def ys_ass (b : ys_B) : List ys_L → Option ys_B
  | [] => some b
  | f :: t => match ys_as b f with
    | none => none
    | some b' => ys_ass b' t
theorem ys_ass_ok {r : Nat → Int} : ∀ (fs : List ys_L) {b : ys_B}, ys_okB r b → ys_fk r fs → ∃ b', ys_ass b fs = some b' ∧ ys_okB r b'
  | [], b, h, _ => ⟨b, rfl, h⟩
  | f :: t, b, h, hf => by
    obtain ⟨b1, e1, h1⟩ := ys_as_ok h (hf f List.mem_cons_self)
    obtain ⟨b2, e2, h2⟩ := ys_ass_ok t h1 (fun g hg => hf g (List.mem_cons_of_mem _ hg))
    refine ⟨b2, ?_, h2⟩
    unfold ys_ass
    rw [e1]
    exact e2
theorem ys_ass_len : ∀ (fs : List ys_L) {b b' : ys_B}, ys_ass b fs = some b' → b'.1.length = b.1.length
  | [], b, b', h => by cases Option.some.inj h; rfl
  | f :: t, b, b', h => by
    unfold ys_ass at h
    cases h1 : ys_as b f with
    | none => rw [h1] at h; cases h
    | some b1 =>
      rw [h1] at h
      rw [ys_ass_len t h, ys_as_len h1]
/-- putting linear numbers for symbols: those below E stay -/
def ys_at (E : Nat) (t : List ys_L) (i : Nat) : ys_L := if i < E then ys_sym i else t.getD (i - E) ([], 0)
def ys_pl (E : Nat) (t : List ys_L) : List (Nat × Int) → ys_L
  | [] => ([], 0)
  | q :: l => ys_add (ys_scale q.2 (ys_at E t q.1)) (ys_pl E t l)
def ys_put (E : Nat) (t : List ys_L) (e : ys_L) : ys_L := ys_add (ys_pl E t e.1) ([], e.2)
/-- the numbers that the symbols then stand for -/
def ys_val (r : Nat → Int) (E : Nat) (t : List ys_L) (i : Nat) : Int := ys_ev r (ys_at E t i)
theorem ys_pl_ev (r : Nat → Int) (E : Nat) (t : List ys_L) : ∀ l, ys_ev r (ys_pl E t l) = ys_sum (ys_val r E t) l
  | [] => rfl
  | q :: l => by
    show ys_ev r (ys_add _ _) = q.2 * ys_val r E t q.1 + _
    rw [ys_add_ev, ys_scale_ev, ys_pl_ev r E t l]
    rfl
theorem ys_put_ev (r : Nat → Int) (E : Nat) (t : List ys_L) (e : ys_L) : ys_ev r (ys_put E t e) = ys_ev (ys_val r E t) e := by
  show ys_ev r (ys_add _ _) = _
  rw [ys_add_ev, ys_pl_ev]
  show _ + (0 + e.2) = _ + e.2
  rw [Int.zero_add]
theorem ys_val_low {r : Nat → Int} {E : Nat} {t : List ys_L} {i : Nat} (h : i < E) : ys_val r E t i = r i := by
  show ys_ev r (ys_at E t i) = r i
  unfold ys_at
  rw [if_pos h, ys_sym_ev]
/-- other symbols don't matter -/
def ys_bel (n : Nat) (e : ys_L) : Bool := e.1.all (fun q => decide (q.1 < n))
theorem ys_sum_cong {r r' : Nat → Int} {n : Nat} (h : ∀ i, i < n → r i = r' i) : ∀ l : List (Nat × Int), l.all (fun q => decide (q.1 < n)) = true → ys_sum r l = ys_sum r' l
  | [], _ => rfl
  | q :: t, hl => by
    rw [List.all_cons, Bool.and_eq_true] at hl
    show q.2 * r q.1 + ys_sum r t = q.2 * r' q.1 + ys_sum r' t
    rw [h q.1 (of_decide_eq_true hl.1), ys_sum_cong h t hl.2]
theorem ys_ev_cong {r r' : Nat → Int} {n : Nat} (h : ∀ i, i < n → r i = r' i) {e : ys_L} (he : ys_bel n e = true) : ys_ev r e = ys_ev r' e := by
  show ys_sum r e.1 + e.2 = ys_sum r' e.1 + e.2
  rw [ys_sum_cong h e.1 he]
end
section
/-! values, states, what they stand for -/
abbrev ys_V : Type := (ys_L ⊕ ys_L) ⊕ Option Nat
/-- what an array holds: bounds of all, others at some places -/
abbrev ys_R : Type := (Int × Int) × List (Nat × (Int × Int))
abbrev ys_F : Type := List (List ys_V) × List ys_R
abbrev ys_S : Type := ys_B × ys_F × List (Nat × ys_V) × List ys_V
def ys_rat (a : ys_R) (j : Nat) : Int × Int := (a.2.lookup j).getD a.1
def ys_rok (a : ys_R) (f : Nat → Int) : Prop := ∀ j, (ys_rat a j).1 ≤ f j ∧ f j ≤ (ys_rat a j).2
def ys_den (ad : Nat → Nat) (r : Nat → Int) : ys_V → Value
  | .inl (.inl e) => .int (Int32.ofInt (ys_ev r e))
  | .inl (.inr e) => .long (Int64.ofInt (ys_ev r e))
  | .inr none => .null
  | .inr (some k) => .ref (ad k)
/-- what the symbols below n settle -/
def ys_stb (n : Nat) (e : ys_L) : Prop := ∀ r r' : Nat → Int, (∀ i, i < n → r i = r' i) → ys_ev r e = ys_ev r' e
def ys_stV (n : Nat) : ys_V → Prop
  | .inl (.inl e) => ys_stb n e
  | .inl (.inr e) => ys_stb n e
  | .inr _ => True
theorem ys_stb_mono {n m : Nat} {e : ys_L} (h : ys_stb n e) (hm : n ≤ m) : ys_stb m e := fun r r' hr => h r r' fun i hi => hr i (Nat.lt_of_lt_of_le hi hm)
theorem ys_stV_mono {n m : Nat} {v : ys_V} (h : ys_stV n v) (hm : n ≤ m) : ys_stV m v := by
  rcases v with (e | e) | o
  · exact ys_stb_mono (e := e) h hm
  · exact ys_stb_mono (e := e) h hm
  · trivial
theorem ys_stb_add {n : Nat} {a b : ys_L} (ha : ys_stb n a) (hb : ys_stb n b) : ys_stb n (ys_add a b) := fun r r' hr => by
  rw [ys_add_ev, ys_add_ev, ha r r' hr, hb r r' hr]
theorem ys_stb_scale {n : Nat} {a : ys_L} (k : Int) (ha : ys_stb n a) : ys_stb n (ys_scale k a) := fun r r' hr => by
  rw [ys_scale_ev, ys_scale_ev, ha r r' hr]
theorem ys_stb_sub {n : Nat} {a b : ys_L} (ha : ys_stb n a) (hb : ys_stb n b) : ys_stb n (ys_sub a b) := ys_stb_add ha (ys_stb_scale (-1) hb)
theorem ys_stb_cst {n : Nat} (k : Int) : ys_stb n (ys_cst k) := fun r r' _ => by rw [ys_cst_ev, ys_cst_ev]
theorem ys_stb_sym {n i : Nat} (h : i < n) : ys_stb n (ys_sym i) := fun r r' hr => by rw [ys_sym_ev, ys_sym_ev, hr i h]
theorem ys_stb_bel {n : Nat} {e : ys_L} (h : ys_bel n e = true) : ys_stb n e := fun _ _ hr => ys_ev_cong hr h
theorem ys_stb_at {n E : Nat} {t : List ys_L} (hE : E ≤ n) (ht : ∀ e ∈ t, ys_stb n e) (i : Nat) : ys_stb n (ys_at E t i) := by
  unfold ys_at
  by_cases h : i < E
  · rw [if_pos h]
    exact ys_stb_sym (Nat.lt_of_lt_of_le h hE)
  · rw [if_neg h, List.getD_eq_getElem?_getD]
    cases hc : t[i - E]? with
    | none => exact fun _ _ _ => rfl
    | some e => exact ht e (List.mem_of_getElem? hc)
theorem ys_stb_put {n E : Nat} {t : List ys_L} (hE : E ≤ n) (ht : ∀ e ∈ t, ys_stb n e) (e : ys_L) : ys_stb n (ys_put E t e) := fun r r' hr => by
  have hv : ys_val r E t = ys_val r' E t := funext fun i => ys_stb_at hE ht i r r' hr
  rw [ys_put_ev, ys_put_ev, hv]
theorem ys_den_cong {ad : Nat → Nat} {n : Nat} {r r' : Nat → Int} (h : ∀ i, i < n → r i = r' i) {v : ys_V} (hv : ys_stV n v) : ys_den ad r v = ys_den ad r' v := by
  rcases v with (e | e) | o
  · show Value.int _ = Value.int _
    rw [show ys_ev r e = ys_ev r' e from hv r r' h]
  · show Value.long _ = Value.long _
    rw [show ys_ev r e = ys_ev r' e from hv r r' h]
  · cases o <;> rfl
def ys_scB (b : ys_B) : Prop := ∀ f ∈ b.2, ys_stb b.1.length f
def ys_sc (S : ys_S) : Prop := ys_scB S.1 ∧ (∀ w ∈ S.2.1.1, ∀ v ∈ w, ys_stV S.1.1.length v) ∧ (∀ q ∈ S.2.2.1, ys_stV S.1.1.length q.2) ∧ ∀ v ∈ S.2.2.2, ys_stV S.1.1.length v
/-! cells: an object (its number among the kinds of objects); an array: its kind (0 int, 1 long, 2 byte, 3 boolean, 4 on references), length, the cells that it holds -/
abbrev ys_C : Type := Nat ⊕ (Nat × Nat × List Nat)
def ys_con (ad : Nat → Nat) (g : Nat → Int) (a : Nat × Nat × List Nat) : vp_A := (a.2.1, if a.1 = 1 then .inr (.inl fun j => Int64.ofInt (g j)) else if 4 ≤ a.1 then .inr (.inr (.inr (.inr fun j => (a.2.2[j]?).map ad))) else .inl fun j => Int32.ofInt (g j))
def ys_cel (ad : Nat → Nat) (cT : Nat → ClassId) (r : Nat → Int) (g : Nat → Nat → Int) (k : Nat) (c : ys_C) (fs : List ys_V) : Nat × va_E := (ad k, match c with
  | .inl ci => .inr (ci, fs.map (ys_den ad r))
  | .inr a => .inl (cT a.1, ys_con ad (g k) a))
def ys_wld (ad : Nat → Nat) (cT : Nat → ClassId) (sh : List ys_C) (r : Nat → Int) (g : Nat → Nat → Int) (fds : List (List ys_V)) : va_W := (List.range sh.length).map fun k => ys_cel ad cT r g k (sh.getD k (.inl 0)) (fds.getD k [])
theorem ys_wld_get {ad : Nat → Nat} {cT : Nat → ClassId} {sh : List ys_C} {r : Nat → Int} {g : Nat → Nat → Int} {fds : List (List ys_V)} {k : Nat} {c : ys_C} (h : sh[k]? = some c) : (ys_wld ad cT sh r g fds)[k]? = some (ys_cel ad cT r g k c (fds.getD k [])) := by
  have hk := (List.getElem?_eq_some_iff.mp h).1
  unfold ys_wld
  rw [List.getElem?_map, List.getElem?_range hk]
  show some (ys_cel ad cT r g k (sh.getD k (.inl 0)) _) = _
  rw [List.getD_eq_getElem?_getD, h]
  rfl
theorem ys_wld_len {ad : Nat → Nat} {cT : Nat → ClassId} {sh : List ys_C} {r : Nat → Int} {g : Nat → Nat → Int} {fds : List (List ys_V)} : (ys_wld ad cT sh r g fds).length = sh.length := by
  unfold ys_wld
  rw [List.length_map, List.length_range]
/-- a list of cells, changed at one place -/
theorem ys_wld_set {ad : Nat → Nat} {cT : Nat → ClassId} {sh : List ys_C} {r : Nat → Int} {g g' : Nat → Nat → Int} {fds fds' : List (List ys_V)} {k : Nat} {c : ys_C} (h : sh[k]? = some c) (ho : ∀ j, j ≠ k → g' j = g j ∧ fds'.getD j [] = fds.getD j []) : ys_wld ad cT sh r g' fds' = (ys_wld ad cT sh r g fds).set k (ys_cel ad cT r g' k c (fds'.getD k [])) := by
  have hk := (List.getElem?_eq_some_iff.mp h).1
  apply List.ext_getElem?
  intro j
  by_cases hj : k = j
  · subst hj
    rw [List.getElem?_set_self (by rw [ys_wld_len]; exact hk), ys_wld_get h]
  · rw [List.getElem?_set_ne hj]
    obtain ⟨h1, h2⟩ := ho j (fun q => hj q.symm)
    cases hc : sh[j]? with
    | none =>
      have hl : sh.length ≤ j := by simpa using hc
      rw [List.getElem?_eq_none (by rw [ys_wld_len]; exact hl), List.getElem?_eq_none (by rw [ys_wld_len]; exact hl)]
    | some c' =>
      rw [ys_wld_get hc, ys_wld_get hc, h2]
      unfold ys_cel
      rw [h1]
theorem ys_wld_cong {ad : Nat → Nat} {cT : Nat → ClassId} {sh : List ys_C} {r r' : Nat → Int} {g : Nat → Nat → Int} {fds : List (List ys_V)} {n : Nat} (h : ∀ i, i < n → r i = r' i) (hf : ∀ w ∈ fds, ∀ v ∈ w, ys_stV n v) : ys_wld ad cT sh r g fds = ys_wld ad cT sh r' g fds := by
  unfold ys_wld
  apply List.map_congr_left
  intro k _
  have hrow : ∀ v ∈ fds.getD k [], ys_stV n v := by
    rw [List.getD_eq_getElem?_getD]
    cases hc : fds[k]? with
    | none => intro v hv; cases hv
    | some w => exact hf w (List.mem_of_getElem? hc)
  unfold ys_cel
  cases sh.getD k (.inl 0) with
  | inl ci =>
    have e : (fds.getD k []).map (ys_den ad r) = (fds.getD k []).map (ys_den ad r') := List.map_congr_left fun v hv => ys_den_cong h (hrow v hv)
    show (ad k, Sum.inr (ci, _)) = (ad k, Sum.inr (ci, _))
    rw [e]
  | inr a => rfl
/-- what the arrays hold keeps to its bounds; those that may not change are as they were -/
def ys_gok (mods : List Nat) (ars : List ys_R) (g0 g : Nat → Nat → Int) : Prop := (∀ (k : Nat) (a : ys_R), ars[k]? = some a → ys_rok a (g k)) ∧ ∀ k, k ∉ mods → g k = g0 k
section YSR
variable (D : va_G) (cl : List vw_C) (ad : Nat → Nat) (cT : Nat → ClassId) (sh : List ys_C) (A : Nat → Prop) (H0 : Heap) (nL : Nat) (mods : List Nat) (g0 : Nat → Nat → Int)
def ys_Wd (r : Nat → Int) (fds : ys_F) (H : Heap) (locs : List Loc) : Prop := ∃ g, ys_gok mods fds.2 g0 g ∧ va_P D cl (ys_wld ad cT sh r g fds.1) H ∧ va_D A (ys_wld ad cT sh r g fds.1) ∧ va_S A H0 H locs
def ys_lvs (r : Nat → Int) (l : List (Nat × ys_V)) : List (Nat × Value) := l.map fun q => (q.1, ys_den ad r q.2)
def ys_rep (r0 r : Nat → Int) (E : Nat) (S : ys_S) (H : Heap) (locs : List Loc) (ls : Array Slot) (st : List Value) : Prop := ys_okB r S.1 ∧ ys_sc S ∧ (E ≤ S.1.1.length ∧ ∀ i, i < E → r i = r0 i) ∧ ys_Wd D cl ad cT sh A H0 mods g0 r S.2.1 H locs ∧ lv_has ls nL (ys_lvs ad r S.2.2.1) ∧ st = S.2.2.2.map (ys_den ad r)
end YSR
section YSQ
variable {D : va_G} {cl : List vw_C} {ad : Nat → Nat} {cT : Nat → ClassId} {sh : List ys_C} {A : Nat → Prop} {H0 : Heap} {nL : Nat} {mods : List Nat} {g0 : Nat → Nat → Int} {r0 r r' : Nat → Int} {E : Nat} {b b' : ys_B} {fds : ys_F} {lv : List (Nat × ys_V)} {sv : List ys_V} {H : Heap} {locs : List Loc} {ls : Array Slot} {st : List Value}
/-- more symbols, more facts -/
theorem ys_rep_ext (h : ys_rep D cl ad cT sh A H0 nL mods g0 r0 r E (b, fds, lv, sv) H locs ls st) (hag : ∀ i, i < b.1.length → r' i = r i) (hb : ys_okB r' b') (hl : b.1.length ≤ b'.1.length) (hs : ys_scB b') : ys_rep D cl ad cT sh A H0 nL mods g0 r0 r' E (b', fds, lv, sv) H locs ls st := by
  obtain ⟨-, ⟨-, s1, s2, s3⟩, ⟨hE, hr⟩, ⟨g, hg, hP, hD, hS⟩, hlv, hst⟩ := h
  have hag' : ∀ i, i < b.1.length → r i = r' i := fun i hi => (hag i hi).symm
  have ew := ys_wld_cong (ad := ad) (cT := cT) (sh := sh) (g := g) hag' s1
  refine ⟨hb, ⟨hs, fun w hw v hv => ys_stV_mono (s1 w hw v hv) hl, fun q hq => ys_stV_mono (s2 q hq) hl, fun v hv => ys_stV_mono (s3 v hv) hl⟩, ⟨Nat.le_trans hE hl, fun i hi => (hag i (Nat.lt_of_lt_of_le hi hE)).trans (hr i hi)⟩, ⟨g, hg, ?_, ?_, hS⟩, ?_, ?_⟩
  · exact ew ▸ hP
  · exact ew ▸ hD
  · have e : ys_lvs ad r lv = ys_lvs ad r' lv := List.map_congr_left fun q hq => by rw [ys_den_cong hag' (s2 q hq)]
    exact e ▸ hlv
  · rw [hst]
    exact List.map_congr_left fun v hv => ys_den_cong hag' (s3 v hv)
theorem ys_rep_push (h : ys_rep D cl ad cT sh A H0 nL mods g0 r0 r E (b, fds, lv, sv) H locs ls st) (v : ys_V) (hv : ys_stV b.1.length v) : ys_rep D cl ad cT sh A H0 nL mods g0 r0 r E (b, fds, lv, v :: sv) H locs ls (ys_den ad r v :: st) := by
  obtain ⟨h1, ⟨s0, s1, s2, s3⟩, h2, h3, h4, h5⟩ := h
  refine ⟨h1, ⟨s0, s1, s2, fun w hw => ?_⟩, h2, h3, h4, by rw [h5]; rfl⟩
  rcases List.mem_cons.mp hw with e | e
  · rw [e]; exact hv
  · exact s3 w e
theorem ys_rep_pop {v : ys_V} (h : ys_rep D cl ad cT sh A H0 nL mods g0 r0 r E (b, fds, lv, v :: sv) H locs ls st) : ∃ st', st = ys_den ad r v :: st' ∧ ys_rep D cl ad cT sh A H0 nL mods g0 r0 r E (b, fds, lv, sv) H locs ls st' ∧ ys_stV b.1.length v := by
  obtain ⟨h1, ⟨s0, s1, s2, s3⟩, h2, h3, h4, h5⟩ := h
  exact ⟨sv.map (ys_den ad r), h5, ⟨h1, ⟨s0, s1, s2, fun w hw => s3 w (List.mem_cons_of_mem _ hw)⟩, h2, h3, h4, rfl⟩, s3 v List.mem_cons_self⟩
/-- a place of the frame is read -/
theorem ys_find_mem : ∀ (l : List (Nat × ys_V)) (i : Nat) (v : ys_V), l.lookup i = some v → (i, v) ∈ l
  | [], i, v, h => by cases h
  | (j, w) :: t, i, v, h => by
    unfold List.lookup at h
    cases hc : i == j with
    | true =>
      rw [hc] at h
      cases h
      rw [beq_iff_eq] at hc
      rw [hc]
      exact List.mem_cons_self
    | false =>
      rw [hc] at h
      exact List.mem_cons_of_mem _ (ys_find_mem t i v h)
theorem ys_rep_loc {i : Nat} {v : ys_V} (h : ys_rep D cl ad cT sh A H0 nL mods g0 r0 r E (b, fds, lv, sv) H locs ls st) (hi : lv.lookup i = some v) : ls[i]? = some (.val (ys_den ad r v)) ∧ ys_stV b.1.length v := by
  obtain ⟨h1, ⟨s0, s1, s2, s3⟩, h2, h3, h4, h5⟩ := h
  have hm := ys_find_mem lv i v hi
  exact ⟨h4.2.2 (i, ys_den ad r v) (List.mem_map.mpr ⟨(i, v), hm, rfl⟩), s2 _ hm⟩
end YSQ
def ys_cat (v : ys_V) : Nat := match v with
  | .inl (.inr _) => 2
  | _ => 1
theorem ys_cat_den (ad : Nat → Nat) (r : Nat → Int) (v : ys_V) : (ys_den ad r v).category = ys_cat v := by
  rcases v with (e | e) | o
  · rfl
  · rfl
  · cases o <;> rfl
def ys_st1 (l : List (Nat × ys_V)) (i : Nat) (v : ys_V) : List (Nat × ys_V) := (i, v) :: l.filter fun q => !(q.1 == i) && !(q.1 + 1 == i && ys_cat q.2 == 2)
def ys_st2 (l : List (Nat × ys_V)) (i : Nat) (v : ys_V) : List (Nat × ys_V) := (i, v) :: l.filter fun q => !(q.1 == i) && (!(q.1 == i + 1) && !(q.1 + 1 == i && ys_cat q.2 == 2))
theorem ys_st1_lvs (ad : Nat → Nat) (r : Nat → Int) (l : List (Nat × ys_V)) (i : Nat) (v : ys_V) : ys_lvs ad r (ys_st1 l i v) = (i, ys_den ad r v) :: (ys_lvs ad r l).filter (fun q => !(q.1 == i) && !(q.1 + 1 == i && q.2.category == 2)) := by
  unfold ys_st1 ys_lvs
  rw [List.map_cons, List.filter_map]
  congr 2
  apply List.filter_congr
  intro q _
  show _ = (!(q.1 == i) && !(q.1 + 1 == i && (ys_den ad r q.2).category == 2))
  rw [ys_cat_den]
theorem ys_st2_lvs (ad : Nat → Nat) (r : Nat → Int) (l : List (Nat × ys_V)) (i : Nat) (v : ys_V) : ys_lvs ad r (ys_st2 l i v) = (i, ys_den ad r v) :: (ys_lvs ad r l).filter (fun q => !(q.1 == i) && (!(q.1 == i + 1) && !(q.1 + 1 == i && q.2.category == 2))) := by
  unfold ys_st2 ys_lvs
  rw [List.map_cons, List.filter_map]
  congr 2
  apply List.filter_congr
  intro q _
  show _ = (!(q.1 == i) && (!(q.1 == i + 1) && !(q.1 + 1 == i && (ys_den ad r q.2).category == 2)))
  rw [ys_cat_den]
end
section
/-! what the machine's arithmetic does to linear numbers -/
def ys_mn (w : Bool) : Int := match w with
  | false => -2147483648
  | true => -9223372036854775808
def ys_mx (w : Bool) : Int := match w with
  | false => 2147483647
  | true => 9223372036854775807
theorem ys_mn_f : ys_mn false = -2147483648 := rfl
theorem ys_mx_f : ys_mx false = 2147483647 := rfl
theorem ys_mn_t : ys_mn true = -9223372036854775808 := rfl
theorem ys_mx_t : ys_mx true = 9223372036854775807 := rfl
def ys_inr (w : Bool) (v : ys_E) (e : ys_L) : Bool := ys_geb v e (ys_mn w) && ys_geb v (ys_scale (-1) e) (-(ys_mx w))
theorem ys_inr_ok {r : Nat → Int} {v : ys_E} (h : ys_ok r v) {w : Bool} {e : ys_L} (hz : ys_inr w v e = true) : ys_mn w ≤ ys_ev r e ∧ ys_ev r e ≤ ys_mx w := by
  unfold ys_inr at hz
  rw [Bool.and_eq_true] at hz
  have h1 := ys_geb_le h hz.1
  have h2 := ys_geb_le h hz.2
  rw [ys_scale_ev] at h2
  exact ⟨h1, by omega⟩
theorem ys_inr32 {r : Nat → Int} {v : ys_E} (h : ys_ok r v) {e : ys_L} (hz : ys_inr false v e = true) : (Int32.ofInt (ys_ev r e)).toInt = ys_ev r e := by
  obtain ⟨h1, h2⟩ := ys_inr_ok h hz
  rw [ys_mn_f] at h1
  rw [ys_mx_f] at h2
  exact Int32.toInt_ofInt_of_le (by omega) (by omega)
theorem ys_inr64 {r : Nat → Int} {v : ys_E} (h : ys_ok r v) {e : ys_L} (hz : ys_inr true v e = true) : (Int64.ofInt (ys_ev r e)).toInt = ys_ev r e := by
  obtain ⟨h1, h2⟩ := ys_inr_ok h hz
  rw [ys_mn_t] at h1
  rw [ys_mx_t] at h2
  exact Int64.toInt_ofInt_of_le (by omega) (by omega)
def ys_new (b : ys_B) (q : Int × Int) : ys_B × ys_L := ((b.1 ++ [q], b.2), ys_sym b.1.length)
/-- bounds that meet: a constant -/
def ys_ce (v : ys_E) (e : ys_L) : ys_L := match e.1 with
  | [] => e
  | _ => (match ys_low v e, ys_high v e with
    | some l, some u => if l = u then ([], l) else e
    | _, _ => e)
theorem ys_ce_ev {r : Nat → Int} {v : ys_E} (h : ys_ok r v) (e : ys_L) : ys_ev r (ys_ce v e) = ys_ev r e := by
  unfold ys_ce
  split
  · rfl
  · split
    · rename_i l u hl hu
      split
      · have h1 := ys_low_le h hl
        have h2 := ys_high_le h hu
        show ys_ev r (ys_cst l) = _
        rw [ys_cst_ev]
        omega
      · rfl
    · rfl
def ys_nm (w : Bool) (b : ys_B) (e : ys_L) : ys_B × ys_L := if ys_inr w b.1 e = true then (b, ys_ce b.1 e) else ys_new b (ys_mn w, ys_mx w)
theorem ys_ce_st {n : Nat} {v : ys_E} {e : ys_L} (h : ys_stb n e) : ys_stb n (ys_ce v e) := by
  unfold ys_ce
  split
  · exact h
  · split
    · split
      · exact ys_stb_cst _
      · exact h
    · exact h
/-- a result: the numbers so far stay, its own has what is asked -/
def ys_Op (r : Nat → Int) (b : ys_B) (o : ys_B × ys_L) (P : Int → Prop) : Prop := ∃ r' : Nat → Int, (∀ i, i < b.1.length → r' i = r i) ∧ ys_okB r' o.1 ∧ b.1.length ≤ o.1.1.length ∧ ys_scB o.1 ∧ ys_stb o.1.1.length o.2 ∧ P (ys_ev r' o.2)
theorem ys_Op_same {r : Nat → Int} {b : ys_B} {e : ys_L} {P : Int → Prop} (h : ys_okB r b) (hs : ys_scB b) (he : ys_stb b.1.length e) (hp : P (ys_ev r e)) : ys_Op r b (b, e) P := ⟨r, fun _ _ => rfl, h, Nat.le_refl _, hs, he, hp⟩
def ys_up (r : Nat → Int) (n : Nat) (z : Int) : Nat → Int := fun i => if i = n then z else r i
theorem ys_up_lt {r : Nat → Int} {n : Nat} {z : Int} : ∀ i, i < n → ys_up r n z i = r i := fun i hi => if_neg (Nat.ne_of_lt hi)
theorem ys_up_at {r : Nat → Int} {n : Nat} {z : Int} : ys_up r n z n = z := if_pos rfl
theorem ys_new_ok {r : Nat → Int} {b : ys_B} {q : Int × Int} {z : Int} (h : ys_okB r b) (hs : ys_scB b) (hz : q.1 ≤ z ∧ z ≤ q.2) : ys_okB (ys_up r b.1.length z) (b.1 ++ [q], b.2) := by
  refine ⟨fun i w hi => ?_, fun f hf => ?_⟩
  · by_cases hl : i < b.1.length
    · rw [List.getElem?_append_left hl] at hi
      rw [ys_up_lt i hl]
      exact h.1 i w hi
    · have h1 : i < (b.1 ++ [q]).length := (List.getElem?_eq_some_iff.mp hi).1
      rw [List.length_append] at h1
      have h2 : i = b.1.length := by
        have : ([q] : List (Int × Int)).length = 1 := rfl
        omega
      subst h2
      rw [List.getElem?_append_right (Nat.le_refl _), Nat.sub_self] at hi
      cases hi
      rw [ys_up_at]
      exact hz
  · rw [← hs f hf r _ (fun i hi => (ys_up_lt i hi).symm)]
    exact h.2 f hf
theorem ys_scB_new {b : ys_B} {q : Int × Int} (hs : ys_scB b) : ys_scB (b.1 ++ [q], b.2) := fun f hf => ys_stb_mono (hs f hf) (by rw [List.length_append]; omega)
theorem ys_Op_new {r : Nat → Int} {b : ys_B} {q : Int × Int} {P : Int → Prop} (z : Int) (h : ys_okB r b) (hs : ys_scB b) (hz : q.1 ≤ z ∧ z ≤ q.2) (hp : P z) : ys_Op r b (ys_new b q) P := by
  have hl : (b.1 ++ [q]).length = b.1.length + 1 := by rw [List.length_append]; rfl
  refine ⟨ys_up r b.1.length z, ys_up_lt, ys_new_ok h hs hz, ?_, ys_scB_new hs, ?_, ?_⟩
  · show b.1.length ≤ (b.1 ++ [q]).length
    omega
  · show ys_stb (b.1 ++ [q]).length (ys_sym _)
    exact ys_stb_sym (by omega)
  · show P (ys_ev _ (ys_sym b.1.length))
    rw [ys_sym_ev, ys_up_at]
    exact hp
theorem ys_r32 (x : Int32) : ys_mn false ≤ x.toInt ∧ x.toInt ≤ ys_mx false := by
  have h1 := x.le_toInt
  have h2 := x.toInt_lt
  unfold ys_mn ys_mx
  constructor <;> (simp only []; omega)
theorem ys_r64 (x : Int64) : ys_mn true ≤ x.toInt ∧ x.toInt ≤ ys_mx true := by
  have h1 := x.le_toInt
  have h2 := x.toInt_lt
  unfold ys_mn ys_mx
  constructor <;> (simp only []; omega)
/-- one number alone is no symbol -/
def ys_nw (b : ys_B) (q : Int × Int) : ys_B × ys_L := if q.1 = q.2 then (b, ([], q.1)) else ys_new b q
theorem ys_Op_nw {r : Nat → Int} {b : ys_B} {q : Int × Int} {P : Int → Prop} (z : Int) (h : ys_okB r b) (hs : ys_scB b) (hz : q.1 ≤ z ∧ z ≤ q.2) (hp : P z) : ys_Op r b (ys_nw b q) P := by
  unfold ys_nw
  split
  · rename_i he
    refine ys_Op_same h hs (ys_stb_cst q.1) ?_
    show P (ys_ev r (ys_cst q.1))
    rw [ys_cst_ev, show q.1 = z by omega]
    exact hp
  · exact ys_Op_new z h hs hz hp
theorem ys_Op_nw32 {r : Nat → Int} {b : ys_B} {q : Int × Int} (h : ys_okB r b) (hs : ys_scB b) (x : Int32) (hx : q.1 ≤ x.toInt ∧ x.toInt ≤ q.2) : ys_Op r b (ys_nw b q) (fun z => Int32.ofInt z = x) := ys_Op_nw x.toInt h hs hx (Int32.ofInt_toInt x)
theorem ys_Op_nw64 {r : Nat → Int} {b : ys_B} {q : Int × Int} (h : ys_okB r b) (hs : ys_scB b) (x : Int64) (hx : q.1 ≤ x.toInt ∧ x.toInt ≤ q.2) : ys_Op r b (ys_nw b q) (fun z => Int64.ofInt z = x) := ys_Op_nw x.toInt h hs hx (Int64.ofInt_toInt x)
theorem ys_Op_any32 {r : Nat → Int} {b : ys_B} (h : ys_okB r b) (hs : ys_scB b) (x : Int32) : ys_Op r b (ys_new b (ys_mn false, ys_mx false)) (fun z => Int32.ofInt z = x) := ys_Op_new x.toInt h hs (ys_r32 x) (Int32.ofInt_toInt x)
theorem ys_Op_any64 {r : Nat → Int} {b : ys_B} (h : ys_okB r b) (hs : ys_scB b) (x : Int64) : ys_Op r b (ys_new b (ys_mn true, ys_mx true)) (fun z => Int64.ofInt z = x) := ys_Op_new x.toInt h hs (ys_r64 x) (Int64.ofInt_toInt x)
theorem ys_Op_in32 {r : Nat → Int} {b : ys_B} {q : Int × Int} (h : ys_okB r b) (hs : ys_scB b) (x : Int32) (hx : q.1 ≤ x.toInt ∧ x.toInt ≤ q.2) : ys_Op r b (ys_new b q) (fun z => Int32.ofInt z = x) := ys_Op_new x.toInt h hs hx (Int32.ofInt_toInt x)
theorem ys_Op_in64 {r : Nat → Int} {b : ys_B} {q : Int × Int} (h : ys_okB r b) (hs : ys_scB b) (x : Int64) (hx : q.1 ≤ x.toInt ∧ x.toInt ≤ q.2) : ys_Op r b (ys_new b q) (fun z => Int64.ofInt z = x) := ys_Op_new x.toInt h hs hx (Int64.ofInt_toInt x)
theorem ys_Op_nm32 {r : Nat → Int} {b : ys_B} {e : ys_L} (h : ys_okB r b) (hs : ys_scB b) (he : ys_stb b.1.length e) {x : Int32} (hx : Int32.ofInt (ys_ev r e) = x) : ys_Op r b (ys_nm false b e) (fun z => Int32.ofInt z = x) := by
  unfold ys_nm
  by_cases hc : ys_inr false b.1 e = true
  · rw [if_pos hc]
    exact ys_Op_same h hs (ys_ce_st he) (by rw [ys_ce_ev h.1]; exact hx)
  · rw [if_neg hc]
    exact ys_Op_any32 h hs x
theorem ys_Op_nm64 {r : Nat → Int} {b : ys_B} {e : ys_L} (h : ys_okB r b) (hs : ys_scB b) (he : ys_stb b.1.length e) {x : Int64} (hx : Int64.ofInt (ys_ev r e) = x) : ys_Op r b (ys_nm true b e) (fun z => Int64.ofInt z = x) := by
  unfold ys_nm
  by_cases hc : ys_inr true b.1 e = true
  · rw [if_pos hc]
    exact ys_Op_same h hs (ys_ce_st he) (by rw [ys_ce_ev h.1]; exact hx)
  · rw [if_neg hc]
    exact ys_Op_any64 h hs x
/-- an operation on two numbers of one width: what it does to linear numbers is what it does to the machine's -/
def ys_B32 (F : ys_B → ys_L → ys_L → Option (ys_B × ys_L)) (op : Int32 → Int32 → Int32) (ok : Int32 → Prop) : Prop := ∀ (r : Nat → Int) (b : ys_B) (x y : ys_L) (o : ys_B × ys_L), ys_okB r b → ys_scB b → ys_stb b.1.length x → ys_stb b.1.length y → F b x y = some o → ok (Int32.ofInt (ys_ev r y)) ∧ ys_Op r b o (fun z => Int32.ofInt z = op (Int32.ofInt (ys_ev r x)) (Int32.ofInt (ys_ev r y)))
def ys_B64 (F : ys_B → ys_L → ys_L → Option (ys_B × ys_L)) (op : Int64 → Int64 → Int64) (ok : Int64 → Prop) : Prop := ∀ (r : Nat → Int) (b : ys_B) (x y : ys_L) (o : ys_B × ys_L), ys_okB r b → ys_scB b → ys_stb b.1.length x → ys_stb b.1.length y → F b x y = some o → ok (Int64.ofInt (ys_ev r y)) ∧ ys_Op r b o (fun z => Int64.ofInt z = op (Int64.ofInt (ys_ev r x)) (Int64.ofInt (ys_ev r y)))
def ys_fadd (w : Bool) (b : ys_B) (x y : ys_L) : Option (ys_B × ys_L) := some (ys_nm w b (ys_add x y))
def ys_fsub (w : Bool) (b : ys_B) (x y : ys_L) : Option (ys_B × ys_L) := some (ys_nm w b (ys_sub x y))
def ys_fmul (w : Bool) (b : ys_B) (x y : ys_L) : Option (ys_B × ys_L) := some (match x.1, y.1 with
  | [], _ => ys_nm w b (ys_scale x.2 y)
  | _, [] => ys_nm w b (ys_scale y.2 x)
  | _, _ => ys_new b (ys_mn w, ys_mx w))
def ys_fany (w : Bool) (b : ys_B) (_ _ : ys_L) : Option (ys_B × ys_L) := some (ys_new b (ys_mn w, ys_mx w))
theorem ys_fadd32 : ys_B32 (ys_fadd false) (fun x y => x + y) (fun _ => True) := by
  intro r b x y o h hs hx hy ho
  cases Option.some.inj ho
  exact ⟨trivial, ys_Op_nm32 h hs (ys_stb_add hx hy) (by rw [ys_add_ev, Int32.ofInt_add])⟩
theorem ys_fsub32 : ys_B32 (ys_fsub false) (fun x y => x - y) (fun _ => True) := by
  intro r b x y o h hs hx hy ho
  cases Option.some.inj ho
  exact ⟨trivial, ys_Op_nm32 h hs (ys_stb_sub hx hy) (by rw [ys_sub_ev, Int32.ofInt_sub])⟩
theorem ys_fadd64 : ys_B64 (ys_fadd true) (fun x y => x + y) (fun _ => True) := by
  intro r b x y o h hs hx hy ho
  cases Option.some.inj ho
  exact ⟨trivial, ys_Op_nm64 h hs (ys_stb_add hx hy) (by rw [ys_add_ev, Int64.ofInt_add])⟩
theorem ys_fsub64 : ys_B64 (ys_fsub true) (fun x y => x - y) (fun _ => True) := by
  intro r b x y o h hs hx hy ho
  cases Option.some.inj ho
  exact ⟨trivial, ys_Op_nm64 h hs (ys_stb_sub hx hy) (by rw [ys_sub_ev, Int64.ofInt_sub])⟩
theorem ys_ev_nil (r : Nat → Int) {x : ys_L} (h : x.1 = []) : ys_ev r x = x.2 := by
  show ys_sum r x.1 + x.2 = x.2
  rw [h]
  exact Int.zero_add _
theorem ys_fmul32 : ys_B32 (ys_fmul false) (fun x y => x * y) (fun _ => True) := by
  intro r b x y o h hs hx hy ho
  refine ⟨trivial, ?_⟩
  have ho := Option.some.inj ho
  subst ho
  split
  · rename_i h1
    exact ys_Op_nm32 h hs (ys_stb_scale _ hy) (by rw [ys_scale_ev, ys_ev_nil r h1, Int32.ofInt_mul])
  · rename_i h1 _
    exact ys_Op_nm32 h hs (ys_stb_scale _ hx) (by rw [ys_scale_ev, ys_ev_nil r h1, Int32.ofInt_mul, Int32.mul_comm])
  · exact ys_Op_any32 h hs _
theorem ys_fmul64 : ys_B64 (ys_fmul true) (fun x y => x * y) (fun _ => True) := by
  intro r b x y o h hs hx hy ho
  refine ⟨trivial, ?_⟩
  have ho := Option.some.inj ho
  subst ho
  split
  · rename_i h1
    exact ys_Op_nm64 h hs (ys_stb_scale _ hy) (by rw [ys_scale_ev, ys_ev_nil r h1, Int64.ofInt_mul])
  · rename_i h1 _
    exact ys_Op_nm64 h hs (ys_stb_scale _ hx) (by rw [ys_scale_ev, ys_ev_nil r h1, Int64.ofInt_mul, Int64.mul_comm])
  · exact ys_Op_any64 h hs _
theorem ys_fany32 (op : Int32 → Int32 → Int32) : ys_B32 (ys_fany false) op (fun _ => True) := by
  intro r b x y o h hs hx hy ho
  cases Option.some.inj ho
  exact ⟨trivial, ys_Op_any32 h hs _⟩
theorem ys_fany64 (op : Int64 → Int64 → Int64) : ys_B64 (ys_fany true) op (fun _ => True) := by
  intro r b x y o h hs hx hy ho
  cases Option.some.inj ho
  exact ⟨trivial, ys_Op_any64 h hs _⟩
/-! and: with a number not below 0 -/
def ys_nnb (w : Bool) (v : ys_E) (y : ys_L) : Option Int := if ys_geb v y 0 && ys_inr w v y then ys_high v y else none
def ys_fand (w : Bool) (b : ys_B) (x y : ys_L) : Option (ys_B × ys_L) := if y = ([], -1) then some (b, x) else if x = ([], -1) then some (b, y) else match ys_nnb w b.1 x, ys_nnb w b.1 y with
  | some u, some t => some (ys_nw b (0, if u ≤ t then u else t))
  | some u, none => some (ys_nw b (0, u))
  | none, some t => some (ys_nw b (0, t))
  | none, none => some (ys_new b (ys_mn w, ys_mx w))
theorem ys_toNat32 {y : Int32} (h : 0 ≤ y.toInt) : (y.toBitVec.toNat : Int) = y.toInt := by
  have h1 : y.toBitVec.toInt = y.toInt := rfl
  have h2 := BitVec.toInt_eq_toNat_cond y.toBitVec
  have h3 := y.toBitVec.isLt
  split at h2 <;> omega
theorem ys_toNat64 {y : Int64} (h : 0 ≤ y.toInt) : (y.toBitVec.toNat : Int) = y.toInt := by
  have h1 : y.toBitVec.toInt = y.toInt := rfl
  have h2 := BitVec.toInt_eq_toNat_cond y.toBitVec
  have h3 := y.toBitVec.isLt
  split at h2 <;> omega
theorem ys_ofNat32 {y : Int32} (h : y.toBitVec.toNat < 2 ^ 31) : y.toInt = (y.toBitVec.toNat : Int) := by
  have h1 : y.toBitVec.toInt = y.toInt := rfl
  have h2 := BitVec.toInt_eq_toNat_cond y.toBitVec
  split at h2 <;> omega
theorem ys_ofNat64 {y : Int64} (h : y.toBitVec.toNat < 2 ^ 63) : y.toInt = (y.toBitVec.toNat : Int) := by
  have h1 : y.toBitVec.toInt = y.toInt := rfl
  have h2 := BitVec.toInt_eq_toNat_cond y.toBitVec
  split at h2 <;> omega
theorem ys_and32 (x : Int32) {y : Int32} (h : 0 ≤ y.toInt) : 0 ≤ (x &&& y).toInt ∧ (x &&& y).toInt ≤ y.toInt := by
  have h1 := ys_toNat32 h
  have h2 : (x &&& y).toBitVec.toNat ≤ y.toBitVec.toNat := by
    rw [Int32.toBitVec_and, BitVec.toNat_and]
    exact Nat.and_le_right
  have h3 := y.toInt_lt
  have h4 := ys_ofNat32 (y := x &&& y) (by omega)
  omega
theorem ys_and64 (x : Int64) {y : Int64} (h : 0 ≤ y.toInt) : 0 ≤ (x &&& y).toInt ∧ (x &&& y).toInt ≤ y.toInt := by
  have h1 := ys_toNat64 h
  have h2 : (x &&& y).toBitVec.toNat ≤ y.toBitVec.toNat := by
    rw [Int64.toBitVec_and, BitVec.toNat_and]
    exact Nat.and_le_right
  have h3 := y.toInt_lt
  have h4 := ys_ofNat64 (y := x &&& y) (by omega)
  omega
theorem ys_andm32 (x : Int32) : x &&& -1 = x := by
  apply Int32.toBitVec_inj.mp
  rw [Int32.toBitVec_and]
  show x.toBitVec &&& BitVec.allOnes 32 = x.toBitVec
  exact BitVec.and_allOnes
theorem ys_nnb32 {r : Nat → Int} {v : ys_E} (h : ys_ok r v) {y : ys_L} {u : Int} (hu : ys_nnb false v y = some u) : (Int32.ofInt (ys_ev r y)).toInt = ys_ev r y ∧ 0 ≤ ys_ev r y ∧ ys_ev r y ≤ u := by
  unfold ys_nnb at hu
  split at hu
  · rename_i hc
    rw [Bool.and_eq_true] at hc
    exact ⟨ys_inr32 h hc.2, ys_geb_le h hc.1, ys_high_le h hu⟩
  · cases hu
theorem ys_fand32 : ys_B32 (ys_fand false) (fun x y => x &&& y) (fun _ => True) := by
  intro r b x y o h hs hx hy ho
  refine ⟨trivial, ?_⟩
  have right : ∀ {t : Int}, ys_nnb false b.1 y = some t → 0 ≤ (Int32.ofInt (ys_ev r x) &&& Int32.ofInt (ys_ev r y)).toInt ∧ (Int32.ofInt (ys_ev r x) &&& Int32.ofInt (ys_ev r y)).toInt ≤ t := by
    intro t ht
    obtain ⟨e1, e2, e3⟩ := ys_nnb32 h.1 ht
    have h2 := ys_and32 (Int32.ofInt (ys_ev r x)) (y := Int32.ofInt (ys_ev r y)) (by rw [e1]; exact e2)
    rw [e1] at h2
    omega
  have left : ∀ {u : Int}, ys_nnb false b.1 x = some u → 0 ≤ (Int32.ofInt (ys_ev r x) &&& Int32.ofInt (ys_ev r y)).toInt ∧ (Int32.ofInt (ys_ev r x) &&& Int32.ofInt (ys_ev r y)).toInt ≤ u := by
    intro u hu
    obtain ⟨e1, e2, e3⟩ := ys_nnb32 h.1 hu
    have h2 := ys_and32 (Int32.ofInt (ys_ev r y)) (y := Int32.ofInt (ys_ev r x)) (by rw [e1]; exact e2)
    rw [Int32.and_comm, e1] at h2
    omega
  unfold ys_fand at ho
  split at ho
  · rename_i he
    cases Option.some.inj ho
    refine ys_Op_same h hs hx ?_
    show Int32.ofInt (ys_ev r x) = Int32.ofInt (ys_ev r x) &&& Int32.ofInt (ys_ev r y)
    rw [he, show Int32.ofInt (ys_ev r (([], -1) : ys_L)) = -1 from rfl]
    exact (ys_andm32 _).symm
  split at ho
  · rename_i he
    cases Option.some.inj ho
    refine ys_Op_same h hs hy ?_
    show Int32.ofInt (ys_ev r y) = Int32.ofInt (ys_ev r x) &&& Int32.ofInt (ys_ev r y)
    rw [he, show Int32.ofInt (ys_ev r (([], -1) : ys_L)) = -1 from rfl, Int32.and_comm]
    exact (ys_andm32 _).symm
  split at ho
  · rename_i u t hu ht
    cases Option.some.inj ho
    have h1 := left hu
    have h2 := right ht
    exact ys_Op_nw32 h hs _ ⟨h1.1, by show (Int32.ofInt (ys_ev r x) &&& Int32.ofInt (ys_ev r y)).toInt ≤ (if u ≤ t then u else t); split <;> omega⟩
  · rename_i u hu ht
    cases Option.some.inj ho
    exact ys_Op_nw32 h hs _ (left hu)
  · rename_i t hu ht
    cases Option.some.inj ho
    exact ys_Op_nw32 h hs _ (right ht)
  · cases Option.some.inj ho
    exact ys_Op_any32 h hs _
theorem ys_andm64 (x : Int64) : x &&& -1 = x := by
  apply Int64.toBitVec_inj.mp
  rw [Int64.toBitVec_and]
  show x.toBitVec &&& BitVec.allOnes 64 = x.toBitVec
  exact BitVec.and_allOnes
theorem ys_nnb64 {r : Nat → Int} {v : ys_E} (h : ys_ok r v) {y : ys_L} {u : Int} (hu : ys_nnb true v y = some u) : (Int64.ofInt (ys_ev r y)).toInt = ys_ev r y ∧ 0 ≤ ys_ev r y ∧ ys_ev r y ≤ u := by
  unfold ys_nnb at hu
  split at hu
  · rename_i hc
    rw [Bool.and_eq_true] at hc
    exact ⟨ys_inr64 h hc.2, ys_geb_le h hc.1, ys_high_le h hu⟩
  · cases hu
theorem ys_fand64 : ys_B64 (ys_fand true) (fun x y => x &&& y) (fun _ => True) := by
  intro r b x y o h hs hx hy ho
  refine ⟨trivial, ?_⟩
  have right : ∀ {t : Int}, ys_nnb true b.1 y = some t → 0 ≤ (Int64.ofInt (ys_ev r x) &&& Int64.ofInt (ys_ev r y)).toInt ∧ (Int64.ofInt (ys_ev r x) &&& Int64.ofInt (ys_ev r y)).toInt ≤ t := by
    intro t ht
    obtain ⟨e1, e2, e3⟩ := ys_nnb64 h.1 ht
    have h2 := ys_and64 (Int64.ofInt (ys_ev r x)) (y := Int64.ofInt (ys_ev r y)) (by rw [e1]; exact e2)
    rw [e1] at h2
    omega
  have left : ∀ {u : Int}, ys_nnb true b.1 x = some u → 0 ≤ (Int64.ofInt (ys_ev r x) &&& Int64.ofInt (ys_ev r y)).toInt ∧ (Int64.ofInt (ys_ev r x) &&& Int64.ofInt (ys_ev r y)).toInt ≤ u := by
    intro u hu
    obtain ⟨e1, e2, e3⟩ := ys_nnb64 h.1 hu
    have h2 := ys_and64 (Int64.ofInt (ys_ev r y)) (y := Int64.ofInt (ys_ev r x)) (by rw [e1]; exact e2)
    rw [Int64.and_comm, e1] at h2
    omega
  unfold ys_fand at ho
  split at ho
  · rename_i he
    cases Option.some.inj ho
    refine ys_Op_same h hs hx ?_
    show Int64.ofInt (ys_ev r x) = Int64.ofInt (ys_ev r x) &&& Int64.ofInt (ys_ev r y)
    rw [he, show Int64.ofInt (ys_ev r (([], -1) : ys_L)) = -1 from rfl]
    exact (ys_andm64 _).symm
  split at ho
  · rename_i he
    cases Option.some.inj ho
    refine ys_Op_same h hs hy ?_
    show Int64.ofInt (ys_ev r y) = Int64.ofInt (ys_ev r x) &&& Int64.ofInt (ys_ev r y)
    rw [he, show Int64.ofInt (ys_ev r (([], -1) : ys_L)) = -1 from rfl, Int64.and_comm]
    exact (ys_andm64 _).symm
  split at ho
  · rename_i u t hu ht
    cases Option.some.inj ho
    have h1 := left hu
    have h2 := right ht
    exact ys_Op_nw64 h hs _ ⟨h1.1, by show (Int64.ofInt (ys_ev r x) &&& Int64.ofInt (ys_ev r y)).toInt ≤ (if u ≤ t then u else t); split <;> omega⟩
  · rename_i u hu ht
    cases Option.some.inj ho
    exact ys_Op_nw64 h hs _ (left hu)
  · rename_i t hu ht
    cases Option.some.inj ho
    exact ys_Op_nw64 h hs _ (right ht)
  · cases Option.some.inj ho
    exact ys_Op_any64 h hs _
/-! or, exclusive or: of numbers not below 0, below a power of two -/
def ys_p2 (m : Int) : Nat := Nat.log2 m.toNat + 1
def ys_for (b : ys_B) (x y : ys_L) : Option (ys_B × ys_L) :=
  match (if ys_geb b.1 x 0 && ys_inr false b.1 x && (ys_geb b.1 y 0 && ys_inr false b.1 y) then (match ys_high b.1 x, ys_high b.1 y with
    | some u, some t => some (ys_p2 (if u ≤ t then t else u))
    | _, _ => none) else none) with
  | some k => if k ≤ 31 then some (ys_nw b (0, 2 ^ k - 1)) else some (ys_new b (ys_mn false, ys_mx false))
  | none => some (ys_new b (ys_mn false, ys_mx false))
def ys_fxor (b : ys_B) (x y : ys_L) : Option (ys_B × ys_L) := if y = ([], -1) then some (ys_nm false b (ys_sub ([], -1) x)) else ys_for b x y
theorem ys_p2_lt {m z : Int} (h : z ≤ m) : z.toNat < 2 ^ ys_p2 m := Nat.lt_of_le_of_lt (Int.toNat_le_toNat h) Nat.lt_log2_self
theorem ys_for32 (op : Int32 → Int32 → Int32) (hop : ∀ (x y : Int32) (k : Nat), x.toBitVec.toNat < 2 ^ k → y.toBitVec.toNat < 2 ^ k → (op x y).toBitVec.toNat < 2 ^ k) : ys_B32 ys_for op (fun _ => True) := by
  intro r b x y o h hs hx hy ho
  refine ⟨trivial, ?_⟩
  unfold ys_for at ho
  split at ho
  · rename_i k hk
    split at hk
    · rename_i hc
      rw [Bool.and_eq_true, Bool.and_eq_true, Bool.and_eq_true] at hc
      obtain ⟨⟨c1, c2⟩, c3, c4⟩ := hc
      split at hk
      · rename_i u t hu ht
        have hk := Option.some.inj hk
        split at ho
        · rename_i hk31
          cases Option.some.inj ho
          have ex := ys_inr32 h.1 c2
          have ey := ys_inr32 h.1 c4
          have x0 := ys_geb_le h.1 c1
          have y0 := ys_geb_le h.1 c3
          have xu := ys_high_le h.1 hu
          have yt := ys_high_le h.1 ht
          have xn := ys_toNat32 (y := Int32.ofInt (ys_ev r x)) (by rw [ex]; exact x0)
          have yn := ys_toNat32 (y := Int32.ofInt (ys_ev r y)) (by rw [ey]; exact y0)
          rw [ex] at xn
          rw [ey] at yn
          have xk : (Int32.ofInt (ys_ev r x)).toBitVec.toNat < 2 ^ k := by
            have := ys_p2_lt (m := if u ≤ t then t else u) (z := ys_ev r x) (by split <;> omega)
            rw [hk] at this
            omega
          have yk : (Int32.ofInt (ys_ev r y)).toBitVec.toNat < 2 ^ k := by
            have := ys_p2_lt (m := if u ≤ t then t else u) (z := ys_ev r y) (by split <;> omega)
            rw [hk] at this
            omega
          have zk := hop _ _ k xk yk
          have h31 : (2 : Nat) ^ k ≤ 2 ^ 31 := Nat.pow_le_pow_right (by decide) hk31
          have e := ys_ofNat32 (y := op (Int32.ofInt (ys_ev r x)) (Int32.ofInt (ys_ev r y))) (by omega)
          have hpow : ((2 : Int) ^ k) = ((2 ^ k : Nat) : Int) := by simp
          refine ys_Op_nw32 h hs _ ⟨by show (0 : Int) ≤ _; omega, ?_⟩
          show _ ≤ (2 : Int) ^ k - 1
          rw [hpow]
          omega
        · cases Option.some.inj ho
          exact ys_Op_any32 h hs _
      · cases hk
    · cases hk
  · cases Option.some.inj ho
    exact ys_Op_any32 h hs _
theorem ys_or32 : ys_B32 ys_for (fun x y => x ||| y) (fun _ => True) := ys_for32 _ fun x y k hx hy => by
  rw [Int32.toBitVec_or, BitVec.toNat_or]
  exact Nat.or_lt_two_pow hx hy
theorem ys_xor32 : ys_B32 ys_for (fun x y => x ^^^ y) (fun _ => True) := ys_for32 _ fun x y k hx hy => by
  rw [Int32.toBitVec_xor, BitVec.toNat_xor]
  exact Nat.xor_lt_two_pow hx hy
theorem ys_not32 (z : Int) : Int32.ofInt z ^^^ -1 = Int32.ofInt (-1 - z) := by
  rw [Int32.ofInt_sub, show Int32.ofInt (-1) = -1 from rfl]
  apply Int32.toBitVec_inj.mp
  show (Int32.ofInt z).toBitVec ^^^ BitVec.allOnes 32 = -1#32 - (Int32.ofInt z).toBitVec
  rw [BitVec.xor_allOnes]
  generalize (Int32.ofInt z).toBitVec = w
  apply BitVec.eq_of_toNat_eq
  rw [BitVec.toNat_not, BitVec.toNat_sub]
  have := w.isLt
  rw [show (-1#32).toNat = 4294967295 from rfl]
  omega
theorem ys_fxor32 : ys_B32 ys_fxor (fun x y => x ^^^ y) (fun _ => True) := by
  intro r b x y o h hs hx hy ho
  unfold ys_fxor at ho
  split at ho
  · rename_i he
    cases Option.some.inj ho
    refine ⟨trivial, ys_Op_nm32 h hs (ys_stb_sub (ys_stb_cst _) hx) ?_⟩
    show _ = Int32.ofInt (ys_ev r x) ^^^ Int32.ofInt (ys_ev r y)
    rw [he, show Int32.ofInt (ys_ev r (([], -1) : ys_L)) = -1 from rfl, ys_not32, ys_sub_ev]
    rfl
  · exact ys_xor32 r b x y o h hs hx hy ho
end
section
/-! division, shifts, one number -/
def ys_nz (v : ys_E) (y : ys_L) : Bool := ys_geb v y 1 || ys_geb v (ys_scale (-1) y) 1
theorem ys_nz_ok {r : Nat → Int} {v : ys_E} (h : ys_ok r v) {y : ys_L} (hz : ys_nz v y = true) : ys_ev r y ≠ 0 := by
  unfold ys_nz at hz
  rcases (Bool.or_eq_true _ _).mp hz with h1 | h1
  · have := ys_geb_le h h1
    omega
  · have := ys_geb_le h h1
    rw [ys_scale_ev] at this
    omega
/-- a number not below 0 over a constant above 0: the bounds of the quotient -/
def ys_qb (w : Bool) (v : ys_E) (x y : ys_L) : Option (Int × Int) := match y.1, ys_low v x, ys_high v x with
  | [], some l, some u => if 1 ≤ y.2 && (0 ≤ l && (y.2 ≤ ys_mx w && ys_inr w v x)) then some (l / y.2, u / y.2) else none
  | _, _, _ => none
theorem ys_qb_ok {r : Nat → Int} {w : Bool} {v : ys_E} (h : ys_ok r v) {x y : ys_L} {q : Int × Int} (hq : ys_qb w v x y = some q) : y.1 = [] ∧ 1 ≤ y.2 ∧ y.2 ≤ ys_mx w ∧ 0 ≤ ys_ev r x ∧ ys_inr w v x = true ∧ q.1 ≤ ys_ev r x / y.2 ∧ ys_ev r x / y.2 ≤ q.2 ∧ 0 ≤ q.1 := by
  unfold ys_qb at hq
  split at hq
  · rename_i l u hy hl hu
    split at hq
    · rename_i hc
      simp only [Bool.and_eq_true, decide_eq_true_eq] at hc
      obtain ⟨c1, c2, c3, c4⟩ := hc
      cases Option.some.inj hq
      have h1 := ys_low_le h hl
      have h2 := ys_high_le h hu
      exact ⟨hy, c1, c3, by omega, c4, Int.ediv_le_ediv (by omega) h1, Int.ediv_le_ediv (by omega) h2, Int.ediv_nonneg c2 (by omega)⟩
    · cases hq
  · cases hq
def ys_fdiv (w : Bool) (b : ys_B) (x y : ys_L) : Option (ys_B × ys_L) :=
  if ys_inr w b.1 y && ys_nz b.1 y then (match ys_qb w b.1 x y with
    | some q => if q.1 = q.2 then some (b, ys_cst q.1) else some (ys_new b q)
    | none => some (ys_new b (ys_mn w, ys_mx w)))
  else none
def ys_frem (w : Bool) (b : ys_B) (x y : ys_L) : Option (ys_B × ys_L) :=
  if ys_inr w b.1 y && ys_nz b.1 y then (match ys_qb w b.1 x y with
    | some q => if q.1 = q.2 then some (ys_nm w b (ys_sub x (ys_cst (q.1 * y.2)))) else some (ys_new b (0, y.2 - 1))
    | none => some (ys_new b (ys_mn w, ys_mx w)))
  else none
theorem ys_div32 {x y : Int} (hx : 0 ≤ x) (hx2 : x ≤ 2147483647) (hy : 1 ≤ y) (hy2 : y ≤ 2147483647) : Int32.ofInt x / Int32.ofInt y = Int32.ofInt (x / y) := by
  apply Int32.toInt_inj.mp
  have h1 : 0 ≤ x / y := Int.ediv_nonneg hx (by omega)
  have h2 : x / y ≤ x := Int.ediv_le_self _ hx
  rw [Int32.toInt_div, Int32.toInt_ofInt_of_le (by omega) (by omega), Int32.toInt_ofInt_of_le (by omega) (by omega), Int32.toInt_ofInt_of_le (by omega) (by omega), Int.tdiv_eq_ediv_of_nonneg hx]
  exact Int.bmod_eq_of_le (by omega) (by omega)
theorem ys_div64 {x y : Int} (hx : 0 ≤ x) (hx2 : x ≤ 9223372036854775807) (hy : 1 ≤ y) (hy2 : y ≤ 9223372036854775807) : Int64.ofInt x / Int64.ofInt y = Int64.ofInt (x / y) := by
  apply Int64.toInt_inj.mp
  have h1 : 0 ≤ x / y := Int.ediv_nonneg hx (by omega)
  have h2 : x / y ≤ x := Int.ediv_le_self _ hx
  rw [Int64.toInt_div, Int64.toInt_ofInt_of_le (by omega) (by omega), Int64.toInt_ofInt_of_le (by omega) (by omega), Int64.toInt_ofInt_of_le (by omega) (by omega), Int.tdiv_eq_ediv_of_nonneg hx]
  exact Int.bmod_eq_of_le (by omega) (by omega)
theorem ys_ne32 {y : Int} (h : y ≠ 0) (h1 : ys_mn false ≤ y ∧ y ≤ ys_mx false) : ¬ Int32.ofInt y = 0 := by
  intro e
  have e2 := congrArg Int32.toInt e
  rw [ys_mn_f, ys_mx_f] at h1
  rw [Int32.toInt_ofInt_of_le (by omega) (by omega)] at e2
  exact h e2
theorem ys_ne64 {y : Int} (h : y ≠ 0) (h1 : ys_mn true ≤ y ∧ y ≤ ys_mx true) : ¬ Int64.ofInt y = 0 := by
  intro e
  have e2 := congrArg Int64.toInt e
  rw [ys_mn_t, ys_mx_t] at h1
  rw [Int64.toInt_ofInt_of_le (by omega) (by omega)] at e2
  exact h e2
theorem ys_fdiv32 : ys_B32 (ys_fdiv false) (fun x y => x / y) (fun y => ¬ y = 0) := by
  intro r b x y o h hs hx hy ho
  unfold ys_fdiv at ho
  split at ho
  · rename_i hc
    rw [Bool.and_eq_true] at hc
    refine ⟨ys_ne32 (ys_nz_ok h.1 hc.2) (ys_inr_ok h.1 hc.1), ?_⟩
    split at ho
    · rename_i q hq
      obtain ⟨h1, h2, h3, h4, h5, h6, h7, h8⟩ := ys_qb_ok h.1 hq
      have hr := (ys_inr_ok h.1 h5).2
      have e : Int32.ofInt (ys_ev r x) / Int32.ofInt (ys_ev r y) = Int32.ofInt (ys_ev r x / y.2) := by
        rw [ys_ev_nil r h1]
        exact ys_div32 h4 hr h2 h3
      split at ho
      · rename_i hqq
        cases Option.some.inj ho
        refine ys_Op_same h hs (ys_stb_cst _) ?_
        rw [ys_cst_ev]
        show Int32.ofInt q.1 = Int32.ofInt (ys_ev r x) / Int32.ofInt (ys_ev r y)
        rw [e]
        congr 1
        omega
      · cases Option.some.inj ho
        exact ys_Op_new _ h hs ⟨h6, h7⟩ e.symm
    · cases Option.some.inj ho
      exact ys_Op_any32 h hs _
  · cases ho
theorem ys_fdiv64 : ys_B64 (ys_fdiv true) (fun x y => x / y) (fun y => ¬ y = 0) := by
  intro r b x y o h hs hx hy ho
  unfold ys_fdiv at ho
  split at ho
  · rename_i hc
    rw [Bool.and_eq_true] at hc
    refine ⟨ys_ne64 (ys_nz_ok h.1 hc.2) (ys_inr_ok h.1 hc.1), ?_⟩
    split at ho
    · rename_i q hq
      obtain ⟨h1, h2, h3, h4, h5, h6, h7, h8⟩ := ys_qb_ok h.1 hq
      have hr := (ys_inr_ok h.1 h5).2
      have e : Int64.ofInt (ys_ev r x) / Int64.ofInt (ys_ev r y) = Int64.ofInt (ys_ev r x / y.2) := by
        rw [ys_ev_nil r h1]
        exact ys_div64 h4 hr h2 h3
      split at ho
      · rename_i hqq
        cases Option.some.inj ho
        refine ys_Op_same h hs (ys_stb_cst _) ?_
        rw [ys_cst_ev]
        show Int64.ofInt q.1 = Int64.ofInt (ys_ev r x) / Int64.ofInt (ys_ev r y)
        rw [e]
        congr 1
        omega
      · cases Option.some.inj ho
        exact ys_Op_new _ h hs ⟨h6, h7⟩ e.symm
    · cases Option.some.inj ho
      exact ys_Op_any64 h hs _
  · cases ho
theorem ys_frem32 : ys_B32 (ys_frem false) (fun x y => x - x / y * y) (fun y => ¬ y = 0) := by
  intro r b x y o h hs hx hy ho
  unfold ys_frem at ho
  split at ho
  · rename_i hc
    rw [Bool.and_eq_true] at hc
    refine ⟨ys_ne32 (ys_nz_ok h.1 hc.2) (ys_inr_ok h.1 hc.1), ?_⟩
    split at ho
    · rename_i q hq
      obtain ⟨h1, h2, h3, h4, h5, h6, h7, h8⟩ := ys_qb_ok h.1 hq
      have hr := (ys_inr_ok h.1 h5).2
      have e : Int32.ofInt (ys_ev r x) - Int32.ofInt (ys_ev r x) / Int32.ofInt (ys_ev r y) * Int32.ofInt (ys_ev r y) = Int32.ofInt (ys_ev r x - ys_ev r x / y.2 * y.2) := by
        rw [ys_ev_nil r h1, ys_div32 h4 hr h2 h3, ← Int32.ofInt_mul, ← Int32.ofInt_sub]
      split at ho
      · rename_i hqq
        cases Option.some.inj ho
        refine ys_Op_nm32 h hs (ys_stb_sub hx (ys_stb_cst _)) ?_
        show _ = Int32.ofInt (ys_ev r x) - Int32.ofInt (ys_ev r x) / Int32.ofInt (ys_ev r y) * Int32.ofInt (ys_ev r y)
        rw [e, ys_sub_ev, ys_cst_ev, show ys_ev r x / y.2 = q.1 by omega]
      · cases Option.some.inj ho
        have h9 := Int.emod_def (ys_ev r x) y.2
        have h10 := Int.emod_nonneg (ys_ev r x) (b := y.2) (by omega)
        have h11 := Int.emod_lt_of_pos (ys_ev r x) (b := y.2) (by omega)
        have h12 := Int.mul_comm y.2 (ys_ev r x / y.2)
        exact ys_Op_new (ys_ev r x - ys_ev r x / y.2 * y.2) h hs ⟨by show (0 : Int) ≤ _; omega, by show _ ≤ y.2 - 1; omega⟩ e.symm
    · cases Option.some.inj ho
      exact ys_Op_any32 h hs _
  · cases ho
theorem ys_frem64 : ys_B64 (ys_frem true) (fun x y => x - x / y * y) (fun y => ¬ y = 0) := by
  intro r b x y o h hs hx hy ho
  unfold ys_frem at ho
  split at ho
  · rename_i hc
    rw [Bool.and_eq_true] at hc
    refine ⟨ys_ne64 (ys_nz_ok h.1 hc.2) (ys_inr_ok h.1 hc.1), ?_⟩
    split at ho
    · rename_i q hq
      obtain ⟨h1, h2, h3, h4, h5, h6, h7, h8⟩ := ys_qb_ok h.1 hq
      have hr := (ys_inr_ok h.1 h5).2
      have e : Int64.ofInt (ys_ev r x) - Int64.ofInt (ys_ev r x) / Int64.ofInt (ys_ev r y) * Int64.ofInt (ys_ev r y) = Int64.ofInt (ys_ev r x - ys_ev r x / y.2 * y.2) := by
        rw [ys_ev_nil r h1, ys_div64 h4 hr h2 h3, ← Int64.ofInt_mul, ← Int64.ofInt_sub]
      split at ho
      · rename_i hqq
        cases Option.some.inj ho
        refine ys_Op_nm64 h hs (ys_stb_sub hx (ys_stb_cst _)) ?_
        show _ = Int64.ofInt (ys_ev r x) - Int64.ofInt (ys_ev r x) / Int64.ofInt (ys_ev r y) * Int64.ofInt (ys_ev r y)
        rw [e, ys_sub_ev, ys_cst_ev, show ys_ev r x / y.2 = q.1 by omega]
      · cases Option.some.inj ho
        have h9 := Int.emod_def (ys_ev r x) y.2
        have h10 := Int.emod_nonneg (ys_ev r x) (b := y.2) (by omega)
        have h11 := Int.emod_lt_of_pos (ys_ev r x) (b := y.2) (by omega)
        have h12 := Int.mul_comm y.2 (ys_ev r x / y.2)
        exact ys_Op_new (ys_ev r x - ys_ev r x / y.2 * y.2) h hs ⟨by show (0 : Int) ≤ _; omega, by show _ ≤ y.2 - 1; omega⟩ e.symm
    · cases Option.some.inj ho
      exact ys_Op_any64 h hs _
  · cases ho
/-! shifts to the left of a constant -/
def ys_shb (w : Bool) (v : ys_E) (x y : ys_L) : Option (Int × Int) := match x.1, ys_low v y, ys_high v y with
  | [], some l, some u => if 0 ≤ x.2 && (0 ≤ l && (u ≤ 30 && (x.2 * 2 ^ u.toNat ≤ ys_mx w))) then some (x.2 * 2 ^ l.toNat, x.2 * 2 ^ u.toNat) else none
  | _, _, _ => none
theorem ys_shb_ok {r : Nat → Int} {w : Bool} {v : ys_E} (h : ys_ok r v) {x y : ys_L} {q : Int × Int} (hq : ys_shb w v x y = some q) : x.1 = [] ∧ ∃ n k : Nat, x.2 = (n : Int) ∧ ys_ev r y = (k : Int) ∧ k ≤ 30 ∧ q.1 ≤ ((n * 2 ^ k : Nat) : Int) ∧ ((n * 2 ^ k : Nat) : Int) ≤ q.2 ∧ q.2 ≤ ys_mx w := by
  unfold ys_shb at hq
  split at hq
  · rename_i l u hx hl hu
    split at hq
    · rename_i hc
      simp only [Bool.and_eq_true, decide_eq_true_eq] at hc
      obtain ⟨c1, c2, c3, c4⟩ := hc
      cases Option.some.inj hq
      have h1 := ys_low_le h hl
      have h2 := ys_high_le h hu
      obtain ⟨n, hn⟩ := Int.eq_ofNat_of_zero_le c1
      obtain ⟨k, hk⟩ := Int.eq_ofNat_of_zero_le (a := ys_ev r y) (by omega)
      have pw : ∀ j : Nat, x.2 * 2 ^ j = ((n * 2 ^ j : Nat) : Int) := by
        intro j
        rw [hn]
        simp
      refine ⟨hx, n, k, hn, hk, by omega, ?_, ?_, c4⟩
      · show x.2 * 2 ^ l.toNat ≤ _
        rw [pw]
        exact Int.ofNat_le.mpr (Nat.mul_le_mul_left n (Nat.pow_le_pow_right (by decide) (by omega)))
      · show _ ≤ x.2 * 2 ^ u.toNat
        rw [pw]
        exact Int.ofNat_le.mpr (Nat.mul_le_mul_left n (Nat.pow_le_pow_right (by decide) (by omega)))
    · cases hq
  · cases hq
def ys_fshl (w : Bool) (b : ys_B) (x y : ys_L) : Option (ys_B × ys_L) := match ys_shb w b.1 x y with
  | some q => some (ys_nw b q)
  | none => some (ys_new b (ys_mn w, ys_mx w))
theorem ys_31 {k : Nat} (hk : k ≤ 30) : (((Int32.ofInt (k : Int)) &&& 31).toBitVec.smod 32).toNat = k := by
  have : ∀ j : Fin 31, (((Int32.ofInt ((j : Nat) : Int)) &&& 31).toBitVec.smod 32).toNat = (j : Nat) := by decide +kernel
  exact this ⟨k, by omega⟩
theorem ys_63 {k : Nat} (hk : k ≤ 30) : (((Int32.ofInt (k : Int)).toInt64 &&& 63).toBitVec.smod 64).toNat = k := by
  have : ∀ j : Fin 31, (((Int32.ofInt ((j : Nat) : Int)).toInt64 &&& 63).toBitVec.smod 64).toNat = (j : Nat) := by decide +kernel
  exact this ⟨k, by omega⟩
theorem ys_shl32 {n k : Nat} (hk : k ≤ 30) (h : n * 2 ^ k ≤ 2147483647) : Int32.ofInt (n : Int) <<< (Int32.ofInt (k : Int) &&& 31) = Int32.ofInt ((n * 2 ^ k : Nat) : Int) := by
  rw [Int32.ofInt_eq_ofNat, Int32.ofInt_eq_ofNat]
  have := pk_shlN (n := n) (Int32.ofInt (k : Int) &&& 31) k (ys_31 hk) (by omega)
  rw [Int32.ofInt_eq_ofNat] at this
  exact this
theorem ys_shl64 {n k : Nat} (hk : k ≤ 30) (h : n * 2 ^ k ≤ 9223372036854775807) : Int64.ofInt (n : Int) <<< ((Int32.ofInt (k : Int)).toInt64 &&& 63) = Int64.ofInt ((n * 2 ^ k : Nat) : Int) := by
  have hn : n ≤ n * 2 ^ k := Nat.le_mul_of_pos_right n (Nat.two_pow_pos k)
  apply Int64.toBitVec_inj.mp
  apply BitVec.eq_of_toNat_eq
  show ((Int64.ofInt (n : Int)).toBitVec <<< (((Int32.ofInt (k : Int)).toInt64 &&& 63).toBitVec.smod 64).toNat).toNat = _
  rw [ys_63 hk, BitVec.toNat_shiftLeft, Nat.shiftLeft_eq, Int64.ofInt_eq_ofNat, Int64.ofInt_eq_ofNat]
  show (BitVec.ofNat 64 n).toNat * 2 ^ k % 2 ^ 64 = (BitVec.ofNat 64 (n * 2 ^ k)).toNat
  rw [BitVec.toNat_ofNat, BitVec.toNat_ofNat, Nat.mod_eq_of_lt (a := n) (by omega)]
theorem ys_fshl32 : ys_B32 (ys_fshl false) (fun x y => x <<< (y &&& 31)) (fun _ => True) := by
  intro r b x y o h hs hx hy ho
  refine ⟨trivial, ?_⟩
  unfold ys_fshl at ho
  split at ho
  · rename_i q hq
    cases Option.some.inj ho
    obtain ⟨h1, n, k, hn, hk, h2, h3, h4, h5⟩ := ys_shb_ok h.1 hq
    rw [ys_mx_f] at h5
    refine ys_Op_nw _ h hs ⟨h3, h4⟩ ?_
    show _ = Int32.ofInt (ys_ev r x) <<< (Int32.ofInt (ys_ev r y) &&& 31)
    rw [ys_ev_nil r h1, hn, hk, ys_shl32 h2 (by omega)]
  · cases Option.some.inj ho
    exact ys_Op_any32 h hs _
def ys_fshr (b : ys_B) (x _ : ys_L) : Option (ys_B × ys_L) := match ys_nnb false b.1 x with
  | some u => some (ys_nw b (0, u))
  | none => some (ys_new b (ys_mn false, ys_mx false))
theorem ys_fshr32 : ys_B32 ys_fshr (fun x y => x >>> (y &&& 31)) (fun _ => True) := by
  intro r b x y o h hs hx hy ho
  refine ⟨trivial, ?_⟩
  unfold ys_fshr at ho
  split at ho
  · rename_i u hu
    cases Option.some.inj ho
    obtain ⟨e1, e2, e3⟩ := ys_nnb32 h.1 hu
    have h1 := pk_shr (Int32.ofInt (ys_ev r x)) (Int32.ofInt (ys_ev r y) &&& 31) _ rfl
    rw [e1, Int.shiftRight_eq_div_pow] at h1
    have h2 := Int.ediv_le_self (((2 ^ ((Int32.ofInt (ys_ev r y) &&& 31).toBitVec.smod 32).toNat : Nat) : Int)) e2
    have h3 := Int.ediv_nonneg (b := ((2 ^ ((Int32.ofInt (ys_ev r y) &&& 31).toBitVec.smod 32).toNat : Nat) : Int)) e2 (Int.natCast_nonneg _)
    refine ys_Op_nw32 h hs _ ?_
    show (0 : Int) ≤ (Int32.ofInt (ys_ev r x) >>> (Int32.ofInt (ys_ev r y) &&& 31)).toInt ∧ (Int32.ofInt (ys_ev r x) >>> (Int32.ofInt (ys_ev r y) &&& 31)).toInt ≤ u
    rw [h1]
    exact ⟨h3, Int.le_trans h2 e3⟩
  · cases Option.some.inj ho
    exact ys_Op_any32 h hs _
/-- a long, shifted by an int -/
def ys_BLI (F : ys_B → ys_L → ys_L → Option (ys_B × ys_L)) (op : Int64 → Int32 → Int64) : Prop := ∀ (r : Nat → Int) (b : ys_B) (x y : ys_L) (o : ys_B × ys_L), ys_okB r b → ys_scB b → ys_stb b.1.length x → ys_stb b.1.length y → F b x y = some o → ys_Op r b o (fun z => Int64.ofInt z = op (Int64.ofInt (ys_ev r x)) (Int32.ofInt (ys_ev r y)))
theorem ys_fshl64 : ys_BLI (ys_fshl true) (fun x y => x <<< (y.toInt64 &&& 63)) := by
  intro r b x y o h hs hx hy ho
  unfold ys_fshl at ho
  split at ho
  · rename_i q hq
    cases Option.some.inj ho
    obtain ⟨h1, n, k, hn, hk, h2, h3, h4, h5⟩ := ys_shb_ok h.1 hq
    rw [ys_mx_t] at h5
    refine ys_Op_nw _ h hs ⟨h3, h4⟩ ?_
    show _ = Int64.ofInt (ys_ev r x) <<< ((Int32.ofInt (ys_ev r y)).toInt64 &&& 63)
    rw [ys_ev_nil r h1, hn, hk, ys_shl64 h2 (by omega)]
  · cases Option.some.inj ho
    exact ys_Op_any64 h hs _
theorem ys_fanyLI (op : Int64 → Int32 → Int64) : ys_BLI (ys_fany true) op := by
  intro r b x y o h hs hx hy ho
  cases Option.some.inj ho
  exact ys_Op_any64 h hs _
/-! one number -/
def ys_fneg (w : Bool) (b : ys_B) (x : ys_L) : ys_B × ys_L := ys_nm w b (ys_scale (-1) x)
theorem ys_fneg32 {r : Nat → Int} {b : ys_B} {x : ys_L} (h : ys_okB r b) (hs : ys_scB b) (hx : ys_stb b.1.length x) : ys_Op r b (ys_fneg false b x) (fun z => Int32.ofInt z = -Int32.ofInt (ys_ev r x)) := ys_Op_nm32 h hs (ys_stb_scale _ hx) (by rw [ys_scale_ev, Int.neg_mul, Int.one_mul, Int32.ofInt_neg])
theorem ys_fneg64 {r : Nat → Int} {b : ys_B} {x : ys_L} (h : ys_okB r b) (hs : ys_scB b) (hx : ys_stb b.1.length x) : ys_Op r b (ys_fneg true b x) (fun z => Int64.ofInt z = -Int64.ofInt (ys_ev r x)) := ys_Op_nm64 h hs (ys_stb_scale _ hx) (by rw [ys_scale_ev, Int.neg_mul, Int.one_mul, Int64.ofInt_neg])
theorem ys_l2i (z : Int) : (Int64.ofInt z).toInt32 = Int32.ofInt z := by
  apply Int32.toInt_inj.mp
  rw [Int64.toInt_toInt32, Int64.toInt_ofInt, Int32.toInt_ofInt]
  exact Int.bmod_bmod_of_dvd (by decide)
theorem ys_fl2i {r : Nat → Int} {b : ys_B} {x : ys_L} (h : ys_okB r b) (hs : ys_scB b) (hx : ys_stb b.1.length x) : ys_Op r b (ys_nm false b x) (fun z => Int32.ofInt z = (Int64.ofInt (ys_ev r x)).toInt32) := ys_Op_nm32 h hs hx (ys_l2i _).symm
theorem ys_i2l {r : Nat → Int} {v : ys_E} (h : ys_ok r v) {x : ys_L} (hi : ys_inr false v x = true) : (Int32.ofInt (ys_ev r x)).toInt64 = Int64.ofInt (ys_ev r x) := by
  apply Int64.toInt_inj.mp
  obtain ⟨h1, h2⟩ := ys_inr_ok h hi
  rw [ys_mn_f] at h1
  rw [ys_mx_f] at h2
  rw [Int32.toInt_toInt64, ys_inr32 h hi, Int64.toInt_ofInt_of_le (by omega) (by omega)]
/-- cut to a byte (7) or a short (15) -/
def ys_fcut (k : Nat) (b : ys_B) (x : ys_L) : ys_B × ys_L := if ys_geb b.1 x (-(2 ^ k)) && ys_geb b.1 (ys_scale (-1) x) (-(2 ^ k - 1)) then (b, x) else ys_new b (-(2 ^ k), 2 ^ k - 1)
theorem ys_fi2b {r : Nat → Int} {b : ys_B} {x : ys_L} (h : ys_okB r b) (hs : ys_scB b) (hx : ys_stb b.1.length x) : ys_Op r b (ys_fcut 7 b x) (fun z => Int32.ofInt z = (Int32.ofInt (ys_ev r x)).toInt8.toInt32) := by
  unfold ys_fcut
  split
  · rename_i hc
    rw [Bool.and_eq_true] at hc
    have h1 := ys_geb_le h.1 hc.1
    have h2 := ys_geb_le h.1 hc.2
    rw [ys_scale_ev] at h2
    refine ys_Op_same h hs hx ?_
    apply Int32.toInt_inj.mp
    rw [Int8.toInt_toInt32, Int32.toInt_toInt8, Int32.toInt_ofInt_of_le (by omega) (by omega)]
    exact (Int.bmod_eq_of_le (by omega) (by omega)).symm
  · refine ys_Op_in32 h hs _ ?_
    rw [Int8.toInt_toInt32]
    have h1 := (Int32.ofInt (ys_ev r x)).toInt8.le_toInt
    have h2 := (Int32.ofInt (ys_ev r x)).toInt8.toInt_lt
    exact ⟨h1, by show _ ≤ (2 : Int) ^ 7 - 1; omega⟩
theorem ys_fi2s {r : Nat → Int} {b : ys_B} {x : ys_L} (h : ys_okB r b) (hs : ys_scB b) (hx : ys_stb b.1.length x) : ys_Op r b (ys_fcut 15 b x) (fun z => Int32.ofInt z = (Int32.ofInt (ys_ev r x)).toInt16.toInt32) := by
  unfold ys_fcut
  split
  · rename_i hc
    rw [Bool.and_eq_true] at hc
    have h1 := ys_geb_le h.1 hc.1
    have h2 := ys_geb_le h.1 hc.2
    rw [ys_scale_ev] at h2
    refine ys_Op_same h hs hx ?_
    apply Int32.toInt_inj.mp
    rw [Int16.toInt_toInt32, Int32.toInt_toInt16, Int32.toInt_ofInt_of_le (by omega) (by omega)]
    exact (Int.bmod_eq_of_le (by omega) (by omega)).symm
  · refine ys_Op_in32 h hs _ ?_
    rw [Int16.toInt_toInt32]
    have h1 := (Int32.ofInt (ys_ev r x)).toInt16.le_toInt
    have h2 := (Int32.ofInt (ys_ev r x)).toInt16.toInt_lt
    exact ⟨h1, by show _ ≤ (2 : Int) ^ 15 - 1; omega⟩
/-! what a comparison tells -/
def ys_ne (v : ys_E) (x y : ys_L) : List ys_L := if ys_geb v (ys_sub x y) 0 then [ys_add (ys_sub x y) ([], -1)] else if ys_geb v (ys_sub y x) 0 then [ys_add (ys_sub y x) ([], -1)] else []
def ys_cf (v : ys_E) (c : ClassFile.Cond) (x y : ys_L) : List ys_L := match c with
  | .eq => [ys_sub x y, ys_sub y x]
  | .ne => ys_ne v x y
  | .lt => [ys_add (ys_sub y x) ([], -1)]
  | .ge => [ys_sub x y]
  | .gt => [ys_add (ys_sub x y) ([], -1)]
  | .le => [ys_sub y x]
def ys_ch (c : ClassFile.Cond) (x y : Int) : Prop := match c with
  | .eq => x = y
  | .ne => ¬ x = y
  | .lt => x < y
  | .ge => y ≤ x
  | .gt => y < x
  | .le => x ≤ y
def ys_cn (c : ClassFile.Cond) : ClassFile.Cond := match c with
  | .eq => .ne
  | .ne => .eq
  | .lt => .ge
  | .ge => .lt
  | .gt => .le
  | .le => .gt
theorem ys_cn_ok {c : ClassFile.Cond} {x y : Int} (h : ¬ ys_ch c x y) : ys_ch (ys_cn c) x y := by
  cases c <;> simp only [ys_ch, ys_cn] at h ⊢ <;> omega
theorem ys_m1 (r : Nat → Int) (e : ys_L) : ys_ev r (ys_add e ([], -1)) = ys_ev r e - 1 := by
  rw [ys_add_ev]
  show ys_ev r e + (0 + -1) = _
  omega
theorem ys_fk1 {r : Nat → Int} {f : ys_L} (h : 0 ≤ ys_ev r f) : ys_fk r [f] := fun g hg => by
  rw [List.mem_singleton.mp hg]
  exact h
theorem ys_cf_ok {r : Nat → Int} {v : ys_E} (hv : ys_ok r v) {c : ClassFile.Cond} {x y : ys_L} (h : ys_ch c (ys_ev r x) (ys_ev r y)) : ys_fk r (ys_cf v c x y) := by
  cases c with
  | eq =>
    intro f hf
    have h : ys_ev r x = ys_ev r y := h
    rcases List.mem_cons.mp hf with e | e
    · rw [e, ys_sub_ev]; omega
    · rw [List.mem_singleton.mp e, ys_sub_ev]; omega
  | ne =>
    have h : ¬ ys_ev r x = ys_ev r y := h
    show ys_fk r (ys_ne v x y)
    unfold ys_ne
    split
    · rename_i hc
      have := ys_geb_le hv hc
      rw [ys_sub_ev] at this
      exact ys_fk1 (by rw [ys_m1, ys_sub_ev]; omega)
    · split
      · rename_i hc
        have := ys_geb_le hv hc
        rw [ys_sub_ev] at this
        exact ys_fk1 (by rw [ys_m1, ys_sub_ev]; omega)
      · intro f hf
        cases hf
  | lt =>
    have h : ys_ev r x < ys_ev r y := h
    exact ys_fk1 (by rw [ys_m1, ys_sub_ev]; omega)
  | ge =>
    have h : ys_ev r y ≤ ys_ev r x := h
    exact ys_fk1 (by rw [ys_sub_ev]; omega)
  | gt =>
    have h : ys_ev r y < ys_ev r x := h
    exact ys_fk1 (by rw [ys_m1, ys_sub_ev]; omega)
  | le =>
    have h : ys_ev r x ≤ ys_ev r y := h
    exact ys_fk1 (by rw [ys_sub_ev]; omega)
/-- the ways of a comparison -/
def ys_cfs (v : ys_E) (c : ClassFile.Cond) (x y : ys_L) : List (List ys_L) := match c with
  | .ne => [[ys_add (ys_sub x y) ([], -1)], [ys_add (ys_sub y x) ([], -1)]]
  | c => [ys_cf v c x y]
theorem ys_cfs_ok {r : Nat → Int} {v : ys_E} (hv : ys_ok r v) {c : ClassFile.Cond} {x y : ys_L} (h : ys_ch c (ys_ev r x) (ys_ev r y)) : ∃ fs ∈ ys_cfs v c x y, ys_fk r fs := by
  cases c with
  | ne =>
    have h : ¬ ys_ev r x = ys_ev r y := h
    rcases Int.lt_or_gt_of_ne h with q | q
    · exact ⟨_, List.mem_cons_of_mem _ List.mem_cons_self, ys_fk1 (by rw [ys_m1, ys_sub_ev]; omega)⟩
    · exact ⟨_, List.mem_cons_self, ys_fk1 (by rw [ys_m1, ys_sub_ev]; omega)⟩
  | eq => exact ⟨_, List.mem_cons_self, ys_cf_ok hv h⟩
  | lt => exact ⟨_, List.mem_cons_self, ys_cf_ok hv h⟩
  | ge => exact ⟨_, List.mem_cons_self, ys_cf_ok hv h⟩
  | gt => exact ⟨_, List.mem_cons_self, ys_cf_ok hv h⟩
  | le => exact ⟨_, List.mem_cons_self, ys_cf_ok hv h⟩
end
section
/-! the walk: a state of symbols at a place of the code stands for the machine there -/
section YSW
variable (p : Program) (l : Launch) (e : Env) (R : Room) (s : State) (m : MethodId) (args : Array Value) (below : List Frame) (meth : Method) (c : Code) (Q : State → Prop) (kc kz : Nat) (D : va_G) (cl : List vw_C) (ad : Nat → Nat) (cT : Nat → ClassId) (sh : List ys_C) (A : Nat → Prop) (H0 : Heap) (nL : Nat) (mods : List Nat) (g0 : Nat → Nat → Int) (r0 : Nat → Int) (E : Nat)
def ys_W (pc : Nat) (S : ys_S) : Prop := ∀ (r : Nat → Int) (H : Heap) (locs : List Loc) (ls : Array Slot) (st : List Value), ys_rep D cl ad cT sh A H0 nL mods g0 r0 r E S H locs ls st → W p l e R s m args below meth c H locs kc kz Q (F0 m pc ls st)
end YSW
section YSV
variable {p : Program} {l : Launch} {e : Env} {R : Room} {s : State} {m : MethodId} {args : Array Value} {below : List Frame} {meth : Method} {c : Code} {Q : State → Prop} {kc kz : Nat} {D : va_G} {cl : List vw_C} {ad : Nat → Nat} {cT : Nat → ClassId} {sh : List ys_C} {A : Nat → Prop} {H0 : Heap} {nL : Nat} {mods : List Nat} {g0 : Nat → Nat → Int} {r0 : Nat → Int} {E : Nat} {pc : Nat} {b : ys_B} {fds : ys_F} {lv : List (Nat × ys_V)} {sv : List ys_V} {succ : List (Nat × ys_S)} {cc : ByteArray}
/-- two ints -/
def ys_hb32 (F : ys_B → ys_L → ys_L → Option (ys_B × ys_L)) (pc : Nat) (b : ys_B) (fds : ys_F) (lv : List (Nat × ys_V)) (sv : List ys_V) : Option (List (Nat × ys_S)) := match sv with
  | .inl (.inl y) :: .inl (.inl x) :: t => (match F b x y with
    | some o => some [(pc + 1, o.1, fds, lv, .inl (.inl o.2) :: t)]
    | none => none)
  | _ => none
theorem ys_kb32 {F : ys_B → ys_L → ys_L → Option (ys_B × ys_L)} {op : Int32 → Int32 → Int32} {ok : Int32 → Prop} (hF : ys_B32 F op ok) (hrow : ∀ (X Y : Int32) (H : Heap) (locs : List Loc) (ls : Array Slot) (rest : List Value), ok Y → W p l e R s m args below meth c H locs kc kz Q (F0 m (pc + 1) ls (.int (op X Y) :: rest)) → W p l e R s m args below meth c H locs kc kz Q (F0 m pc ls (.int Y :: .int X :: rest))) (hs : ys_hb32 F pc b fds lv sv = some succ) (k : ∀ q ∈ succ, ys_W p l e R s m args below meth c Q kc kz D cl ad cT sh A H0 nL mods g0 r0 E q.1 q.2) : ys_W p l e R s m args below meth c Q kc kz D cl ad cT sh A H0 nL mods g0 r0 E pc (b, fds, lv, sv) := by
  unfold ys_hb32 at hs
  split at hs
  · rename_i y x t
    split at hs
    · rename_i o ho
      cases Option.some.inj hs
      have k := k _ List.mem_cons_self
      intro r H locs ls st h
      obtain ⟨st1, e1, h1, hy⟩ := ys_rep_pop h
      obtain ⟨st2, e2, h2, hx⟩ := ys_rep_pop h1
      subst e1; subst e2
      obtain ⟨hok, r', hag, hb, hl, hsc, hst, hval⟩ := hF r b x y o h.1 h.2.1.1 hx hy ho
      refine hrow _ _ _ _ _ _ hok ?_
      have h4 := k r' H locs ls _ (ys_rep_push (ys_rep_ext h2 hag hb hl hsc) (.inl (.inl o.2)) hst)
      have e3 : ys_den ad r' (.inl (.inl o.2)) = .int (op (Int32.ofInt (ys_ev r x)) (Int32.ofInt (ys_ev r y))) := congrArg Value.int hval
      rw [e3] at h4
      exact h4
    · cases hs
  · cases hs
/-- two longs -/
def ys_hb64 (F : ys_B → ys_L → ys_L → Option (ys_B × ys_L)) (pc : Nat) (b : ys_B) (fds : ys_F) (lv : List (Nat × ys_V)) (sv : List ys_V) : Option (List (Nat × ys_S)) := match sv with
  | .inl (.inr y) :: .inl (.inr x) :: t => (match F b x y with
    | some o => some [(pc + 1, o.1, fds, lv, .inl (.inr o.2) :: t)]
    | none => none)
  | _ => none
theorem ys_kb64 {F : ys_B → ys_L → ys_L → Option (ys_B × ys_L)} {op : Int64 → Int64 → Int64} {ok : Int64 → Prop} (hF : ys_B64 F op ok) (hrow : ∀ (X Y : Int64) (H : Heap) (locs : List Loc) (ls : Array Slot) (rest : List Value), ok Y → W p l e R s m args below meth c H locs kc kz Q (F0 m (pc + 1) ls (.long (op X Y) :: rest)) → W p l e R s m args below meth c H locs kc kz Q (F0 m pc ls (.long Y :: .long X :: rest))) (hs : ys_hb64 F pc b fds lv sv = some succ) (k : ∀ q ∈ succ, ys_W p l e R s m args below meth c Q kc kz D cl ad cT sh A H0 nL mods g0 r0 E q.1 q.2) : ys_W p l e R s m args below meth c Q kc kz D cl ad cT sh A H0 nL mods g0 r0 E pc (b, fds, lv, sv) := by
  unfold ys_hb64 at hs
  split at hs
  · rename_i y x t
    split at hs
    · rename_i o ho
      cases Option.some.inj hs
      have k := k _ List.mem_cons_self
      intro r H locs ls st h
      obtain ⟨st1, e1, h1, hy⟩ := ys_rep_pop h
      obtain ⟨st2, e2, h2, hx⟩ := ys_rep_pop h1
      subst e1; subst e2
      obtain ⟨hok, r', hag, hb, hl, hsc, hst, hval⟩ := hF r b x y o h.1 h.2.1.1 hx hy ho
      refine hrow _ _ _ _ _ _ hok ?_
      have h4 := k r' H locs ls _ (ys_rep_push (ys_rep_ext h2 hag hb hl hsc) (.inl (.inr o.2)) hst)
      have e3 : ys_den ad r' (.inl (.inr o.2)) = .long (op (Int64.ofInt (ys_ev r x)) (Int64.ofInt (ys_ev r y))) := congrArg Value.long hval
      rw [e3] at h4
      exact h4
    · cases hs
  · cases hs
/-- a long and an int -/
def ys_hbLI (F : ys_B → ys_L → ys_L → Option (ys_B × ys_L)) (pc : Nat) (b : ys_B) (fds : ys_F) (lv : List (Nat × ys_V)) (sv : List ys_V) : Option (List (Nat × ys_S)) := match sv with
  | .inl (.inl y) :: .inl (.inr x) :: t => (match F b x y with
    | some o => some [(pc + 1, o.1, fds, lv, .inl (.inr o.2) :: t)]
    | none => none)
  | _ => none
theorem ys_kbLI {F : ys_B → ys_L → ys_L → Option (ys_B × ys_L)} {op : Int64 → Int32 → Int64} (hF : ys_BLI F op) (hrow : ∀ (X : Int64) (Y : Int32) (H : Heap) (locs : List Loc) (ls : Array Slot) (rest : List Value), W p l e R s m args below meth c H locs kc kz Q (F0 m (pc + 1) ls (.long (op X Y) :: rest)) → W p l e R s m args below meth c H locs kc kz Q (F0 m pc ls (.int Y :: .long X :: rest))) (hs : ys_hbLI F pc b fds lv sv = some succ) (k : ∀ q ∈ succ, ys_W p l e R s m args below meth c Q kc kz D cl ad cT sh A H0 nL mods g0 r0 E q.1 q.2) : ys_W p l e R s m args below meth c Q kc kz D cl ad cT sh A H0 nL mods g0 r0 E pc (b, fds, lv, sv) := by
  unfold ys_hbLI at hs
  split at hs
  · rename_i y x t
    split at hs
    · rename_i o ho
      cases Option.some.inj hs
      have k := k _ List.mem_cons_self
      intro r H locs ls st h
      obtain ⟨st1, e1, h1, hy⟩ := ys_rep_pop h
      obtain ⟨st2, e2, h2, hx⟩ := ys_rep_pop h1
      subst e1; subst e2
      obtain ⟨r', hag, hb, hl, hsc, hst, hval⟩ := hF r b x y o h.1 h.2.1.1 hx hy ho
      refine hrow _ _ _ _ _ _ ?_
      have h4 := k r' H locs ls _ (ys_rep_push (ys_rep_ext h2 hag hb hl hsc) (.inl (.inr o.2)) hst)
      have e3 : ys_den ad r' (.inl (.inr o.2)) = .long (op (Int64.ofInt (ys_ev r x)) (Int32.ofInt (ys_ev r y))) := congrArg Value.long hval
      rw [e3] at h4
      exact h4
    · cases hs
  · cases hs
/-- one int to one int -/
def ys_hu32 (F : ys_B → ys_L → ys_B × ys_L) (pc : Nat) (b : ys_B) (fds : ys_F) (lv : List (Nat × ys_V)) (sv : List ys_V) : Option (List (Nat × ys_S)) := match sv with
  | .inl (.inl x) :: t => some [(pc + 1, (F b x).1, fds, lv, .inl (.inl (F b x).2) :: t)]
  | _ => none
theorem ys_ku32 {F : ys_B → ys_L → ys_B × ys_L} {op : Int32 → Int32} (hF : ∀ (r : Nat → Int) (b : ys_B) (x : ys_L), ys_okB r b → ys_scB b → ys_stb b.1.length x → ys_Op r b (F b x) (fun z => Int32.ofInt z = op (Int32.ofInt (ys_ev r x)))) (hrow : ∀ (X : Int32) (H : Heap) (locs : List Loc) (ls : Array Slot) (rest : List Value), W p l e R s m args below meth c H locs kc kz Q (F0 m (pc + 1) ls (.int (op X) :: rest)) → W p l e R s m args below meth c H locs kc kz Q (F0 m pc ls (.int X :: rest))) (hs : ys_hu32 F pc b fds lv sv = some succ) (k : ∀ q ∈ succ, ys_W p l e R s m args below meth c Q kc kz D cl ad cT sh A H0 nL mods g0 r0 E q.1 q.2) : ys_W p l e R s m args below meth c Q kc kz D cl ad cT sh A H0 nL mods g0 r0 E pc (b, fds, lv, sv) := by
  unfold ys_hu32 at hs
  split at hs
  · rename_i x t
    cases Option.some.inj hs
    have k := k _ List.mem_cons_self
    intro r H locs ls st h
    obtain ⟨st1, e1, h1, hx⟩ := ys_rep_pop h
    subst e1
    obtain ⟨r', hag, hb, hl, hsc, hst, hval⟩ := hF r b x h.1 h.2.1.1 hx
    refine hrow _ _ _ _ _ ?_
    have h4 := k r' H locs ls _ (ys_rep_push (ys_rep_ext h1 hag hb hl hsc) (.inl (.inl (F b x).2)) hst)
    have e3 : ys_den ad r' (.inl (.inl (F b x).2)) = .int (op (Int32.ofInt (ys_ev r x))) := congrArg Value.int hval
    rw [e3] at h4
    exact h4
  · cases hs
/-- one long to one long -/
def ys_hu64 (F : ys_B → ys_L → ys_B × ys_L) (pc : Nat) (b : ys_B) (fds : ys_F) (lv : List (Nat × ys_V)) (sv : List ys_V) : Option (List (Nat × ys_S)) := match sv with
  | .inl (.inr x) :: t => some [(pc + 1, (F b x).1, fds, lv, .inl (.inr (F b x).2) :: t)]
  | _ => none
theorem ys_ku64 {F : ys_B → ys_L → ys_B × ys_L} {op : Int64 → Int64} (hF : ∀ (r : Nat → Int) (b : ys_B) (x : ys_L), ys_okB r b → ys_scB b → ys_stb b.1.length x → ys_Op r b (F b x) (fun z => Int64.ofInt z = op (Int64.ofInt (ys_ev r x)))) (hrow : ∀ (X : Int64) (H : Heap) (locs : List Loc) (ls : Array Slot) (rest : List Value), W p l e R s m args below meth c H locs kc kz Q (F0 m (pc + 1) ls (.long (op X) :: rest)) → W p l e R s m args below meth c H locs kc kz Q (F0 m pc ls (.long X :: rest))) (hs : ys_hu64 F pc b fds lv sv = some succ) (k : ∀ q ∈ succ, ys_W p l e R s m args below meth c Q kc kz D cl ad cT sh A H0 nL mods g0 r0 E q.1 q.2) : ys_W p l e R s m args below meth c Q kc kz D cl ad cT sh A H0 nL mods g0 r0 E pc (b, fds, lv, sv) := by
  unfold ys_hu64 at hs
  split at hs
  · rename_i x t
    cases Option.some.inj hs
    have k := k _ List.mem_cons_self
    intro r H locs ls st h
    obtain ⟨st1, e1, h1, hx⟩ := ys_rep_pop h
    subst e1
    obtain ⟨r', hag, hb, hl, hsc, hst, hval⟩ := hF r b x h.1 h.2.1.1 hx
    refine hrow _ _ _ _ _ ?_
    have h4 := k r' H locs ls _ (ys_rep_push (ys_rep_ext h1 hag hb hl hsc) (.inl (.inr (F b x).2)) hst)
    have e3 : ys_den ad r' (.inl (.inr (F b x).2)) = .long (op (Int64.ofInt (ys_ev r x))) := congrArg Value.long hval
    rw [e3] at h4
    exact h4
  · cases hs
/-- a long to an int -/
def ys_hl2i (pc : Nat) (b : ys_B) (fds : ys_F) (lv : List (Nat × ys_V)) (sv : List ys_V) : Option (List (Nat × ys_S)) := match sv with
  | .inl (.inr x) :: t => some [(pc + 1, (ys_nm false b x).1, fds, lv, .inl (.inl (ys_nm false b x).2) :: t)]
  | _ => none
theorem ys_kl2i (hexec : p.tables.exec = Jvm.exec) (hb : c.code = cc) (hd : decode cc pc = .ok (.l2i, 1)) (hs : ys_hl2i pc b fds lv sv = some succ) (k : ∀ q ∈ succ, ys_W p l e R s m args below meth c Q kc kz D cl ad cT sh A H0 nL mods g0 r0 E q.1 q.2) : ys_W p l e R s m args below meth c Q kc kz D cl ad cT sh A H0 nL mods g0 r0 E pc (b, fds, lv, sv) := by
  unfold ys_hl2i at hs
  split at hs
  · rename_i x t
    cases Option.some.inj hs
    have k := k _ List.mem_cons_self
    intro r H locs ls st h
    obtain ⟨st1, e1, h1, hx⟩ := ys_rep_pop h
    subst e1
    obtain ⟨r', hag, hbb, hl, hsc, hst, hval⟩ := ys_fl2i h.1 h.2.1.1 hx
    refine lv_l2i hexec hb hd hval.symm ?_
    exact k r' H locs ls _ (ys_rep_push (ys_rep_ext h1 hag hbb hl hsc) (.inl (.inl (ys_nm false b x).2)) hst)
  · cases hs
/-- an int to a long -/
def ys_hi2l (pc : Nat) (b : ys_B) (fds : ys_F) (lv : List (Nat × ys_V)) (sv : List ys_V) : Option (List (Nat × ys_S)) := match sv with
  | .inl (.inl x) :: t => if ys_inr false b.1 x = true then some [(pc + 1, b, fds, lv, .inl (.inr x) :: t)] else none
  | _ => none
theorem ys_ki2l (hexec : p.tables.exec = Jvm.exec) (hb : c.code = cc) (hd : decode cc pc = .ok (.i2l, 1)) (hs : ys_hi2l pc b fds lv sv = some succ) (k : ∀ q ∈ succ, ys_W p l e R s m args below meth c Q kc kz D cl ad cT sh A H0 nL mods g0 r0 E q.1 q.2) : ys_W p l e R s m args below meth c Q kc kz D cl ad cT sh A H0 nL mods g0 r0 E pc (b, fds, lv, sv) := by
  unfold ys_hi2l at hs
  split at hs
  · rename_i x t
    split at hs
    · rename_i hi
      cases Option.some.inj hs
      have k := k _ List.mem_cons_self
      intro r H locs ls st h
      obtain ⟨st1, e1, h1, hx⟩ := ys_rep_pop h
      subst e1
      refine lv_i2l hexec hb hd (ys_i2l h.1.1 hi) ?_
      exact k r H locs ls _ (ys_rep_push h1 (.inl (.inr x)) hx)
    · cases hs
  · cases hs
/-- one more value -/
def ys_hpush (pc : Nat) (b : ys_B) (fds : ys_F) (lv : List (Nat × ys_V)) (sv : List ys_V) (v : ys_V) : Option (List (Nat × ys_S)) := some [(pc, b, fds, lv, v :: sv)]
theorem ys_kpush {pc' : Nat} {v : ys_V} (hv : ∀ n, ys_stV n v) (hrow : ∀ (r : Nat → Int) (H : Heap) (locs : List Loc) (ls : Array Slot) (rest : List Value), W p l e R s m args below meth c H locs kc kz Q (F0 m pc' ls (ys_den ad r v :: rest)) → W p l e R s m args below meth c H locs kc kz Q (F0 m pc ls rest)) (hs : ys_hpush pc' b fds lv sv v = some succ) (k : ∀ q ∈ succ, ys_W p l e R s m args below meth c Q kc kz D cl ad cT sh A H0 nL mods g0 r0 E q.1 q.2) : ys_W p l e R s m args below meth c Q kc kz D cl ad cT sh A H0 nL mods g0 r0 E pc (b, fds, lv, sv) := by
  cases Option.some.inj hs
  have k := k _ List.mem_cons_self
  intro r H locs ls st h
  exact hrow r _ _ _ _ (k r H locs ls _ (ys_rep_push h v (hv _)))
/-- a place of the frame is read: kind 0 an int, 1 a long, 2 a reference -/
def ys_kind (v : ys_V) : Nat := match v with
  | .inl (.inl _) => 0
  | .inl (.inr _) => 1
  | .inr (some _) => 2
  | .inr none => 3
def ys_cv (v : ys_E) (x : ys_V) : ys_V := match x with
  | .inl (.inl e) => .inl (.inl (ys_ce v e))
  | .inl (.inr e) => .inl (.inr (ys_ce v e))
  | .inr o => .inr o
theorem ys_cv_den {ad : Nat → Nat} {r : Nat → Int} {v : ys_E} (h : ys_ok r v) (x : ys_V) : ys_den ad r (ys_cv v x) = ys_den ad r x := by
  rcases x with (y | y) | y
  · show Value.int _ = Value.int _
    rw [ys_ce_ev h]
  · show Value.long _ = Value.long _
    rw [ys_ce_ev h]
  · rfl
theorem ys_cv_st {n : Nat} {v : ys_E} {x : ys_V} (h : ys_stV n x) : ys_stV n (ys_cv v x) := by
  rcases x with (y | y) | y
  · exact ys_ce_st (e := y) h
  · exact ys_ce_st (e := y) h
  · trivial
def ys_hload (t : Nat) (i : Nat) (pc : Nat) (b : ys_B) (fds : ys_F) (lv : List (Nat × ys_V)) (sv : List ys_V) : Option (List (Nat × ys_S)) := match lv.lookup i with
  | some v => if ys_kind v = t then some [(pc, b, fds, lv, ys_cv b.1 v :: sv)] else none
  | none => none
theorem ys_kload {t i pc' : Nat} (hrow : ∀ (r : Nat → Int) (v : ys_V) (H : Heap) (locs : List Loc) (ls : Array Slot) (rest : List Value), ys_kind v = t → ls[i]? = some (.val (ys_den ad r v)) → W p l e R s m args below meth c H locs kc kz Q (F0 m pc' ls (ys_den ad r v :: rest)) → W p l e R s m args below meth c H locs kc kz Q (F0 m pc ls rest)) (hs : ys_hload t i pc' b fds lv sv = some succ) (k : ∀ q ∈ succ, ys_W p l e R s m args below meth c Q kc kz D cl ad cT sh A H0 nL mods g0 r0 E q.1 q.2) : ys_W p l e R s m args below meth c Q kc kz D cl ad cT sh A H0 nL mods g0 r0 E pc (b, fds, lv, sv) := by
  unfold ys_hload at hs
  split at hs
  · rename_i v hv
    split at hs
    · rename_i ht
      cases Option.some.inj hs
      have k := k _ List.mem_cons_self
      intro r H locs ls st h
      obtain ⟨g1, g2⟩ := ys_rep_loc h hv
      have h4 := k r H locs ls _ (ys_rep_push h (ys_cv b.1 v) (ys_cv_st g2))
      rw [ys_cv_den h.1.1] at h4
      exact hrow r v _ _ _ _ ht g1 h4
    · cases hs
  · cases hs
theorem ys_kind0 {v : ys_V} (h : ys_kind v = 0) : ∃ x, v = .inl (.inl x) := by
  rcases v with (x | x) | (_ | x)
  · exact ⟨x, rfl⟩
  · cases h
  · cases h
  · cases h
theorem ys_kind1 {v : ys_V} (h : ys_kind v = 1) : ∃ x, v = .inl (.inr x) := by
  rcases v with (x | x) | (_ | x)
  · cases h
  · exact ⟨x, rfl⟩
  · cases h
  · cases h
theorem ys_kind2 {v : ys_V} (h : ys_kind v = 2) : ∃ x, v = .inr (some x) := by
  rcases v with (x | x) | (_ | x)
  · cases h
  · cases h
  · cases h
  · exact ⟨x, rfl⟩
/-- a place of the frame is written -/
def ys_w1 (t : Nat) : Nat := if t = 1 then 1 else 0
def ys_stw (t : Nat) (lv : List (Nat × ys_V)) (i : Nat) (v : ys_V) : List (Nat × ys_V) := if t = 1 then ys_st2 lv i v else ys_st1 lv i v
def ys_hstore (t : Nat) (nL : Nat) (i : Nat) (pc : Nat) (b : ys_B) (fds : ys_F) (lv : List (Nat × ys_V)) (sv : List ys_V) : Option (List (Nat × ys_S)) := match sv with
  | v :: r => if ys_kind v = t && decide (i + ys_w1 t < nL) then some [(pc, b, fds, ys_stw t lv i v, r)] else none
  | [] => none
theorem ys_kstore {t i pc' : Nat} (hrow : ∀ (r : Nat → Int) (v : ys_V) (H : Heap) (locs : List Loc) (ls : Array Slot) (rest : List Value), ys_kind v = t → lv_has ls nL (ys_lvs ad r lv) → i + ys_w1 t < nL → (∀ ls' : Array Slot, lv_has ls' nL (ys_lvs ad r (ys_stw t lv i v)) → W p l e R s m args below meth c H locs kc kz Q (F0 m pc' ls' rest)) → W p l e R s m args below meth c H locs kc kz Q (F0 m pc ls (ys_den ad r v :: rest))) (hs : ys_hstore t nL i pc' b fds lv sv = some succ) (k : ∀ q ∈ succ, ys_W p l e R s m args below meth c Q kc kz D cl ad cT sh A H0 nL mods g0 r0 E q.1 q.2) : ys_W p l e R s m args below meth c Q kc kz D cl ad cT sh A H0 nL mods g0 r0 E pc (b, fds, lv, sv) := by
  unfold ys_hstore at hs
  split at hs
  · rename_i v sv'
    split at hs
    · rename_i ht
      rw [Bool.and_eq_true, decide_eq_true_eq, decide_eq_true_eq] at ht
      cases Option.some.inj hs
      have k := k _ List.mem_cons_self
      intro r H locs ls st h
      obtain ⟨st1, e1, h1, hv⟩ := ys_rep_pop h
      subst e1
      refine hrow r v _ _ _ _ ht.1 h.2.2.2.2.1 ht.2 fun ls' hls => k r H locs ls' _ ?_
      obtain ⟨g1, ⟨s0, s1, s2, s3⟩, g2, g3, g4, g5⟩ := h1
      refine ⟨g1, ⟨s0, s1, fun q hq => ?_, s3⟩, g2, g3, hls, g5⟩
      have hq : q ∈ ys_stw t lv i v := hq
      unfold ys_stw at hq
      split at hq
      · rcases List.mem_cons.mp hq with e | e
        · rw [e]; exact hv
        · exact s2 q ((List.mem_filter.mp e).1)
      · rcases List.mem_cons.mp hq with e | e
        · rw [e]; exact hv
        · exact s2 q ((List.mem_filter.mp e).1)
    · cases hs
  · cases hs
/-- a branch: the facts that hold on it -/
def ys_br (pc : Nat) (b : ys_B) (fs : List ys_L) (rest : ys_F × List (Nat × ys_V) × List ys_V) : List (Nat × ys_S) := match ys_ass b fs with
  | some b' => [(pc, b', rest)]
  | none => []
theorem ys_as_sc {n : Nat} {b b' : ys_B} {f : ys_L} (hn : b.1.length = n) (hs : ys_scB b) (hf : ys_stb n f) (h : ys_as b f = some b') : ys_scB b' := by
  have hl := ys_as_len h
  unfold ys_as at h
  split at h
  · cases h
  · cases Option.some.inj h
    intro g hg
    have key : ∀ g ∈ f :: b.2, ys_stb (ys_tg f f.1 b.1).length g := by
      intro g hg
      rw [ys_tg_len]
      rcases List.mem_cons.mp hg with e | e
      · rw [e, hn]; exact hf
      · exact hs g e
    refine key g ?_
    have hg : g ∈ (match f.1 with
      | [] => b.2
      | [q] => if q.2 = 1 then b.2 else if q.2 = -1 then b.2 else f :: b.2
      | _ => f :: b.2) := hg
    split at hg
    · exact List.mem_cons_of_mem _ hg
    · split at hg
      · exact List.mem_cons_of_mem _ hg
      · split at hg
        · exact List.mem_cons_of_mem _ hg
        · exact hg
    · exact hg
theorem ys_ass_sc : ∀ (fs : List ys_L) {n : Nat} {b b' : ys_B}, b.1.length = n → ys_scB b → (∀ f ∈ fs, ys_stb n f) → ys_ass b fs = some b' → ys_scB b'
  | [], n, b, b', hn, hs, hf, h => by cases Option.some.inj h; exact hs
  | f :: t, n, b, b', hn, hs, hf, h => by
    unfold ys_ass at h
    cases h1 : ys_as b f with
    | none => rw [h1] at h; cases h
    | some b1 =>
      rw [h1] at h
      exact ys_ass_sc t ((ys_as_len h1).trans hn) (ys_as_sc hn hs (hf f List.mem_cons_self) h1) (fun g hg => hf g (List.mem_cons_of_mem _ hg)) h
theorem ys_kbr {pc' : Nat} {fs : List ys_L} {r : Nat → Int} {H : Heap} {locs : List Loc} {ls : Array Slot} {st : List Value} (h : ys_rep D cl ad cT sh A H0 nL mods g0 r0 r E (b, fds, lv, sv) H locs ls st) (hf : ys_fk r fs) (hst : ∀ f ∈ fs, ys_stb b.1.length f) (k : ∀ q ∈ ys_br pc' b fs (fds, lv, sv), ys_W p l e R s m args below meth c Q kc kz D cl ad cT sh A H0 nL mods g0 r0 E q.1 q.2) : W p l e R s m args below meth c H locs kc kz Q (F0 m pc' ls st) := by
  obtain ⟨b', e1, h1⟩ := ys_ass_ok fs h.1 hf
  have hl := ys_ass_len fs e1
  unfold ys_br at k
  rw [e1] at k
  exact k _ List.mem_cons_self r H locs ls st (ys_rep_ext h (fun _ _ => rfl) h1 (Nat.le_of_eq hl.symm) (ys_ass_sc fs rfl h.2.1.1 hst e1))
theorem ys_stb_m1 {n : Nat} {f : ys_L} (h : ys_stb n f) : ys_stb n (ys_add f ([], -1)) := ys_stb_add h (ys_stb_cst (-1))
theorem ys_cf_st {n : Nat} {v : ys_E} {cd : ClassFile.Cond} {x y : ys_L} (hx : ys_stb n x) (hy : ys_stb n y) : ∀ f ∈ ys_cf v cd x y, ys_stb n f := by
  have one : ∀ {g : ys_L}, ys_stb n g → ∀ f ∈ [g], ys_stb n f := fun hg f hf => by rw [List.mem_singleton.mp hf]; exact hg
  cases cd with
  | eq =>
    intro f hf
    rcases List.mem_cons.mp hf with q | q
    · rw [q]; exact ys_stb_sub hx hy
    · rw [List.mem_singleton.mp q]; exact ys_stb_sub hy hx
  | ne =>
    show ∀ f ∈ ys_ne v x y, ys_stb n f
    unfold ys_ne
    split
    · exact one (ys_stb_m1 (ys_stb_sub hx hy))
    · split
      · exact one (ys_stb_m1 (ys_stb_sub hy hx))
      · intro f hf
        cases hf
  | lt => exact one (ys_stb_m1 (ys_stb_sub hy hx))
  | ge => exact one (ys_stb_sub hx hy)
  | gt => exact one (ys_stb_m1 (ys_stb_sub hx hy))
  | le => exact one (ys_stb_sub hy hx)
def ys_tgt (pc : Nat) (off : Int) : Option Nat := if 0 ≤ (pc : Int) + off then some ((pc : Int) + off).toNat else none
theorem ys_tgt_ok {off : Int} {t : Nat} (h : ys_tgt pc off = some t) : (pc : Int) + off = (t : Int) := by
  unfold ys_tgt at h
  split at h
  · cases Option.some.inj h
    omega
  · cases h
/-- a comparison of two ints, and where it goes -/
def ys_cmp2 (cd : ClassFile.Cond) (x y : ys_L) (pt pf : Nat) (b : ys_B) (rest : ys_F × List (Nat × ys_V) × List ys_V) : List (Nat × ys_S) := ((ys_cfs b.1 cd x y).flatMap fun fs => ys_br pt b fs rest) ++ ((ys_cfs b.1 (ys_cn cd) x y).flatMap fun fs => ys_br pf b fs rest)
theorem ys_cfs_st {n : Nat} {v : ys_E} {cd : ClassFile.Cond} {x y : ys_L} (hx : ys_stb n x) (hy : ys_stb n y) : ∀ fs ∈ ys_cfs v cd x y, ∀ f ∈ fs, ys_stb n f := by
  intro fs hfs f hf
  cases cd with
  | ne =>
    rcases List.mem_cons.mp hfs with q | q
    · rw [q] at hf
      rw [List.mem_singleton.mp hf]
      exact ys_stb_m1 (ys_stb_sub hx hy)
    · rw [List.mem_singleton.mp q] at hf
      rw [List.mem_singleton.mp hf]
      exact ys_stb_m1 (ys_stb_sub hy hx)
  | eq => exact ys_cf_st hx hy f (List.mem_singleton.mp hfs ▸ hf)
  | lt => exact ys_cf_st hx hy f (List.mem_singleton.mp hfs ▸ hf)
  | ge => exact ys_cf_st hx hy f (List.mem_singleton.mp hfs ▸ hf)
  | gt => exact ys_cf_st hx hy f (List.mem_singleton.mp hfs ▸ hf)
  | le => exact ys_cf_st hx hy f (List.mem_singleton.mp hfs ▸ hf)
theorem ys_kway {pc' : Nat} {cd : ClassFile.Cond} {x y : ys_L} {r : Nat → Int} {H : Heap} {locs : List Loc} {ls : Array Slot} {st : List Value} (h : ys_rep D cl ad cT sh A H0 nL mods g0 r0 r E (b, fds, lv, sv) H locs ls st) (hc : ys_ch cd (ys_ev r x) (ys_ev r y)) (sx : ys_stb b.1.length x) (sy : ys_stb b.1.length y) (k : ∀ q ∈ (ys_cfs b.1 cd x y).flatMap (fun fs => ys_br pc' b fs (fds, lv, sv)), ys_W p l e R s m args below meth c Q kc kz D cl ad cT sh A H0 nL mods g0 r0 E q.1 q.2) : W p l e R s m args below meth c H locs kc kz Q (F0 m pc' ls st) := by
  obtain ⟨fs, h1, h2⟩ := ys_cfs_ok h.1.1 hc
  exact ys_kbr h h2 (ys_cfs_st sx sy fs h1) (fun q hq => k q (List.mem_flatMap.mpr ⟨fs, h1, hq⟩))
def ys_hcmp (cd : ClassFile.Cond) (off : Int) (pc : Nat) (b : ys_B) (fds : ys_F) (lv : List (Nat × ys_V)) (sv : List ys_V) : Option (List (Nat × ys_S)) := match sv, ys_tgt pc off with
  | .inl (.inl y) :: .inl (.inl x) :: t, some tg => if ys_inr false b.1 x && ys_inr false b.1 y then some (ys_cmp2 cd x y tg (pc + 3) b (fds, lv, t)) else none
  | _, _ => none
def ys_hif (cd : ClassFile.Cond) (off : Int) (pc : Nat) (b : ys_B) (fds : ys_F) (lv : List (Nat × ys_V)) (sv : List ys_V) : Option (List (Nat × ys_S)) := match sv, ys_tgt pc off with
  | .inl (.inl x) :: t, some tg => if ys_inr false b.1 x then some (ys_cmp2 cd x ([], 0) tg (pc + 3) b (fds, lv, t)) else none
  | _, _ => none
def ys_ch32 (cd : ClassFile.Cond) (x y : Int32) : Prop := match cd with
  | .eq => x = y
  | .ne => ¬ x = y
  | .lt => x < y
  | .ge => y ≤ x
  | .gt => y < x
  | .le => x ≤ y
theorem ys_ch32_iff {cd : ClassFile.Cond} {x y : Int32} : ys_ch32 cd x y ↔ ys_ch cd x.toInt y.toInt := by
  cases cd with
  | eq => exact Int32.toInt_inj.symm
  | ne => exact not_congr Int32.toInt_inj.symm
  | lt => exact Int32.lt_iff_toInt_lt
  | ge => exact Int32.le_iff_toInt_le
  | gt => exact Int32.lt_iff_toInt_lt
  | le => exact Int32.le_iff_toInt_le
theorem ys_icmp (hexec : p.tables.exec = Jvm.exec) (hb : c.code = cc) {H : Heap} {locs : List Loc} {ls : Array Slot} {rest : List Value} {cd : ClassFile.Cond} {x y : Int32} {off : Int} {tgt : Nat} (hd : decode cc pc = .ok (.if_icmp cd off, 3)) (ht : (pc : Int) + off = (tgt : Int))
    (kt : ys_ch32 cd x y → W p l e R s m args below meth c H locs kc kz Q (F0 m tgt ls rest)) (kf : ¬ ys_ch32 cd x y → W p l e R s m args below meth c H locs kc kz Q (F0 m (pc + 3) ls rest)) : W p l e R s m args below meth c H locs kc kz Q (F0 m pc ls (.int y :: .int x :: rest)) := by
  cases cd with
  | eq => exact lv_icmp_eq hexec hb hd ht kt kf
  | ne => exact lv_icmp_ne hexec hb hd ht kt (fun hq => kf (fun hn => hn hq))
  | lt => exact lv_icmp_lt hexec hb hd ht kt kf
  | ge => exact lv_icmp_ge hexec hb hd ht kt kf
  | gt => exact lv_icmp_gt hexec hb hd ht kt kf
  | le => exact lv_icmp_le hexec hb hd ht kt kf
theorem ys_ifc (hexec : p.tables.exec = Jvm.exec) (hb : c.code = cc) {H : Heap} {locs : List Loc} {ls : Array Slot} {rest : List Value} {cd : ClassFile.Cond} {x : Int32} {off : Int} {tgt : Nat} (hd : decode cc pc = .ok (.ifCond cd off, 3)) (ht : (pc : Int) + off = (tgt : Int))
    (kt : ys_ch32 cd x 0 → W p l e R s m args below meth c H locs kc kz Q (F0 m tgt ls rest)) (kf : ¬ ys_ch32 cd x 0 → W p l e R s m args below meth c H locs kc kz Q (F0 m (pc + 3) ls rest)) : W p l e R s m args below meth c H locs kc kz Q (F0 m pc ls (.int x :: rest)) := by
  cases cd with
  | eq => exact lv_if_eq hexec hb hd ht kt kf
  | ne => exact lv_if_ne hexec hb hd ht kt (fun hq => kf (fun hn => hn hq))
  | lt => exact lv_if_lt hexec hb hd ht kt kf
  | ge => exact lv_if_ge hexec hb hd ht kt kf
  | gt => exact lv_if_gt hexec hb hd ht kt kf
  | le => exact lv_if_le hexec hb hd ht kt kf
theorem ys_kcmp2 {cd : ClassFile.Cond} {x y : ys_L} {pt pf : Nat} (hx : ∀ r, ys_okB r b → (Int32.ofInt (ys_ev r x)).toInt = ys_ev r x) (hy : ∀ r, ys_okB r b → (Int32.ofInt (ys_ev r y)).toInt = ys_ev r y) (k : ∀ q ∈ ys_cmp2 cd x y pt pf b (fds, lv, sv), ys_W p l e R s m args below meth c Q kc kz D cl ad cT sh A H0 nL mods g0 r0 E q.1 q.2) {r : Nat → Int} {H : Heap} {locs : List Loc} {ls : Array Slot} {st : List Value} (h : ys_rep D cl ad cT sh A H0 nL mods g0 r0 r E (b, fds, lv, sv) H locs ls st) (sx : ys_stb b.1.length x) (sy : ys_stb b.1.length y) :
    (ys_ch32 cd (Int32.ofInt (ys_ev r x)) (Int32.ofInt (ys_ev r y)) → W p l e R s m args below meth c H locs kc kz Q (F0 m pt ls st)) ∧ (¬ ys_ch32 cd (Int32.ofInt (ys_ev r x)) (Int32.ofInt (ys_ev r y)) → W p l e R s m args below meth c H locs kc kz Q (F0 m pf ls st)) := by
  have hb := h.1
  rw [ys_ch32_iff, hx r hb, hy r hb]
  refine ⟨fun hc => ?_, fun hc => ?_⟩
  · exact ys_kway h hc sx sy (fun q hq => k q (List.mem_append_left _ hq))
  · exact ys_kway h (ys_cn_ok hc) sx sy (fun q hq => k q (List.mem_append_right _ hq))
theorem ys_kcmp {cd : ClassFile.Cond} {off : Int} (hexec : p.tables.exec = Jvm.exec) (hb : c.code = cc) (hd : decode cc pc = .ok (.if_icmp cd off, 3)) (hs : ys_hcmp cd off pc b fds lv sv = some succ) (k : ∀ q ∈ succ, ys_W p l e R s m args below meth c Q kc kz D cl ad cT sh A H0 nL mods g0 r0 E q.1 q.2) : ys_W p l e R s m args below meth c Q kc kz D cl ad cT sh A H0 nL mods g0 r0 E pc (b, fds, lv, sv) := by
  unfold ys_hcmp at hs
  split at hs
  · rename_i y x t tg ht
    split at hs
    · rename_i hi
      rw [Bool.and_eq_true] at hi
      cases Option.some.inj hs
      intro r H locs ls st h
      obtain ⟨st1, e1, h1, hy⟩ := ys_rep_pop h
      obtain ⟨st2, e2, h2, hx⟩ := ys_rep_pop h1
      subst e1; subst e2
      have kk := ys_kcmp2 (fun r hr => ys_inr32 hr.1 hi.1) (fun r hr => ys_inr32 hr.1 hi.2) k h2 hx hy
      exact ys_icmp hexec hb hd (ys_tgt_ok ht) kk.1 kk.2
    · cases hs
  · cases hs
theorem ys_kif {cd : ClassFile.Cond} {off : Int} (hexec : p.tables.exec = Jvm.exec) (hb : c.code = cc) (hd : decode cc pc = .ok (.ifCond cd off, 3)) (hs : ys_hif cd off pc b fds lv sv = some succ) (k : ∀ q ∈ succ, ys_W p l e R s m args below meth c Q kc kz D cl ad cT sh A H0 nL mods g0 r0 E q.1 q.2) : ys_W p l e R s m args below meth c Q kc kz D cl ad cT sh A H0 nL mods g0 r0 E pc (b, fds, lv, sv) := by
  unfold ys_hif at hs
  split at hs
  · rename_i x t tg ht
    split at hs
    · rename_i hi
      cases Option.some.inj hs
      intro r H locs ls st h
      obtain ⟨st1, e1, h1, hx⟩ := ys_rep_pop h
      subst e1
      have z0 : ∀ r : Nat → Int, ys_ev r (([], 0) : ys_L) = 0 := fun _ => rfl
      have kk := ys_kcmp2 (fun r hr => ys_inr32 hr.1 hi) (fun r _ => by rw [z0]; rfl) k h1 hx (ys_stb_cst 0)
      rw [z0, show Int32.ofInt 0 = 0 from rfl] at kk
      exact ys_ifc hexec hb hd (ys_tgt_ok ht) kk.1 kk.2
    · cases hs
  · cases hs
/-- a comparison of two longs, with the branch that follows -/
def ys_hlcmp (nx : Option (Instr × Nat)) (pc : Nat) (b : ys_B) (fds : ys_F) (lv : List (Nat × ys_V)) (sv : List ys_V) : Option (List (Nat × ys_S)) := match sv, nx with
  | .inl (.inr y) :: .inl (.inr x) :: t, some (.ifCond cd off, 3) => (match ys_tgt (pc + 1) off with
    | some tg => if ys_inr true b.1 x && ys_inr true b.1 y then some (ys_cmp2 cd x y tg (pc + 1 + 3) b (fds, lv, t)) else none
    | none => none)
  | _, _ => none
theorem ys_lcmp_iff {cd : ClassFile.Cond} {x y : Int64} : ys_ch32 cd (lg_cmp x y) 0 ↔ ys_ch cd x.toInt y.toInt := by
  cases cd with
  | eq => exact (lg_cmp_eq x y).trans Int64.toInt_inj.symm
  | ne => exact not_congr ((lg_cmp_eq x y).trans Int64.toInt_inj.symm)
  | lt => exact (lg_cmp_lt x y).trans Int64.lt_iff_toInt_lt
  | ge => exact (lg_cmp_ge x y).trans Int64.le_iff_toInt_le
  | gt => exact (lg_cmp_gt x y).trans Int64.lt_iff_toInt_lt
  | le => exact (lg_cmp_le x y).trans Int64.le_iff_toInt_le
theorem ys_klcmp {nx : Option (Instr × Nat)} (hexec : p.tables.exec = Jvm.exec) (hb : c.code = cc) (hd : decode cc pc = .ok (.lcmp, 1)) (hn : ∀ i, nx = some i → decode cc (pc + 1) = .ok i) (hs : ys_hlcmp nx pc b fds lv sv = some succ) (k : ∀ q ∈ succ, ys_W p l e R s m args below meth c Q kc kz D cl ad cT sh A H0 nL mods g0 r0 E q.1 q.2) : ys_W p l e R s m args below meth c Q kc kz D cl ad cT sh A H0 nL mods g0 r0 E pc (b, fds, lv, sv) := by
  unfold ys_hlcmp at hs
  split at hs
  · rename_i y x t cd off hd2
    split at hs
    · rename_i tg ht
      split at hs
      · rename_i hi
        rw [Bool.and_eq_true] at hi
        cases Option.some.inj hs
        intro r H locs ls st h
        obtain ⟨st1, e1, h1, hy⟩ := ys_rep_pop h
        obtain ⟨st2, e2, h2, hx⟩ := ys_rep_pop h1
        subst e1; subst e2
        refine W.lcmp hexec hb hd ?_
        refine ys_ifc (pc := pc + 1) hexec hb (hn _ rfl) (ys_tgt_ok ht) (fun hc => ?_) (fun hc => ?_)
        · rw [ys_lcmp_iff, ys_inr64 h.1.1 hi.1, ys_inr64 h.1.1 hi.2] at hc
          exact ys_kway h2 hc hx hy (fun q hq => k q (List.mem_append_left _ hq))
        · rw [ys_lcmp_iff, ys_inr64 h.1.1 hi.1, ys_inr64 h.1.1 hi.2] at hc
          exact ys_kway h2 (ys_cn_ok hc) hx hy (fun q hq => k q (List.mem_append_right _ hq))
      · cases hs
    · cases hs
  · cases hs
/-- on to another place -/
def ys_hgoto (off : Int) (pc : Nat) (b : ys_B) (fds : ys_F) (lv : List (Nat × ys_V)) (sv : List ys_V) : Option (List (Nat × ys_S)) := match ys_tgt pc off with
  | some tg => some [(tg, b, fds, lv, sv)]
  | none => none
theorem ys_kgoto {off : Int} (hexec : p.tables.exec = Jvm.exec) (hb : c.code = cc) (hd : decode cc pc = .ok (.goto off, 3)) (hs : ys_hgoto off pc b fds lv sv = some succ) (k : ∀ q ∈ succ, ys_W p l e R s m args below meth c Q kc kz D cl ad cT sh A H0 nL mods g0 r0 E q.1 q.2) : ys_W p l e R s m args below meth c Q kc kz D cl ad cT sh A H0 nL mods g0 r0 E pc (b, fds, lv, sv) := by
  unfold ys_hgoto at hs
  split at hs
  · rename_i tg ht
    cases Option.some.inj hs
    have k := k _ List.mem_cons_self
    intro r H locs ls st h
    exact lv_goto hexec hb hd (ys_tgt_ok ht) (k r H locs ls st h)
  · cases hs
end YSV
end
section
/-! fields and arrays -/
def ys_fget (fs : List (List ys_V)) (k j : Nat) : Option ys_V := (fs.getD k [])[j]?
def ys_fset (fs : List (List ys_V)) (k j : Nat) (v : ys_V) : List (List ys_V) := fs.set k ((fs.getD k []).set j v)
/-- a link to a field: the kind of the object, the place of the field, its type (0 int, 1 long, 3 boolean, 2 a reference) -/
def ys_tk (t : FieldType) : Nat := match t with
  | .int => 0
  | .long => 1
  | .boolean => 3
  | _ => 2
def ys_Fl (own : String) (Ts : List Cond) (cl : List vw_C) (idx ci j tk : Nat) : Prop := ∃ (C : String) (T : u_T) (N : Nat) (ty0 : Nat → FieldType), cl[ci]? = some (C, T, N) ∧ j < N ∧ (∀ w ∈ u_ws C T N, w ∈ Ts) ∧ (∀ k, k < N → parseFieldDescriptor (T k).2.2.1 = some (ty0 k)) ∧ (∀ a, a < N → ∀ b, b < N → a ≠ b → (T a).2.1 ≠ (T b).2.1) ∧ Cond.fieldLink own idx C (T j).2.1 (T j).2.2.1 ∈ Ts ∧ (T j).1 = C ∧ (tk ≠ 2 → (T j).2.2.2 = false) ∧ ys_tk (ty0 j) = tk
abbrev ys_FL : Type := List (Nat × (Nat × Nat × Nat))
section YSM
variable {p : Program} {l : Launch} {e : Env} {R : Room} {s : State} {m : MethodId} {args : Array Value} {below : List Frame} {meth : Method} {c : Code} {Q : State → Prop} {kc kz : Nat} {D : va_G} {cl : List vw_C} {ad : Nat → Nat} {cT : Nat → ClassId} {sh : List ys_C} {A : Nat → Prop} {H0 : Heap} {nL : Nat} {mods : List Nat} {g0 : Nat → Nat → Int} {r0 : Nat → Int} {E : Nat} {pc : Nat} {b : ys_B} {fds : ys_F} {lv : List (Nat × ys_V)} {sv : List ys_V} {succ : List (Nat × ys_S)} {cc : ByteArray} {own : String} {Ts : List Cond} {tys : List (ClassId × FieldType)}
def ys_hget (sh : List ys_C) (fl : ys_FL) (idx : Nat) (pc : Nat) (b : ys_B) (fds : ys_F) (lv : List (Nat × ys_V)) (sv : List ys_V) : Option (List (Nat × ys_S)) := match sv, fl.lookup idx with
  | .inr (some k) :: t, some (ci, j, _) => (match ys_fget fds.1 k j with
    | some v => if sh[k]? = some (.inl ci) then some [(pc + 3, b, fds, lv, v :: t)] else none
    | none => none)
  | _, _ => none
theorem ys_kget {fl : ys_FL} {idx : Nat} (hexec : p.tables.exec = Jvm.exec) (hb : c.code = cc) (hts : ∀ w ∈ Ts, w.before args s = true) (hown : s.vm.findClass own = some m.cls) (hK : va_K D cl tys s) (hfl : ∀ idx ci j tk, fl.lookup idx = some (ci, j, tk) → ys_Fl own Ts cl idx ci j tk) (hd : decode cc pc = .ok (.getfield idx, 3)) (hs : ys_hget sh fl idx pc b fds lv sv = some succ) (k : ∀ q ∈ succ, ys_W p l e R s m args below meth c Q kc kz D cl ad cT sh A H0 nL mods g0 r0 E q.1 q.2) : ys_W p l e R s m args below meth c Q kc kz D cl ad cT sh A H0 nL mods g0 r0 E pc (b, fds, lv, sv) := by
  unfold ys_hget at hs
  split at hs
  · rename_i kc t ci j tk hlk
    split at hs
    · rename_i v hv
      split at hs
      · rename_i hsh
        cases Option.some.inj hs
        have k := k _ List.mem_cons_self
        obtain ⟨C, T, N, ty0, h1, h2, h3, h4, h5, h6, h7, -, -⟩ := hfl _ _ _ _ hlk
        intro r H locs ls st h
        obtain ⟨st1, e1, g1, -⟩ := ys_rep_pop h
        subst e1
        obtain ⟨g, hg, hP, hD, hS⟩ := g1.2.2.2.1
        have hw := ys_wld_get (ad := ad) (cT := cT) (r := r) (g := g) (fds := fds.1) hsh
        have hmem : v ∈ fds.1.getD kc [] := List.mem_of_getElem? hv
        have hsv : ys_stV b.1.length v := by
          rw [List.getD_eq_getElem?_getD] at hmem
          cases hc : fds.1[kc]? with
          | none => rw [hc] at hmem; cases hmem
          | some w => rw [hc] at hmem; exact h.2.1.2.1 w (List.mem_of_getElem? hc) v hmem
        refine va_get (v := ys_den ad r v) hexec hb hts h3 hown hK hP kc hw h1 j h2 (hts _ h6) (fun _ hq => h7 ▸ hq) ?_ hd (k r H locs ls _ (ys_rep_push g1 v hsv))
        rw [List.getElem?_map]
        show Option.map _ ((fds.1.getD kc [])[j]?) = _
        rw [show (fds.1.getD kc [])[j]? = some v from hv]
        rfl
      · cases hs
    · cases hs
  · cases hs
def ys_fits (tk : Nat) (v : ys_E) (x : ys_V) : Bool := match x with
  | .inl (.inl e) => tk == 0 || (tk == 3 && (ys_geb v e 0 && ys_geb v (ys_scale (-1) e) (-1)))
  | .inl (.inr _) => tk == 1
  | _ => false
def ys_hput (sh : List ys_C) (fl : ys_FL) (idx : Nat) (pc : Nat) (b : ys_B) (fds : ys_F) (lv : List (Nat × ys_V)) (sv : List ys_V) : Option (List (Nat × ys_S)) := match sv, fl.lookup idx with
  | v :: .inr (some k) :: t, some (ci, j, tk) => if ys_fits tk b.1 v && decide (sh[k]? = some (.inl ci)) && decide (j < (fds.1.getD k []).length) then some [(pc + 3, b, (ys_fset fds.1 k j v, fds.2), lv, t)] else none
  | _, _ => none
theorem ys_01 {x : Int} (h0 : 0 ≤ x) (h1 : x ≤ 1) : Int32.ofInt x = 0 ∨ Int32.ofInt x = 1 := by
  rcases (show x = 0 ∨ x = 1 by omega) with q | q
  · rw [q]; exact Or.inl rfl
  · rw [q]; exact Or.inr rfl
theorem ys_tk0 {t : FieldType} (h : ys_tk t = 0) : t = .int := by
  cases t <;> first | rfl | cases h
theorem ys_tk1 {t : FieldType} (h : ys_tk t = 1) : t = .long := by
  cases t <;> first | rfl | cases h
theorem ys_tk3 {t : FieldType} (h : ys_tk t = 3) : t = .boolean := by
  cases t <;> first | rfl | cases h
theorem ys_fits_ok {r : Nat → Int} {tk : Nat} {v : ys_E} {x : ys_V} {ty : FieldType} (hv : ys_ok r v) (ht : ys_tk ty = tk) (h : ys_fits tk v x = true) : narrow ty (ys_den ad r x) = ys_den ad r x ∧ fits ty (ys_den ad r x) = true ∧ tk ≠ 2 := by
  rcases x with (x | x) | x
  · unfold ys_fits at h
    simp only [Bool.or_eq_true, Bool.and_eq_true, beq_iff_eq] at h
    rcases h with h | ⟨h, h1, h2⟩
    · rw [h] at ht
      rw [ys_tk0 ht]
      exact ⟨rfl, rfl, by omega⟩
    · rw [h] at ht
      rw [ys_tk3 ht]
      have g1 := ys_geb_le hv h1
      have g2 := ys_geb_le hv h2
      rw [ys_scale_ev] at g2
      rcases ys_01 g1 (show ys_ev r x ≤ 1 by omega) with q | q
      · refine ⟨?_, ?_, by omega⟩
        · show Value.int (Int32.ofInt (ys_ev r x) &&& 1) = Value.int (Int32.ofInt (ys_ev r x))
          rw [q]; rfl
        · show (Int32.ofInt (ys_ev r x) == 0 || Int32.ofInt (ys_ev r x) == 1) = true
          rw [q]; rfl
      · refine ⟨?_, ?_, by omega⟩
        · show Value.int (Int32.ofInt (ys_ev r x) &&& 1) = Value.int (Int32.ofInt (ys_ev r x))
          rw [q]; rfl
        · show (Int32.ofInt (ys_ev r x) == 0 || Int32.ofInt (ys_ev r x) == 1) = true
          rw [q]; rfl
  · unfold ys_fits at h
    simp only [beq_iff_eq] at h
    rw [h] at ht
    rw [ys_tk1 ht]
    exact ⟨rfl, rfl, by omega⟩
  · unfold ys_fits at h
    cases h
theorem ys_mem_set {α : Type} {x y : α} : ∀ {l : List α} {i : Nat}, x ∈ l.set i y → x = y ∨ x ∈ l
  | [], i, h => by
    rw [List.set_nil] at h
    exact Or.inr h
  | z :: t, 0, h => by
    rcases List.mem_cons.mp h with q | q
    · exact Or.inl q
    · exact Or.inr (List.mem_cons_of_mem _ q)
  | z :: t, i + 1, h => by
    rcases List.mem_cons.mp h with q | q
    · exact Or.inr (q ▸ List.mem_cons_self)
    · rcases ys_mem_set q with q | q
      · exact Or.inl q
      · exact Or.inr (List.mem_cons_of_mem _ q)
theorem ys_fset_mem {fs : List (List ys_V)} {k j n : Nat} {v : ys_V} (h : ∀ w ∈ fs, ∀ v ∈ w, ys_stV n v) (hv : ys_stV n v) : ∀ w ∈ ys_fset fs k j v, ∀ v ∈ w, ys_stV n v := by
  intro w hw u hu
  rcases ys_mem_set hw with q | q
  · rw [q] at hu
    rcases ys_mem_set hu with q2 | q2
    · rw [q2]; exact hv
    · rw [List.getD_eq_getElem?_getD] at q2
      cases hc : fs[k]? with
      | none => rw [hc] at q2; cases q2
      | some x => rw [hc] at q2; exact h x (List.mem_of_getElem? hc) u q2
  · exact h w q u hu
theorem ys_fset_get {fs : List (List ys_V)} {k j i : Nat} {v : ys_V} (h : i ≠ k) : (ys_fset fs k j v).getD i [] = fs.getD i [] := by
  unfold ys_fset
  rw [List.getD_eq_getElem?_getD, List.getElem?_set_ne (Ne.symm h), ← List.getD_eq_getElem?_getD]
theorem ys_fset_self {fs : List (List ys_V)} {k j : Nat} {v : ys_V} (h : j < (fs.getD k []).length) : (ys_fset fs k j v).getD k [] = (fs.getD k []).set j v := by
  unfold ys_fset
  have hk : k < fs.length := by
    rcases Nat.lt_or_ge k fs.length with q | q
    · exact q
    · rw [List.getD_eq_getElem?_getD, List.getElem?_eq_none q] at h
      cases h
  rw [List.getD_eq_getElem?_getD, List.getElem?_set_self hk]
  rfl
theorem ys_kput {fl : ys_FL} {idx : Nat} (hexec : p.tables.exec = Jvm.exec) (hb : c.code = cc) (hts : ∀ w ∈ Ts, w.before args s = true) (hown : s.vm.findClass own = some m.cls) (hK : va_K D cl tys s) (hfl : ∀ idx ci j tk, fl.lookup idx = some (ci, j, tk) → ys_Fl own Ts cl idx ci j tk) (hd : decode cc pc = .ok (.putfield idx, 3)) (hs : ys_hput sh fl idx pc b fds lv sv = some succ) (k : ∀ q ∈ succ, ys_W p l e R s m args below meth c Q kc kz D cl ad cT sh A H0 nL mods g0 r0 E q.1 q.2) : ys_W p l e R s m args below meth c Q kc kz D cl ad cT sh A H0 nL mods g0 r0 E pc (b, fds, lv, sv) := by
  unfold ys_hput at hs
  split at hs
  · rename_i v kc t ci j tk hlk
    split at hs
    · rename_i hc
      rw [Bool.and_eq_true, Bool.and_eq_true, decide_eq_true_eq, decide_eq_true_eq] at hc
      obtain ⟨⟨hfit, hsh⟩, hjl⟩ := hc
      cases Option.some.inj hs
      have k := k _ List.mem_cons_self
      obtain ⟨C, T, N, ty0, h1, h2, h3, h4, h5, h6, h7, h8, h9⟩ := hfl _ _ _ _ hlk
      intro r H locs ls st h
      obtain ⟨st1, e1, g1, hv⟩ := ys_rep_pop h
      obtain ⟨st2, e2, g2, -⟩ := ys_rep_pop g1
      subst e1; subst e2
      obtain ⟨q1, ⟨s0, s1, s2, s3⟩, q2, ⟨g, hg, hP, hD, hS⟩, q4, q5⟩ := g2
      obtain ⟨f1, f2, f3⟩ := ys_fits_ok (ad := ad) h.1.1 h9 hfit
      have hw := ys_wld_get (ad := ad) (cT := cT) (r := r) (g := g) (fds := fds.1) hsh
      refine va_put (v := ys_den ad r v) (ty := ty0 j) hexec hb hts h3 ty0 h4 h5 hown hK hP hD hS kc hw h1 j h2 (hts _ h6) (fun _ hq => h7 ▸ hq) (h8 f3) (h4 j h2) f1 f2 (by rw [List.length_map]; exact hjl) hd fun H1 locs1 hP1 hD1 hS1 => ?_
      have ew := ys_wld_set (ad := ad) (cT := cT) (r := r) (g := g) (g' := g) (fds := fds.1) (fds' := ys_fset fds.1 kc j v) hsh (fun i hi => ⟨rfl, ys_fset_get hi⟩)
      have ec : ys_cel ad cT r g kc (.inl ci) ((ys_fset fds.1 kc j v).getD kc []) = (ad kc, .inr (ci, ((fds.1.getD kc []).map (ys_den ad r)).set j (ys_den ad r v))) := by
        rw [ys_fset_self hjl]
        show (ad kc, Sum.inr (ci, ((fds.1.getD kc []).set j v).map (ys_den ad r))) = _
        rw [List.map_set]
      rw [ec] at ew
      refine k r H1 locs1 ls _ ⟨q1, ⟨s0, ys_fset_mem s1 hv, s2, s3⟩, q2, ⟨g, hg, ?_, ?_, hS1⟩, q4, q5⟩
      · show va_P D cl (ys_wld ad cT sh r g (ys_fset fds.1 kc j v)) H1
        rw [ew]
        exact hP1
      · show va_D A (ys_wld ad cT sh r g (ys_fset fds.1 kc j v))
        rw [ew]
        exact hD1
    · cases hs
  · cases hs
/-! reading an array -/
def ys_hul (q w : Int × Int) : Int × Int := (if q.1 ≤ w.1 then q.1 else w.1, if q.2 ≤ w.2 then w.2 else q.2)
def ys_not (v : ys_E) (e : ys_L) (i : Nat) : Bool := ys_geb v e ((i : Int) + 1) || ys_geb v (ys_scale (-1) e) (1 - (i : Int))
def ys_rds (v : ys_E) (e : ys_L) : List (Nat × (Int × Int)) → Int × Int → Int × Int
  | [], q => q
  | x :: t, q => ys_rds v e t (if ys_not v e x.1 then q else ys_hul q x.2)
def ys_sgl (v : ys_E) (e : ys_L) : Option Nat := match ys_low v e, ys_high v e with
  | some l, some u => if l = u then some l.toNat else none
  | _, _ => none
theorem ys_sgl_ok {r : Nat → Int} {v : ys_E} (hv : ys_ok r v) {e : ys_L} {i n : Nat} (h : ys_sgl v e = some i) (he : ys_ev r e = (n : Int)) : i = n := by
  unfold ys_sgl at h
  split at h
  · rename_i l u hl hu
    split at h
    · cases Option.some.inj h
      have := ys_low_le hv hl
      have := ys_high_le hv hu
      omega
    · cases h
  · cases h
def ys_rd (v : ys_E) (a : ys_R) (e : ys_L) : Int × Int := match ys_sgl v e with
  | some i => ys_rat a i
  | none => ys_rds v e a.2 a.1
/-- a place of its own, where the index may be -/
def ys_spl (v : ys_E) (a : ys_R) (e : ys_L) : Option Nat := match ys_sgl v e with
  | some _ => none
  | none => (match a.2.find? (fun x => !ys_not v e x.1) with
    | some x => some x.1
    | none => none)
def ys_cut3 (pc : Nat) (b : ys_B) (e : ys_L) (i : Nat) (rest : ys_F × List (Nat × ys_V) × List ys_V) : List (Nat × ys_S) := ys_br pc b [ys_sub e ([], (i : Int)), ys_sub ([], (i : Int)) e] rest ++ (ys_br pc b [ys_sub ([], (i : Int) - 1) e] rest ++ ys_br pc b [ys_sub e ([], (i : Int) + 1)] rest)
theorem ys_not_ok {r : Nat → Int} {v : ys_E} (hv : ys_ok r v) {e : ys_L} {i : Nat} (h : ys_not v e i = true) : ys_ev r e ≠ (i : Int) := by
  unfold ys_not at h
  rcases (Bool.or_eq_true _ _).mp h with q | q
  · have := ys_geb_le hv q
    omega
  · have := ys_geb_le hv q
    rw [ys_scale_ev] at this
    omega
theorem ys_hul_l {q w : Int × Int} {z : Int} (h : q.1 ≤ z ∧ z ≤ q.2) : (ys_hul q w).1 ≤ z ∧ z ≤ (ys_hul q w).2 := by
  unfold ys_hul
  constructor
  · show (if q.1 ≤ w.1 then q.1 else w.1) ≤ z
    split <;> omega
  · show z ≤ (if q.2 ≤ w.2 then w.2 else q.2)
    split <;> omega
theorem ys_hul_r {q w : Int × Int} {z : Int} (h : w.1 ≤ z ∧ z ≤ w.2) : (ys_hul q w).1 ≤ z ∧ z ≤ (ys_hul q w).2 := by
  unfold ys_hul
  constructor
  · show (if q.1 ≤ w.1 then q.1 else w.1) ≤ z
    split <;> omega
  · show z ≤ (if q.2 ≤ w.2 then w.2 else q.2)
    split <;> omega
theorem ys_rds_acc {v : ys_E} {e : ys_L} {z : Int} : ∀ (l : List (Nat × (Int × Int))) (q : Int × Int), q.1 ≤ z ∧ z ≤ q.2 → (ys_rds v e l q).1 ≤ z ∧ z ≤ (ys_rds v e l q).2
  | [], q, h => h
  | x :: t, q, h => by
    unfold ys_rds
    refine ys_rds_acc t _ ?_
    split
    · exact h
    · exact ys_hul_l h
theorem ys_rds_in {r : Nat → Int} {v : ys_E} (hv : ys_ok r v) {e : ys_L} {z : Int} {n : Nat} (he : ys_ev r e = (n : Int)) {w : Int × Int} (hw : w.1 ≤ z ∧ z ≤ w.2) : ∀ (l : List (Nat × (Int × Int))) (q : Int × Int), l.lookup n = some w → (ys_rds v e l q).1 ≤ z ∧ z ≤ (ys_rds v e l q).2
  | [], q, h => by cases h
  | (i, x) :: t, q, h => by
    unfold ys_rds
    unfold List.lookup at h
    cases hc : n == i with
    | true =>
      rw [hc] at h
      cases h
      rw [beq_iff_eq] at hc
      subst hc
      refine ys_rds_acc t _ ?_
      split
      · rename_i hn
        exact absurd he (ys_not_ok hv hn)
      · exact ys_hul_r hw
    | false =>
      rw [hc] at h
      exact ys_rds_in hv he hw t _ h
theorem ys_rd_ok {r : Nat → Int} {v : ys_E} (hv : ys_ok r v) {a : ys_R} {f : Nat → Int} (ha : ys_rok a f) {e : ys_L} {n : Nat} (he : ys_ev r e = (n : Int)) : (ys_rd v a e).1 ≤ f n ∧ f n ≤ (ys_rd v a e).2 := by
  have h := ha n
  unfold ys_rd
  split
  · rename_i i h1
    rw [ys_sgl_ok hv h1 he]
    exact h
  · unfold ys_rat at h
    cases hc : a.2.lookup n with
    | none =>
      rw [hc] at h
      exact ys_rds_acc _ _ h
    | some w =>
      rw [hc] at h
      exact ys_rds_in hv he h _ _ hc
theorem ys_kcut3 {x : ys_L} {i : Nat} {r : Nat → Int} {H : Heap} {locs : List Loc} {ls : Array Slot} {st : List Value} (h : ys_rep D cl ad cT sh A H0 nL mods g0 r0 r E (b, fds, lv, sv) H locs ls st) (sx : ys_stb b.1.length x) (k : ∀ q ∈ ys_cut3 pc b x i (fds, lv, sv), ys_W p l e R s m args below meth c Q kc kz D cl ad cT sh A H0 nL mods g0 r0 E q.1 q.2) : W p l e R s m args below meth c H locs kc kz Q (F0 m pc ls st) := by
  have z : ∀ i : Int, ys_ev r (([], i) : ys_L) = i := fun i => Int.zero_add _
  have one : ∀ {g : ys_L}, ys_stb b.1.length g → ∀ f ∈ [g], ys_stb b.1.length f := fun hg f hf => by rw [List.mem_singleton.mp hf]; exact hg
  by_cases h1 : ys_ev r x < (i : Int)
  · exact ys_kbr h (ys_fk1 (f := ys_sub ([], (i : Int) - 1) x) (by rw [ys_sub_ev, z]; omega)) (one (ys_stb_sub (ys_stb_cst _) sx)) (fun q hq => k q (List.mem_append_right _ (List.mem_append_left _ hq)))
  · by_cases h2 : (i : Int) < ys_ev r x
    · exact ys_kbr h (ys_fk1 (f := ys_sub x ([], (i : Int) + 1)) (by rw [ys_sub_ev, z]; omega)) (one (ys_stb_sub sx (ys_stb_cst _))) (fun q hq => k q (List.mem_append_right _ (List.mem_append_right _ hq)))
    · refine ys_kbr h (fs := [ys_sub x ([], (i : Int)), ys_sub ([], (i : Int)) x]) (fun f hf => ?_) (fun f hf => ?_) (fun q hq => k q (List.mem_append_left _ hq))
      · rcases List.mem_cons.mp hf with q | q
        · rw [q, ys_sub_ev, z]; omega
        · rw [List.mem_singleton.mp q, ys_sub_ev, z]; omega
      · rcases List.mem_cons.mp hf with q | q
        · rw [q]; exact ys_stb_sub sx (ys_stb_cst _)
        · rw [List.mem_singleton.mp q]; exact ys_stb_sub (ys_stb_cst _) sx
/-- a place within an array -/
def ys_inb (b : ys_B) (e : ys_L) (len : Nat) : Bool := ys_inr false b.1 e && (ys_ge b.1 b.2 2 e && ys_ge b.1 b.2 2 (ys_sub ([], (len : Int) - 1) e))
theorem ys_inb_ok {r : Nat → Int} (h : ys_okB r b) {x : ys_L} {len : Nat} (hi : ys_inb b x len = true) : ∃ n : Nat, ys_ev r x = (n : Int) ∧ n < len ∧ vp_in (Int32.ofInt (ys_ev r x)) len ∧ (Int32.ofInt (ys_ev r x)).toNatClampNeg = n := by
  unfold ys_inb at hi
  rw [Bool.and_eq_true, Bool.and_eq_true] at hi
  have e0 := ys_inr32 h.1 hi.1
  have h1 := ys_ge_le h.1 h.2 _ _ hi.2.1
  have h2 := ys_ge_le h.1 h.2 _ _ hi.2.2
  rw [ys_sub_ev] at h2
  have h3 : ys_ev r (([], (len : Int) - 1) : ys_L) = (len : Int) - 1 := Int.zero_add _
  rw [h3] at h2
  obtain ⟨n, hn⟩ := Int.eq_ofNat_of_zero_le h1
  have e1 : (Int32.ofInt (ys_ev r x)).toNatClampNeg = n := by
    show (Int32.ofInt (ys_ev r x)).toInt.toNat = n
    rw [e0, hn]
    rfl
  refine ⟨n, hn, by omega, ?_, e1⟩
  rw [vp_in_iff, e0]
  omega

def ys_hiald (sh : List ys_C) (pc : Nat) (b : ys_B) (fds : ys_F) (lv : List (Nat × ys_V)) (sv : List ys_V) : Option (List (Nat × ys_S)) := match sv with
  | .inl (.inl x) :: .inr (some k) :: t => (match sh[k]?, fds.2[k]? with
    | some (.inr y), some a => if decide (y.1 = 0) && ys_inb b x y.2.1 then (match ys_spl b.1 a x with
      | some i => some (ys_cut3 pc b x i (fds, lv, .inl (.inl x) :: .inr (some k) :: t))
      | none => some [(pc + 1, (ys_nw b (ys_rd b.1 a x)).1, fds, lv, .inl (.inl (ys_nw b (ys_rd b.1 a x)).2) :: t)]) else none
    | _, _ => none)
  | _ => none
theorem ys_kiald (hexec : p.tables.exec = Jvm.exec) (hb : c.code = cc) (hK : va_K D cl tys s) (hty : tys[0]? = some (cT 0, .int)) (hd : decode cc pc = .ok (.iaload, 1)) (hs : ys_hiald sh pc b fds lv sv = some succ) (k : ∀ q ∈ succ, ys_W p l e R s m args below meth c Q kc kz D cl ad cT sh A H0 nL mods g0 r0 E q.1 q.2) : ys_W p l e R s m args below meth c Q kc kz D cl ad cT sh A H0 nL mods g0 r0 E pc (b, fds, lv, sv) := by
  unfold ys_hiald at hs
  split at hs
  · rename_i x kc t
    split at hs
    · rename_i y a hsh har
      split at hs
      · rename_i hc
        rw [Bool.and_eq_true, decide_eq_true_eq] at hc
        obtain ⟨hkd, hin⟩ := hc
        split at hs
        · rename_i i hi
          cases Option.some.inj hs
          intro r H locs ls st h
          exact ys_kcut3 h (h.2.1.2.2.2 (.inl (.inl x)) List.mem_cons_self) k
        cases Option.some.inj hs
        have k := k _ List.mem_cons_self
        intro r H locs ls st h
        obtain ⟨st1, e1, g1, hx⟩ := ys_rep_pop h
        obtain ⟨st2, e2, g2, -⟩ := ys_rep_pop g1
        subst e1; subst e2
        obtain ⟨g, hg, hP, hD, hS⟩ := g2.2.2.2.1
        obtain ⟨n, e3, hn, hvi, e4⟩ := ys_inb_ok h.1 hin
        have hw := ys_wld_get (ad := ad) (cT := cT) (r := r) (g := g) (fds := fds.1) hsh
        obtain ⟨kd, len, tg⟩ := y
        have hkd : kd = 0 := hkd
        subst hkd
        refine va_iald hexec hb hK hP kc 0 (f := fun j => Int32.ofInt (g kc j)) hw hty hvi hd ?_
        rw [e4]
        obtain ⟨r', hag, hbb, hl, hsc, hst, hval⟩ := ys_Op_nw (P := fun z => z = g kc n) (g kc n) h.1 h.2.1.1 (ys_rd_ok h.1.1 (hg.1 kc a har) e3) rfl
        have h4 := k r' H locs ls _ (ys_rep_push (ys_rep_ext g2 hag hbb hl hsc) (.inl (.inl (ys_nw b (ys_rd b.1 a x)).2)) hst)
        have e5 : ys_den ad r' (.inl (.inl (ys_nw b (ys_rd b.1 a x)).2)) = .int (Int32.ofInt (g kc n)) := by
          show Value.int (Int32.ofInt (ys_ev r' _)) = _
          rw [hval]
        rw [e5] at h4
        exact h4
      · cases hs
    · cases hs
  · cases hs
def ys_hlald (sh : List ys_C) (pc : Nat) (b : ys_B) (fds : ys_F) (lv : List (Nat × ys_V)) (sv : List ys_V) : Option (List (Nat × ys_S)) := match sv with
  | .inl (.inl x) :: .inr (some k) :: t => (match sh[k]?, fds.2[k]? with
    | some (.inr y), some a => if decide (y.1 = 1) && ys_inb b x y.2.1 then (match ys_spl b.1 a x with
      | some i => some (ys_cut3 pc b x i (fds, lv, .inl (.inl x) :: .inr (some k) :: t))
      | none => some [(pc + 1, (ys_nw b (ys_rd b.1 a x)).1, fds, lv, .inl (.inr (ys_nw b (ys_rd b.1 a x)).2) :: t)]) else none
    | _, _ => none)
  | _ => none
theorem ys_klald (hexec : p.tables.exec = Jvm.exec) (hb : c.code = cc) (hK : va_K D cl tys s) (hty : tys[1]? = some (cT 1, .long)) (hd : decode cc pc = .ok (.laload, 1)) (hs : ys_hlald sh pc b fds lv sv = some succ) (k : ∀ q ∈ succ, ys_W p l e R s m args below meth c Q kc kz D cl ad cT sh A H0 nL mods g0 r0 E q.1 q.2) : ys_W p l e R s m args below meth c Q kc kz D cl ad cT sh A H0 nL mods g0 r0 E pc (b, fds, lv, sv) := by
  unfold ys_hlald at hs
  split at hs
  · rename_i x kc t
    split at hs
    · rename_i y a hsh har
      split at hs
      · rename_i hc
        rw [Bool.and_eq_true, decide_eq_true_eq] at hc
        obtain ⟨hkd, hin⟩ := hc
        split at hs
        · rename_i i hi
          cases Option.some.inj hs
          intro r H locs ls st h
          exact ys_kcut3 h (h.2.1.2.2.2 (.inl (.inl x)) List.mem_cons_self) k
        cases Option.some.inj hs
        have k := k _ List.mem_cons_self
        intro r H locs ls st h
        obtain ⟨st1, e1, g1, hx⟩ := ys_rep_pop h
        obtain ⟨st2, e2, g2, -⟩ := ys_rep_pop g1
        subst e1; subst e2
        obtain ⟨g, hg, hP, hD, hS⟩ := g2.2.2.2.1
        obtain ⟨n, e3, hn, hvi, e4⟩ := ys_inb_ok h.1 hin
        have hw := ys_wld_get (ad := ad) (cT := cT) (r := r) (g := g) (fds := fds.1) hsh
        obtain ⟨kd, len, tg⟩ := y
        have hkd : kd = 1 := hkd
        subst hkd
        refine va_lald hexec hb hK hP kc 1 (f := fun j => Int64.ofInt (g kc j)) hw hty hvi hd ?_
        rw [e4]
        obtain ⟨r', hag, hbb, hl, hsc, hst, hval⟩ := ys_Op_nw (P := fun z => z = g kc n) (g kc n) h.1 h.2.1.1 (ys_rd_ok h.1.1 (hg.1 kc a har) e3) rfl
        have h4 := k r' H locs ls _ (ys_rep_push (ys_rep_ext g2 hag hbb hl hsc) (.inl (.inr (ys_nw b (ys_rd b.1 a x)).2)) hst)
        have e5 : ys_den ad r' (.inl (.inr (ys_nw b (ys_rd b.1 a x)).2)) = .long (Int64.ofInt (g kc n)) := by
          show Value.long (Int64.ofInt (ys_ev r' _)) = _
          rw [hval]
        rw [e5] at h4
        exact h4
      · cases hs
    · cases hs
  · cases hs
def ys_hbald (sh : List ys_C) (pc : Nat) (b : ys_B) (fds : ys_F) (lv : List (Nat × ys_V)) (sv : List ys_V) : Option (List (Nat × ys_S)) := match sv with
  | .inl (.inl x) :: .inr (some k) :: t => (match sh[k]?, fds.2[k]? with
    | some (.inr y), some a => if decide (y.1 = 2) && ys_inb b x y.2.1 then (match ys_spl b.1 a x with
      | some i => some (ys_cut3 pc b x i (fds, lv, .inl (.inl x) :: .inr (some k) :: t))
      | none => some [(pc + 1, (ys_nw b (ys_rd b.1 a x)).1, fds, lv, .inl (.inl (ys_nw b (ys_rd b.1 a x)).2) :: t)]) else none
    | _, _ => none)
  | _ => none
theorem ys_kbald (hexec : p.tables.exec = Jvm.exec) (hb : c.code = cc) (hK : va_K D cl tys s) (hty : tys[2]? = some (cT 2, .byte)) (hd : decode cc pc = .ok (.baload, 1)) (hs : ys_hbald sh pc b fds lv sv = some succ) (k : ∀ q ∈ succ, ys_W p l e R s m args below meth c Q kc kz D cl ad cT sh A H0 nL mods g0 r0 E q.1 q.2) : ys_W p l e R s m args below meth c Q kc kz D cl ad cT sh A H0 nL mods g0 r0 E pc (b, fds, lv, sv) := by
  unfold ys_hbald at hs
  split at hs
  · rename_i x kc t
    split at hs
    · rename_i y a hsh har
      split at hs
      · rename_i hc
        rw [Bool.and_eq_true, decide_eq_true_eq] at hc
        obtain ⟨hkd, hin⟩ := hc
        split at hs
        · rename_i i hi
          cases Option.some.inj hs
          intro r H locs ls st h
          exact ys_kcut3 h (h.2.1.2.2.2 (.inl (.inl x)) List.mem_cons_self) k
        cases Option.some.inj hs
        have k := k _ List.mem_cons_self
        intro r H locs ls st h
        obtain ⟨st1, e1, g1, hx⟩ := ys_rep_pop h
        obtain ⟨st2, e2, g2, -⟩ := ys_rep_pop g1
        subst e1; subst e2
        obtain ⟨g, hg, hP, hD, hS⟩ := g2.2.2.2.1
        obtain ⟨n, e3, hn, hvi, e4⟩ := ys_inb_ok h.1 hin
        have hw := ys_wld_get (ad := ad) (cT := cT) (r := r) (g := g) (fds := fds.1) hsh
        obtain ⟨kd, len, tg⟩ := y
        have hkd : kd = 2 := hkd
        subst hkd
        refine va_bald hexec hb hK hP kc 2 (f := fun j => Int32.ofInt (g kc j)) hw hty hvi hd ?_
        rw [e4]
        obtain ⟨r', hag, hbb, hl, hsc, hst, hval⟩ := ys_Op_nw (P := fun z => z = g kc n) (g kc n) h.1 h.2.1.1 (ys_rd_ok h.1.1 (hg.1 kc a har) e3) rfl
        have h4 := k r' H locs ls _ (ys_rep_push (ys_rep_ext g2 hag hbb hl hsc) (.inl (.inl (ys_nw b (ys_rd b.1 a x)).2)) hst)
        have e5 : ys_den ad r' (.inl (.inl (ys_nw b (ys_rd b.1 a x)).2)) = .int (Int32.ofInt (g kc n)) := by
          show Value.int (Int32.ofInt (ys_ev r' _)) = _
          rw [hval]
        rw [e5] at h4
        exact h4
      · cases hs
    · cases hs
  · cases hs
def ys_hzald (sh : List ys_C) (pc : Nat) (b : ys_B) (fds : ys_F) (lv : List (Nat × ys_V)) (sv : List ys_V) : Option (List (Nat × ys_S)) := match sv with
  | .inl (.inl x) :: .inr (some k) :: t => (match sh[k]?, fds.2[k]? with
    | some (.inr y), some a => if decide (y.1 = 3) && ys_inb b x y.2.1 then (match ys_spl b.1 a x with
      | some i => some (ys_cut3 pc b x i (fds, lv, .inl (.inl x) :: .inr (some k) :: t))
      | none => some [(pc + 1, (ys_nw b (ys_rd b.1 a x)).1, fds, lv, .inl (.inl (ys_nw b (ys_rd b.1 a x)).2) :: t)]) else none
    | _, _ => none)
  | _ => none
theorem ys_kzald (hexec : p.tables.exec = Jvm.exec) (hb : c.code = cc) (hK : va_K D cl tys s) (hty : tys[3]? = some (cT 3, .boolean)) (hd : decode cc pc = .ok (.baload, 1)) (hs : ys_hzald sh pc b fds lv sv = some succ) (k : ∀ q ∈ succ, ys_W p l e R s m args below meth c Q kc kz D cl ad cT sh A H0 nL mods g0 r0 E q.1 q.2) : ys_W p l e R s m args below meth c Q kc kz D cl ad cT sh A H0 nL mods g0 r0 E pc (b, fds, lv, sv) := by
  unfold ys_hzald at hs
  split at hs
  · rename_i x kc t
    split at hs
    · rename_i y a hsh har
      split at hs
      · rename_i hc
        rw [Bool.and_eq_true, decide_eq_true_eq] at hc
        obtain ⟨hkd, hin⟩ := hc
        split at hs
        · rename_i i hi
          cases Option.some.inj hs
          intro r H locs ls st h
          exact ys_kcut3 h (h.2.1.2.2.2 (.inl (.inl x)) List.mem_cons_self) k
        cases Option.some.inj hs
        have k := k _ List.mem_cons_self
        intro r H locs ls st h
        obtain ⟨st1, e1, g1, hx⟩ := ys_rep_pop h
        obtain ⟨st2, e2, g2, -⟩ := ys_rep_pop g1
        subst e1; subst e2
        obtain ⟨g, hg, hP, hD, hS⟩ := g2.2.2.2.1
        obtain ⟨n, e3, hn, hvi, e4⟩ := ys_inb_ok h.1 hin
        have hw := ys_wld_get (ad := ad) (cT := cT) (r := r) (g := g) (fds := fds.1) hsh
        obtain ⟨kd, len, tg⟩ := y
        have hkd : kd = 3 := hkd
        subst hkd
        refine va_zald hexec hb hK hP kc 3 (f := fun j => Int32.ofInt (g kc j)) hw hty hvi hd ?_
        rw [e4]
        obtain ⟨r', hag, hbb, hl, hsc, hst, hval⟩ := ys_Op_nw (P := fun z => z = g kc n) (g kc n) h.1 h.2.1.1 (ys_rd_ok h.1.1 (hg.1 kc a har) e3) rfl
        have h4 := k r' H locs ls _ (ys_rep_push (ys_rep_ext g2 hag hbb hl hsc) (.inl (.inl (ys_nw b (ys_rd b.1 a x)).2)) hst)
        have e5 : ys_den ad r' (.inl (.inl (ys_nw b (ys_rd b.1 a x)).2)) = .int (Int32.ofInt (g kc n)) := by
          show Value.int (Int32.ofInt (ys_ev r' _)) = _
          rw [hval]
        rw [e5] at h4
        exact h4
      · cases hs
    · cases hs
  · cases hs
end YSM
end
section
/-! writing an array -/
def ys_ivl (v : ys_E) (e : ys_L) : Option (Int × Int) := match ys_low v e, ys_high v e with
  | some l, some u => some (l, u)
  | _, _ => none
theorem ys_ivl_ok {r : Nat → Int} {v : ys_E} (h : ys_ok r v) {e : ys_L} {q : Int × Int} (hq : ys_ivl v e = some q) : q.1 ≤ ys_ev r e ∧ ys_ev r e ≤ q.2 := by
  unfold ys_ivl at hq
  split at hq
  · rename_i l u hl hu
    cases Option.some.inj hq
    exact ⟨ys_low_le h hl, ys_high_le h hu⟩
  · cases hq
def ys_wr (v : ys_E) (a : ys_R) (e : ys_L) (q : Int × Int) : ys_R := match ys_sgl v e with
  | some i => (a.1, (i, q) :: a.2.filter fun x => !(x.1 == i))
  | none => (ys_hul a.1 q, a.2.map fun x => if ys_not v e x.1 then x else (x.1, ys_hul x.2 q))
theorem ys_lookup_filter {n j : Nat} (h : j ≠ n) : ∀ l : List (Nat × (Int × Int)), (l.filter fun x => !(x.1 == n)).lookup j = l.lookup j
  | [] => rfl
  | (i, x) :: t => by
    have ih := ys_lookup_filter h t
    rw [List.filter_cons]
    by_cases hi : i = n
    · subst hi
      have e1 : (!((i, x).1 == i)) = false := by simp
      have e2 : (j == i) = false := by simpa using h
      rw [if_neg (by rw [e1]; decide), ih]
      conv => rhs; unfold List.lookup
      rw [e2]
    · have e1 : (!((i, x).1 == n)) = true := by simpa using hi
      rw [if_pos e1]
      unfold List.lookup
      cases j == i with
      | true => rfl
      | false => exact ih
theorem ys_lookup_map {v : ys_E} {e : ys_L} {q : Int × Int} {j : Nat} : ∀ l : List (Nat × (Int × Int)), (l.map fun x => if ys_not v e x.1 then x else (x.1, ys_hul x.2 q)).lookup j = (l.lookup j).map fun w => if ys_not v e j then w else ys_hul w q
  | [] => rfl
  | (i, x) :: t => by
    have ih := ys_lookup_map (v := v) (e := e) (q := q) (j := j) t
    rw [List.map_cons]
    by_cases hj : j = i
    · subst hj
      cases hn : ys_not v e j with
      | true =>
        rw [if_pos rfl]
        unfold List.lookup
        rw [beq_self_eq_true]
        rfl
      | false =>
        rw [if_neg (by decide)]
        unfold List.lookup
        rw [beq_self_eq_true]
        rfl
    · have e2 : (j == i) = false := by simpa using hj
      cases hn : ys_not v e i with
      | true =>
        rw [if_pos rfl]
        unfold List.lookup
        rw [e2]
        exact ih
      | false =>
        rw [if_neg (by decide)]
        unfold List.lookup
        rw [e2]
        exact ih
def ys_gup (g : Nat → Nat → Int) (k n : Nat) (z : Int) : Nat → Nat → Int := fun i => if i = k then (fun j => if j = n then z else g k j) else g i
theorem ys_wr_ok {r : Nat → Int} {v : ys_E} (hv : ys_ok r v) {a : ys_R} {f : Nat → Int} (ha : ys_rok a f) {e : ys_L} {n : Nat} (he : ys_ev r e = (n : Int)) {q : Int × Int} {z : Int} (hz : q.1 ≤ z ∧ z ≤ q.2) : ys_rok (ys_wr v a e q) (fun j => if j = n then z else f j) := by
  intro j
  show _ ≤ (if j = n then z else f j) ∧ (if j = n then z else f j) ≤ _
  unfold ys_wr
  split
  · rename_i i h1
    have hn : i = n := ys_sgl_ok hv h1 he
    rw [hn]
    by_cases hj : j = n
    · subst hj
      rw [if_pos rfl]
      unfold ys_rat List.lookup
      rw [beq_self_eq_true]
      exact hz
    · rw [if_neg hj]
      have h := ha j
      unfold ys_rat at h ⊢
      have e2 : (j == n) = false := by simpa using hj
      have e3 : (((n, q) :: a.2.filter fun x => !(x.1 == n)) : List (Nat × (Int × Int))).lookup j = a.2.lookup j := by
        conv => lhs; unfold List.lookup
        rw [e2]
        exact ys_lookup_filter hj a.2
      show ((((n, q) :: a.2.filter fun x => !(x.1 == n)) : List (Nat × (Int × Int))).lookup j |>.getD a.1).1 ≤ _ ∧ _ ≤ ((((n, q) :: a.2.filter fun x => !(x.1 == n)) : List (Nat × (Int × Int))).lookup j |>.getD a.1).2
      rw [e3]
      exact h
  · have h := ha j
    unfold ys_rat at h ⊢
    show (((a.2.map fun x => if ys_not v e x.1 then x else (x.1, ys_hul x.2 q)).lookup j).getD (ys_hul a.1 q)).1 ≤ _ ∧ _ ≤ (((a.2.map fun x => if ys_not v e x.1 then x else (x.1, ys_hul x.2 q)).lookup j).getD (ys_hul a.1 q)).2
    rw [ys_lookup_map]
    by_cases hj : j = n
    · subst hj
      rw [if_pos rfl]
      have hn : ys_not v e j = false := by
        cases hc : ys_not v e j with
        | true => exact absurd he (ys_not_ok hv hc)
        | false => rfl
      rw [hn]
      cases a.2.lookup j with
      | none => exact ys_hul_r hz
      | some w => exact ys_hul_r hz
    · rw [if_neg hj]
      cases hc : a.2.lookup j with
      | none =>
        rw [hc] at h
        exact ys_hul_l h
      | some w =>
        rw [hc] at h
        show (if ys_not v e j then w else ys_hul w q).1 ≤ _ ∧ _ ≤ (if ys_not v e j then w else ys_hul w q).2
        split
        · exact h
        · exact ys_hul_l h
section YSM2
variable {p : Program} {l : Launch} {e : Env} {R : Room} {s : State} {m : MethodId} {args : Array Value} {below : List Frame} {meth : Method} {c : Code} {Q : State → Prop} {kc kz : Nat} {D : va_G} {cl : List vw_C} {ad : Nat → Nat} {cT : Nat → ClassId} {sh : List ys_C} {A : Nat → Prop} {H0 : Heap} {nL : Nat} {mods : List Nat} {g0 : Nat → Nat → Int} {r0 : Nat → Int} {E : Nat} {pc : Nat} {b : ys_B} {fds : ys_F} {lv : List (Nat × ys_V)} {sv : List ys_V} {succ : List (Nat × ys_S)} {cc : ByteArray} {own : String} {Ts : List Cond} {tys : List (ClassId × FieldType)}

def ys_hiast (sh : List ys_C) (mods : List Nat) (pc : Nat) (b : ys_B) (fds : ys_F) (lv : List (Nat × ys_V)) (sv : List ys_V) : Option (List (Nat × ys_S)) := match sv with
  | .inl (.inl z) :: .inl (.inl x) :: .inr (some k) :: t => (match sh[k]?, fds.2[k]?, ys_ivl b.1 z with
    | some (.inr y), some a, some q => if decide (y.1 = 0) && ys_inb b x y.2.1 && decide (k ∈ mods) then some [(pc + 1, b, (fds.1, fds.2.set k (ys_wr b.1 a x q)), lv, t)] else none
    | _, _, _ => none)
  | _ => none
theorem ys_kiast (hexec : p.tables.exec = Jvm.exec) (hb : c.code = cc) (hK : va_K D cl tys s) (hty : tys[0]? = some (cT 0, .int)) (hd : decode cc pc = .ok (.iastore, 1)) (hs : ys_hiast sh mods pc b fds lv sv = some succ) (k : ∀ q ∈ succ, ys_W p l e R s m args below meth c Q kc kz D cl ad cT sh A H0 nL mods g0 r0 E q.1 q.2) : ys_W p l e R s m args below meth c Q kc kz D cl ad cT sh A H0 nL mods g0 r0 E pc (b, fds, lv, sv) := by
  unfold ys_hiast at hs
  split at hs
  · rename_i z x kc t
    split at hs
    · rename_i y a q hsh har hiv
      split at hs
      · rename_i hc
        simp only [Bool.and_eq_true, decide_eq_true_eq] at hc
        obtain ⟨⟨hkd, hin⟩, hm⟩ := hc
        cases Option.some.inj hs
        have k := k _ List.mem_cons_self
        intro r H locs ls st h
        obtain ⟨st1, e1, g1, hz⟩ := ys_rep_pop h
        obtain ⟨st2, e2, g2, hx⟩ := ys_rep_pop g1
        obtain ⟨st3, e3, g3, -⟩ := ys_rep_pop g2
        subst e1; subst e2; subst e3
        obtain ⟨q1, ⟨s0, s1, s2, s3⟩, q2, ⟨g, hg, hP, hD, hS⟩, q4, q5⟩ := g3
        obtain ⟨n, e4, hn, hvi, e5⟩ := ys_inb_ok h.1 hin
        have hzq := ys_ivl_ok h.1.1 hiv
        have hw := ys_wld_get (ad := ad) (cT := cT) (r := r) (g := g) (fds := fds.1) hsh
        obtain ⟨kd, len, tg⟩ := y
        have hkd : kd = 0 := hkd
        subst hkd
        refine va_iast hexec hb hK hP hD hS kc 0 (f := fun j => Int32.ofInt (g kc j)) hw hty hvi hd fun H1 locs1 hP1 hD1 hS1 => ?_
        have ew := ys_wld_set (ad := ad) (cT := cT) (r := r) (g := g) (g' := ys_gup g kc n (ys_ev r z)) (fds := fds.1) (fds' := fds.1) hsh (fun i hi => ⟨if_neg hi, rfl⟩)
        have ef : (fun j => Int32.ofInt (ys_gup g kc n (ys_ev r z) kc j)) = upd (fun j => Int32.ofInt (g kc j)) (Int32.ofInt (ys_ev r x)).toNatClampNeg (Int32.ofInt (ys_ev r z)) := by
          rw [e5]
          funext j
          unfold ys_gup upd
          rw [if_pos rfl]
          by_cases hj : j = n
          · rw [if_pos hj, if_pos hj]
          · rw [if_neg hj, if_neg hj]
        have ec : ys_cel ad cT r (ys_gup g kc n (ys_ev r z)) kc (.inr (0, len, tg)) (fds.1.getD kc []) = (ad kc, .inl (cT 0, len, .inl (upd (fun j => Int32.ofInt (g kc j)) (Int32.ofInt (ys_ev r x)).toNatClampNeg (Int32.ofInt (ys_ev r z))))) := by
          show ((ad kc, Sum.inl (cT 0, len, Sum.inl (fun j => Int32.ofInt (ys_gup g kc n (ys_ev r z) kc j)))) : Nat × va_E) = _
          rw [ef]
        rw [ec] at ew
        refine k r H1 locs1 ls _ ⟨q1, ⟨s0, s1, s2, s3⟩, q2, ⟨ys_gup g kc n (ys_ev r z), ⟨fun i w hi => ?_, fun i hi => ?_⟩, ?_, ?_, hS1⟩, q4, q5⟩
        · by_cases hk : i = kc
          · subst hk
            have hl : i < fds.2.length := (List.getElem?_eq_some_iff.mp har).1
            have hi : (fds.2.set i (ys_wr b.1 a x q))[i]? = some w := hi
            rw [List.getElem?_set_self hl] at hi
            cases hi
            have e6 : ys_gup g i n (ys_ev r z) i = fun j => if j = n then ys_ev r z else g i j := if_pos rfl
            rw [e6]
            exact ys_wr_ok h.1.1 (hg.1 i a har) e4 hzq
          · have hi : (fds.2.set kc (ys_wr b.1 a x q))[i]? = some w := hi
            rw [List.getElem?_set_ne (Ne.symm hk)] at hi
            have e6 : ys_gup g kc n (ys_ev r z) i = g i := if_neg hk
            rw [e6]
            exact hg.1 i w hi
        · have hk : i ≠ kc := fun e => hi (e ▸ hm)
          have e6 : ys_gup g kc n (ys_ev r z) i = g i := if_neg hk
          rw [e6]
          exact hg.2 i hi
        · show va_P D cl (ys_wld ad cT sh r (ys_gup g kc n (ys_ev r z)) fds.1) H1
          rw [ew]
          exact hP1
        · show va_D A (ys_wld ad cT sh r (ys_gup g kc n (ys_ev r z)) fds.1)
          rw [ew]
          exact hD1
      · cases hs
    · cases hs
  · cases hs
def ys_hlast (sh : List ys_C) (mods : List Nat) (pc : Nat) (b : ys_B) (fds : ys_F) (lv : List (Nat × ys_V)) (sv : List ys_V) : Option (List (Nat × ys_S)) := match sv with
  | .inl (.inr z) :: .inl (.inl x) :: .inr (some k) :: t => (match sh[k]?, fds.2[k]?, ys_ivl b.1 z with
    | some (.inr y), some a, some q => if decide (y.1 = 1) && ys_inb b x y.2.1 && decide (k ∈ mods) then some [(pc + 1, b, (fds.1, fds.2.set k (ys_wr b.1 a x q)), lv, t)] else none
    | _, _, _ => none)
  | _ => none
theorem ys_klast (hexec : p.tables.exec = Jvm.exec) (hb : c.code = cc) (hK : va_K D cl tys s) (hty : tys[1]? = some (cT 1, .long)) (hd : decode cc pc = .ok (.lastore, 1)) (hs : ys_hlast sh mods pc b fds lv sv = some succ) (k : ∀ q ∈ succ, ys_W p l e R s m args below meth c Q kc kz D cl ad cT sh A H0 nL mods g0 r0 E q.1 q.2) : ys_W p l e R s m args below meth c Q kc kz D cl ad cT sh A H0 nL mods g0 r0 E pc (b, fds, lv, sv) := by
  unfold ys_hlast at hs
  split at hs
  · rename_i z x kc t
    split at hs
    · rename_i y a q hsh har hiv
      split at hs
      · rename_i hc
        simp only [Bool.and_eq_true, decide_eq_true_eq] at hc
        obtain ⟨⟨hkd, hin⟩, hm⟩ := hc
        cases Option.some.inj hs
        have k := k _ List.mem_cons_self
        intro r H locs ls st h
        obtain ⟨st1, e1, g1, hz⟩ := ys_rep_pop h
        obtain ⟨st2, e2, g2, hx⟩ := ys_rep_pop g1
        obtain ⟨st3, e3, g3, -⟩ := ys_rep_pop g2
        subst e1; subst e2; subst e3
        obtain ⟨q1, ⟨s0, s1, s2, s3⟩, q2, ⟨g, hg, hP, hD, hS⟩, q4, q5⟩ := g3
        obtain ⟨n, e4, hn, hvi, e5⟩ := ys_inb_ok h.1 hin
        have hzq := ys_ivl_ok h.1.1 hiv
        have hw := ys_wld_get (ad := ad) (cT := cT) (r := r) (g := g) (fds := fds.1) hsh
        obtain ⟨kd, len, tg⟩ := y
        have hkd : kd = 1 := hkd
        subst hkd
        refine va_last hexec hb hK hP hD hS kc 1 (f := fun j => Int64.ofInt (g kc j)) hw hty hvi hd fun H1 locs1 hP1 hD1 hS1 => ?_
        have ew := ys_wld_set (ad := ad) (cT := cT) (r := r) (g := g) (g' := ys_gup g kc n (ys_ev r z)) (fds := fds.1) (fds' := fds.1) hsh (fun i hi => ⟨if_neg hi, rfl⟩)
        have ef : (fun j => Int64.ofInt (ys_gup g kc n (ys_ev r z) kc j)) = vp_updL (fun j => Int64.ofInt (g kc j)) (Int32.ofInt (ys_ev r x)).toNatClampNeg (Int64.ofInt (ys_ev r z)) := by
          rw [e5]
          funext j
          unfold ys_gup vp_updL
          rw [if_pos rfl]
          by_cases hj : j = n
          · rw [if_pos hj, if_pos hj]
          · rw [if_neg hj, if_neg hj]
        have ec : ys_cel ad cT r (ys_gup g kc n (ys_ev r z)) kc (.inr (1, len, tg)) (fds.1.getD kc []) = (ad kc, .inl (cT 1, len, .inr (.inl (vp_updL (fun j => Int64.ofInt (g kc j)) (Int32.ofInt (ys_ev r x)).toNatClampNeg (Int64.ofInt (ys_ev r z)))))) := by
          show ((ad kc, Sum.inl (cT 1, len, Sum.inr (Sum.inl (fun j => Int64.ofInt (ys_gup g kc n (ys_ev r z) kc j))))) : Nat × va_E) = _
          rw [ef]
        rw [ec] at ew
        refine k r H1 locs1 ls _ ⟨q1, ⟨s0, s1, s2, s3⟩, q2, ⟨ys_gup g kc n (ys_ev r z), ⟨fun i w hi => ?_, fun i hi => ?_⟩, ?_, ?_, hS1⟩, q4, q5⟩
        · by_cases hk : i = kc
          · subst hk
            have hl : i < fds.2.length := (List.getElem?_eq_some_iff.mp har).1
            have hi : (fds.2.set i (ys_wr b.1 a x q))[i]? = some w := hi
            rw [List.getElem?_set_self hl] at hi
            cases hi
            have e6 : ys_gup g i n (ys_ev r z) i = fun j => if j = n then ys_ev r z else g i j := if_pos rfl
            rw [e6]
            exact ys_wr_ok h.1.1 (hg.1 i a har) e4 hzq
          · have hi : (fds.2.set kc (ys_wr b.1 a x q))[i]? = some w := hi
            rw [List.getElem?_set_ne (Ne.symm hk)] at hi
            have e6 : ys_gup g kc n (ys_ev r z) i = g i := if_neg hk
            rw [e6]
            exact hg.1 i w hi
        · have hk : i ≠ kc := fun e => hi (e ▸ hm)
          have e6 : ys_gup g kc n (ys_ev r z) i = g i := if_neg hk
          rw [e6]
          exact hg.2 i hi
        · show va_P D cl (ys_wld ad cT sh r (ys_gup g kc n (ys_ev r z)) fds.1) H1
          rw [ew]
          exact hP1
        · show va_D A (ys_wld ad cT sh r (ys_gup g kc n (ys_ev r z)) fds.1)
          rw [ew]
          exact hD1
      · cases hs
    · cases hs
  · cases hs
theorem ys_nar_b {x : Int} (h0 : -128 ≤ x) (h1 : x ≤ 127) : vp_nar .byte (Int32.ofInt x) = Int32.ofInt x := by
  rw [vp_nar_byte]
  apply Int32.toInt_inj.mp
  rw [Int8.toInt_toInt32, Int32.toInt_toInt8, Int32.toInt_ofInt_of_le (by omega) (by omega)]
  exact Int.bmod_eq_of_le (by omega) (by omega)
theorem ys_nar_z {x : Int} (h0 : 0 ≤ x) (h1 : x ≤ 1) : vp_nar .boolean (Int32.ofInt x) = Int32.ofInt x := by
  rcases ys_01 h0 h1 with q | q <;> rw [q] <;> rfl
def ys_hbast (sh : List ys_C) (mods : List Nat) (pc : Nat) (b : ys_B) (fds : ys_F) (lv : List (Nat × ys_V)) (sv : List ys_V) : Option (List (Nat × ys_S)) := match sv with
  | .inl (.inl z) :: .inl (.inl x) :: .inr (some k) :: t => (match sh[k]?, fds.2[k]?, ys_ivl b.1 z with
    | some (.inr y), some a, some q => if decide (y.1 = 2) && ys_inb b x y.2.1 && decide (k ∈ mods) && (decide (-128 ≤ q.1) && decide (q.2 ≤ 127)) then some [(pc + 1, b, (fds.1, fds.2.set k (ys_wr b.1 a x q)), lv, t)] else none
    | _, _, _ => none)
  | _ => none
theorem ys_kbast (hexec : p.tables.exec = Jvm.exec) (hb : c.code = cc) (hK : va_K D cl tys s) (hty : tys[2]? = some (cT 2, .byte)) (hd : decode cc pc = .ok (.bastore, 1)) (hs : ys_hbast sh mods pc b fds lv sv = some succ) (k : ∀ q ∈ succ, ys_W p l e R s m args below meth c Q kc kz D cl ad cT sh A H0 nL mods g0 r0 E q.1 q.2) : ys_W p l e R s m args below meth c Q kc kz D cl ad cT sh A H0 nL mods g0 r0 E pc (b, fds, lv, sv) := by
  unfold ys_hbast at hs
  split at hs
  · rename_i z x kc t
    split at hs
    · rename_i y a q hsh har hiv
      split at hs
      · rename_i hc
        simp only [Bool.and_eq_true, decide_eq_true_eq] at hc
        obtain ⟨⟨⟨hkd, hin⟩, hm⟩, hq⟩ := hc
        cases Option.some.inj hs
        have k := k _ List.mem_cons_self
        intro r H locs ls st h
        obtain ⟨st1, e1, g1, hz⟩ := ys_rep_pop h
        obtain ⟨st2, e2, g2, hx⟩ := ys_rep_pop g1
        obtain ⟨st3, e3, g3, -⟩ := ys_rep_pop g2
        subst e1; subst e2; subst e3
        obtain ⟨q1, ⟨s0, s1, s2, s3⟩, q2, ⟨g, hg, hP, hD, hS⟩, q4, q5⟩ := g3
        obtain ⟨n, e4, hn, hvi, e5⟩ := ys_inb_ok h.1 hin
        have hzq := ys_ivl_ok h.1.1 hiv
        have hw := ys_wld_get (ad := ad) (cT := cT) (r := r) (g := g) (fds := fds.1) hsh
        obtain ⟨kd, len, tg⟩ := y
        have hkd : kd = 2 := hkd
        subst hkd
        refine va_bast hexec hb hK hP hD hS kc 2 (f := fun j => Int32.ofInt (g kc j)) hw hty hvi hd fun H1 locs1 hP1 hD1 hS1 => ?_
        have ew := ys_wld_set (ad := ad) (cT := cT) (r := r) (g := g) (g' := ys_gup g kc n (ys_ev r z)) (fds := fds.1) (fds' := fds.1) hsh (fun i hi => ⟨if_neg hi, rfl⟩)
        have ef : (fun j => Int32.ofInt (ys_gup g kc n (ys_ev r z) kc j)) = upd (fun j => Int32.ofInt (g kc j)) (Int32.ofInt (ys_ev r x)).toNatClampNeg (vp_nar .byte (Int32.ofInt (ys_ev r z))) := by
          rw [e5]
          funext j
          unfold ys_gup upd
          rw [if_pos rfl]
          by_cases hj : j = n
          · rw [if_pos hj, if_pos hj]
            exact (ys_nar_b (by omega) (by omega)).symm
          · rw [if_neg hj, if_neg hj]
        have ec : ys_cel ad cT r (ys_gup g kc n (ys_ev r z)) kc (.inr (2, len, tg)) (fds.1.getD kc []) = (ad kc, .inl (cT 2, len, .inl (upd (fun j => Int32.ofInt (g kc j)) (Int32.ofInt (ys_ev r x)).toNatClampNeg (vp_nar .byte (Int32.ofInt (ys_ev r z)))))) := by
          show ((ad kc, Sum.inl (cT 2, len, Sum.inl (fun j => Int32.ofInt (ys_gup g kc n (ys_ev r z) kc j)))) : Nat × va_E) = _
          rw [ef]
        rw [ec] at ew
        refine k r H1 locs1 ls _ ⟨q1, ⟨s0, s1, s2, s3⟩, q2, ⟨ys_gup g kc n (ys_ev r z), ⟨fun i w hi => ?_, fun i hi => ?_⟩, ?_, ?_, hS1⟩, q4, q5⟩
        · by_cases hk : i = kc
          · subst hk
            have hl : i < fds.2.length := (List.getElem?_eq_some_iff.mp har).1
            have hi : (fds.2.set i (ys_wr b.1 a x q))[i]? = some w := hi
            rw [List.getElem?_set_self hl] at hi
            cases hi
            have e6 : ys_gup g i n (ys_ev r z) i = fun j => if j = n then ys_ev r z else g i j := if_pos rfl
            rw [e6]
            exact ys_wr_ok h.1.1 (hg.1 i a har) e4 hzq
          · have hi : (fds.2.set kc (ys_wr b.1 a x q))[i]? = some w := hi
            rw [List.getElem?_set_ne (Ne.symm hk)] at hi
            have e6 : ys_gup g kc n (ys_ev r z) i = g i := if_neg hk
            rw [e6]
            exact hg.1 i w hi
        · have hk : i ≠ kc := fun e => hi (e ▸ hm)
          have e6 : ys_gup g kc n (ys_ev r z) i = g i := if_neg hk
          rw [e6]
          exact hg.2 i hi
        · show va_P D cl (ys_wld ad cT sh r (ys_gup g kc n (ys_ev r z)) fds.1) H1
          rw [ew]
          exact hP1
        · show va_D A (ys_wld ad cT sh r (ys_gup g kc n (ys_ev r z)) fds.1)
          rw [ew]
          exact hD1
      · cases hs
    · cases hs
  · cases hs
def ys_hzast (sh : List ys_C) (mods : List Nat) (pc : Nat) (b : ys_B) (fds : ys_F) (lv : List (Nat × ys_V)) (sv : List ys_V) : Option (List (Nat × ys_S)) := match sv with
  | .inl (.inl z) :: .inl (.inl x) :: .inr (some k) :: t => (match sh[k]?, fds.2[k]?, ys_ivl b.1 z with
    | some (.inr y), some a, some q => if decide (y.1 = 3) && ys_inb b x y.2.1 && decide (k ∈ mods) && (decide (0 ≤ q.1) && decide (q.2 ≤ 1)) then some [(pc + 1, b, (fds.1, fds.2.set k (ys_wr b.1 a x q)), lv, t)] else none
    | _, _, _ => none)
  | _ => none
theorem ys_kzast (hexec : p.tables.exec = Jvm.exec) (hb : c.code = cc) (hK : va_K D cl tys s) (hty : tys[3]? = some (cT 3, .boolean)) (hd : decode cc pc = .ok (.bastore, 1)) (hs : ys_hzast sh mods pc b fds lv sv = some succ) (k : ∀ q ∈ succ, ys_W p l e R s m args below meth c Q kc kz D cl ad cT sh A H0 nL mods g0 r0 E q.1 q.2) : ys_W p l e R s m args below meth c Q kc kz D cl ad cT sh A H0 nL mods g0 r0 E pc (b, fds, lv, sv) := by
  unfold ys_hzast at hs
  split at hs
  · rename_i z x kc t
    split at hs
    · rename_i y a q hsh har hiv
      split at hs
      · rename_i hc
        simp only [Bool.and_eq_true, decide_eq_true_eq] at hc
        obtain ⟨⟨⟨hkd, hin⟩, hm⟩, hq⟩ := hc
        cases Option.some.inj hs
        have k := k _ List.mem_cons_self
        intro r H locs ls st h
        obtain ⟨st1, e1, g1, hz⟩ := ys_rep_pop h
        obtain ⟨st2, e2, g2, hx⟩ := ys_rep_pop g1
        obtain ⟨st3, e3, g3, -⟩ := ys_rep_pop g2
        subst e1; subst e2; subst e3
        obtain ⟨q1, ⟨s0, s1, s2, s3⟩, q2, ⟨g, hg, hP, hD, hS⟩, q4, q5⟩ := g3
        obtain ⟨n, e4, hn, hvi, e5⟩ := ys_inb_ok h.1 hin
        have hzq := ys_ivl_ok h.1.1 hiv
        have hw := ys_wld_get (ad := ad) (cT := cT) (r := r) (g := g) (fds := fds.1) hsh
        obtain ⟨kd, len, tg⟩ := y
        have hkd : kd = 3 := hkd
        subst hkd
        refine va_zast hexec hb hK hP hD hS kc 3 (f := fun j => Int32.ofInt (g kc j)) hw hty hvi hd fun H1 locs1 hP1 hD1 hS1 => ?_
        have ew := ys_wld_set (ad := ad) (cT := cT) (r := r) (g := g) (g' := ys_gup g kc n (ys_ev r z)) (fds := fds.1) (fds' := fds.1) hsh (fun i hi => ⟨if_neg hi, rfl⟩)
        have ef : (fun j => Int32.ofInt (ys_gup g kc n (ys_ev r z) kc j)) = upd (fun j => Int32.ofInt (g kc j)) (Int32.ofInt (ys_ev r x)).toNatClampNeg (vp_nar .boolean (Int32.ofInt (ys_ev r z))) := by
          rw [e5]
          funext j
          unfold ys_gup upd
          rw [if_pos rfl]
          by_cases hj : j = n
          · rw [if_pos hj, if_pos hj]
            exact (ys_nar_z (by omega) (by omega)).symm
          · rw [if_neg hj, if_neg hj]
        have ec : ys_cel ad cT r (ys_gup g kc n (ys_ev r z)) kc (.inr (3, len, tg)) (fds.1.getD kc []) = (ad kc, .inl (cT 3, len, .inl (upd (fun j => Int32.ofInt (g kc j)) (Int32.ofInt (ys_ev r x)).toNatClampNeg (vp_nar .boolean (Int32.ofInt (ys_ev r z)))))) := by
          show ((ad kc, Sum.inl (cT 3, len, Sum.inl (fun j => Int32.ofInt (ys_gup g kc n (ys_ev r z) kc j)))) : Nat × va_E) = _
          rw [ef]
        rw [ec] at ew
        refine k r H1 locs1 ls _ ⟨q1, ⟨s0, s1, s2, s3⟩, q2, ⟨ys_gup g kc n (ys_ev r z), ⟨fun i w hi => ?_, fun i hi => ?_⟩, ?_, ?_, hS1⟩, q4, q5⟩
        · by_cases hk : i = kc
          · subst hk
            have hl : i < fds.2.length := (List.getElem?_eq_some_iff.mp har).1
            have hi : (fds.2.set i (ys_wr b.1 a x q))[i]? = some w := hi
            rw [List.getElem?_set_self hl] at hi
            cases hi
            have e6 : ys_gup g i n (ys_ev r z) i = fun j => if j = n then ys_ev r z else g i j := if_pos rfl
            rw [e6]
            exact ys_wr_ok h.1.1 (hg.1 i a har) e4 hzq
          · have hi : (fds.2.set kc (ys_wr b.1 a x q))[i]? = some w := hi
            rw [List.getElem?_set_ne (Ne.symm hk)] at hi
            have e6 : ys_gup g kc n (ys_ev r z) i = g i := if_neg hk
            rw [e6]
            exact hg.1 i w hi
        · have hk : i ≠ kc := fun e => hi (e ▸ hm)
          have e6 : ys_gup g kc n (ys_ev r z) i = g i := if_neg hk
          rw [e6]
          exact hg.2 i hi
        · show va_P D cl (ys_wld ad cT sh r (ys_gup g kc n (ys_ev r z)) fds.1) H1
          rw [ew]
          exact hP1
        · show va_D A (ys_wld ad cT sh r (ys_gup g kc n (ys_ev r z)) fds.1)
          rw [ew]
          exact hD1
      · cases hs
    · cases hs
  · cases hs
/-- how long an array is -/
def ys_halen (sh : List ys_C) (pc : Nat) (b : ys_B) (fds : ys_F) (lv : List (Nat × ys_V)) (sv : List ys_V) : Option (List (Nat × ys_S)) := match sv with
  | .inr (some k) :: t => (match sh[k]? with
    | some (.inr y) => some [(pc + 1, b, fds, lv, .inl (.inl ([], (y.2.1 : Int))) :: t)]
    | _ => none)
  | _ => none
theorem ys_kalen (hexec : p.tables.exec = Jvm.exec) (hb : c.code = cc) (hK : va_K D cl tys s) (hty : ∀ (k : Nat) (y : Nat × Nat × List Nat), sh[k]? = some (.inr y) → ∃ t, tys[y.1]? = some (cT y.1, t)) (hd : decode cc pc = .ok (.arraylength, 1)) (hs : ys_halen sh pc b fds lv sv = some succ) (k : ∀ q ∈ succ, ys_W p l e R s m args below meth c Q kc kz D cl ad cT sh A H0 nL mods g0 r0 E q.1 q.2) : ys_W p l e R s m args below meth c Q kc kz D cl ad cT sh A H0 nL mods g0 r0 E pc (b, fds, lv, sv) := by
  unfold ys_halen at hs
  split at hs
  · rename_i kc t
    split at hs
    · rename_i y hsh
      cases Option.some.inj hs
      have k := k _ List.mem_cons_self
      intro r H locs ls st h
      obtain ⟨st1, e1, g1, -⟩ := ys_rep_pop h
      subst e1
      obtain ⟨g, hg, hP, hD, hS⟩ := g1.2.2.2.1
      have hw := ys_wld_get (ad := ad) (cT := cT) (r := r) (g := g) (fds := fds.1) hsh
      obtain ⟨ty, ht⟩ := hty kc y hsh
      refine va_alen (x := ys_con ad (g kc) y) (v := Int32.ofInt (ys_ev r (([], (y.2.1 : Int)) : ys_L))) hexec hb hK hP kc y.1 hw ht ?_ hd (k r H locs ls _ (ys_rep_push g1 _ (ys_stb_cst _)))
      show Int32.ofNat y.2.1 = Int32.ofInt (0 + (y.2.1 : Int))
      rw [Int.zero_add, Int32.ofInt_eq_ofNat]
    · cases hs
  · cases hs
/-- a reference out of an array: each place by itself -/
def ys_fan (n : Nat) (f : Nat → List (Nat × ys_S)) : List (Nat × ys_S) := (List.range n).flatMap f
def ys_isn (x : ys_L) (i : Int) : List ys_L := [ys_sub x ([], i), ys_sub ([], i) x]
theorem ys_isn_ok {r : Nat → Int} {x : ys_L} {i : Int} (h : ys_ev r x = i) : ys_fk r (ys_isn x i) := by
  have z : ys_ev r (([], i) : ys_L) = i := Int.zero_add _
  intro f hf
  rcases List.mem_cons.mp hf with q | q
  · rw [q, ys_sub_ev, z]; omega
  · rw [List.mem_singleton.mp q, ys_sub_ev, z]; omega
theorem ys_isn_st {n : Nat} {x : ys_L} {i : Int} (h : ys_stb n x) : ∀ f ∈ ys_isn x i, ys_stb n f := by
  intro f hf
  rcases List.mem_cons.mp hf with q | q
  · rw [q]; exact ys_stb_sub h (ys_stb_cst i)
  · rw [List.mem_singleton.mp q]; exact ys_stb_sub (ys_stb_cst i) h
def ys_haald (sh : List ys_C) (pc : Nat) (b : ys_B) (fds : ys_F) (lv : List (Nat × ys_V)) (sv : List ys_V) : Option (List (Nat × ys_S)) := match sv with
  | .inl (.inl x) :: .inr (some k) :: t => (match sh[k]? with
    | some (.inr y) => if decide (4 ≤ y.1) && ys_inb b x y.2.1 && decide (y.2.2.length = y.2.1) then some (ys_fan y.2.1 fun i => ys_br (pc + 1) b (ys_isn x (i : Int)) (fds, lv, .inr (some (y.2.2.getD i 0)) :: t)) else none
    | _ => none)
  | _ => none
theorem ys_kaald (hexec : p.tables.exec = Jvm.exec) (hb : c.code = cc) (hK : va_K D cl tys s) (hty : ∀ (k : Nat) (y : Nat × Nat × List Nat), sh[k]? = some (.inr y) → 4 ≤ y.1 → ∃ C, tys[y.1]? = some (cT y.1, .object C)) (hd : decode cc pc = .ok (.aaload, 1)) (hs : ys_haald sh pc b fds lv sv = some succ) (k : ∀ q ∈ succ, ys_W p l e R s m args below meth c Q kc kz D cl ad cT sh A H0 nL mods g0 r0 E q.1 q.2) : ys_W p l e R s m args below meth c Q kc kz D cl ad cT sh A H0 nL mods g0 r0 E pc (b, fds, lv, sv) := by
  unfold ys_haald at hs
  split at hs
  · rename_i x kc t
    split at hs
    · rename_i y hsh
      split at hs
      · rename_i hc
        rw [Bool.and_eq_true, Bool.and_eq_true, decide_eq_true_eq, decide_eq_true_eq] at hc
        obtain ⟨⟨hkd, hin⟩, hlen⟩ := hc
        cases Option.some.inj hs
        intro r H locs ls st h
        obtain ⟨st1, e1, g1, hx⟩ := ys_rep_pop h
        obtain ⟨st2, e2, g2, -⟩ := ys_rep_pop g1
        subst e1; subst e2
        obtain ⟨g, hg, hP, hD, hS⟩ := g2.2.2.2.1
        obtain ⟨n, e3, hn, hvi, e4⟩ := ys_inb_ok h.1 hin
        have hw := ys_wld_get (ad := ad) (cT := cT) (r := r) (g := g) (fds := fds.1) hsh
        obtain ⟨C, ht⟩ := hty kc y hsh hkd
        have hcon : ys_con ad (g kc) y = (y.2.1, .inr (.inr (.inr (.inr fun j => (y.2.2[j]?).map ad)))) := by
          unfold ys_con
          rw [if_neg (by omega), if_pos hkd]
        have hw2 : (ys_wld ad cT sh r g fds.1)[kc]? = some (ad kc, .inl (cT y.1, y.2.1, .inr (.inr (.inr (.inr fun j => (y.2.2[j]?).map ad))))) := by
          rw [hw]
          show some (ad kc, Sum.inl (cT y.1, ys_con ad (g kc) y)) = _
          rw [hcon]
        refine va_aldq hexec hb hK hP kc y.1 hw2 ht hvi hd ?_
        rw [e4]
        have e5 : y.2.2[n]? = some (y.2.2.getD n 0) := by
          rw [List.getD_eq_getElem?_getD, List.getElem?_eq_getElem (by omega)]
          rfl
        rw [e5]
        exact ys_kbr (ys_rep_push g2 (.inr (some (y.2.2.getD n 0))) trivial) (ys_isn_ok e3) (ys_isn_st hx) (fun q hq => k q (List.mem_flatMap.mpr ⟨n, List.mem_range.mpr hn, hq⟩))
      · cases hs
    · cases hs
  · cases hs
/-- a table of places to go on at -/
def ys_htab (dflt lo hi : Int) (offs : Array Int) (pc : Nat) (b : ys_B) (fds : ys_F) (lv : List (Nat × ys_V)) (sv : List ys_V) : Option (List (Nat × ys_S)) := match sv, ys_tgt pc dflt with
  | .inl (.inl x) :: t, some td => if ys_inr false b.1 x && (decide ((offs.size : Int) = hi - lo + 1) && offs.toList.all fun o => decide (0 ≤ (pc : Int) + o)) then
      some (ys_br td b [ys_sub ([], lo - 1) x] (fds, lv, t) ++ (ys_br td b [ys_sub x ([], hi + 1)] (fds, lv, t) ++ ys_fan offs.size fun i => ys_br ((pc : Int) + offs.toList.getD i 0).toNat b (ys_isn x (lo + (i : Int))) (fds, lv, t))) else none
  | _, _ => none
theorem ys_ktab {dflt lo hi : Int} {offs : Array Int} {len : Nat} (hexec : p.tables.exec = Jvm.exec) (hb : c.code = cc) (hd : decode cc pc = .ok (.tableswitch dflt lo hi offs, len)) (hs : ys_htab dflt lo hi offs pc b fds lv sv = some succ) (k : ∀ q ∈ succ, ys_W p l e R s m args below meth c Q kc kz D cl ad cT sh A H0 nL mods g0 r0 E q.1 q.2) : ys_W p l e R s m args below meth c Q kc kz D cl ad cT sh A H0 nL mods g0 r0 E pc (b, fds, lv, sv) := by
  unfold ys_htab at hs
  split at hs
  · rename_i x t td htd
    split at hs
    · rename_i hc
      rw [Bool.and_eq_true, Bool.and_eq_true, decide_eq_true_eq] at hc
      obtain ⟨hin, hsz, hal⟩ := hc
      cases Option.some.inj hs
      intro r H locs ls st h
      obtain ⟨st1, e1, g1, hx⟩ := ys_rep_pop h
      subst e1
      have e0 := ys_inr32 h.1.1 hin
      have z : ∀ i : Int, ys_ev r (([], i) : ys_L) = i := fun i => Int.zero_add _
      have one : ∀ {g : ys_L}, ys_stb b.1.length g → ∀ f ∈ [g], ys_stb b.1.length f := fun hg f hf => by rw [List.mem_singleton.mp hf]; exact hg
      by_cases h1 : ys_ev r x < lo
      · refine lv_tableOut hexec hb hd (Or.inl (by rw [e0]; exact h1)) (ys_tgt_ok htd) ?_
        exact ys_kbr g1 (ys_fk1 (by rw [ys_sub_ev, ys_cst_ev]; omega)) (one (ys_stb_sub (ys_stb_cst _) hx)) (fun q hq => k q (List.mem_append_left _ hq))
      · by_cases h2 : hi < ys_ev r x
        · refine lv_tableOut hexec hb hd (Or.inr (by rw [e0]; exact h2)) (ys_tgt_ok htd) ?_
          exact ys_kbr g1 (ys_fk1 (by rw [ys_sub_ev, ys_cst_ev]; omega)) (one (ys_stb_sub hx (ys_stb_cst _))) (fun q hq => k q (List.mem_append_right _ (List.mem_append_left _ hq)))
        · have hn : (ys_ev r x - lo).toNat < offs.size := by omega
          have ho : offs[(ys_ev r x - lo).toNat]? = some (offs.toList.getD (ys_ev r x - lo).toNat 0) := by
            rw [List.getD_eq_getElem?_getD, Array.getElem?_toList, Array.getElem?_eq_getElem hn]
            rfl
          have hpos : 0 ≤ (pc : Int) + offs.toList.getD (ys_ev r x - lo).toNat 0 := by
            have hm : offs.toList.getD (ys_ev r x - lo).toNat 0 ∈ offs.toList := by
              rw [← Array.getElem?_toList] at ho
              exact List.mem_of_getElem? ho
            exact of_decide_eq_true (List.all_eq_true.mp hal _ hm)
          refine lv_tableIn hexec hb hd (by rw [e0]; exact h1) (by rw [e0]; exact h2) (by rw [e0]; exact ho) (tgt := ((pc : Int) + offs.toList.getD (ys_ev r x - lo).toNat 0).toNat) (by omega) ?_
          exact ys_kbr g1 (ys_isn_ok (by omega)) (ys_isn_st hx) (fun q hq => k q (List.mem_append_right _ (List.mem_append_right _ (List.mem_flatMap.mpr ⟨_, List.mem_range.mpr hn, hq⟩))))
    · cases hs
  · cases hs
/-- by the quotients, where there are few -/
def ys_hqs (F : ys_B → ys_L → ys_L → Option (ys_B × ys_L)) (pc : Nat) (b : ys_B) (fds : ys_F) (lv : List (Nat × ys_V)) (sv : List ys_V) : Option (List (Nat × ys_S)) := match sv with
  | .inl (.inl y) :: .inl (.inl x) :: t => (match ys_qb false b.1 x y with
    | some q => if q.1 < q.2 ∧ q.2 - q.1 ≤ 8 then some (ys_fan (q.2 - q.1 + 1).toNat fun i => ys_br pc b [ys_sub x ([], y.2 * (q.1 + (i : Int))), ys_sub ([], y.2 * (q.1 + (i : Int)) + (y.2 - 1)) x] (fds, lv, .inl (.inl y) :: .inl (.inl x) :: t)) else ys_hb32 F pc b fds lv sv
    | none => ys_hb32 F pc b fds lv sv)
  | _ => none
theorem ys_kqs {F : ys_B → ys_L → ys_L → Option (ys_B × ys_L)} {op : Int32 → Int32 → Int32} {ok : Int32 → Prop} (hF : ys_B32 F op ok) (hrow : ∀ (X Y : Int32) (H : Heap) (locs : List Loc) (ls : Array Slot) (rest : List Value), ok Y → W p l e R s m args below meth c H locs kc kz Q (F0 m (pc + 1) ls (.int (op X Y) :: rest)) → W p l e R s m args below meth c H locs kc kz Q (F0 m pc ls (.int Y :: .int X :: rest))) (hs : ys_hqs F pc b fds lv sv = some succ) (k : ∀ q ∈ succ, ys_W p l e R s m args below meth c Q kc kz D cl ad cT sh A H0 nL mods g0 r0 E q.1 q.2) : ys_W p l e R s m args below meth c Q kc kz D cl ad cT sh A H0 nL mods g0 r0 E pc (b, fds, lv, sv) := by
  unfold ys_hqs at hs
  split at hs
  · rename_i y x t
    split at hs
    · rename_i q hq
      split at hs
      · rename_i hc
        cases Option.some.inj hs
        intro r H locs ls st h
        obtain ⟨h1, h2, h3, h4, h5, h6, h7, h8⟩ := ys_qb_ok h.1.1 hq
        have hx : ys_stb b.1.length x := h.2.1.2.2.2 (.inl (.inl x)) (List.mem_cons_of_mem _ List.mem_cons_self)
        have z : ∀ i : Int, ys_ev r (([], i) : ys_L) = i := fun i => Int.zero_add _
        have m1 := Int.emod_def (ys_ev r x) y.2
        have m2 := Int.emod_nonneg (ys_ev r x) (b := y.2) (by omega)
        have m3 := Int.emod_lt_of_pos (ys_ev r x) (b := y.2) (by omega)
        have hi : q.1 + (((ys_ev r x / y.2 - q.1).toNat : Nat) : Int) = ys_ev r x / y.2 := by omega
        refine ys_kbr h (fs := [ys_sub x ([], y.2 * (q.1 + (((ys_ev r x / y.2 - q.1).toNat : Nat) : Int))), ys_sub ([], y.2 * (q.1 + (((ys_ev r x / y.2 - q.1).toNat : Nat) : Int)) + (y.2 - 1)) x]) (fun f hf => ?_) (fun f hf => ?_) (fun q' hq' => k q' (List.mem_flatMap.mpr ⟨(ys_ev r x / y.2 - q.1).toNat, List.mem_range.mpr (by omega), hq'⟩))
        · rw [hi] at hf
          rcases List.mem_cons.mp hf with e1 | e1
          · rw [e1, ys_sub_ev, z]; omega
          · rw [List.mem_singleton.mp e1, ys_sub_ev, z]; omega
        · rcases List.mem_cons.mp hf with e1 | e1
          · rw [e1]; exact ys_stb_sub hx (ys_stb_cst _)
          · rw [List.mem_singleton.mp e1]; exact ys_stb_sub (ys_stb_cst _) hx
      · exact ys_kb32 hF hrow hs k
    · exact ys_kb32 hF hrow hs k
  · cases hs
/-- a list of places to go on at -/
def ys_lks (pc : Nat) (b : ys_B) (rest : ys_F × List (Nat × ys_V) × List ys_V) (x : ys_L) (dflt : Int) : List (Int × Int) → List (Nat × ys_S)
  | [] => ys_br ((pc : Int) + dflt).toNat b [] rest
  | q :: t => ys_br ((pc : Int) + q.2).toNat b (ys_isn x q.1) rest ++ ys_lks pc b rest x dflt t
def ys_hlook (dflt : Int) (ps : Array (Int × Int)) (pc : Nat) (b : ys_B) (fds : ys_F) (lv : List (Nat × ys_V)) (sv : List ys_V) : Option (List (Nat × ys_S)) := match sv with
  | .inl (.inl x) :: t => if ys_inr false b.1 x && (decide (0 ≤ (pc : Int) + dflt) && ((ps.toList.zip (ps.toList.drop 1)).all (fun (a, next) => a.1 < next.1) && ps.toList.all fun o => decide (0 ≤ (pc : Int) + o.2))) then some (ys_lks pc b (fds, lv, t) x dflt ps.toList) else none
  | _ => none
theorem ys_lks_ok {x : ys_L} {dflt : Int} {r : Nat → Int} {H : Heap} {locs : List Loc} {ls : Array Slot} {st : List Value} (h : ys_rep D cl ad cT sh A H0 nL mods g0 r0 r E (b, fds, lv, sv) H locs ls st) (hx : ys_stb b.1.length x) : ∀ (pl : List (Int × Int)), (∀ q ∈ ys_lks pc b (fds, lv, sv) x dflt pl, ys_W p l e R s m args below meth c Q kc kz D cl ad cT sh A H0 nL mods g0 r0 E q.1 q.2) → W p l e R s m args below meth c H locs kc kz Q (F0 m ((pc : Int) + Op.lookupswitch.offset pl dflt (ys_ev r x)).toNat ls st)
  | [], k => ys_kbr h (fun f hf => by cases hf) (fun f hf => by cases hf) k
  | (a, o) :: t, k => by
    rw [Op.lookupswitch.offset_cons]
    by_cases ha : a = ys_ev r x
    · rw [if_pos ha]
      exact ys_kbr h (ys_isn_ok ha.symm) (ys_isn_st hx) (fun q hq => k q (List.mem_append_left _ hq))
    · rw [if_neg ha]
      exact ys_lks_ok h hx t (fun q hq => k q (List.mem_append_right _ hq))
theorem ys_lks_pos {dflt : Int} (hd : 0 ≤ (pc : Int) + dflt) (x : Int) : ∀ (l : List (Int × Int)), (l.all fun o => decide (0 ≤ (pc : Int) + o.2)) = true → 0 ≤ (pc : Int) + Op.lookupswitch.offset l dflt x
  | [], _ => hd
  | (a, o) :: t, h => by
    rw [List.all_cons, Bool.and_eq_true] at h
    rw [Op.lookupswitch.offset_cons]
    split
    · exact of_decide_eq_true h.1
    · exact ys_lks_pos hd x t h.2
theorem ys_klook {dflt : Int} {ps : Array (Int × Int)} {len : Nat} (hexec : p.tables.exec = Jvm.exec) (hb : c.code = cc) (hd : decode cc pc = .ok (.lookupswitch dflt ps, len)) (hs : ys_hlook dflt ps pc b fds lv sv = some succ) (k : ∀ q ∈ succ, ys_W p l e R s m args below meth c Q kc kz D cl ad cT sh A H0 nL mods g0 r0 E q.1 q.2) : ys_W p l e R s m args below meth c Q kc kz D cl ad cT sh A H0 nL mods g0 r0 E pc (b, fds, lv, sv) := by
  unfold ys_hlook at hs
  split at hs
  · rename_i x t
    split at hs
    · rename_i hc
      rw [Bool.and_eq_true, Bool.and_eq_true, Bool.and_eq_true, decide_eq_true_eq] at hc
      obtain ⟨hin, hdf, hsrt, hal⟩ := hc
      cases Option.some.inj hs
      intro r H locs ls st h
      obtain ⟨st1, e1, g1, hx⟩ := ys_rep_pop h
      subst e1
      have e0 := ys_inr32 h.1.1 hin
      have hp := ys_lks_pos hdf (ys_ev r x) ps.toList hal
      exact lv_lookup hexec hb hd hsrt (by rw [e0]) (tgt := ((pc : Int) + Op.lookupswitch.offset ps.toList dflt (ys_ev r x)).toNat) (by omega) (ys_lks_ok g1 hx ps.toList k)
    · cases hs
  · cases hs
/-- the stack -/
def ys_hdup (pc : Nat) (b : ys_B) (fds : ys_F) (lv : List (Nat × ys_V)) (sv : List ys_V) : Option (List (Nat × ys_S)) := match sv with
  | v :: t => if ys_cat v = 1 then some [(pc + 1, b, fds, lv, v :: v :: t)] else none
  | _ => none
theorem ys_kdup (hexec : p.tables.exec = Jvm.exec) (hb : c.code = cc) (hd : decode cc pc = .ok (.dup, 1)) (hs : ys_hdup pc b fds lv sv = some succ) (k : ∀ q ∈ succ, ys_W p l e R s m args below meth c Q kc kz D cl ad cT sh A H0 nL mods g0 r0 E q.1 q.2) : ys_W p l e R s m args below meth c Q kc kz D cl ad cT sh A H0 nL mods g0 r0 E pc (b, fds, lv, sv) := by
  unfold ys_hdup at hs
  split at hs
  · rename_i v t
    split at hs
    · rename_i hc
      cases Option.some.inj hs
      have k := k _ List.mem_cons_self
      intro r H locs ls st h
      obtain ⟨st1, e1, g1, hv⟩ := ys_rep_pop h
      subst e1
      exact lv_dup hexec hb hd (by rw [ys_cat_den]; exact hc) (k r H locs ls _ (ys_rep_push h v hv))
    · cases hs
  · cases hs
def ys_hdup2 (pc : Nat) (b : ys_B) (fds : ys_F) (lv : List (Nat × ys_V)) (sv : List ys_V) : Option (List (Nat × ys_S)) := match sv with
  | v :: w :: t => if ys_cat v = 1 && ys_cat w = 1 then some [(pc + 1, b, fds, lv, v :: w :: v :: w :: t)] else none
  | _ => none
theorem ys_kdup2 (hexec : p.tables.exec = Jvm.exec) (hb : c.code = cc) (hd : decode cc pc = .ok (.dup2, 1)) (hs : ys_hdup2 pc b fds lv sv = some succ) (k : ∀ q ∈ succ, ys_W p l e R s m args below meth c Q kc kz D cl ad cT sh A H0 nL mods g0 r0 E q.1 q.2) : ys_W p l e R s m args below meth c Q kc kz D cl ad cT sh A H0 nL mods g0 r0 E pc (b, fds, lv, sv) := by
  unfold ys_hdup2 at hs
  split at hs
  · rename_i v w t
    split at hs
    · rename_i hc
      rw [Bool.and_eq_true, decide_eq_true_eq, decide_eq_true_eq] at hc
      cases Option.some.inj hs
      have k := k _ List.mem_cons_self
      intro r H locs ls st h
      obtain ⟨st1, e1, g1, hv⟩ := ys_rep_pop h
      obtain ⟨st2, e2, g2, hw⟩ := ys_rep_pop g1
      subst e1; subst e2
      exact lv_dup2_11 hexec hb hd (by rw [ys_cat_den]; exact hc.1) (by rw [ys_cat_den]; exact hc.2) (k r H locs ls _ (ys_rep_push (ys_rep_push h w hw) v hv))
    · cases hs
  · cases hs
def ys_hpop (pc : Nat) (b : ys_B) (fds : ys_F) (lv : List (Nat × ys_V)) (sv : List ys_V) : Option (List (Nat × ys_S)) := match sv with
  | v :: t => if ys_cat v = 1 then some [(pc + 1, b, fds, lv, t)] else none
  | _ => none
theorem ys_kpop (hexec : p.tables.exec = Jvm.exec) (hb : c.code = cc) (hd : decode cc pc = .ok (.pop, 1)) (hs : ys_hpop pc b fds lv sv = some succ) (k : ∀ q ∈ succ, ys_W p l e R s m args below meth c Q kc kz D cl ad cT sh A H0 nL mods g0 r0 E q.1 q.2) : ys_W p l e R s m args below meth c Q kc kz D cl ad cT sh A H0 nL mods g0 r0 E pc (b, fds, lv, sv) := by
  unfold ys_hpop at hs
  split at hs
  · rename_i v t
    split at hs
    · rename_i hc
      cases Option.some.inj hs
      have k := k _ List.mem_cons_self
      intro r H locs ls st h
      obtain ⟨st1, e1, g1, hv⟩ := ys_rep_pop h
      subst e1
      exact lv_pop hexec hb hd (by rw [ys_cat_den]; exact hc) (k r H locs ls _ g1)
    · cases hs
  · cases hs
def ys_hpop2 (pc : Nat) (b : ys_B) (fds : ys_F) (lv : List (Nat × ys_V)) (sv : List ys_V) : Option (List (Nat × ys_S)) := match sv with
  | v :: t => if ys_cat v = 2 then some [(pc + 1, b, fds, lv, t)] else none
  | _ => none
theorem ys_kpop2 (hexec : p.tables.exec = Jvm.exec) (hb : c.code = cc) (hd : decode cc pc = .ok (.pop2, 1)) (hs : ys_hpop2 pc b fds lv sv = some succ) (k : ∀ q ∈ succ, ys_W p l e R s m args below meth c Q kc kz D cl ad cT sh A H0 nL mods g0 r0 E q.1 q.2) : ys_W p l e R s m args below meth c Q kc kz D cl ad cT sh A H0 nL mods g0 r0 E pc (b, fds, lv, sv) := by
  unfold ys_hpop2 at hs
  split at hs
  · rename_i v t
    split at hs
    · rename_i hc
      cases Option.some.inj hs
      have k := k _ List.mem_cons_self
      intro r H locs ls st h
      obtain ⟨st1, e1, g1, hv⟩ := ys_rep_pop h
      subst e1
      exact lv_pop2_2 hexec hb hd (by rw [ys_cat_den]; exact hc) (k r H locs ls _ g1)
    · cases hs
  · cases hs
/-- a place of the frame grows -/
def ys_hinc (nL : Nat) (i : Nat) (n : Int) (pc : Nat) (b : ys_B) (fds : ys_F) (lv : List (Nat × ys_V)) (sv : List ys_V) : Option (List (Nat × ys_S)) := match lv.lookup i with
  | some (.inl (.inl x)) => if i < nL then some [(pc + 3, (ys_nm false b (ys_add x ([], n))).1, fds, ys_st1 lv i (.inl (.inl (ys_nm false b (ys_add x ([], n))).2)), sv)] else none
  | _ => none
theorem ys_kinc {i : Nat} {n : Int} (hexec : p.tables.exec = Jvm.exec) (hb : c.code = cc) (hd : decode cc pc = .ok (.iinc i n, 3)) (hs : ys_hinc nL i n pc b fds lv sv = some succ) (k : ∀ q ∈ succ, ys_W p l e R s m args below meth c Q kc kz D cl ad cT sh A H0 nL mods g0 r0 E q.1 q.2) : ys_W p l e R s m args below meth c Q kc kz D cl ad cT sh A H0 nL mods g0 r0 E pc (b, fds, lv, sv) := by
  unfold ys_hinc at hs
  split at hs
  · rename_i x hx
    split at hs
    · rename_i hi
      cases Option.some.inj hs
      have k := k _ List.mem_cons_self
      intro r H locs ls st h
      have hsx := (ys_rep_loc h hx).2
      obtain ⟨r', hag, hbb, hl, hsc, hst, hval⟩ := ys_Op_nm32 (e := ys_add x ([], n)) (x := Int32.ofInt (ys_ev r x) + Int32.ofInt n) h.1 h.2.1.1 (ys_stb_add hsx (ys_stb_cst n)) (by rw [ys_add_ev, Int32.ofInt_add]; congr 2; exact Int.zero_add n)
      have h2 := ys_rep_ext h hag hbb hl hsc
      obtain ⟨q1, ⟨s0, s1, s2, s3⟩, q2, q3, q4, q5⟩ := h2
      have hx2 := ys_find_mem lv i _ hx
      obtain ⟨kk, hkk⟩ := List.getElem?_of_mem (List.mem_map.mpr ⟨_, hx2, rfl⟩ : (i, ys_den ad r' (.inl (.inl x))) ∈ ys_lvs ad r' lv)
      have ex : Int32.ofInt (ys_ev r' x) = Int32.ofInt (ys_ev r x) := by rw [hsx r' r hag]
      refine lv_iinc (x := Int32.ofInt (ys_ev r' x)) (v := Int32.ofInt (ys_ev r' (ys_nm false b (ys_add x ([], n))).2)) (lv' := ys_lvs ad r' (ys_st1 lv i (.inl (.inl (ys_nm false b (ys_add x ([], n))).2)))) hexec hb hd q4 hkk (by rw [ex, hval]) hi ?_ fun ls' hls => k r' H locs ls' st ⟨q1, ⟨s0, s1, fun q hq => ?_, s3⟩, q2, q3, hls, q5⟩
      · rw [ys_st1_lvs]
        rfl
      · rcases List.mem_cons.mp hq with e5 | e5
        · rw [e5]; exact hst
        · exact s2 q (List.mem_filter.mp e5).1
    · cases hs
  · cases hs
end YSM2
end
section
/-! one state within another's words -/
def ys_eqV (v w : ys_V) : Bool := match v, w with
  | .inl (.inl x), .inl (.inl y) => decide (ys_sub x y = ([], 0))
  | .inl (.inr x), .inl (.inr y) => decide (ys_sub x y = ([], 0))
  | .inr x, .inr y => decide (x = y)
  | _, _ => false
theorem ys_sub0 {r : Nat → Int} {x y : ys_L} (h : ys_sub x y = ([], 0)) : ys_ev r x = ys_ev r y := by
  have h1 := ys_sub_ev r x y
  rw [h] at h1
  have h2 : ys_ev r (([], 0) : ys_L) = 0 := rfl
  omega
theorem ys_eqV_ok {ad : Nat → Nat} {v w : ys_V} (h : ys_eqV v w = true) (r : Nat → Int) : ys_den ad r v = ys_den ad r w := by
  unfold ys_eqV at h
  split at h
  · show Value.int _ = Value.int _
    rw [ys_sub0 (of_decide_eq_true h)]
  · show Value.long _ = Value.long _
    rw [ys_sub0 (of_decide_eq_true h)]
  · rw [of_decide_eq_true h]
  · cases h
def ys_pV (E : Nat) (t : List ys_L) : ys_V → ys_V
  | .inl (.inl x) => .inl (.inl (ys_put E t x))
  | .inl (.inr x) => .inl (.inr (ys_put E t x))
  | .inr x => .inr x
theorem ys_pV_den {ad : Nat → Nat} (r : Nat → Int) (E : Nat) (t : List ys_L) (v : ys_V) : ys_den ad r (ys_pV E t v) = ys_den ad (ys_val r E t) v := by
  rcases v with (x | x) | x
  · show Value.int (Int32.ofInt (ys_ev r (ys_put E t x))) = _
    rw [ys_put_ev]
    rfl
  · show Value.long (Int64.ofInt (ys_ev r (ys_put E t x))) = _
    rw [ys_put_ev]
    rfl
  · cases x <;> rfl
theorem ys_pV_st {n E : Nat} {t : List ys_L} (hE : E ≤ n) (ht : ∀ x ∈ t, ys_stb n x) (v : ys_V) : ys_stV n (ys_pV E t v) := by
  rcases v with (x | x) | x
  · exact ys_stb_put hE ht x
  · exact ys_stb_put hE ht x
  · trivial
def ys_col : Nat → List (ys_V × ys_V) → List ys_L
  | _, [] => []
  | j, q :: t => match q.1, q.2 with
    | .inl (.inl x), .inl (.inl y) => if x = ys_sym j then y :: ys_col (j + 1) t else ys_col j t
    | .inl (.inr x), .inl (.inr y) => if x = ys_sym j then y :: ys_col (j + 1) t else ys_col j t
    | _, _ => ys_col j t
theorem ys_col_st {n : Nat} : ∀ (l : List (ys_V × ys_V)) (j : Nat), (∀ q ∈ l, ys_stV n q.2) → ∀ x ∈ ys_col j l, ys_stb n x
  | [], j, h, x, hx => by cases hx
  | (v, w) :: t, j, h, x, hx => by
    have hw := h _ List.mem_cons_self
    have ht : ∀ q ∈ t, ys_stV n q.2 := fun q hq => h q (List.mem_cons_of_mem _ hq)
    unfold ys_col at hx
    split at hx
    · rename_i a y e1 e2
      split at hx
      · rcases List.mem_cons.mp hx with q | q
        · rw [q]
          have hw : ys_stV n w := hw
          rw [show w = .inl (.inl y) from e2] at hw
          exact hw
        · exact ys_col_st t _ ht x q
      · exact ys_col_st t _ ht x hx
    · rename_i a y e1 e2
      split at hx
      · rcases List.mem_cons.mp hx with q | q
        · rw [q]
          have hw : ys_stV n w := hw
          rw [show w = .inl (.inr y) from e2] at hw
          exact hw
        · exact ys_col_st t _ ht x q
      · exact ys_col_st t _ ht x hx
    · exact ys_col_st t _ ht x hx
def ys_ivc (b : ys_B) : List ys_L → ys_E → Bool
  | [], [] => true
  | x :: t, q :: u => ys_ge b.1 b.2 2 (ys_sub x ([], q.1)) && (ys_ge b.1 b.2 2 (ys_sub ([], q.2) x) && ys_ivc b t u)
  | _, _ => false
theorem ys_ivc_ok {r : Nat → Int} {b : ys_B} (h : ys_okB r b) : ∀ (t : List ys_L) (u : ys_E), ys_ivc b t u = true → t.length = u.length ∧ ∀ (j : Nat) (q : Int × Int), u[j]? = some q → q.1 ≤ ys_ev r (t.getD j ([], 0)) ∧ ys_ev r (t.getD j ([], 0)) ≤ q.2
  | [], [], _ => ⟨rfl, fun j q hj => by cases hj⟩
  | x :: t, w :: u, hc => by
    unfold ys_ivc at hc
    rw [Bool.and_eq_true, Bool.and_eq_true] at hc
    obtain ⟨c1, c2, c3⟩ := hc
    obtain ⟨i1, i2⟩ := ys_ivc_ok h t u c3
    have h1 := ys_ge_le h.1 h.2 _ _ c1
    have h2 := ys_ge_le h.1 h.2 _ _ c2
    have z : ∀ i : Int, ys_ev r (([], i) : ys_L) = i := fun i => Int.zero_add _
    rw [ys_sub_ev, z] at h1
    rw [ys_sub_ev, z] at h2
    refine ⟨by rw [List.length_cons, List.length_cons, i1], fun j q hj => ?_⟩
    cases j with
    | zero =>
      cases hj
      show w.1 ≤ ys_ev r x ∧ ys_ev r x ≤ w.2
      omega
    | succ j => exact i2 j q hj
  | [], _ :: _, hc => by cases hc
  | _ :: _, [], hc => by cases hc
def ys_sbs (q w : Int × Int) : Bool := decide (w.1 ≤ q.1) && decide (q.2 ≤ w.2)
theorem ys_sbs_ok {q w : Int × Int} (h : ys_sbs q w = true) {z : Int} (hz : q.1 ≤ z ∧ z ≤ q.2) : w.1 ≤ z ∧ z ≤ w.2 := by
  unfold ys_sbs at h
  rw [Bool.and_eq_true, decide_eq_true_eq, decide_eq_true_eq] at h
  omega
def ys_rle (a a' : ys_R) : Bool := ys_sbs a.1 a'.1 && (a.2.all (fun x => ys_sbs x.2 (ys_rat a' x.1)) && a'.2.all (fun x => ys_sbs (ys_rat a x.1) x.2))
theorem ys_lk_mem : ∀ (l : List (Nat × (Int × Int))) (i : Nat) (v : Int × Int), l.lookup i = some v → (i, v) ∈ l
  | [], i, v, h => by cases h
  | (j, w) :: t, i, v, h => by
    unfold List.lookup at h
    cases hc : i == j with
    | true =>
      rw [hc] at h
      cases h
      rw [beq_iff_eq] at hc
      rw [hc]
      exact List.mem_cons_self
    | false =>
      rw [hc] at h
      exact List.mem_cons_of_mem _ (ys_lk_mem t i v h)
theorem ys_rle_ok {a a' : ys_R} (h : ys_rle a a' = true) {f : Nat → Int} (ha : ys_rok a f) : ys_rok a' f := by
  unfold ys_rle at h
  rw [Bool.and_eq_true, Bool.and_eq_true] at h
  obtain ⟨h1, h2, h3⟩ := h
  intro j
  have hj := ha j
  cases hc : a'.2.lookup j with
  | some w =>
    have e1 : ys_rat a' j = w := by unfold ys_rat; rw [hc]; rfl
    rw [e1]
    exact ys_sbs_ok (List.all_eq_true.mp h3 _ (ys_lk_mem _ _ _ hc)) hj
  | none =>
    have e1 : ys_rat a' j = a'.1 := by unfold ys_rat; rw [hc]; rfl
    cases hd : a.2.lookup j with
    | some w =>
      have e2 : ys_rat a j = w := by unfold ys_rat; rw [hd]; rfl
      rw [e2] at hj
      exact ys_sbs_ok (List.all_eq_true.mp h2 _ (ys_lk_mem _ _ _ hd)) hj
    | none =>
      have e2 : ys_rat a j = a.1 := by unfold ys_rat; rw [hd]; rfl
      rw [e2] at hj
      rw [e1]
      exact ys_sbs_ok h1 hj
def ys_rls : List ys_R → List ys_R → Bool
  | [], [] => true
  | a :: t, a' :: u => ys_rle a a' && ys_rls t u
  | _, _ => false
theorem ys_rls_ok : ∀ (l l' : List ys_R), ys_rls l l' = true → l.length = l'.length ∧ ∀ (k : Nat) (a' : ys_R), l'[k]? = some a' → ∃ a, l[k]? = some a ∧ ys_rle a a' = true
  | [], [], _ => ⟨rfl, fun k a' h => by cases h⟩
  | a :: t, a' :: u, h => by
    unfold ys_rls at h
    rw [Bool.and_eq_true] at h
    obtain ⟨i1, i2⟩ := ys_rls_ok t u h.2
    refine ⟨by rw [List.length_cons, List.length_cons, i1], fun k x hk => ?_⟩
    cases k with
    | zero =>
      cases hk
      exact ⟨a, rfl, h.1⟩
    | succ k => exact i2 k x hk
  | [], _ :: _, h => by cases h
  | _ :: _, [], h => by cases h
def ys_mat (b : ys_B) (ars : List ys_R) (E : Nat) (tiv : ys_E) (tf : List ys_L) (tars : List ys_R) (prs : List (ys_V × ys_V)) : Option (List ys_L) :=
  if ys_ivc b (ys_col E prs) tiv && (tf.all (fun f => ys_ge b.1 b.2 2 (ys_put E (ys_col E prs) f)) && (prs.all (fun q => ys_eqV (ys_pV E (ys_col E prs) q.1) q.2) && ys_rls ars tars)) then some (ys_col E prs) else none
theorem ys_mat_ok {ad : Nat → Nat} {r : Nat → Int} {b : ys_B} (h : ys_okB r b) {ars tars : List ys_R} {E : Nat} {tiv : ys_E} {tf : List ys_L} {prs : List (ys_V × ys_V)} {t : List ys_L} (hm : ys_mat b ars E tiv tf tars prs = some t) :
    t = ys_col E prs ∧ t.length = tiv.length ∧ (∀ (j : Nat) (q : Int × Int), tiv[j]? = some q → q.1 ≤ ys_val r E t (E + j) ∧ ys_val r E t (E + j) ≤ q.2) ∧ ys_fk (ys_val r E t) tf ∧ (∀ q ∈ prs, ys_den ad (ys_val r E t) q.1 = ys_den ad r q.2) ∧ (ars.length = tars.length ∧ ∀ (k : Nat) (a' : ys_R), tars[k]? = some a' → ∃ a, ars[k]? = some a ∧ ys_rle a a' = true) := by
  unfold ys_mat at hm
  split at hm
  · rename_i hc
    rw [Bool.and_eq_true, Bool.and_eq_true, Bool.and_eq_true] at hc
    obtain ⟨c1, c2, c3, c4⟩ := hc
    have et := (Option.some.inj hm).symm
    rw [← et] at c1 c2 c3
    obtain ⟨i1, i2⟩ := ys_ivc_ok h t tiv c1
    refine ⟨et, i1, fun j q hj => ?_, fun f hf => ?_, fun q hq => ?_, ys_rls_ok _ _ c4⟩
    · have e1 : ys_val r E t (E + j) = ys_ev r (t.getD j ([], 0)) := by
        show ys_ev r (ys_at E t (E + j)) = _
        unfold ys_at
        rw [if_neg (by omega), show E + j - E = j by omega]
      rw [e1]
      exact i2 j q hj
    · have h1 := ys_ge_le h.1 h.2 _ _ (List.all_eq_true.mp c2 f hf)
      rw [ys_put_ev] at h1
      exact h1
    · have h1 := ys_eqV_ok (ad := ad) (List.all_eq_true.mp c3 q hq) r
      rw [ys_pV_den] at h1
      exact h1
  · cases hm
theorem ys_val_high {r : Nat → Int} {E : Nat} {t : List ys_L} {i : Nat} (h : E + t.length ≤ i) : ys_val r E t i = 0 := by
  show ys_ev r (ys_at E t i) = 0
  unfold ys_at
  rw [if_neg (by omega), List.getD_eq_getElem?_getD, List.getElem?_eq_none (by omega)]
  rfl
/-- fields by pairs -/
def ys_zf : List (List ys_V) → List (List ys_V) → Option (List (ys_V × ys_V))
  | [], [] => some []
  | x :: t, y :: u => if x.length = y.length then (match ys_zf t u with
    | some l => some (x.zip y ++ l)
    | none => none) else none
  | _, _ => none
theorem ys_zip_map {ad : Nat → Nat} {r r' : Nat → Int} : ∀ (x y : List ys_V), x.length = y.length → (∀ q ∈ x.zip y, ys_den ad r' q.1 = ys_den ad r q.2) → x.map (ys_den ad r') = y.map (ys_den ad r)
  | [], [], _, _ => rfl
  | v :: x, w :: y, hl, h => by
    rw [List.map_cons, List.map_cons, ys_zip_map x y (by simpa using hl) (fun q hq => h q (List.mem_cons_of_mem _ hq)), h (v, w) List.mem_cons_self]
  | [], _ :: _, hl, _ => by cases hl
  | _ :: _, [], hl, _ => by cases hl
theorem ys_zf_ok {ad : Nat → Nat} {r r' : Nat → Int} : ∀ (x y : List (List ys_V)) (l : List (ys_V × ys_V)), ys_zf x y = some l → (∀ q ∈ l, ys_den ad r' q.1 = ys_den ad r q.2) → ∀ k, (x.getD k []).map (ys_den ad r') = (y.getD k []).map (ys_den ad r)
  | [], [], l, _, _ => fun k => by simp
  | a :: x, c :: y, l, hz, h => by
    unfold ys_zf at hz
    split at hz
    · rename_i hl
      split at hz
      · rename_i l' hl'
        cases Option.some.inj hz
        intro k
        cases k with
        | zero => exact ys_zip_map a c hl (fun q hq => h q (List.mem_append_left _ hq))
        | succ k => exact ys_zf_ok x y l' hl' (fun q hq => h q (List.mem_append_right _ hq)) k
      · cases hz
    · cases hz
  | [], _ :: _, l, hz, _ => by cases hz
  | _ :: _, [], l, hz, _ => by cases hz
theorem ys_zf_mem : ∀ (x y : List (List ys_V)) (l : List (ys_V × ys_V)), ys_zf x y = some l → ∀ q ∈ l, ∃ w ∈ y, q.2 ∈ w
  | [], [], l, hz, q, hq => by cases Option.some.inj hz; cases hq
  | a :: x, c :: y, l, hz, q, hq => by
    unfold ys_zf at hz
    split at hz
    · split at hz
      · rename_i l' hl'
        cases Option.some.inj hz
        rcases List.mem_append.mp hq with g | g
        · exact ⟨c, List.mem_cons_self, (List.of_mem_zip g).2⟩
        · obtain ⟨w, h1, h2⟩ := ys_zf_mem x y l' hl' q g
          exact ⟨w, List.mem_cons_of_mem _ h1, h2⟩
      · cases hz
    · cases hz
  | [], _ :: _, l, hz, _, _ => by cases hz
  | _ :: _, [], l, hz, _, _ => by cases hz
theorem ys_wld_eq {ad : Nat → Nat} {cT : Nat → ClassId} {sh : List ys_C} {r r' : Nat → Int} {g : Nat → Nat → Int} {x y : List (List ys_V)} (h : ∀ k, (x.getD k []).map (ys_den ad r') = (y.getD k []).map (ys_den ad r)) : ys_wld ad cT sh r' g x = ys_wld ad cT sh r g y := by
  unfold ys_wld
  apply List.map_congr_left
  intro k _
  unfold ys_cel
  cases sh.getD k (.inl 0) with
  | inl ci =>
    show (ad k, Sum.inr (ci, _)) = (ad k, Sum.inr (ci, _))
    rw [h k]
  | inr a => rfl
/-! contracts -/
abbrev ys_A : Type := ys_E × List ys_L × ys_F × Option ys_V
abbrev ys_K : Type := ((MethodName × ByteArray × Nat × Option FieldType) × (Nat × Nat)) × (List ys_V × ys_B × ys_F) × (List ys_A × List Nat)
def ys_rm (K : ys_K) : Room := { frames := K.1.2.1, cells := 0, slots := 0, locals := K.1.2.2 }
def ys_ws (G : List Cond) (K : ys_K) : List Cond := Cond.code K.1.1.1 K.1.1.2.1 K.1.1.2.2.1 K.1.1.2.2.2 :: G
section YSK
variable (l : Launch) (D : va_G) (cl : List vw_C) (ad : Nat → Nat) (cT : Nat → ClassId) (sh : List ys_C) (tys : List (ClassId × FieldType)) (G : List Cond)
def ys_wK (K : ys_K) (r0 : Nat → Int) (g0 : Nat → Nat → Int) : va_W := ys_wld ad cT sh r0 g0 K.2.1.2.2.1
def ys_Pre (K : ys_K) (r0 : Nat → Int) (g0 : Nat → Nat → Int) (sz : Nat) : Array Value → State → Prop := va_Pc (K.2.1.1.map (ys_den ad r0)) (fun U => U.heap.size = sz ∧ va_P D cl (ys_wK ad cT sh K r0 g0) U.heap ∧ va_K D cl tys U ∧ va_D (fun _ => True) (ys_wK ad cT sh K r0 g0))
def ys_Alt (K : ys_K) (r0 : Nat → Int) (g0 : Nat → Nat → Int) (sz : Nat) (a : ys_A) (oc : Outcome) (t : State) : Prop := ∃ (r1 : Nat → Int) (g1 : Nat → Nat → Int), (∀ i, i < K.2.1.2.1.1.length → r1 i = r0 i) ∧ (∀ i, K.2.1.2.1.1.length + a.1.length ≤ i → r1 i = 0) ∧ (∀ (j : Nat) (q : Int × Int), a.1[j]? = some q → q.1 ≤ r1 (K.2.1.2.1.1.length + j) ∧ r1 (K.2.1.2.1.1.length + j) ≤ q.2) ∧ ys_fk r1 a.2.1 ∧ ys_gok K.2.2.2 a.2.2.1.2 g0 g1 ∧ va_P D cl (ys_wld ad cT sh r1 g1 a.2.2.1.1) t.heap ∧ va_D (va_A (ys_wK ad cT sh K r0 g0) sz) (ys_wld ad cT sh r1 g1 a.2.2.1.1) ∧ va_K D cl tys t ∧ oc = .returned (a.2.2.2.map (ys_den ad r1))
def ys_Post (K : ys_K) (r0 : Nat → Int) (g0 : Nat → Nat → Int) (sz : Nat) : Array Value → State → Outcome → State → Prop := fun _ st oc t => (∃ a ∈ K.2.2.1, ys_Alt D cl ad cT sh tys K r0 g0 sz a oc t) ∧ va_F (va_A (ys_wK ad cT sh K r0 g0) sz) st t
def ys_Con (K : ys_K) : Prop := ∀ (r0 : Nat → Int) (g0 : Nat → Nat → Int) (sz : Nat), ys_okB r0 K.2.1.2.1 → (∀ (k : Nat) (a : ys_R), K.2.1.2.2.2[k]? = some a → ys_rok a (g0 k)) → Met l K.1.1.1 (ys_ws G K) (ys_rm K) (ys_Pre D cl ad cT sh tys K r0 g0 sz) (ys_Post D cl ad cT sh tys K r0 g0 sz) 0 0 (va_A (ys_wK ad cT sh K r0 g0) sz)
end YSK
end
section
/-! calls -/
def ys_arm (mods : List Nat) : Nat → List ys_R → List ys_R → List ys_R
  | i, a :: t, a' :: u => (if mods.contains i then a' else a) :: ys_arm mods (i + 1) t u
  | _, _, _ => []
theorem ys_arm_get (mods : List Nat) : ∀ (x y : List ys_R) (i k : Nat) (z : ys_R), (ys_arm mods i x y)[k]? = some z → (i + k ∈ mods ∧ y[k]? = some z) ∨ (i + k ∉ mods ∧ x[k]? = some z)
  | a :: t, a' :: u, i, k, z, h => by
    unfold ys_arm at h
    cases k with
    | zero =>
      have h := Option.some.inj h
      by_cases hc : mods.contains i = true
      · rw [if_pos hc] at h
        exact Or.inl ⟨by simpa using hc, by rw [← h]; rfl⟩
      · rw [if_neg hc] at h
        exact Or.inr ⟨by simpa using hc, by rw [← h]; rfl⟩
    | succ k =>
      have h := ys_arm_get mods t u (i + 1) k z h
      rw [show i + 1 + k = i + (k + 1) by omega] at h
      exact h
  | [], y, i, k, z, h => by
    unfold ys_arm at h
    cases h
  | _ :: _, [], i, k, z, h => by
    unfold ys_arm at h
    cases h
def ys_tau (n : Nat) (t : List ys_L) (a : ys_A) : List ys_L := t ++ (List.range a.1.length).map fun j => ys_sym (n + j)
def ys_aft (pc : Nat) (b : ys_B) (fds : ys_F) (lv : List (Nat × ys_V)) (rest : List ys_V) (K : ys_K) (t : List ys_L) (a : ys_A) : List (Nat × ys_S) := match ys_ass (b.1 ++ a.1, b.2) (a.2.1.map (ys_put 0 (ys_tau b.1.length t a))) with
  | some b' => [(pc, b', (a.2.2.1.1.map (fun w => w.map (ys_pV 0 (ys_tau b.1.length t a))), ys_arm K.2.2.2 0 fds.2 a.2.2.1.2), lv, a.2.2.2.toList.map (ys_pV 0 (ys_tau b.1.length t a)) ++ rest)]
  | none => []
theorem ys_tau_get {n : Nat} {t : List ys_L} {a : ys_A} (i : Nat) : (ys_tau n t a).getD i ([], 0) = if i < t.length then t.getD i ([], 0) else if i < t.length + a.1.length then ys_sym (n + (i - t.length)) else ([], 0) := by
  unfold ys_tau
  rw [List.getD_eq_getElem?_getD]
  by_cases h1 : i < t.length
  · rw [if_pos h1, List.getElem?_append_left h1, ← List.getD_eq_getElem?_getD]
  · rw [if_neg h1, List.getElem?_append_right (by omega), List.getElem?_map]
    by_cases h2 : i < t.length + a.1.length
    · rw [if_pos h2, List.getElem?_range (by omega)]
      rfl
    · rw [if_neg h2, List.getElem?_eq_none (by rw [List.length_range]; omega)]
      rfl
section YSC
variable {p : Program} {l : Launch} {e : Env} {R : Room} {s : State} {m : MethodId} {args : Array Value} {below : List Frame} {meth : Method} {c : Code} {Q : State → Prop} {kc kz : Nat} {D : va_G} {cl : List vw_C} {ad : Nat → Nat} {cT : Nat → ClassId} {sh : List ys_C} {A : Nat → Prop} {H0 : Heap} {nL : Nat} {mods : List Nat} {g0 : Nat → Nat → Int} {r0 : Nat → Int} {E : Nat} {pc : Nat} {b : ys_B} {fds : ys_F} {lv : List (Nat × ys_V)} {sv : List ys_V} {succ : List (Nat × ys_S)} {cc : ByteArray} {own : String} {Ts : List Cond} {tys : List (ClassId × FieldType)}
variable {G : List Cond} {K : ys_K}
theorem ys_kaft {t : List ys_L} {a : ys_A} {r : Nat → Int} {H H1 : Heap} {locs locs1 : List Loc} {ls : Array Slot} {st : List Value} {g : Nat → Nat → Int} {v : Option Value} {t1 : State} (h : ys_rep D cl ad cT sh A H0 nL mods g0 r0 r E (b, fds, lv, sv) H locs ls st) (hg : ys_gok mods fds.2 g0 g) (ht : ∀ x ∈ t, ys_stb b.1.length x) (hlen : t.length = K.2.1.2.1.1.length) (hm : ∀ k, k ∈ K.2.2.2 → k ∈ mods) (hA : ys_Alt D cl ad cT sh tys K (ys_val r 0 t) g H.size a (.returned v) t1) (hH1 : t1.heap = H1) (hF : ∀ q, va_A (ys_wK ad cT sh K (ys_val r 0 t) g) H.size q → A q) (hS1 : va_S A H0 H1 locs1) (k : ∀ q ∈ ys_aft pc b fds lv sv K t a, ys_W p l e R s m args below meth c Q kc kz D cl ad cT sh A H0 nL mods g0 r0 E q.1 q.2) : W p l e R s m args below meth c H1 locs1 kc kz Q (F0 m pc ls (v.toList ++ st)) := by
  obtain ⟨r1, g1, a1, a2, a3, a4, a5, a6, a7, a8, a9⟩ := hA
  obtain ⟨r', hr'⟩ : ∃ r' : Nat → Int, r' = fun i => if i < b.1.length then r i else r1 (t.length + (i - b.1.length)) := ⟨_, rfl⟩
  have hlo : ∀ i, i < b.1.length → r' i = r i := fun i hi => by rw [hr']; exact if_pos hi
  have hhi : ∀ j, r' (b.1.length + j) = r1 (t.length + j) := fun j => by
    rw [hr']
    show (if b.1.length + j < b.1.length then _ else _) = _
    rw [if_neg (by omega), show b.1.length + j - b.1.length = j by omega]
  have hv : ys_val r' 0 (ys_tau b.1.length t a) = r1 := by
    funext i
    show ys_ev r' (ys_at 0 (ys_tau b.1.length t a) i) = r1 i
    unfold ys_at
    rw [if_neg (by omega), Nat.sub_zero, ys_tau_get]
    by_cases h1 : i < t.length
    · rw [if_pos h1]
      have e1 : ys_val r 0 t i = ys_ev r (t.getD i ([], 0)) := by
        show ys_ev r (ys_at 0 t i) = _
        unfold ys_at
        rw [if_neg (by omega), Nat.sub_zero]
      have hmem : ys_stb b.1.length (t.getD i ([], 0)) := by
        rw [List.getD_eq_getElem?_getD, List.getElem?_eq_getElem h1]
        exact ht _ (List.getElem_mem h1)
      rw [hmem r' r hlo, ← e1, a1 i (by omega)]
    · rw [if_neg h1]
      by_cases h2 : i < t.length + a.1.length
      · rw [if_pos h2, ys_sym_ev, hhi, show t.length + (i - t.length) = i by omega]
      · rw [if_neg h2, a2 i (by omega)]
        rfl
  have hlen2 : (b.1 ++ a.1).length = b.1.length + a.1.length := List.length_append
  have hok : ys_okB r' (b.1 ++ a.1, b.2) := by
    refine ⟨fun i w hi => ?_, fun f hf => ?_⟩
    · by_cases hl : i < b.1.length
      · rw [List.getElem?_append_left hl] at hi
        rw [hlo i hl]
        exact h.1.1 i w hi
      · rw [List.getElem?_append_right (by omega)] at hi
        have e2 := hhi (i - b.1.length)
        rw [show b.1.length + (i - b.1.length) = i by omega] at e2
        rw [e2, hlen]
        exact a3 _ w hi
    · rw [h.2.1.1 f hf r' r hlo]
      exact h.1.2 f hf
  have hfk : ys_fk r' (a.2.1.map (ys_put 0 (ys_tau b.1.length t a))) := by
    intro f hf
    obtain ⟨f0, hf0, e0⟩ := List.mem_map.mp hf
    rw [← e0, ys_put_ev, hv]
    exact a4 f0 hf0
  have htt : ∀ x ∈ ys_tau b.1.length t a, ys_stb (b.1.length + a.1.length) x := by
    intro x hx
    unfold ys_tau at hx
    rcases List.mem_append.mp hx with q | q
    · exact ys_stb_mono (ht x q) (by omega)
    · obtain ⟨j, hj, e0⟩ := List.mem_map.mp q
      rw [← e0]
      exact ys_stb_sym (by have := List.mem_range.mp hj; omega)
  obtain ⟨b', eb, hb'⟩ := ys_ass_ok _ hok hfk
  have hl' := ys_ass_len _ eb
  have hl' : b'.1.length = b.1.length + a.1.length := hl'.trans hlen2
  have hscb : ys_scB ((b.1 ++ a.1, b.2) : ys_B) := fun f hf => by
    show ys_stb (b.1 ++ a.1).length f
    rw [hlen2]
    exact ys_stb_mono (m := b.1.length + a.1.length) (h.2.1.1 f hf) (Nat.le_add_right _ _)
  have hsc' := ys_ass_sc (n := b.1.length + a.1.length) _ hlen2 hscb (fun f hf => by
    obtain ⟨f0, hf0, e0⟩ := List.mem_map.mp hf
    rw [← e0]
    exact ys_stb_put (by omega) htt f0) eb
  unfold ys_aft at k
  rw [eb] at k
  have k := k _ List.mem_cons_self
  have hrow : ∀ kk, ((a.2.2.1.1.map (fun w => w.map (ys_pV 0 (ys_tau b.1.length t a)))).getD kk []).map (ys_den ad r') = (a.2.2.1.1.getD kk []).map (ys_den ad r1) := by
    intro kk
    rw [List.getD_eq_getElem?_getD, List.getD_eq_getElem?_getD, List.getElem?_map]
    cases a.2.2.1.1[kk]? with
    | none => rfl
    | some w =>
      show (w.map (ys_pV 0 (ys_tau b.1.length t a))).map (ys_den ad r') = w.map (ys_den ad r1)
      rw [List.map_map]
      apply List.map_congr_left
      intro x _
      show ys_den ad r' (ys_pV 0 _ x) = _
      rw [ys_pV_den, hv]
  have ew := ys_wld_eq (cT := cT) (sh := sh) (g := g1) hrow
  obtain ⟨-, ⟨s0, s1, s2, s3⟩, ⟨hE, hr0⟩, -, q4, q5⟩ := h
  have hst : v.toList ++ st = (a.2.2.2.toList.map (ys_pV 0 (ys_tau b.1.length t a)) ++ sv).map (ys_den ad r') := by
    rw [List.map_append, q5]
    have e3 : v = a.2.2.2.map (ys_den ad r1) := by
      have := a9
      cases this
      rfl
    congr 1
    · rw [e3]
      cases a.2.2.2 with
      | none => rfl
      | some x =>
        show [ys_den ad r1 x] = [ys_den ad r' (ys_pV 0 _ x)]
        rw [ys_pV_den, hv]
    · exact List.map_congr_left fun x hx => ys_den_cong (fun i hi => (hlo i hi).symm) (s3 x hx)
  refine k r' H1 locs1 ls _ ⟨hb', ⟨hsc', fun w hw x hx => ?_, fun q hq => ?_, fun x hx => ?_⟩, ⟨by show E ≤ b'.1.length; rw [hl']; exact Nat.le_trans hE (by show b.1.length ≤ _; omega), fun i hi => (hlo i (Nat.lt_of_lt_of_le hi hE)).trans (hr0 i hi)⟩, ⟨g1, ⟨fun kk z hz => ?_, fun kk hk => ?_⟩, ?_, ?_, hS1⟩, ?_, hst⟩
  · obtain ⟨w0, -, e0⟩ := List.mem_map.mp hw
    rw [← e0] at hx
    obtain ⟨x0, -, e1⟩ := List.mem_map.mp hx
    rw [← e1]
    show ys_stV b'.1.length _
    rw [hl']
    exact ys_pV_st (by omega) htt x0
  · show ys_stV b'.1.length _
    rw [hl']
    exact ys_stV_mono (s2 q hq) (by show b.1.length ≤ _; omega)
  · show ys_stV b'.1.length _
    rw [hl']
    rcases List.mem_append.mp hx with q | q
    · obtain ⟨x0, -, e1⟩ := List.mem_map.mp q
      rw [← e1]
      exact ys_pV_st (by omega) htt x0
    · exact ys_stV_mono (s3 x q) (by show b.1.length ≤ _; omega)
  · rcases ys_arm_get _ _ _ 0 kk z hz with ⟨-, h2⟩ | ⟨h1, h2⟩
    · exact a5.1 kk z h2
    · rw [Nat.zero_add] at h1
      rw [a5.2 kk h1]
      exact hg.1 kk z h2
  · rw [a5.2 kk (fun q => hk (hm kk q))]
    exact hg.2 kk hk
  · show va_P D cl (ys_wld ad cT sh r' g1 (a.2.2.1.1.map fun w => w.map (ys_pV 0 (ys_tau b.1.length t a)))) H1
    rw [ew, ← hH1]
    exact a6
  · show va_D A (ys_wld ad cT sh r' g1 (a.2.2.1.1.map fun w => w.map (ys_pV 0 (ys_tau b.1.length t a))))
    rw [ew]
    exact a7.weaken (fun _ q _ hq => hF q.1 hq)
  · have e4 : ys_lvs ad r lv = ys_lvs ad r' lv := List.map_congr_left fun q hq => by rw [ys_den_cong (fun i hi => (hlo i hi).symm) (s2 q hq)]
    exact e4 ▸ q4
/-- a call by its contract -/
def ys_hcall (fr lo : Nat) (mods : List Nat) (K : ys_K) (pc : Nat) (b : ys_B) (fds : ys_F) (lv : List (Nat × ys_V)) (sv : List ys_V) : Option (List (Nat × ys_S)) := match ys_zf K.2.1.2.2.1 fds.1 with
  | some fp => if decide (K.2.1.1.length ≤ sv.length) && (decide (((sv.drop K.2.1.1.length).map ys_cat).sum ≤ 8) && (decide (K.1.2.1 + 1 ≤ fr) && (decide (8 + (K.1.1.2.2.1 + 11) + K.1.2.2 ≤ lo) && K.2.2.2.all (fun k => mods.contains k)))) then (match ys_mat b fds.2 0 K.2.1.2.1.1 K.2.1.2.1.2 K.2.1.2.2.2 (K.2.1.1.zip (sv.take K.2.1.1.length).reverse ++ fp) with
      | some t => some (K.2.2.1.flatMap fun a => ys_aft (pc + 3) b fds lv (sv.drop K.2.1.1.length) K t a)
      | none => none) else none
  | none => none
/-- what a call's link says: a method of an object, or of none -/
def ys_CL (own : String) (Ts : List Cond) (cl : List vw_C) (sh : List ys_C) (G : List Cond) (i : Instr) (K : ys_K) : Prop :=
  (∃ (idx k ci : Nat) (C : String) (T : u_T) (N : Nat) (as : List ys_V), i = .invokevirtual idx ∧ K.2.1.1 = .inr (some k) :: as ∧ sh[k]? = some (.inl ci) ∧ cl[ci]? = some (C, T, N) ∧ GoodIn Ts (wsV own idx C K.1.1.1 (ys_ws G K)) ∧ (K.1.1.1.cls = C ∧ K.1.1.1.cls ≠ "java/lang/invoke/MethodHandle" ∧ K.1.1.1.cls ≠ "java/lang/invoke/VarHandle" ∧ (parseMethodDescriptor K.1.1.1.desc).map (fun d => d.parameters.length) = some as.length)) ∨
  (∃ idx : Nat, i = .invokestatic idx ∧ GoodIn Ts (va_wsS own idx K.1.1.1 (ys_ws G K)) ∧ (K.1.1.1.cls ≠ "java/lang/invoke/MethodHandle" ∧ K.1.1.1.cls ≠ "java/lang/invoke/VarHandle" ∧ (parseMethodDescriptor K.1.1.1.desc).map (fun d => d.parameters.length) = some K.2.1.1.length))
theorem ys_blind {r0 : Nat → Int} {g : Nat → Nat → Int} {sz : Nat} : FrameBlind (ys_Pre D cl ad cT sh tys K r0 g sz) := fun a U g mk q => by
  obtain ⟨q0, q1, qP, qK, qD⟩ := q
  exact ⟨q0, q1, qP, va_K.moved (u := U) (U := U.calling g mk a) (Vm.Alike.refl U.vm) qK, qD⟩
theorem ys_cats (l : List ys_V) (r : Nat → Int) : ((l.map (ys_den ad r)).map fun v => v.category).sum = (l.map ys_cat).sum := by
  rw [List.map_map]
  congr 1
  apply List.map_congr_left
  intro v _
  exact ys_cat_den ad r v
theorem ys_kcall {i : Instr} {fr lo : Nat} (S : CallFix p m c cc nL s args Ts own) (hK : va_K D cl tys s) (hA0 : ∀ q, H0.size ≤ q → A q) (hcon : ys_Con l D cl ad cT sh tys G K) (hCL : ys_CL own Ts cl sh G i K) (hd : decode cc pc = .ok (i, 3)) (hfr : fr ≤ R.frames) (hlo : lo ≤ R.locals) (hkk : kc ≤ R.cells ∧ kz ≤ R.slots) (hs : ys_hcall fr lo mods K pc b fds lv sv = some succ) (k : ∀ q ∈ succ, ys_W p l e R s m args below meth c Q kc kz D cl ad cT sh A H0 nL mods g0 r0 E q.1 q.2) : ys_W p l e R s m args below meth c Q kc kz D cl ad cT sh A H0 nL mods g0 r0 E pc (b, fds, lv, sv) := by
  unfold ys_hcall at hs
  split at hs
  · rename_i fp hfp
    split at hs
    · rename_i hc
      rw [Bool.and_eq_true, Bool.and_eq_true, Bool.and_eq_true, Bool.and_eq_true, decide_eq_true_eq, decide_eq_true_eq, decide_eq_true_eq, decide_eq_true_eq] at hc
      obtain ⟨c1, c2, c3, c4, c5⟩ := hc
      split at hs
      · rename_i t hmat
        cases Option.some.inj hs
        intro r H locs ls st h
        obtain ⟨et, e2, e3, e4, e5, e6, e7⟩ := ys_mat_ok (ad := ad) h.1 hmat
        obtain ⟨g, hg, hP, hD, hS⟩ := h.2.2.2.1
        have hsv : sv = sv.take K.2.1.1.length ++ sv.drop K.2.1.1.length := (List.take_append_drop _ _).symm
        have hst2 : ∀ q ∈ K.2.1.1.zip (sv.take K.2.1.1.length).reverse ++ fp, ys_stV b.1.length q.2 := by
          intro q hq
          rcases List.mem_append.mp hq with g1 | g1
          · exact h.2.1.2.2.2 _ (List.mem_of_mem_take (List.mem_reverse.mp (List.of_mem_zip g1).2))
          · obtain ⟨w, h1, h2⟩ := ys_zf_mem _ _ _ hfp q g1
            exact h.2.1.2.1 w h1 _ h2
        have htst : ∀ x ∈ t, ys_stb b.1.length x := by
          rw [et]
          exact ys_col_st _ _ hst2
        have ew : ys_wK ad cT sh K (ys_val r 0 t) g = ys_wld ad cT sh r g fds.1 := ys_wld_eq (ys_zf_ok _ _ _ hfp (fun q hq => e5 q (List.mem_append_right _ hq)))
        have hargs : K.2.1.1.map (ys_den ad (ys_val r 0 t)) = ((sv.take K.2.1.1.length).reverse).map (ys_den ad r) := ys_zip_map _ _ (by rw [List.length_reverse, List.length_take]; omega) (fun q hq => e5 q (List.mem_append_left _ hq))
        have hokB : ys_okB (ys_val r 0 t) K.2.1.2.1 := ⟨fun j q hj => by
          have := e3 j q hj
          rw [Nat.zero_add] at this
          exact this, e4⟩
        have har : ∀ (kk : Nat) (a : ys_R), K.2.1.2.2.2[kk]? = some a → ys_rok a (g kk) := fun kk a ha => by
          obtain ⟨a0, h1, h2⟩ := e7 kk a ha
          exact ys_rle_ok h2 (hg.1 kk a0 h1)
        have hM := hcon (ys_val r 0 t) g H.size hokB har
        have hP' : va_P D cl (ys_wK ad cT sh K (ys_val r 0 t) g) H := by rw [ew]; exact hP
        have hD' : va_D A (ys_wK ad cT sh K (ys_val r 0 t) g) := by rw [ew]; exact hD
        have hF : ∀ q, va_A (ys_wK ad cT sh K (ys_val r 0 t) g) H.size q → A q := by
          intro q hq
          rcases hq with ⟨kk, x, hx⟩ | hq
          · exact hD'.2 kk (q, x) hx
          · exact hA0 q (Nat.le_trans hS.1 hq)
        have hpre : ∀ U : State, U.heap = H → s.WarmedH U.vm → ys_Pre D cl ad cT sh tys K (ys_val r 0 t) g H.size (K.2.1.1.map (ys_den ad (ys_val r 0 t))).toArray U := fun U hU hW => ⟨rfl, by rw [hU], by rw [hU]; exact hP', va_K.moved hW.alike hK, hD'.weaken (fun _ _ _ _ => trivial)⟩
        have hrest : 2 * (F0 m pc ls st).monitorRoom + (((sv.drop K.2.1.1.length).map (ys_den ad r)).map fun v => v.category).sum ≤ 8 := lv_room (rest := st) (by rw [ys_cats]; exact c2)
        have hfull : st = (K.2.1.1.map (ys_den ad (ys_val r 0 t))).reverse ++ (sv.drop K.2.1.1.length).map (ys_den ad r) := by
          rw [hargs, ← List.map_reverse, List.reverse_reverse, ← List.map_append, ← hsv]
          exact h.2.2.2.2.2
        have hgo : va_Run p l e R s m args below meth c H locs kc kz 0 0 (F0 m pc ls st) ((sv.drop K.2.1.1.length).map (ys_den ad r)) (ys_Post D cl ad cT sh tys K (ys_val r 0 t) g H.size (K.2.1.1.map (ys_den ad (ys_val r 0 t))).toArray) (va_A (ys_wK ad cT sh K (ys_val r 0 t) g) H.size) := by
          rcases hCL with ⟨idx, kc, ci, C, T, N, as, ei, ea, h1, h2, h3, h4⟩ | ⟨idx, ei, h3, h4⟩
          · subst ei
            have hw := ys_wld_get (ad := ad) (cT := cT) (r := ys_val r 0 t) (g := g) (fds := K.2.1.2.2.1) h1
            rw [ea] at hpre hfull ⊢
            rw [List.map_cons] at hpre hfull ⊢
            rw [List.reverse_cons, List.append_assoc] at hfull
            have hlen : (as.map (ys_den ad (ys_val r 0 t))).length = as.length := List.length_map _
            exact va_runV (C := C) (b := ad kc) (As := as.map (ys_den ad (ys_val r 0 t))) S hM (cwV as.length S.2.2.2.2 h3 rfl rfl rfl h4 ⟨Nat.le_trans c3 hfr, Nat.le_trans c4 hlo⟩) ⟨ys_blind, va_recv hK hP' h2 hw, hpre⟩ rfl hlen h.2.2.2.2.1.1 hfull (by rw [ea] at hrest; exact hrest) hd hkk
          · subst ei
            exact va_runS (As := K.2.1.1.map (ys_den ad (ys_val r 0 t))) S hM (va_cwS K.2.1.1.length S.2.2.2.2 h3 rfl rfl rfl h4 ⟨Nat.le_trans c3 hfr, Nat.le_trans c4 hlo⟩) ⟨ys_blind, hpre⟩ rfl (List.length_map _) h.2.2.2.2.1.1 hfull hrest hd hkk
        intro T hT X
        obtain ⟨v, st₀, t1, T', L, h0, X', hL, f1, f2, ⟨⟨a, ha, hAlt⟩, hz, hk⟩, stp⟩ := hgo T hT X
        rw [h0] at hz hk
        have hrep2 : ys_rep D cl ad cT sh A H0 nL mods g0 r0 r E (b, fds, lv, sv.drop K.2.1.1.length) H locs ls ((sv.drop K.2.1.1.length).map (ys_den ad r)) := by
          obtain ⟨q1, ⟨s0, s1, s2, s3⟩, q2, q3, q4, q5⟩ := h
          exact ⟨q1, ⟨s0, s1, s2, fun x hx => s3 x (List.mem_of_mem_drop hx)⟩, q2, q3, q4, rfl⟩
        have hm : ∀ kk, kk ∈ K.2.2.2 → kk ∈ mods := fun kk hkk => by
          have := List.all_eq_true.mp c5 kk hkk
          simpa using this
        obtain ⟨t2, a1, b1⟩ := ys_kaft (H1 := T'.heap) (locs1 := locs ++ L) hrep2 hg htst e2 hm hAlt f1.symm hF ⟨Nat.le_trans hS.1 (by rw [f1]; exact hz), fun q h1 h2 => by rw [f1, hk q (Nat.lt_of_lt_of_le h1 hS.1) (fun z => h2 (hF q z))]; exact hS.2.1 q h1 h2, fun q hq => by
          rcases List.mem_append.mp hq with g1 | g1
          · exact hS.2.2 q g1
          · exact hF _ (hL q g1)⟩ (fun q hq => k q (List.mem_flatMap.mpr ⟨a, ha, hq⟩)) T' rfl X'
        exact ⟨t2, stp t2 a1, b1⟩
      · cases hs
    · cases hs
  · cases hs
end YSC
end
section
/-! copying arrays; the end of a method -/
def ys_alh : List (Nat × (Int × Int)) → Int × Int → Int × Int
  | [], q => q
  | x :: t, q => ys_alh t (ys_hul q x.2)
theorem ys_alh_acc {z : Int} : ∀ (l : List (Nat × (Int × Int))) (q : Int × Int), q.1 ≤ z ∧ z ≤ q.2 → (ys_alh l q).1 ≤ z ∧ z ≤ (ys_alh l q).2
  | [], q, h => h
  | x :: t, q, h => ys_alh_acc t _ (ys_hul_l h)
theorem ys_alh_in {z : Int} {n : Nat} {w : Int × Int} (hw : w.1 ≤ z ∧ z ≤ w.2) : ∀ (l : List (Nat × (Int × Int))) (q : Int × Int), l.lookup n = some w → (ys_alh l q).1 ≤ z ∧ z ≤ (ys_alh l q).2
  | [], q, h => by cases h
  | (i, x) :: t, q, h => by
    unfold List.lookup at h
    cases hc : n == i with
    | true =>
      rw [hc] at h
      cases h
      exact ys_alh_acc t _ (ys_hul_r hw)
    | false =>
      rw [hc] at h
      exact ys_alh_in hw t _ h
theorem ys_alh_ok {a : ys_R} {f : Nat → Int} (ha : ys_rok a f) (j : Nat) : (ys_alh a.2 a.1).1 ≤ f j ∧ f j ≤ (ys_alh a.2 a.1).2 := by
  have h := ha j
  unfold ys_rat at h
  cases hc : a.2.lookup j with
  | none =>
    rw [hc] at h
    exact ys_alh_acc _ _ h
  | some w =>
    rw [hc] at h
    exact ys_alh_in h _ _ hc
/-- a part of an array: from x on, n of them -/
def ys_prt (b : ys_B) (x n : ys_L) (len : Nat) : Bool := ys_inr false b.1 x && (ys_inr false b.1 n && (ys_ge b.1 b.2 2 x && (ys_ge b.1 b.2 2 n && ys_ge b.1 b.2 2 (ys_sub (ys_sub ([], (len : Int)) x) n))))
theorem ys_prt_ok {r : Nat → Int} {b : ys_B} (h : ys_okB r b) {x n : ys_L} {len : Nat} (hc : ys_prt b x n len = true) : ¬ Int32.ofInt (ys_ev r x) < 0 ∧ ¬ Int32.ofInt (ys_ev r n) < 0 ∧ (Int32.ofInt (ys_ev r x)).toNatClampNeg + (Int32.ofInt (ys_ev r n)).toNatClampNeg ≤ len := by
  unfold ys_prt at hc
  rw [Bool.and_eq_true, Bool.and_eq_true, Bool.and_eq_true, Bool.and_eq_true] at hc
  obtain ⟨c1, c2, c3, c4, c5⟩ := hc
  have e1 := ys_inr32 h.1 c1
  have e2 := ys_inr32 h.1 c2
  have h3 := ys_ge_le h.1 h.2 _ _ c3
  have h4 := ys_ge_le h.1 h.2 _ _ c4
  have h5 := ys_ge_le h.1 h.2 _ _ c5
  have z : ys_ev r (([], (len : Int)) : ys_L) = (len : Int) := Int.zero_add _
  rw [ys_sub_ev, ys_sub_ev, z] at h5
  refine ⟨?_, ?_, ?_⟩
  · rw [Int32.lt_iff_toInt_lt, e1]
    exact Int.not_lt.mpr h3
  · rw [Int32.lt_iff_toInt_lt, e2]
    exact Int.not_lt.mpr h4
  · show (Int32.ofInt (ys_ev r x)).toInt.toNat + (Int32.ofInt (ys_ev r n)).toInt.toNat ≤ len
    rw [e1, e2]
    omega
def ys_ncw : Nat := nativeFrameWords "java/lang/System" "arraycopy" 5 + 11
def ys_hcopy (lo : Nat) (sh : List ys_C) (mods : List Nat) (pc : Nat) (b : ys_B) (fds : ys_F) (lv : List (Nat × ys_V)) (sv : List ys_V) : Option (List (Nat × ys_S)) := match sv with
  | .inl (.inl n) :: .inl (.inl dp) :: .inr (some kd) :: .inl (.inl sp) :: .inr (some ks) :: t => (match sh[kd]?, sh[ks]?, fds.2[kd]?, fds.2[ks]? with
    | some (.inr yd), some (.inr ys), some ad, some as => if (decide (yd.1 = 0) || decide (yd.1 = 1)) && (decide (ys.1 = yd.1) && (ys_prt b dp n yd.2.1 && (ys_prt b sp n ys.2.1 && (decide (kd ∈ mods) && decide ((t.map ys_cat).sum + ys_ncw ≤ lo))))) then some [(pc + 3, b, (fds.1, fds.2.set kd (ys_hul (ys_alh ad.2 ad.1) (ys_alh as.2 as.1), [])), lv, t)] else none
    | _, _, _, _ => none)
  | _ => none
def ys_gcp (g : Nat → Nat → Int) (ks kd sp dp n : Nat) : Nat → Nat → Int := fun i => if i = kd then va_cpy (g ks) (g kd) sp dp n else g i
section YSP
variable {p : Program} {l : Launch} {e : Env} {R : Room} {s : State} {m : MethodId} {args : Array Value} {below : List Frame} {meth : Method} {c : Code} {Q : State → Prop} {kc kz : Nat} {D : va_G} {cl : List vw_C} {ad : Nat → Nat} {cT : Nat → ClassId} {sh : List ys_C} {A : Nat → Prop} {H0 : Heap} {nL : Nat} {mods : List Nat} {g0 : Nat → Nat → Int} {r0 : Nat → Int} {E : Nat} {pc : Nat} {b : ys_B} {fds : ys_F} {lv : List (Nat × ys_V)} {sv : List ys_V} {succ : List (Nat × ys_S)} {cc : ByteArray} {own : String} {Ts : List Cond} {tys : List (ClassId × FieldType)}
variable {G : List Cond} {K : ys_K}
theorem ys_kcopy {idx lo : Nat} (hexec : p.tables.exec = Jvm.exec) (hb : c.code = cc) (hml : c.maxLocals = nL) (hts : ∀ w ∈ Ts, w.before args s = true) (hown : s.vm.findClass own = some m.cls) (hK : va_K D cl tys s) (hty0 : tys[0]? = some (cT 0, .int)) (hty1 : tys[1]? = some (cT 1, .long)) (hfr : 1 ≤ R.frames) (hlo : lo ≤ R.locals) (hw1 : Cond.methodLink own idx arraycopyName ∈ Ts) (hw2 : Cond.native arraycopyName ∈ Ts) (hw3 : Cond.static arraycopyName ∈ Ts) (hw4 : Cond.initialized "java/lang/System" ∈ Ts) (hd : decode cc pc = .ok (.invokestatic idx, 3)) (hs : ys_hcopy lo sh mods pc b fds lv sv = some succ) (k : ∀ q ∈ succ, ys_W p l e R s m args below meth c Q kc kz D cl ad cT sh A H0 nL mods g0 r0 E q.1 q.2) : ys_W p l e R s m args below meth c Q kc kz D cl ad cT sh A H0 nL mods g0 r0 E pc (b, fds, lv, sv) := by
  unfold ys_hcopy at hs
  split at hs
  · rename_i n dp kd sp ks t
    split at hs
    · rename_i yd ys aD aS hshd hshs hard hars
      split at hs
      · rename_i hc
        simp only [Bool.and_eq_true, Bool.or_eq_true, decide_eq_true_eq] at hc
        obtain ⟨hkd, hks, hpd, hps, hm, hlw⟩ := hc
        cases Option.some.inj hs
        have k := k _ List.mem_cons_self
        intro r H locs ls st h
        obtain ⟨st1, e1, g1, -⟩ := ys_rep_pop h
        obtain ⟨st2, e2, g2, -⟩ := ys_rep_pop g1
        obtain ⟨st3, e3, g3, -⟩ := ys_rep_pop g2
        obtain ⟨st4, e4, g4, -⟩ := ys_rep_pop g3
        obtain ⟨st5, e5, g5, -⟩ := ys_rep_pop g4
        subst e1; subst e2; subst e3; subst e4; subst e5
        obtain ⟨q1, ⟨s0, s1, s2, s3⟩, q2, ⟨g, hg, hP, hD, hS⟩, q4, q5⟩ := g5
        obtain ⟨p1, p2, p3⟩ := ys_prt_ok h.1 hpd
        obtain ⟨p4, -, p6⟩ := ys_prt_ok h.1 hps
        have hwd := ys_wld_get (ad := ad) (cT := cT) (r := r) (g := g) (fds := fds.1) hshd
        have hws := ys_wld_get (ad := ad) (cT := cT) (r := r) (g := g) (fds := fds.1) hshs
        have hrest : (st5.map fun v => v.category).sum + (nativeFrameWords "java/lang/System" "arraycopy" 5 + 11) ≤ R.locals := by
          rw [q5, ys_cats]
          exact Nat.le_trans hlw hlo
        obtain ⟨kdd, ld, td⟩ := yd
        obtain ⟨kss, lsn, tss⟩ := ys
        have hks : kss = kdd := hks
        subst hks
        have fin : ∀ (H1 : Heap) (locs1 : List Loc), va_P D cl (ys_wld ad cT sh r (ys_gcp g ks kd (Int32.ofInt (ys_ev r sp)).toNatClampNeg (Int32.ofInt (ys_ev r dp)).toNatClampNeg (Int32.ofInt (ys_ev r n)).toNatClampNeg) fds.1) H1 → va_D A (ys_wld ad cT sh r (ys_gcp g ks kd (Int32.ofInt (ys_ev r sp)).toNatClampNeg (Int32.ofInt (ys_ev r dp)).toNatClampNeg (Int32.ofInt (ys_ev r n)).toNatClampNeg) fds.1) → va_S A H0 H1 locs1 → W p l e R s m args below meth c H1 locs1 kc kz Q (F0 m (pc + 3) ls st5) := by
          intro H1 locs1 hP1 hD1 hS1
          refine k r H1 locs1 ls _ ⟨q1, ⟨s0, s1, s2, s3⟩, q2, ⟨_, ⟨fun i w hi => ?_, fun i hi => ?_⟩, hP1, hD1, hS1⟩, q4, q5⟩
          · by_cases hk : i = kd
            · subst hk
              have hl : i < fds.2.length := (List.getElem?_eq_some_iff.mp hard).1
              have hi : (fds.2.set i (ys_hul (ys_alh aD.2 aD.1) (ys_alh aS.2 aS.1), []))[i]? = some w := hi
              rw [List.getElem?_set_self hl] at hi
              cases hi
              intro j
              show (ys_hul (ys_alh aD.2 aD.1) (ys_alh aS.2 aS.1)).1 ≤ ys_gcp g ks i _ _ _ i j ∧ ys_gcp g ks i _ _ _ i j ≤ (ys_hul (ys_alh aD.2 aD.1) (ys_alh aS.2 aS.1)).2
              unfold ys_gcp
              rw [if_pos rfl]
              unfold va_cpy
              split
              · exact ys_hul_r (ys_alh_ok (hg.1 ks aS hars) _)
              · exact ys_hul_l (ys_alh_ok (hg.1 i aD hard) j)
            · have hi : (fds.2.set kd (ys_hul (ys_alh aD.2 aD.1) (ys_alh aS.2 aS.1), []))[i]? = some w := hi
              rw [List.getElem?_set_ne (Ne.symm hk)] at hi
              have e6 : ys_gcp g ks kd (Int32.ofInt (ys_ev r sp)).toNatClampNeg (Int32.ofInt (ys_ev r dp)).toNatClampNeg (Int32.ofInt (ys_ev r n)).toNatClampNeg i = g i := if_neg hk
              rw [e6]
              exact hg.1 i w hi
          · have hk : i ≠ kd := fun e => hi (e ▸ hm)
            have e6 : ys_gcp g ks kd (Int32.ofInt (ys_ev r sp)).toNatClampNeg (Int32.ofInt (ys_ev r dp)).toNatClampNeg (Int32.ofInt (ys_ev r n)).toNatClampNeg i = g i := if_neg hk
            rw [e6]
            exact hg.2 i hi
        have ew := ys_wld_set (ad := ad) (cT := cT) (r := r) (g := g) (g' := ys_gcp g ks kd (Int32.ofInt (ys_ev r sp)).toNatClampNeg (Int32.ofInt (ys_ev r dp)).toNatClampNeg (Int32.ofInt (ys_ev r n)).toNatClampNeg) (fds := fds.1) (fds' := fds.1) hshd (fun i hi => ⟨if_neg hi, rfl⟩)
        have hml2 : c.maxLocals = ls.size := hml.trans q4.1.symm
        rcases hkd with hk0 | hk1
        · have hk0 : kss = 0 := hk0
          subst hk0
          refine va_copyi hexec hb hml2 hown (hts _ hw1) (hts _ hw2) (hts _ hw3) (hts _ hw4) hK hP hD hS ks kd 0 0 (f := fun j => Int32.ofInt (g ks j)) (g := fun j => Int32.ofInt (g kd j)) hws hwd hty0 hty0 rfl p4 p1 p2 p6 p3 (fun i _ => rfl) hfr hrest hd fun H1 locs1 hP1 hD1 hS1 => ?_
          have ef : (fun j => Int32.ofInt (ys_gcp g ks kd (Int32.ofInt (ys_ev r sp)).toNatClampNeg (Int32.ofInt (ys_ev r dp)).toNatClampNeg (Int32.ofInt (ys_ev r n)).toNatClampNeg kd j)) = va_cpy (fun j => Int32.ofInt (g ks j)) (fun j => Int32.ofInt (g kd j)) (Int32.ofInt (ys_ev r sp)).toNatClampNeg (Int32.ofInt (ys_ev r dp)).toNatClampNeg (Int32.ofInt (ys_ev r n)).toNatClampNeg := by
            funext j
            unfold ys_gcp
            rw [if_pos rfl]
            unfold va_cpy
            split <;> rfl
          have ec : ys_cel ad cT r (ys_gcp g ks kd (Int32.ofInt (ys_ev r sp)).toNatClampNeg (Int32.ofInt (ys_ev r dp)).toNatClampNeg (Int32.ofInt (ys_ev r n)).toNatClampNeg) kd (.inr (0, ld, td)) (fds.1.getD kd []) = (ad kd, .inl (cT 0, ld, .inl (va_cpy (fun j => Int32.ofInt (g ks j)) (fun j => Int32.ofInt (g kd j)) (Int32.ofInt (ys_ev r sp)).toNatClampNeg (Int32.ofInt (ys_ev r dp)).toNatClampNeg (Int32.ofInt (ys_ev r n)).toNatClampNeg))) := by
            show ((ad kd, Sum.inl (cT 0, ld, Sum.inl (fun j => Int32.ofInt (ys_gcp g ks kd (Int32.ofInt (ys_ev r sp)).toNatClampNeg (Int32.ofInt (ys_ev r dp)).toNatClampNeg (Int32.ofInt (ys_ev r n)).toNatClampNeg kd j)))) : Nat × va_E) = _
            rw [ef]
          rw [ec] at ew
          exact fin H1 locs1 (by rw [ew]; exact hP1) (by rw [ew]; exact hD1) hS1
        · have hk1 : kss = 1 := hk1
          subst hk1
          refine va_copyl hexec hb hml2 hown (hts _ hw1) (hts _ hw2) (hts _ hw3) (hts _ hw4) hK hP hD hS ks kd 1 1 (f := fun j => Int64.ofInt (g ks j)) (g := fun j => Int64.ofInt (g kd j)) hws hwd hty1 hty1 rfl p4 p1 p2 p6 p3 (fun i _ => rfl) hfr hrest hd fun H1 locs1 hP1 hD1 hS1 => ?_
          have ef : (fun j => Int64.ofInt (ys_gcp g ks kd (Int32.ofInt (ys_ev r sp)).toNatClampNeg (Int32.ofInt (ys_ev r dp)).toNatClampNeg (Int32.ofInt (ys_ev r n)).toNatClampNeg kd j)) = va_cpy (fun j => Int64.ofInt (g ks j)) (fun j => Int64.ofInt (g kd j)) (Int32.ofInt (ys_ev r sp)).toNatClampNeg (Int32.ofInt (ys_ev r dp)).toNatClampNeg (Int32.ofInt (ys_ev r n)).toNatClampNeg := by
            funext j
            unfold ys_gcp
            rw [if_pos rfl]
            unfold va_cpy
            split <;> rfl
          have ec : ys_cel ad cT r (ys_gcp g ks kd (Int32.ofInt (ys_ev r sp)).toNatClampNeg (Int32.ofInt (ys_ev r dp)).toNatClampNeg (Int32.ofInt (ys_ev r n)).toNatClampNeg) kd (.inr (1, ld, td)) (fds.1.getD kd []) = (ad kd, .inl (cT 1, ld, .inr (.inl (va_cpy (fun j => Int64.ofInt (g ks j)) (fun j => Int64.ofInt (g kd j)) (Int32.ofInt (ys_ev r sp)).toNatClampNeg (Int32.ofInt (ys_ev r dp)).toNatClampNeg (Int32.ofInt (ys_ev r n)).toNatClampNeg)))) := by
            show ((ad kd, Sum.inl (cT 1, ld, Sum.inr (Sum.inl (fun j => Int64.ofInt (ys_gcp g ks kd (Int32.ofInt (ys_ev r sp)).toNatClampNeg (Int32.ofInt (ys_ev r dp)).toNatClampNeg (Int32.ofInt (ys_ev r n)).toNatClampNeg kd j))))) : Nat × va_E) = _
            rw [ef]
          rw [ec] at ew
          exact fin H1 locs1 (by rw [ew]; exact hP1) (by rw [ew]; exact hD1) hS1
      · cases hs
    · cases hs
  · cases hs
end YSP
/-- the greater, the lesser of two -/
def ys_hmm (mx : Bool) (fr lo : Nat) (pc : Nat) (b : ys_B) (fds : ys_F) (lv : List (Nat × ys_V)) (sv : List ys_V) : Option (List (Nat × ys_S)) := match sv with
  | .inl (.inl y) :: .inl (.inl x) :: t => if ys_inr false b.1 x && (ys_inr false b.1 y && (decide (1 ≤ fr) && decide ((t.map ys_cat).sum + 13 ≤ lo))) then some (match mx with
    | true => ys_br (pc + 3) b [ys_add (ys_sub y x) ([], -1)] (fds, lv, .inl (.inl y) :: t) ++ ys_br (pc + 3) b [ys_sub x y] (fds, lv, .inl (.inl x) :: t)
    | false => ys_br (pc + 3) b [ys_add (ys_sub x y) ([], -1)] (fds, lv, .inl (.inl y) :: t) ++ ys_br (pc + 3) b [ys_sub y x] (fds, lv, .inl (.inl x) :: t)) else none
  | _ => none
/-- what the links of the library's own say: a number below 100000 a copy, 100000 on the greater, 200000 on the lesser -/
def ys_Cp (own : String) (Ts : List Cond) (v : Nat) : Prop := match v / 100000 with
  | 0 => Cond.methodLink own v arraycopyName ∈ Ts ∧ Cond.native arraycopyName ∈ Ts ∧ Cond.static arraycopyName ∈ Ts ∧ Cond.initialized "java/lang/System" ∈ Ts
  | 1 => Cond.methodLink own (v - 100000) Lib.Math.max.name ∈ Ts ∧ Cond.static Lib.Math.max.name ∈ Ts ∧ Cond.initialized "java/lang/Math" ∈ Ts ∧ Cond.code Lib.Math.max.name Lib.Math.max.code 2 (some .int) ∈ Ts
  | 2 => Cond.methodLink own (v - 200000) Lib.Math.min.name ∈ Ts ∧ Cond.static Lib.Math.min.name ∈ Ts ∧ Cond.initialized "java/lang/Math" ∈ Ts ∧ Cond.code Lib.Math.min.name Lib.Math.min.code 2 (some .int) ∈ Ts
  | _ => False
section YSG
variable {p : Program} {l : Launch} {e : Env} {R : Room} {s : State} {m : MethodId} {args : Array Value} {below : List Frame} {meth : Method} {c : Code} {Q : State → Prop} {kc kz : Nat} {D : va_G} {cl : List vw_C} {ad : Nat → Nat} {cT : Nat → ClassId} {sh : List ys_C} {A : Nat → Prop} {H0 : Heap} {nL : Nat} {mods : List Nat} {g0 : Nat → Nat → Int} {r0 : Nat → Int} {E : Nat} {pc : Nat} {b : ys_B} {fds : ys_F} {lv : List (Nat × ys_V)} {sv : List ys_V} {succ : List (Nat × ys_S)} {cc : ByteArray} {own : String} {Ts : List Cond} {tys : List (ClassId × FieldType)}
theorem ys_kmm {idx fr lo : Nat} {mx : Bool} (hexec : p.tables.exec = Jvm.exec) (hb : c.code = cc) (hml : c.maxLocals = nL) (hts : ∀ w ∈ Ts, w.before args s = true) (hown : s.vm.findClass own = some m.cls) (hfr : fr ≤ R.frames) (hlo : lo ≤ R.locals) (hkk : kc ≤ R.cells ∧ kz ≤ R.slots) (hw : match mx with
    | true => Cond.methodLink own idx Lib.Math.max.name ∈ Ts ∧ Cond.static Lib.Math.max.name ∈ Ts ∧ Cond.initialized "java/lang/Math" ∈ Ts ∧ Cond.code Lib.Math.max.name Lib.Math.max.code 2 (some .int) ∈ Ts
    | false => Cond.methodLink own idx Lib.Math.min.name ∈ Ts ∧ Cond.static Lib.Math.min.name ∈ Ts ∧ Cond.initialized "java/lang/Math" ∈ Ts ∧ Cond.code Lib.Math.min.name Lib.Math.min.code 2 (some .int) ∈ Ts) (hd : decode cc pc = .ok (.invokestatic idx, 3)) (hs : ys_hmm mx fr lo pc b fds lv sv = some succ) (k : ∀ q ∈ succ, ys_W p l e R s m args below meth c Q kc kz D cl ad cT sh A H0 nL mods g0 r0 E q.1 q.2) : ys_W p l e R s m args below meth c Q kc kz D cl ad cT sh A H0 nL mods g0 r0 E pc (b, fds, lv, sv) := by
  unfold ys_hmm at hs
  split at hs
  · rename_i y x t
    split at hs
    · rename_i hc
      rw [Bool.and_eq_true, Bool.and_eq_true, Bool.and_eq_true, decide_eq_true_eq, decide_eq_true_eq] at hc
      obtain ⟨c1, c2, c3, c4⟩ := hc
      have hs := (Option.some.inj hs).symm
      subst hs
      intro r H locs ls st h
      obtain ⟨st1, e1, g1, hy⟩ := ys_rep_pop h
      obtain ⟨st2, e2, g2, hx⟩ := ys_rep_pop g1
      subst e1; subst e2
      have ex := ys_inr32 h.1.1 c1
      have ey := ys_inr32 h.1.1 c2
      have hcat : (st2.map fun v => v.category).sum + 13 ≤ R.locals := by
        rw [g2.2.2.2.2.2, ys_cats]
        exact Nat.le_trans c4 hlo
      have one : ∀ {g : ys_L}, ys_stb b.1.length g → ∀ f ∈ [g], ys_stb b.1.length f := fun hg f hf => by rw [List.mem_singleton.mp hf]; exact hg
      have py := ys_rep_push g2 (.inl (.inl y)) hy
      have px := ys_rep_push g2 (.inl (.inl x)) hx
      cases mx with
      | true =>
        obtain ⟨w1, w2, w3, w4⟩ := hw
        refine va_mmax hexec hb (hml.trans g2.2.2.2.2.1.1.symm) hown (hts _ w1) (hts _ w2) (hts _ w3) (hts _ w4) (Nat.le_trans c3 hfr) hcat hkk.1 hkk.2 hd ?_
        by_cases hlt : Int32.ofInt (ys_ev r x) < Int32.ofInt (ys_ev r y)
        · rw [if_pos hlt]
          rw [Int32.lt_iff_toInt_lt, ex, ey] at hlt
          exact ys_kbr py (ys_fk1 (f := ys_add (ys_sub y x) ([], -1)) (by rw [ys_m1, ys_sub_ev]; omega)) (one (ys_stb_m1 (ys_stb_sub hy hx))) (fun q hq => k q (List.mem_append_left _ hq))
        · rw [if_neg hlt]
          rw [Int32.lt_iff_toInt_lt, ex, ey] at hlt
          exact ys_kbr px (ys_fk1 (f := ys_sub x y) (by rw [ys_sub_ev]; omega)) (one (ys_stb_sub hx hy)) (fun q hq => k q (List.mem_append_right _ hq))
      | false =>
        obtain ⟨w1, w2, w3, w4⟩ := hw
        refine va_mmin hexec hb (hml.trans g2.2.2.2.2.1.1.symm) hown (hts _ w1) (hts _ w2) (hts _ w3) (hts _ w4) (Nat.le_trans c3 hfr) hcat hkk.1 hkk.2 hd ?_
        by_cases hlt : Int32.ofInt (ys_ev r y) < Int32.ofInt (ys_ev r x)
        · rw [if_pos hlt]
          rw [Int32.lt_iff_toInt_lt, ex, ey] at hlt
          exact ys_kbr py (ys_fk1 (f := ys_add (ys_sub x y) ([], -1)) (by rw [ys_m1, ys_sub_ev]; omega)) (one (ys_stb_m1 (ys_stb_sub hx hy))) (fun q hq => k q (List.mem_append_left _ hq))
        · rw [if_neg hlt]
          rw [Int32.lt_iff_toInt_lt, ex, ey] at hlt
          exact ys_kbr px (ys_fk1 (f := ys_sub y x) (by rw [ys_sub_ev]; omega)) (one (ys_stb_sub hy hx)) (fun q hq => k q (List.mem_append_right _ hq))
    · cases hs
  · cases hs
end YSG
/-- the end: one of the contract's ways -/
def ys_hret1 (E : Nat) (b : ys_B) (fds : ys_F) (v : Option ys_V) (a : ys_A) : Bool := match ys_zf a.2.2.1.1 fds.1 with
  | some fp => (match a.2.2.2, v with
    | some x, some y => (ys_mat b fds.2 E a.1 a.2.1 a.2.2.1.2 ((x, y) :: fp)).isSome
    | none, none => (ys_mat b fds.2 E a.1 a.2.1 a.2.2.1.2 fp).isSome
    | _, _ => false)
  | none => false
def ys_hret (E : Nat) (K : ys_K) (b : ys_B) (fds : ys_F) (v : Option ys_V) : Bool := K.2.2.1.any (ys_hret1 E b fds v)
section YSE
variable {p : Program} {l : Launch} {e : Env} {R : Room} {s : State} {m : MethodId} {args : Array Value} {below : List Frame} {meth : Method} {c : Code} {Q : State → Prop} {kc kz : Nat} {D : va_G} {cl : List vw_C} {ad : Nat → Nat} {cT : Nat → ClassId} {sh : List ys_C} {A : Nat → Prop} {H0 : Heap} {nL : Nat} {mods : List Nat} {g0 : Nat → Nat → Int} {r0 : Nat → Int} {E : Nat} {pc : Nat} {b : ys_B} {fds : ys_F} {lv : List (Nat × ys_V)} {sv : List ys_V} {succ : List (Nat × ys_S)} {cc : ByteArray} {own : String} {Ts : List Cond} {tys : List (ClassId × FieldType)}
variable {G : List Cond} {K : ys_K}
theorem ys_kret {v : Option ys_V} {r rr : Nat → Int} {H : Heap} {locs : List Loc} {ls : Array Slot} {st : List Value} {aa : Array Value} (hE : K.2.1.2.1.1.length ≤ E) (hrr : ∀ i, i < K.2.1.2.1.1.length → r0 i = rr i) (hK : va_K D cl tys s) (h : ys_rep D cl ad cT sh (va_A (ys_wK ad cT sh K rr g0) s.heap.size) s.heap nL K.2.2.2 g0 r0 r E (b, fds, lv, sv) H locs ls st) (hs : ys_hret K.2.1.2.1.1.length K b fds v = true) :
    ∀ t : State, t.heap = H → s.WarmedH t.vm → ys_Post D cl ad cT sh tys K rr g0 s.heap.size aa s (.returned (v.map (ys_den ad r))) t := by
  intro t ht hW
  obtain ⟨a, ha, hs1⟩ := List.any_eq_true.mp hs
  clear hs
  obtain ⟨h1, h2, ⟨hEl, hr⟩, ⟨g, hg, hP, hD, hS⟩, -, -⟩ := h
  have key : ∀ (prs : List (ys_V × ys_V)) (fp : List (ys_V × ys_V)) (tt : List ys_L), ys_zf a.2.2.1.1 fds.1 = some fp → (∀ q ∈ fp, q ∈ prs) → ys_mat b fds.2 K.2.1.2.1.1.length a.1 a.2.1 a.2.2.1.2 prs = some tt → (a.2.2.2.map (ys_den ad (ys_val r K.2.1.2.1.1.length tt)) = v.map (ys_den ad r)) → ys_Post D cl ad cT sh tys K rr g0 s.heap.size aa s (.returned (v.map (ys_den ad r))) t := by
    intro prs fp tt hz hsub hm hv
    obtain ⟨-, e2, e3, e4, e5, e6, e7⟩ := ys_mat_ok (ad := ad) h1 hm
    have ew : ys_wld ad cT sh (ys_val r K.2.1.2.1.1.length tt) g a.2.2.1.1 = ys_wld ad cT sh r g fds.1 := ys_wld_eq (ys_zf_ok _ _ _ hz (fun q hq => e5 q (hsub q hq)))
    refine ⟨⟨a, ha, ys_val r K.2.1.2.1.1.length tt, g, fun i hi => ?_, fun i hi => ys_val_high (by omega), e3, e4, ⟨fun kk z hz => ?_, hg.2⟩, ?_, ?_, va_K.moved hW.alike hK, by rw [hv]⟩, hS.F ht⟩
    · rw [ys_val_low hi, hr i (Nat.lt_of_lt_of_le hi hE), hrr i hi]
    · obtain ⟨a0, g1, g2⟩ := e7 kk z hz
      exact ys_rle_ok g2 (hg.1 kk a0 g1)
    · rw [ew, ht]
      exact hP
    · rw [ew]
      exact hD
  unfold ys_hret1 at hs1
  split at hs1
  · rename_i fp hfp
    split at hs1
    · rename_i x y hx
      obtain ⟨tt, htt⟩ := Option.isSome_iff_exists.mp hs1
      refine key _ fp tt hfp (fun q hq => List.mem_cons_of_mem _ hq) htt ?_
      obtain ⟨-, -, -, -, e5, -⟩ := ys_mat_ok (ad := ad) h1 htt
      rw [hx]
      show some _ = some _
      rw [e5 (x, y) List.mem_cons_self]
    · rename_i hx
      obtain ⟨tt, htt⟩ := Option.isSome_iff_exists.mp hs1
      refine key _ fp tt hfp (fun q hq => hq) htt ?_
      rw [hx]
      rfl
    · cases hs1
  · cases hs1
end YSE
end
section
/-! one step, whatever the instruction -/
def ys_cfo32 (op : Int32 → Int32 → Int32) (F : ys_B → ys_L → ys_L → Option (ys_B × ys_L)) (b : ys_B) (x y : ys_L) : Option (ys_B × ys_L) := match x.1, y.1 with
  | [], [] => some (b, ([], (op (Int32.ofInt x.2) (Int32.ofInt y.2)).toInt))
  | _, _ => F b x y
def ys_cfo64 (op : Int64 → Int64 → Int64) (F : ys_B → ys_L → ys_L → Option (ys_B × ys_L)) (b : ys_B) (x y : ys_L) : Option (ys_B × ys_L) := match x.1, y.1 with
  | [], [] => some (b, ([], (op (Int64.ofInt x.2) (Int64.ofInt y.2)).toInt))
  | _, _ => F b x y
def ys_cfoLI (op : Int64 → Int32 → Int64) (F : ys_B → ys_L → ys_L → Option (ys_B × ys_L)) (b : ys_B) (x y : ys_L) : Option (ys_B × ys_L) := match x.1, y.1 with
  | [], [] => some (b, ([], (op (Int64.ofInt x.2) (Int32.ofInt y.2)).toInt))
  | _, _ => F b x y
theorem ys_cfo32_ok {op : Int32 → Int32 → Int32} {F : ys_B → ys_L → ys_L → Option (ys_B × ys_L)} (h : ys_B32 F op (fun _ => True)) : ys_B32 (ys_cfo32 op F) op (fun _ => True) := by
  intro r b x y o hb hs hx hy ho
  unfold ys_cfo32 at ho
  split at ho
  · rename_i h1 h2
    cases Option.some.inj ho
    refine ⟨trivial, ys_Op_same hb hs (ys_stb_cst _) ?_⟩
    show Int32.ofInt (ys_ev r (ys_cst _)) = _
    rw [ys_cst_ev, ys_ev_nil r h1, ys_ev_nil r h2, Int32.ofInt_toInt]
  · exact h r b x y o hb hs hx hy ho
theorem ys_cfo64_ok {op : Int64 → Int64 → Int64} {F : ys_B → ys_L → ys_L → Option (ys_B × ys_L)} (h : ys_B64 F op (fun _ => True)) : ys_B64 (ys_cfo64 op F) op (fun _ => True) := by
  intro r b x y o hb hs hx hy ho
  unfold ys_cfo64 at ho
  split at ho
  · rename_i h1 h2
    cases Option.some.inj ho
    refine ⟨trivial, ys_Op_same hb hs (ys_stb_cst _) ?_⟩
    show Int64.ofInt (ys_ev r (ys_cst _)) = _
    rw [ys_cst_ev, ys_ev_nil r h1, ys_ev_nil r h2, Int64.ofInt_toInt]
  · exact h r b x y o hb hs hx hy ho
theorem ys_cfoLI_ok {op : Int64 → Int32 → Int64} {F : ys_B → ys_L → ys_L → Option (ys_B × ys_L)} (h : ys_BLI F op) : ys_BLI (ys_cfoLI op F) op := by
  intro r b x y o hb hs hx hy ho
  unfold ys_cfoLI at ho
  split at ho
  · rename_i h1 h2
    cases Option.some.inj ho
    refine ys_Op_same hb hs (ys_stb_cst _) ?_
    show Int64.ofInt (ys_ev r (ys_cst _)) = _
    rw [ys_cst_ev, ys_ev_nil r h1, ys_ev_nil r h2, Int64.ofInt_toInt]
  · exact h r b x y o hb hs hx hy ho
def ys_g1 {α : Type} (n k : Nat) (x : Option α) : Option α := if n = k then x else none
theorem ys_g1_ok {α : Type} {n k : Nat} {x : Option α} {y : α} (h : ys_g1 n k x = some y) : n = k ∧ x = some y := by
  unfold ys_g1 at h
  split at h
  · rename_i e
    exact ⟨e, h⟩
  · cases h
abbrev ys_CA : Type := List ((Nat × Bool) × ys_K)
def ys_hinv (fr lo : Nat) (mods : List Nat) (idx : Nat) (st : Bool) (pc : Nat) (b : ys_B) (fds : ys_F) (lv : List (Nat × ys_V)) (sv : List ys_V) : ys_CA → Option (List (Nat × ys_S))
  | [] => none
  | q :: t => if q.1 = (idx, st) then (match ys_hcall fr lo mods q.2 pc b fds lv sv with
    | some x => some x
    | none => ys_hinv fr lo mods idx st pc b fds lv sv t) else ys_hinv fr lo mods idx st pc b fds lv sv t
def ys_hldc (tab : List (Nat × Int)) (idx : Nat) (w : Bool) (pc : Nat) (b : ys_B) (fds : ys_F) (lv : List (Nat × ys_V)) (sv : List ys_V) : Option (List (Nat × ys_S)) := match tab.lookup idx with
  | some z => some [(pc, b, fds, lv, (if w then .inl (.inr ([], z)) else .inl (.inl ([], z))) :: sv)]
  | none => none
def ys_iret (K : ys_K) (b : ys_B) (fds : ys_F) (sv : List ys_V) : Option (List (Nat × ys_S)) := match sv with
  | [.inl (.inl x)] => if (decide (K.1.1.2.2.2 = some .int) || (decide (K.1.1.2.2.2 = some .boolean) && (ys_geb b.1 x 0 && ys_geb b.1 (ys_scale (-1) x) (-1)))) && ys_hret K.2.1.2.1.1.length K b fds (some (.inl (.inl x))) then some [] else none
  | _ => none
def ys_lret (K : ys_K) (b : ys_B) (fds : ys_F) (sv : List ys_V) : Option (List (Nat × ys_S)) := match sv with
  | [.inl (.inr x)] => if decide (K.1.1.2.2.2 = some .long) && ys_hret K.2.1.2.1.1.length K b fds (some (.inl (.inr x))) then some [] else none
  | _ => none
def ys_vret (K : ys_K) (b : ys_B) (fds : ys_F) (sv : List ys_V) : Option (List (Nat × ys_S)) := match sv with
  | [] => if decide (K.1.1.2.2.2 = none) && ys_hret K.2.1.2.1.1.length K b fds none then some [] else none
  | _ => none
def ys_or {α : Type} (x y : Option α) : Option α := match x with
  | some z => some z
  | none => y
def ys_stp (sh : List ys_C) (fl : ys_FL) (ci cj : List (Nat × Int)) (calls : ys_CA) (cps : List Nat) (K : ys_K) (nx : Nat → Option (Instr × Nat)) (pc : Nat) (b : ys_B) (fds : ys_F) (lv : List (Nat × ys_V)) (sv : List ys_V) (i : Instr) (n : Nat) : Option (List (Nat × ys_S)) := match i with
  | .iconst z => ys_g1 n 1 (ys_hpush (pc + 1) b fds lv sv (.inl (.inl ([], z))))
  | .lconst z => ys_g1 n 1 (ys_hpush (pc + 1) b fds lv sv (.inl (.inr ([], ((z : Nat) : Int)))))
  | .bipush z => if -128 ≤ z ∧ z ≤ 127 then ys_g1 n 2 (ys_hpush (pc + 2) b fds lv sv (.inl (.inl ([], z)))) else none
  | .sipush z => if -32768 ≤ z ∧ z ≤ 32767 then ys_g1 n 3 (ys_hpush (pc + 3) b fds lv sv (.inl (.inl ([], z)))) else none
  | .ldc k => ys_g1 n 2 (ys_hldc ci k false (pc + 2) b fds lv sv)
  | .ldc_w k => ys_g1 n 3 (ys_hldc ci k false (pc + 3) b fds lv sv)
  | .ldc2_w k => ys_g1 n 3 (ys_hldc cj k true (pc + 3) b fds lv sv)
  | .iload_n k => ys_g1 n 1 (ys_hload 0 k (pc + 1) b fds lv sv)
  | .iload k => ys_g1 n 2 (ys_hload 0 k (pc + 2) b fds lv sv)
  | .lload_n k => ys_g1 n 1 (ys_hload 1 k (pc + 1) b fds lv sv)
  | .lload k => ys_g1 n 2 (ys_hload 1 k (pc + 2) b fds lv sv)
  | .aload_n k => ys_g1 n 1 (ys_hload 2 k (pc + 1) b fds lv sv)
  | .aload k => ys_g1 n 2 (ys_hload 2 k (pc + 2) b fds lv sv)
  | .istore_n k => ys_g1 n 1 (ys_hstore 0 K.1.1.2.2.1 k (pc + 1) b fds lv sv)
  | .istore k => ys_g1 n 2 (ys_hstore 0 K.1.1.2.2.1 k (pc + 2) b fds lv sv)
  | .lstore_n k => ys_g1 n 1 (ys_hstore 1 K.1.1.2.2.1 k (pc + 1) b fds lv sv)
  | .lstore k => ys_g1 n 2 (ys_hstore 1 K.1.1.2.2.1 k (pc + 2) b fds lv sv)
  | .astore_n k => ys_g1 n 1 (ys_hstore 2 K.1.1.2.2.1 k (pc + 1) b fds lv sv)
  | .astore k => ys_g1 n 2 (ys_hstore 2 K.1.1.2.2.1 k (pc + 2) b fds lv sv)
  | .iinc k z => ys_g1 n 3 (ys_hinc K.1.1.2.2.1 k z pc b fds lv sv)
  | .iadd => ys_g1 n 1 (ys_hb32 (ys_fadd false) pc b fds lv sv)
  | .isub => ys_g1 n 1 (ys_hb32 (ys_fsub false) pc b fds lv sv)
  | .imul => ys_g1 n 1 (ys_hb32 (ys_fmul false) pc b fds lv sv)
  | .iand => ys_g1 n 1 (ys_hb32 (ys_cfo32 (fun x y => x &&& y) (ys_fand false)) pc b fds lv sv)
  | .ior => ys_g1 n 1 (ys_hb32 (ys_cfo32 (fun x y => x ||| y) ys_for) pc b fds lv sv)
  | .ixor => ys_g1 n 1 (ys_hb32 (ys_cfo32 (fun x y => x ^^^ y) ys_fxor) pc b fds lv sv)
  | .ishl => ys_g1 n 1 (ys_hb32 (ys_cfo32 (fun x y => x <<< (y &&& 31)) (ys_fshl false)) pc b fds lv sv)
  | .ishr => ys_g1 n 1 (ys_hb32 (ys_cfo32 (fun x y => x >>> (y &&& 31)) ys_fshr) pc b fds lv sv)
  | .iushr => ys_g1 n 1 (ys_hb32 (ys_cfo32 (fun x y => (x.toUInt32 >>> (y.toUInt32 &&& Int32.toUInt32 31)).toInt32) (ys_fany false)) pc b fds lv sv)
  | .idiv => ys_g1 n 1 (ys_hqs (ys_fdiv false) pc b fds lv sv)
  | .irem => ys_g1 n 1 (ys_hqs (ys_frem false) pc b fds lv sv)
  | .ineg => ys_g1 n 1 (ys_hu32 (ys_fneg false) pc b fds lv sv)
  | .i2b => ys_g1 n 1 (ys_hu32 (ys_fcut 7) pc b fds lv sv)
  | .i2s => ys_g1 n 1 (ys_hu32 (ys_fcut 15) pc b fds lv sv)
  | .i2l => ys_g1 n 1 (ys_hi2l pc b fds lv sv)
  | .l2i => ys_g1 n 1 (ys_hl2i pc b fds lv sv)
  | .ladd => ys_g1 n 1 (ys_hb64 (ys_fadd true) pc b fds lv sv)
  | .lsub => ys_g1 n 1 (ys_hb64 (ys_fsub true) pc b fds lv sv)
  | .lmul => ys_g1 n 1 (ys_hb64 (ys_fmul true) pc b fds lv sv)
  | .land => ys_g1 n 1 (ys_hb64 (ys_cfo64 (fun x y => x &&& y) (ys_fand true)) pc b fds lv sv)
  | .lor => ys_g1 n 1 (ys_hb64 (ys_cfo64 (fun x y => x ||| y) (ys_fany true)) pc b fds lv sv)
  | .lxor => ys_g1 n 1 (ys_hb64 (ys_cfo64 (fun x y => x ^^^ y) (ys_fany true)) pc b fds lv sv)
  | .ldiv => ys_g1 n 1 (ys_hb64 (ys_fdiv true) pc b fds lv sv)
  | .lrem => ys_g1 n 1 (ys_hb64 (ys_frem true) pc b fds lv sv)
  | .lneg => ys_g1 n 1 (ys_hu64 (ys_fneg true) pc b fds lv sv)
  | .lshl => ys_g1 n 1 (ys_hbLI (ys_cfoLI (fun x y => x <<< (y.toInt64 &&& 63)) (ys_fshl true)) pc b fds lv sv)
  | .lshr => ys_g1 n 1 (ys_hbLI (ys_cfoLI (fun x y => x >>> (y.toInt64 &&& 63)) (ys_fany true)) pc b fds lv sv)
  | .lushr => ys_g1 n 1 (ys_hbLI (ys_cfoLI (fun x y => (x.toUInt64 >>> (y.toInt64.toUInt64 &&& Int64.toUInt64 63)).toInt64) (ys_fany true)) pc b fds lv sv)
  | .lcmp => ys_g1 n 1 (ys_hlcmp (nx (pc + 1)) pc b fds lv sv)
  | .if_icmp cd off => ys_g1 n 3 (ys_hcmp cd off pc b fds lv sv)
  | .ifCond cd off => ys_g1 n 3 (ys_hif cd off pc b fds lv sv)
  | .goto off => ys_g1 n 3 (ys_hgoto off pc b fds lv sv)
  | .tableswitch dflt lo hi offs => ys_htab dflt lo hi offs pc b fds lv sv
  | .lookupswitch dflt ps => ys_hlook dflt ps pc b fds lv sv
  | .dup => ys_g1 n 1 (ys_hdup pc b fds lv sv)
  | .dup2 => ys_g1 n 1 (ys_hdup2 pc b fds lv sv)
  | .pop => ys_g1 n 1 (ys_hpop pc b fds lv sv)
  | .pop2 => ys_g1 n 1 (ys_hpop2 pc b fds lv sv)
  | .getfield k => ys_g1 n 3 (ys_hget sh fl k pc b fds lv sv)
  | .putfield k => ys_g1 n 3 (ys_hput sh fl k pc b fds lv sv)
  | .iaload => ys_g1 n 1 (ys_hiald sh pc b fds lv sv)
  | .laload => ys_g1 n 1 (ys_hlald sh pc b fds lv sv)
  | .baload => ys_g1 n 1 (ys_or (ys_hbald sh pc b fds lv sv) (ys_hzald sh pc b fds lv sv))
  | .aaload => ys_g1 n 1 (ys_haald sh pc b fds lv sv)
  | .iastore => ys_g1 n 1 (ys_hiast sh K.2.2.2 pc b fds lv sv)
  | .lastore => ys_g1 n 1 (ys_hlast sh K.2.2.2 pc b fds lv sv)
  | .bastore => ys_g1 n 1 (ys_or (ys_hbast sh K.2.2.2 pc b fds lv sv) (ys_hzast sh K.2.2.2 pc b fds lv sv))
  | .arraylength => ys_g1 n 1 (ys_halen sh pc b fds lv sv)
  | .invokevirtual k => ys_g1 n 3 (ys_hinv K.1.2.1 K.1.2.2 K.2.2.2 k false pc b fds lv sv calls)
  | .invokestatic k => if 100000 ≤ k then none else if cps.contains k && decide (1 ≤ K.1.2.1) then ys_g1 n 3 (ys_hcopy K.1.2.2 sh K.2.2.2 pc b fds lv sv) else if cps.contains (100000 + k) then ys_g1 n 3 (ys_hmm true K.1.2.1 K.1.2.2 pc b fds lv sv) else if cps.contains (200000 + k) then ys_g1 n 3 (ys_hmm false K.1.2.1 K.1.2.2 pc b fds lv sv) else ys_g1 n 3 (ys_hinv K.1.2.1 K.1.2.2 K.2.2.2 k true pc b fds lv sv calls)
  | .ireturn => ys_g1 n 1 (ys_iret K b fds sv)
  | .lreturn => ys_g1 n 1 (ys_lret K b fds sv)
  | .return_ => ys_g1 n 1 (ys_vret K b fds sv)
  | _ => none
def ys_Ty (tys : List (ClassId × FieldType)) (cT : Nat → ClassId) (sh : List ys_C) : Prop := tys[0]? = some (cT 0, .int) ∧ tys[1]? = some (cT 1, .long) ∧ tys[2]? = some (cT 2, .byte) ∧ tys[3]? = some (cT 3, .boolean) ∧ (∀ (k : Nat) (y : Nat × Nat × List Nat), sh[k]? = some (.inr y) → ∃ t, tys[y.1]? = some (cT y.1, t)) ∧ ∀ (k : Nat) (y : Nat × Nat × List Nat), sh[k]? = some (.inr y) → 4 ≤ y.1 → ∃ C, tys[y.1]? = some (cT y.1, .object C)
/-- what the code's links say -/
def ys_Lk (own : String) (Ts : List Cond) (cl : List vw_C) (fl : ys_FL) (ci cj : List (Nat × Int)) (cps : List Nat) : Prop := (∀ idx c j tk, fl.lookup idx = some (c, j, tk) → ys_Fl own Ts cl idx c j tk) ∧ (∀ idx z, ci.lookup idx = some z → Cond.constant own idx (Int32.ofInt z) ∈ Ts) ∧ (∀ idx z, cj.lookup idx = some z → Cond.constantLong own idx (Int64.ofInt z) ∈ Ts) ∧ ∀ v, v ∈ cps → ys_Cp own Ts v
section YSD
variable {p : Program} {l : Launch} {e : Env} {R : Room} {s : State} {m : MethodId} {args : Array Value} {below : List Frame} {meth : Method} {c : Code} {Q : State → Prop} {kc kz : Nat} {D : va_G} {cl : List vw_C} {ad : Nat → Nat} {cT : Nat → ClassId} {sh : List ys_C} {A : Nat → Prop} {H0 : Heap} {nL : Nat} {mods : List Nat} {g0 : Nat → Nat → Int} {r0 : Nat → Int} {E : Nat} {pc : Nat} {b : ys_B} {fds : ys_F} {lv : List (Nat × ys_V)} {sv : List ys_V} {succ : List (Nat × ys_S)} {cc : ByteArray} {own : String} {Ts : List Cond} {tys : List (ClassId × FieldType)}
variable {G : List Cond} {K : ys_K} {fl : ys_FL} {ci cj : List (Nat × Int)} {calls : ys_CA} {cps : List Nat} {nx : Nat → Option (Instr × Nat)} {rr : Nat → Int}
theorem ys_kinv {idx : Nat} {st : Bool} {fr lo : Nat} (S : CallFix p m c cc nL s args Ts own) (hK : va_K D cl tys s) (hA0 : ∀ q, H0.size ≤ q → A q) (hfr : fr ≤ R.frames) (hlo : lo ≤ R.locals) (hkk : kc ≤ R.cells ∧ kz ≤ R.slots) (hd : decode cc pc = .ok (if st = true then .invokestatic idx else .invokevirtual idx, 3)) (k : ∀ q ∈ succ, ys_W p l e R s m args below meth c Q kc kz D cl ad cT sh A H0 nL mods g0 r0 E q.1 q.2) : ∀ (cs : ys_CA), (∀ q ∈ cs, ys_Con l D cl ad cT sh tys G q.2 ∧ ys_CL own Ts cl sh G (if q.1.2 = true then .invokestatic q.1.1 else .invokevirtual q.1.1) q.2) → ys_hinv fr lo mods idx st pc b fds lv sv cs = some succ → ys_W p l e R s m args below meth c Q kc kz D cl ad cT sh A H0 nL mods g0 r0 E pc (b, fds, lv, sv)
  | [], _, hs => by cases hs
  | q :: t, hc, hs => by
    have ht : ∀ x ∈ t, ys_Con l D cl ad cT sh tys G x.2 ∧ ys_CL own Ts cl sh G (if x.1.2 = true then .invokestatic x.1.1 else .invokevirtual x.1.1) x.2 := fun x hx => hc x (List.mem_cons_of_mem _ hx)
    unfold ys_hinv at hs
    split at hs
    · rename_i he
      split at hs
      · rename_i x hx
        cases Option.some.inj hs
        obtain ⟨h1, h2⟩ := hc q List.mem_cons_self
        rw [he] at h2
        exact ys_kcall S hK hA0 h1 h2 hd hfr hlo hkk hx k
      · exact ys_kinv S hK hA0 hfr hlo hkk hd k t ht hs
    · exact ys_kinv S hK hA0 hfr hlo hkk hd k t ht hs
theorem ys_bip {z : Int} (h1 : -128 ≤ z) (h2 : z ≤ 127) : (Int8.ofInt z).toInt32 = Int32.ofInt z := by
  apply Int32.toInt_inj.mp
  rw [Int8.toInt_toInt32, Int8.toInt_ofInt_of_le (by omega) (by omega), Int32.toInt_ofInt_of_le (by omega) (by omega)]
theorem ys_sip {z : Int} (h1 : -32768 ≤ z) (h2 : z ≤ 32767) : (Int16.ofInt z).toInt32 = Int32.ofInt z := by
  apply Int32.toInt_inj.mp
  rw [Int16.toInt_toInt32, Int16.toInt_ofInt_of_le (by omega) (by omega), Int32.toInt_ofInt_of_le (by omega) (by omega)]
theorem ys_ev0 (r : Nat → Int) (z : Int) : ys_ev r (([], z) : ys_L) = z := Int.zero_add z
theorem ys_or_ok {α : Type} {x y : Option α} {z : α} (h : ys_or x y = some z) : x = some z ∨ y = some z := by
  unfold ys_or at h
  split at h
  · exact Or.inl h
  · exact Or.inr h
def ys_isr (i : Instr) : Bool := match i with
  | .ireturn => true
  | .lreturn => true
  | .return_ => true
  | _ => false
set_option maxHeartbeats 4000000 in
theorem ys_stp_gen {i : Instr} {n : Nat} (S : CallFix p m c cc nL s args Ts own) (hnL : K.1.1.2.2.1 = nL) (hmods : K.2.2.2 = mods) (hfr : K.1.2.1 ≤ R.frames) (hlo : K.1.2.2 ≤ R.locals) (hkk : kc ≤ R.cells ∧ kz ≤ R.slots) (hA0 : ∀ q, H0.size ≤ q → A q) (hK : va_K D cl tys s) (hty : ys_Ty tys cT sh) (hLk : ys_Lk own Ts cl fl ci cj cps) (hcalls : ∀ q ∈ calls, ys_Con l D cl ad cT sh tys G q.2 ∧ ys_CL own Ts cl sh G (if q.1.2 = true then .invokestatic q.1.1 else .invokevirtual q.1.1) q.2) (hnx : ∀ pc i, nx pc = some i → decode cc pc = .ok i) (hd : decode cc pc = .ok (i, n))
    (hs : ys_stp sh fl ci cj calls cps K nx pc b fds lv sv i n = some succ) (hret : ys_isr i = true → ys_W p l e R s m args below meth c Q kc kz D cl ad cT sh A H0 nL mods g0 r0 E pc (b, fds, lv, sv))
    (k : ∀ q ∈ succ, ys_W p l e R s m args below meth c Q kc kz D cl ad cT sh A H0 nL mods g0 r0 E q.1 q.2) : ys_W p l e R s m args below meth c Q kc kz D cl ad cT sh A H0 nL mods g0 r0 E pc (b, fds, lv, sv) := by
  subst hnL
  subst hmods
  have hexec := S.1
  have hb := S.2.1
  have hml := S.2.2.1
  have hown := S.2.2.2.1
  have hts := S.2.2.2.2
  obtain ⟨hfl, hci, hcj, hcps⟩ := hLk
  obtain ⟨t0, t1, t2, t3, t4, t5⟩ := hty
  cases i with
  | iconst z =>
    obtain ⟨e0, hs1⟩ := ys_g1_ok hs
    subst e0
    clear hs
    exact ys_kpush (v := .inl (.inl ([], z))) (fun _ => ys_stb_cst _) (fun r H locs ls rest kk => lv_iconst hexec hb hd (by rw [ys_ev0]) kk) hs1 k
  | lconst z =>
    obtain ⟨e0, hs1⟩ := ys_g1_ok hs
    subst e0
    clear hs
    exact ys_kpush (v := .inl (.inr ([], ((z : Nat) : Int)))) (fun _ => ys_stb_cst _) (fun r H locs ls rest kk => lv_lconst hexec hb hd (by rw [ys_ev0, Int64.ofInt_eq_ofNat]) kk) hs1 k
  | bipush z =>
    have hs : (if -128 ≤ z ∧ z ≤ 127 then ys_g1 n 2 (ys_hpush (pc + 2) b fds lv sv (.inl (.inl ([], z)))) else none) = some succ := hs
    split at hs
    · rename_i hz
      obtain ⟨e0, hs1⟩ := ys_g1_ok hs
      subst e0
      clear hs
      exact ys_kpush (v := .inl (.inl ([], z))) (fun _ => ys_stb_cst _) (fun r H locs ls rest kk => lv_bipush hexec hb hd (by rw [ys_ev0]; exact ys_bip hz.1 hz.2) kk) hs1 k
    · cases hs
  | sipush z =>
    have hs : (if -32768 ≤ z ∧ z ≤ 32767 then ys_g1 n 3 (ys_hpush (pc + 3) b fds lv sv (.inl (.inl ([], z)))) else none) = some succ := hs
    split at hs
    · rename_i hz
      obtain ⟨e0, hs1⟩ := ys_g1_ok hs
      subst e0
      clear hs
      exact ys_kpush (v := .inl (.inl ([], z))) (fun _ => ys_stb_cst _) (fun r H locs ls rest kk => lv_sipush hexec hb hd (by rw [ys_ev0]; exact ys_sip hz.1 hz.2) kk) hs1 k
    · cases hs
  | ldc x =>
    obtain ⟨e0, hs1⟩ := ys_g1_ok hs
    subst e0
    clear hs
    unfold ys_hldc at hs1
    split at hs1
    · rename_i z hz
      exact ys_kpush (v := .inl (.inl ([], z))) (fun _ => ys_stb_cst _) (fun r H locs ls rest kk => lv_ldc hexec hb hown (hts _ (hci _ _ hz)) hd (by rw [← ys_ev0 r z]; exact kk)) hs1 k
    · cases hs1
  | ldc_w x =>
    obtain ⟨e0, hs1⟩ := ys_g1_ok hs
    subst e0
    clear hs
    unfold ys_hldc at hs1
    split at hs1
    · rename_i z hz
      exact ys_kpush (v := .inl (.inl ([], z))) (fun _ => ys_stb_cst _) (fun r H locs ls rest kk => lv_ldcw hexec hb hown (hts _ (hci _ _ hz)) hd (by rw [← ys_ev0 r z]; exact kk)) hs1 k
    · cases hs1
  | ldc2_w x =>
    obtain ⟨e0, hs1⟩ := ys_g1_ok hs
    subst e0
    clear hs
    unfold ys_hldc at hs1
    split at hs1
    · rename_i z hz
      exact ys_kpush (v := .inl (.inr ([], z))) (fun _ => ys_stb_cst _) (fun r H locs ls rest kk => lv_ldc2 hexec hb hown (hts _ (hcj _ _ hz)) hd (by rw [← ys_ev0 r z]; exact kk)) hs1 k
    · cases hs1

  | iload_n x =>
    obtain ⟨e0, hs1⟩ := ys_g1_ok hs
    subst e0
    clear hs
    exact ys_kload (fun r v H locs ls rest hk hl kk => by
      obtain ⟨y, rfl⟩ := ys_kind0 hk
      exact lv_iload_n hexec hb hd rfl hl kk) hs1 k
  | lload_n x =>
    obtain ⟨e0, hs1⟩ := ys_g1_ok hs
    subst e0
    clear hs
    exact ys_kload (fun r v H locs ls rest hk hl kk => by
      obtain ⟨y, rfl⟩ := ys_kind1 hk
      exact lv_lload_n hexec hb hd rfl hl kk) hs1 k
  | aload_n x =>
    obtain ⟨e0, hs1⟩ := ys_g1_ok hs
    subst e0
    clear hs
    exact ys_kload (fun r v H locs ls rest hk hl kk => by
      obtain ⟨y, rfl⟩ := ys_kind2 hk
      exact lv_aload_n hexec hb hd rfl hl kk) hs1 k
  | iload x =>
    obtain ⟨e0, hs1⟩ := ys_g1_ok hs
    subst e0
    clear hs
    exact ys_kload (fun r v H locs ls rest hk hl kk => by
      obtain ⟨y, rfl⟩ := ys_kind0 hk
      exact lv_iload hexec hb hd hl kk) hs1 k
  | lload x =>
    obtain ⟨e0, hs1⟩ := ys_g1_ok hs
    subst e0
    clear hs
    exact ys_kload (fun r v H locs ls rest hk hl kk => by
      obtain ⟨y, rfl⟩ := ys_kind1 hk
      exact lv_lload hexec hb hd hl kk) hs1 k
  | aload x =>
    obtain ⟨e0, hs1⟩ := ys_g1_ok hs
    subst e0
    clear hs
    exact ys_kload (fun r v H locs ls rest hk hl kk => by
      obtain ⟨y, rfl⟩ := ys_kind2 hk
      exact lv_aload hexec hb hd hl kk) hs1 k
  | istore_n x =>
    obtain ⟨e0, hs1⟩ := ys_g1_ok hs
    subst e0
    clear hs
    exact ys_kstore (fun r v H locs ls rest hk hl hi kk => by
      obtain ⟨y, rfl⟩ := ys_kind0 hk
      exact lv_istore_n (lv' := ys_lvs ad r (ys_st1 lv x (.inl (.inl y)))) hexec hb hd rfl hl hi (ys_st1_lvs ad r lv x (.inl (.inl y))).symm kk) hs1 k
  | lstore_n x =>
    obtain ⟨e0, hs1⟩ := ys_g1_ok hs
    subst e0
    clear hs
    exact ys_kstore (fun r v H locs ls rest hk hl hi kk => by
      obtain ⟨y, rfl⟩ := ys_kind1 hk
      exact lv_lstore_n (lv' := ys_lvs ad r (ys_st2 lv x (.inl (.inr y)))) hexec hb hd rfl hl hi (ys_st2_lvs ad r lv x (.inl (.inr y))).symm kk) hs1 k
  | astore_n x =>
    obtain ⟨e0, hs1⟩ := ys_g1_ok hs
    subst e0
    clear hs
    exact ys_kstore (fun r v H locs ls rest hk hl hi kk => by
      obtain ⟨y, rfl⟩ := ys_kind2 hk
      exact lv_astore_n (lv' := ys_lvs ad r (ys_st1 lv x (.inr (some y)))) hexec hb hd rfl hl hi (ys_st1_lvs ad r lv x (.inr (some y))).symm kk) hs1 k
  | istore x =>
    obtain ⟨e0, hs1⟩ := ys_g1_ok hs
    subst e0
    clear hs
    exact ys_kstore (fun r v H locs ls rest hk hl hi kk => by
      obtain ⟨y, rfl⟩ := ys_kind0 hk
      exact lv_istore (lv' := ys_lvs ad r (ys_st1 lv x (.inl (.inl y)))) hexec hb hd hl hi (ys_st1_lvs ad r lv x (.inl (.inl y))).symm kk) hs1 k
  | lstore x =>
    obtain ⟨e0, hs1⟩ := ys_g1_ok hs
    subst e0
    clear hs
    exact ys_kstore (fun r v H locs ls rest hk hl hi kk => by
      obtain ⟨y, rfl⟩ := ys_kind1 hk
      exact lv_lstore (lv' := ys_lvs ad r (ys_st2 lv x (.inl (.inr y)))) hexec hb hd hl hi (ys_st2_lvs ad r lv x (.inl (.inr y))).symm kk) hs1 k
  | astore x =>
    obtain ⟨e0, hs1⟩ := ys_g1_ok hs
    subst e0
    clear hs
    exact ys_kstore (fun r v H locs ls rest hk hl hi kk => by
      obtain ⟨y, rfl⟩ := ys_kind2 hk
      exact lv_astore (lv' := ys_lvs ad r (ys_st1 lv x (.inr (some y)))) hexec hb hd hl hi (ys_st1_lvs ad r lv x (.inr (some y))).symm kk) hs1 k
  | iinc x z =>
    obtain ⟨e0, hs1⟩ := ys_g1_ok hs
    subst e0
    clear hs
    exact ys_kinc hexec hb hd hs1 k
  | iadd =>
    obtain ⟨e0, hs1⟩ := ys_g1_ok hs
    subst e0
    clear hs
    exact ys_kb32 ys_fadd32 (fun X Y H locs ls rest hok kk => lv_iadd hexec hb hd kk) hs1 k
  | isub =>
    obtain ⟨e0, hs1⟩ := ys_g1_ok hs
    subst e0
    clear hs
    exact ys_kb32 ys_fsub32 (fun X Y H locs ls rest hok kk => lv_isub hexec hb hd kk) hs1 k
  | imul =>
    obtain ⟨e0, hs1⟩ := ys_g1_ok hs
    subst e0
    clear hs
    exact ys_kb32 ys_fmul32 (fun X Y H locs ls rest hok kk => lv_imul hexec hb hd kk) hs1 k
  | iand =>
    obtain ⟨e0, hs1⟩ := ys_g1_ok hs
    subst e0
    clear hs
    exact ys_kb32 (ys_cfo32_ok ys_fand32) (fun X Y H locs ls rest hok kk => lv_iand hexec hb hd kk) hs1 k
  | ior =>
    obtain ⟨e0, hs1⟩ := ys_g1_ok hs
    subst e0
    clear hs
    exact ys_kb32 (ys_cfo32_ok ys_or32) (fun X Y H locs ls rest hok kk => lv_ior hexec hb hd kk) hs1 k
  | ixor =>
    obtain ⟨e0, hs1⟩ := ys_g1_ok hs
    subst e0
    clear hs
    exact ys_kb32 (ys_cfo32_ok ys_fxor32) (fun X Y H locs ls rest hok kk => lv_ixor hexec hb hd kk) hs1 k
  | ishl =>
    obtain ⟨e0, hs1⟩ := ys_g1_ok hs
    subst e0
    clear hs
    exact ys_kb32 (ys_cfo32_ok ys_fshl32) (fun X Y H locs ls rest hok kk => lv_ishl hexec hb hd kk) hs1 k
  | ishr =>
    obtain ⟨e0, hs1⟩ := ys_g1_ok hs
    subst e0
    clear hs
    exact ys_kb32 (ys_cfo32_ok ys_fshr32) (fun X Y H locs ls rest hok kk => lv_ishr hexec hb hd kk) hs1 k
  | iushr =>
    obtain ⟨e0, hs1⟩ := ys_g1_ok hs
    subst e0
    clear hs
    exact ys_kb32 (ys_cfo32_ok (ys_fany32 _)) (fun X Y H locs ls rest hok kk => lv_iushr hexec hb hd rfl kk) hs1 k
  | idiv =>
    obtain ⟨e0, hs1⟩ := ys_g1_ok hs
    subst e0
    clear hs
    exact ys_kqs ys_fdiv32 (fun X Y H locs ls rest hok kk => lv_idiv hexec hb hd hok kk) hs1 k
  | irem =>
    obtain ⟨e0, hs1⟩ := ys_g1_ok hs
    subst e0
    clear hs
    exact ys_kqs ys_frem32 (fun X Y H locs ls rest hok kk => lv_irem hexec hb hd hok kk) hs1 k
  | ladd =>
    obtain ⟨e0, hs1⟩ := ys_g1_ok hs
    subst e0
    clear hs
    exact ys_kb64 ys_fadd64 (fun X Y H locs ls rest hok kk => lv_ladd hexec hb hd kk) hs1 k
  | lsub =>
    obtain ⟨e0, hs1⟩ := ys_g1_ok hs
    subst e0
    clear hs
    exact ys_kb64 ys_fsub64 (fun X Y H locs ls rest hok kk => lv_lsub hexec hb hd kk) hs1 k
  | lmul =>
    obtain ⟨e0, hs1⟩ := ys_g1_ok hs
    subst e0
    clear hs
    exact ys_kb64 ys_fmul64 (fun X Y H locs ls rest hok kk => lv_lmul hexec hb hd kk) hs1 k
  | land =>
    obtain ⟨e0, hs1⟩ := ys_g1_ok hs
    subst e0
    clear hs
    exact ys_kb64 (ys_cfo64_ok ys_fand64) (fun X Y H locs ls rest hok kk => lv_land hexec hb hd kk) hs1 k
  | lor =>
    obtain ⟨e0, hs1⟩ := ys_g1_ok hs
    subst e0
    clear hs
    exact ys_kb64 (ys_cfo64_ok (ys_fany64 _)) (fun X Y H locs ls rest hok kk => lv_lor hexec hb hd kk) hs1 k
  | lxor =>
    obtain ⟨e0, hs1⟩ := ys_g1_ok hs
    subst e0
    clear hs
    exact ys_kb64 (ys_cfo64_ok (ys_fany64 _)) (fun X Y H locs ls rest hok kk => lv_lxor hexec hb hd kk) hs1 k
  | ldiv =>
    obtain ⟨e0, hs1⟩ := ys_g1_ok hs
    subst e0
    clear hs
    exact ys_kb64 ys_fdiv64 (fun X Y H locs ls rest hok kk => lv_ldiv hexec hb hd hok kk) hs1 k
  | lrem =>
    obtain ⟨e0, hs1⟩ := ys_g1_ok hs
    subst e0
    clear hs
    exact ys_kb64 ys_frem64 (fun X Y H locs ls rest hok kk => lv_lrem hexec hb hd hok kk) hs1 k
  | lshl =>
    obtain ⟨e0, hs1⟩ := ys_g1_ok hs
    subst e0
    clear hs
    exact ys_kbLI (ys_cfoLI_ok ys_fshl64) (fun X Y H locs ls rest kk => lv_lshl hexec hb hd rfl kk) hs1 k
  | lshr =>
    obtain ⟨e0, hs1⟩ := ys_g1_ok hs
    subst e0
    clear hs
    exact ys_kbLI (ys_cfoLI_ok (ys_fanyLI _)) (fun X Y H locs ls rest kk => lv_lshr hexec hb hd rfl kk) hs1 k
  | lushr =>
    obtain ⟨e0, hs1⟩ := ys_g1_ok hs
    subst e0
    clear hs
    exact ys_kbLI (ys_cfoLI_ok (ys_fanyLI _)) (fun X Y H locs ls rest kk => lv_lushr hexec hb hd rfl kk) hs1 k
  | ineg =>
    obtain ⟨e0, hs1⟩ := ys_g1_ok hs
    subst e0
    clear hs
    exact ys_ku32 (fun r b x h1 h2 h3 => ys_fneg32 h1 h2 h3) (fun X H locs ls rest kk => lv_ineg hexec hb hd kk) hs1 k
  | i2b =>
    obtain ⟨e0, hs1⟩ := ys_g1_ok hs
    subst e0
    clear hs
    exact ys_ku32 (fun r b x h1 h2 h3 => ys_fi2b h1 h2 h3) (fun X H locs ls rest kk => lv_i2b hexec hb hd rfl kk) hs1 k
  | i2s =>
    obtain ⟨e0, hs1⟩ := ys_g1_ok hs
    subst e0
    clear hs
    exact ys_ku32 (fun r b x h1 h2 h3 => ys_fi2s h1 h2 h3) (fun X H locs ls rest kk => lv_i2s hexec hb hd rfl kk) hs1 k
  | lneg =>
    obtain ⟨e0, hs1⟩ := ys_g1_ok hs
    subst e0
    clear hs
    exact ys_ku64 (fun r b x h1 h2 h3 => ys_fneg64 h1 h2 h3) (fun X H locs ls rest kk => lv_lneg hexec hb hd kk) hs1 k
  | i2l =>
    obtain ⟨e0, hs1⟩ := ys_g1_ok hs
    subst e0
    clear hs
    exact ys_ki2l hexec hb hd hs1 k
  | l2i =>
    obtain ⟨e0, hs1⟩ := ys_g1_ok hs
    subst e0
    clear hs
    exact ys_kl2i hexec hb hd hs1 k
  | lcmp =>
    obtain ⟨e0, hs1⟩ := ys_g1_ok hs
    subst e0
    clear hs
    exact ys_klcmp hexec hb hd (fun i hi => hnx _ _ hi) hs1 k
  | if_icmp cd off =>
    obtain ⟨e0, hs1⟩ := ys_g1_ok hs
    subst e0
    clear hs
    exact ys_kcmp hexec hb hd hs1 k
  | ifCond cd off =>
    obtain ⟨e0, hs1⟩ := ys_g1_ok hs
    subst e0
    clear hs
    exact ys_kif hexec hb hd hs1 k
  | goto off =>
    obtain ⟨e0, hs1⟩ := ys_g1_ok hs
    subst e0
    clear hs
    exact ys_kgoto hexec hb hd hs1 k
  | tableswitch dflt lo hi offs => exact ys_ktab hexec hb hd hs k
  | lookupswitch dflt ps => exact ys_klook hexec hb hd hs k
  | dup =>
    obtain ⟨e0, hs1⟩ := ys_g1_ok hs
    subst e0
    clear hs
    exact ys_kdup hexec hb hd hs1 k
  | dup2 =>
    obtain ⟨e0, hs1⟩ := ys_g1_ok hs
    subst e0
    clear hs
    exact ys_kdup2 hexec hb hd hs1 k
  | pop =>
    obtain ⟨e0, hs1⟩ := ys_g1_ok hs
    subst e0
    clear hs
    exact ys_kpop hexec hb hd hs1 k
  | pop2 =>
    obtain ⟨e0, hs1⟩ := ys_g1_ok hs
    subst e0
    clear hs
    exact ys_kpop2 hexec hb hd hs1 k
  | getfield x =>
    obtain ⟨e0, hs1⟩ := ys_g1_ok hs
    subst e0
    clear hs
    exact ys_kget hexec hb hts hown hK hfl hd hs1 k
  | putfield x =>
    obtain ⟨e0, hs1⟩ := ys_g1_ok hs
    subst e0
    clear hs
    exact ys_kput hexec hb hts hown hK hfl hd hs1 k
  | iaload =>
    obtain ⟨e0, hs1⟩ := ys_g1_ok hs
    subst e0
    clear hs
    exact ys_kiald hexec hb hK t0 hd hs1 k
  | laload =>
    obtain ⟨e0, hs1⟩ := ys_g1_ok hs
    subst e0
    clear hs
    exact ys_klald hexec hb hK t1 hd hs1 k
  | baload =>
    obtain ⟨e0, hs1⟩ := ys_g1_ok hs
    subst e0
    clear hs
    rcases ys_or_ok hs1 with hs1 | hs1
    · exact ys_kbald hexec hb hK t2 hd hs1 k
    · exact ys_kzald hexec hb hK t3 hd hs1 k
  | aaload =>
    obtain ⟨e0, hs1⟩ := ys_g1_ok hs
    subst e0
    clear hs
    exact ys_kaald hexec hb hK t5 hd hs1 k
  | iastore =>
    obtain ⟨e0, hs1⟩ := ys_g1_ok hs
    subst e0
    clear hs
    exact ys_kiast hexec hb hK t0 hd hs1 k
  | lastore =>
    obtain ⟨e0, hs1⟩ := ys_g1_ok hs
    subst e0
    clear hs
    exact ys_klast hexec hb hK t1 hd hs1 k
  | bastore =>
    obtain ⟨e0, hs1⟩ := ys_g1_ok hs
    subst e0
    clear hs
    rcases ys_or_ok hs1 with hs1 | hs1
    · exact ys_kbast hexec hb hK t2 hd hs1 k
    · exact ys_kzast hexec hb hK t3 hd hs1 k
  | arraylength =>
    obtain ⟨e0, hs1⟩ := ys_g1_ok hs
    subst e0
    clear hs
    exact ys_kalen hexec hb hK t4 hd hs1 k
  | invokevirtual x =>
    obtain ⟨e0, hs1⟩ := ys_g1_ok hs
    subst e0
    clear hs
    exact ys_kinv (st := false) S hK hA0 hfr hlo hkk hd k calls hcalls hs1
  | invokestatic x =>
    have hs : (if 100000 ≤ x then none else if cps.contains x && decide (1 ≤ K.1.2.1) then ys_g1 n 3 (ys_hcopy K.1.2.2 sh K.2.2.2 pc b fds lv sv) else if cps.contains (100000 + x) then ys_g1 n 3 (ys_hmm true K.1.2.1 K.1.2.2 pc b fds lv sv) else if cps.contains (200000 + x) then ys_g1 n 3 (ys_hmm false K.1.2.1 K.1.2.2 pc b fds lv sv) else ys_g1 n 3 (ys_hinv K.1.2.1 K.1.2.2 K.2.2.2 x true pc b fds lv sv calls)) = some succ := hs
    split at hs
    · cases hs
    rename_i hx5
    split at hs
    · rename_i hc
      rw [Bool.and_eq_true, decide_eq_true_eq] at hc
      obtain ⟨e0, hs1⟩ := ys_g1_ok hs
      subst e0
      have hw := hcps x (by simpa using hc.1)
      unfold ys_Cp at hw
      rw [show x / 100000 = 0 by omega] at hw
      obtain ⟨w1, w2, w3, w4⟩ := hw
      exact ys_kcopy hexec hb hml hts hown hK t0 t1 (Nat.le_trans hc.2 hfr) hlo w1 w2 w3 w4 hd hs1 k
    split at hs
    · rename_i hc
      obtain ⟨e0, hs1⟩ := ys_g1_ok hs
      subst e0
      have hw := hcps (100000 + x) (by simpa using hc)
      unfold ys_Cp at hw
      rw [show (100000 + x) / 100000 = 1 by omega, show 100000 + x - 100000 = x by omega] at hw
      exact ys_kmm (mx := true) hexec hb hml hts hown hfr hlo hkk hw hd hs1 k
    split at hs
    · rename_i hc
      obtain ⟨e0, hs1⟩ := ys_g1_ok hs
      subst e0
      have hw := hcps (200000 + x) (by simpa using hc)
      unfold ys_Cp at hw
      rw [show (200000 + x) / 100000 = 2 by omega, show 200000 + x - 200000 = x by omega] at hw
      exact ys_kmm (mx := false) hexec hb hml hts hown hfr hlo hkk hw hd hs1 k
    obtain ⟨e0, hs1⟩ := ys_g1_ok hs
    subst e0
    exact ys_kinv (st := true) S hK hA0 hfr hlo hkk hd k calls hcalls hs1
  | ireturn => exact hret rfl
  | lreturn => exact hret rfl
  | return_ => exact hret rfl
  | _ => cases hs
set_option maxHeartbeats 4000000 in
theorem ys_stp_ok {{i : Instr}} {{n : Nat}} (S : CallFix p m c K.1.1.2.1 K.1.1.2.2.1 s args (ys_ws G K) own) (hr : meth.sig.returnType = K.1.1.2.2.2) (hlocks : meth.locks = false) (hK : va_K D cl tys s) (hty : ys_Ty tys cT sh) (hLk : ys_Lk own (ys_ws G K) cl fl ci cj cps) (hcalls : ∀ q ∈ calls, ys_Con l D cl ad cT sh tys G q.2 ∧ ys_CL own (ys_ws G K) cl sh G (if q.1.2 = true then .invokestatic q.1.1 else .invokevirtual q.1.1) q.2) (hnx : ∀ pc i, nx pc = some i → decode K.1.1.2.1 pc = .ok i) (hE : K.2.1.2.1.1.length ≤ E) (hrr : ∀ i, i < K.2.1.2.1.1.length → r0 i = rr i) (hd : decode K.1.1.2.1 pc = .ok (i, n))
    (hs : ys_stp sh fl ci cj calls cps K nx pc b fds lv sv i n = some succ)
    (k : ∀ q ∈ succ, ys_W p l e (ys_rm K) s m args below meth c (MQ below (ys_Post D cl ad cT sh tys K rr g0 s.heap.size) args s 0 0 (va_A (ys_wK ad cT sh K rr g0) s.heap.size)) 0 0 D cl ad cT sh (va_A (ys_wK ad cT sh K rr g0) s.heap.size) s.heap K.1.1.2.2.1 K.2.2.2 g0 r0 E q.1 q.2) :
    ys_W p l e (ys_rm K) s m args below meth c (MQ below (ys_Post D cl ad cT sh tys K rr g0 s.heap.size) args s 0 0 (va_A (ys_wK ad cT sh K rr g0) s.heap.size)) 0 0 D cl ad cT sh (va_A (ys_wK ad cT sh K rr g0) s.heap.size) s.heap K.1.1.2.2.1 K.2.2.2 g0 r0 E pc (b, fds, lv, sv) := by
  have hexec := S.1
  have hb := S.2.1
  refine ys_stp_gen S rfl rfl (Nat.le_refl _) (Nat.le_refl _) ⟨Nat.le_refl _, Nat.le_refl _⟩ (fun q h => Or.inr h) hK hty hLk hcalls hnx hd hs (fun hi => ?_) k
  clear k
  cases i with
  | ireturn =>
    obtain ⟨e0, hs1⟩ := ys_g1_ok hs
    subst e0
    clear hs
    unfold ys_iret at hs1
    split at hs1
    · rename_i x
      split at hs1
      · rename_i hc
        rw [Bool.and_eq_true] at hc
        intro r H locs ls st h
        have hq := ys_kret (aa := args) hE hrr hK h hc.2
        have hst : st = [.int (Int32.ofInt (ys_ev r x))] := h.2.2.2.2.2
        have hf : ∀ q ∈ locs, va_A (ys_wK ad cT sh K rr g0) s.heap.size q.base := h.2.2.2.1.choose_spec.2.2.2.2.2
        rw [hst]
        rcases (Bool.or_eq_true _ _).mp hc.1 with h1 | h1
        · exact W.iret hexec hb (hr.trans (of_decide_eq_true h1)) hq hf hd hlocks
        · rw [Bool.and_eq_true, Bool.and_eq_true] at h1
          have g1 := ys_geb_le h.1.1 h1.2.1
          have g2 := ys_geb_le h.1.1 h1.2.2
          rw [ys_scale_ev] at g2
          refine W.zret (ty := .boolean) hexec hb (hr.trans (of_decide_eq_true h1.1)) ?_ hq hf hd hlocks
          show Value.int (Int32.ofInt (ys_ev r x) &&& 1) = Value.int (Int32.ofInt (ys_ev r x))
          rcases ys_01 g1 (show ys_ev r x ≤ 1 by omega) with q | q <;> rw [q] <;> rfl
      · cases hs1
    · cases hs1
  | lreturn =>
    obtain ⟨e0, hs1⟩ := ys_g1_ok hs
    subst e0
    clear hs
    unfold ys_lret at hs1
    split at hs1
    · rename_i x
      split at hs1
      · rename_i hc
        rw [Bool.and_eq_true] at hc
        intro r H locs ls st h
        have hq := ys_kret (aa := args) hE hrr hK h hc.2
        have hst : st = [.long (Int64.ofInt (ys_ev r x))] := h.2.2.2.2.2
        have hf : ∀ q ∈ locs, va_A (ys_wK ad cT sh K rr g0) s.heap.size q.base := h.2.2.2.1.choose_spec.2.2.2.2.2
        rw [hst]
        exact W.lret hexec hb (hr.trans (of_decide_eq_true hc.1)) hq hf hd hlocks
      · cases hs1
    · cases hs1
  | return_ =>
    obtain ⟨e0, hs1⟩ := ys_g1_ok hs
    subst e0
    clear hs
    unfold ys_vret at hs1
    split at hs1
    · split at hs1
      · rename_i hc
        rw [Bool.and_eq_true] at hc
        intro r H locs ls st h
        have hq := ys_kret (aa := args) hE hrr hK h hc.2
        have hst : st = [] := h.2.2.2.2.2
        have hf : ∀ q ∈ locs, va_A (ys_wK ad cT sh K rr g0) s.heap.size q.base := h.2.2.2.1.choose_spec.2.2.2.2.2
        rw [hst]
        exact W.vret hexec hb (hr.trans (of_decide_eq_true hc.1)) hq hf hd hlocks
      · cases hs1
    · cases hs1
  | _ => cases hi
end YSD
end
section
/-! a whole method, by its loops' heads -/
abbrev ys_T : Type := ys_E × List ys_L × ys_F × List (Nat × ys_V) × List ys_V × ys_L
def ys_sT (B : ys_B) (T : ys_T) : ys_S := ((B.1 ++ T.1, B.2 ++ T.2.1), T.2.2.1, T.2.2.2.1, T.2.2.2.2.1)
def ys_zl (lv : List (Nat × ys_V)) : List (Nat × ys_V) → Option (List (ys_V × ys_V))
  | [] => some []
  | q :: t => match lv.lookup q.1, ys_zl lv t with
    | some w, some x => some ((q.2, w) :: x)
    | _, _ => none
def ys_cck (E : Nat) (mo : Option ys_L) (b : ys_B) (fds : ys_F) (lv : List (Nat × ys_V)) (sv : List ys_V) (T : ys_T) : Bool := match ys_zf T.2.2.1.1 fds.1, ys_zl lv T.2.2.2.1 with
  | some fp, some lp => if T.2.2.2.2.1.length = sv.length then (match ys_mat b fds.2 E T.1 T.2.1 T.2.2.1.2 (lp ++ (T.2.2.2.2.1.zip sv ++ fp)) with
    | some t => (match mo with
      | none => true
      | some m0 => ys_ge b.1 b.2 2 (ys_add (ys_sub m0 (ys_put E t T.2.2.2.2.2)) ([], -1)))
    | none => false) else false
  | _, _ => false
def ys_bV (n : Nat) (v : ys_V) : Bool := match v with
  | .inl (.inl x) => ys_bel n x
  | .inl (.inr x) => ys_bel n x
  | .inr _ => true
def ys_scb (S : ys_S) : Bool := S.1.2.all (ys_bel S.1.1.length) && (S.2.1.1.all (fun w => w.all (ys_bV S.1.1.length)) && (S.2.2.1.all (fun q => ys_bV S.1.1.length q.2) && S.2.2.2.all (ys_bV S.1.1.length)))
theorem ys_bV_ok {n : Nat} {v : ys_V} (h : ys_bV n v = true) : ys_stV n v := by
  rcases v with (x | x) | x
  · exact ys_stb_bel h
  · exact ys_stb_bel h
  · trivial
theorem ys_scb_ok {S : ys_S} (h : ys_scb S = true) : ys_sc S := by
  unfold ys_scb at h
  rw [Bool.and_eq_true, Bool.and_eq_true, Bool.and_eq_true] at h
  obtain ⟨h1, h2, h3, h4⟩ := h
  refine ⟨fun f hf => ys_stb_bel (List.all_eq_true.mp h1 f hf), fun w hw v hv => ys_bV_ok (List.all_eq_true.mp (List.all_eq_true.mp h2 w hw) v hv), fun q hq => ys_bV_ok (List.all_eq_true.mp h3 q hq), fun v hv => ys_bV_ok (List.all_eq_true.mp h4 v hv)⟩
theorem ys_zl_ok {ad : Nat → Nat} {r r' : Nat → Int} {ls : Array Slot} {nL : Nat} {lv : List (Nat × ys_V)} (h : lv_has ls nL (ys_lvs ad r lv)) : ∀ (x : List (Nat × ys_V)) (y : List (ys_V × ys_V)), ys_zl lv x = some y → (∀ q ∈ y, ys_den ad r' q.1 = ys_den ad r q.2) → ∀ q ∈ ys_lvs ad r' x, ls[q.1]? = some (.val q.2)
  | [], y, hz, hd, q, hq => by cases hq
  | (i, v) :: t, y, hz, hd, q, hq => by
    unfold ys_zl at hz
    split at hz
    · rename_i w z hw ht
      cases Option.some.inj hz
      rcases List.mem_cons.mp hq with e1 | e1
      · rw [e1]
        show ls[i]? = some (.val (ys_den ad r' v))
        rw [hd (v, w) List.mem_cons_self]
        exact h.2.2 (i, ys_den ad r w) (List.mem_map.mpr ⟨(i, w), ys_find_mem lv i w hw, rfl⟩)
      · exact ys_zl_ok h t z ht (fun q hq => hd q (List.mem_cons_of_mem _ hq)) q e1
    · cases hz
def ys_run (sh : List ys_C) (fl : ys_FL) (ci cj : List (Nat × Int)) (calls : ys_CA) (cps : List Nat) (K : ys_K) (nx : Nat → Option (Instr × Nat)) (cuts : List (Nat × ys_T)) (mo : Option ys_L) : Nat → Bool → Nat → ys_S → Bool
  | 0, _, _, _ => false
  | n + 1, f, pc, S => if !f && cuts.any (fun q => q.1 == pc) then cuts.any (fun q => q.1 == pc && ys_cck K.2.1.2.1.1.length mo S.1 S.2.1 S.2.2.1 S.2.2.2 q.2) else (match nx pc with
    | none => false
    | some i => (match ys_stp sh fl ci cj calls cps K nx pc S.1 S.2.1 S.2.2.1 S.2.2.2 i.1 i.2 with
      | none => false
      | some x => x.all (fun q => ys_run sh fl ci cj calls cps K nx cuts mo n false q.1 q.2)))
section YSN
variable {p : Program} {l : Launch} {e : Env} {R : Room} {s : State} {m : MethodId} {args : Array Value} {below : List Frame} {meth : Method} {c : Code} {Q : State → Prop} {kc kz : Nat} {D : va_G} {cl : List vw_C} {ad : Nat → Nat} {cT : Nat → ClassId} {sh : List ys_C} {A : Nat → Prop} {H0 : Heap} {nL : Nat} {mods : List Nat} {g0 : Nat → Nat → Int} {r0 : Nat → Int} {E : Nat} {pc : Nat} {b : ys_B} {fds : ys_F} {lv : List (Nat × ys_V)} {sv : List ys_V} {succ : List (Nat × ys_S)} {cc : ByteArray} {own : String} {Ts : List Cond} {tys : List (ClassId × FieldType)}
variable {G : List Cond} {K : ys_K} {fl : ys_FL} {ci cj : List (Nat × Int)} {calls : ys_CA} {cps : List Nat} {nx : Nat → Option (Instr × Nat)} {rr : Nat → Int} {cuts : List (Nat × ys_T)} {mo : Option ys_L}
theorem ys_cck_ok {T : ys_T} {r : Nat → Int} {H : Heap} {locs : List Loc} {ls : Array Slot} {st : List Value} (hE : K.2.1.2.1.1.length ≤ E) (hrr : ∀ i, i < K.2.1.2.1.1.length → r0 i = rr i) (hB : ys_okB rr K.2.1.2.1) (hBs : ys_scB K.2.1.2.1) (hT : ys_scb (ys_sT K.2.1.2.1 T) = true) (h : ys_rep D cl ad cT sh (va_A (ys_wK ad cT sh K rr g0) s.heap.size) s.heap K.1.1.2.2.1 K.2.2.2 g0 r0 r E (b, fds, lv, sv) H locs ls st) (hc : ys_cck K.2.1.2.1.1.length mo b fds lv sv T = true) :
    ∃ r2 : Nat → Int, ys_rep D cl ad cT sh (va_A (ys_wK ad cT sh K rr g0) s.heap.size) s.heap K.1.1.2.2.1 K.2.2.2 g0 rr r2 K.2.1.2.1.1.length (ys_sT K.2.1.2.1 T) H locs ls st ∧ ∀ m0, mo = some m0 → ys_ev r2 T.2.2.2.2.2 < ys_ev r m0 := by
  unfold ys_cck at hc
  split at hc
  · rename_i fp lp hfp hlp
    split at hc
    · rename_i hsl
      split at hc
      · rename_i t hm
        obtain ⟨h1, h2, ⟨hEl, hr⟩, ⟨g, hg, hP, hD, hS⟩, hlv, hst⟩ := h
        obtain ⟨-, e2, e3, e4, e5, e6, e7⟩ := ys_mat_ok (ad := ad) h1 hm
        have hlow : ∀ i, i < K.2.1.2.1.1.length → ys_val r K.2.1.2.1.1.length t i = rr i := fun i hi => by rw [ys_val_low hi, hr i (Nat.lt_of_lt_of_le hi hE), hrr i hi]
        have ew : ys_wld ad cT sh (ys_val r K.2.1.2.1.1.length t) g T.2.2.1.1 = ys_wld ad cT sh r g fds.1 := ys_wld_eq (ys_zf_ok _ _ _ hfp (fun q hq => e5 q (List.mem_append_right _ (List.mem_append_right _ hq))))
        refine ⟨ys_val r K.2.1.2.1.1.length t, ⟨⟨fun i q hi => ?_, fun f hf => ?_⟩, ys_scb_ok hT, ⟨?_, hlow⟩, ⟨g, ⟨fun kk z hz => ?_, hg.2⟩, ?_, ?_, hS⟩, ⟨hlv.1, hlv.2.1, ?_⟩, ?_⟩, fun m0 hm0 => ?_⟩
        · have hi : (K.2.1.2.1.1 ++ T.1)[i]? = some q := hi
          by_cases hl : i < K.2.1.2.1.1.length
          · rw [List.getElem?_append_left hl] at hi
            rw [hlow i hl]
            exact hB.1 i q hi
          · rw [List.getElem?_append_right (by omega)] at hi
            have := e3 _ q hi
            rw [show K.2.1.2.1.1.length + (i - K.2.1.2.1.1.length) = i by omega] at this
            exact this
        · rcases List.mem_append.mp hf with q | q
          · rw [hBs f q _ rr hlow]
            exact hB.2 f q
          · exact e4 f q
        · show K.2.1.2.1.1.length ≤ (K.2.1.2.1.1 ++ T.1).length
          rw [List.length_append]
          omega
        · obtain ⟨a0, g1, g2⟩ := e7 kk z hz
          exact ys_rle_ok g2 (hg.1 kk a0 g1)
        · show va_P D cl (ys_wld ad cT sh (ys_val r K.2.1.2.1.1.length t) g T.2.2.1.1) H
          rw [ew]
          exact hP
        · show va_D _ (ys_wld ad cT sh (ys_val r K.2.1.2.1.1.length t) g T.2.2.1.1)
          rw [ew]
          exact hD
        · exact ys_zl_ok hlv _ _ hlp (fun q hq => e5 q (List.mem_append_left _ hq))
        · rw [hst]
          exact (ys_zip_map _ _ hsl (fun q hq => e5 q (List.mem_append_right _ (List.mem_append_left _ hq)))).symm
        · subst hm0
          have := ys_ge_le h1.1 h1.2 _ _ hc
          rw [ys_m1, ys_sub_ev, ys_put_ev] at this
          omega
      · cases hc
    · cases hc
  · cases hc
theorem ys_run_ok (S : CallFix p m c K.1.1.2.1 K.1.1.2.2.1 s args (ys_ws G K) own) (hr : meth.sig.returnType = K.1.1.2.2.2) (hlocks : meth.locks = false) (hK : va_K D cl tys s) (hty : ys_Ty tys cT sh) (hLk : ys_Lk own (ys_ws G K) cl fl ci cj cps) (hcalls : ∀ q ∈ calls, ys_Con l D cl ad cT sh tys G q.2 ∧ ys_CL own (ys_ws G K) cl sh G (if q.1.2 = true then .invokestatic q.1.1 else .invokevirtual q.1.1) q.2) (hnx : ∀ pc i, nx pc = some i → decode K.1.1.2.1 pc = .ok i) (hE : K.2.1.2.1.1.length ≤ E) (hrr : ∀ i, i < K.2.1.2.1.1.length → r0 i = rr i) (hB : ys_okB rr K.2.1.2.1) (hBs : ys_scB K.2.1.2.1) (hT : ∀ q ∈ cuts, ys_scb (ys_sT K.2.1.2.1 q.2) = true) (hmo : ∀ m0, mo = some m0 → ys_stb E m0)
    (hcut : ∀ q ∈ cuts, ∀ (r2 : Nat → Int) (H : Heap) (locs : List Loc) (ls : Array Slot) (st : List Value), ys_rep D cl ad cT sh (va_A (ys_wK ad cT sh K rr g0) s.heap.size) s.heap K.1.1.2.2.1 K.2.2.2 g0 rr r2 K.2.1.2.1.1.length (ys_sT K.2.1.2.1 q.2) H locs ls st → (∀ m0, mo = some m0 → ys_ev r2 q.2.2.2.2.2.2 < ys_ev r0 m0) → W p l e (ys_rm K) s m args below meth c H locs 0 0 (MQ below (ys_Post D cl ad cT sh tys K rr g0 s.heap.size) args s 0 0 (va_A (ys_wK ad cT sh K rr g0) s.heap.size)) (F0 m q.1 ls st)) :
    ∀ (n : Nat) (f : Bool) (pc : Nat) (x : ys_S), ys_run sh fl ci cj calls cps K nx cuts mo n f pc x = true → ys_W p l e (ys_rm K) s m args below meth c (MQ below (ys_Post D cl ad cT sh tys K rr g0 s.heap.size) args s 0 0 (va_A (ys_wK ad cT sh K rr g0) s.heap.size)) 0 0 D cl ad cT sh (va_A (ys_wK ad cT sh K rr g0) s.heap.size) s.heap K.1.1.2.2.1 K.2.2.2 g0 r0 E pc x
  | 0, f, pc, x, h => by cases h
  | n + 1, f, pc, x, h => by
    unfold ys_run at h
    split at h
    · obtain ⟨q, hq, h1⟩ := List.any_eq_true.mp h
      rw [Bool.and_eq_true, beq_iff_eq] at h1
      intro r H locs ls st hrep
      obtain ⟨r2, h2, h3⟩ := ys_cck_ok hE hrr hB hBs (hT q hq) (b := x.1) (fds := x.2.1) (lv := x.2.2.1) (sv := x.2.2.2) hrep h1.2
      have h4 := hcut q hq r2 H locs ls st h2 (fun m0 hm0 => by
        have := h3 m0 hm0
        rw [hmo m0 hm0 r r0 hrep.2.2.1.2] at this
        exact this)
      rw [h1.1] at h4
      exact h4
    · split at h
      · cases h
      · rename_i i hi
        split at h
        · cases h
        · rename_i y hy
          exact ys_stp_ok (b := x.1) (fds := x.2.1) (lv := x.2.2.1) (sv := x.2.2.2) S hr hlocks hK hty hLk hcalls hnx hE hrr (hnx pc i hi) hy (fun q hq => ys_run_ok S hr hlocks hK hty hLk hcalls hnx hE hrr hB hBs hT hmo hcut n false q.1 q.2 (List.all_eq_true.mp h q hq))
end YSN
def ys_args : Nat → List ys_V → List (Nat × ys_V)
  | _, [] => []
  | i, v :: t => (i, v) :: ys_args (if ys_cat v = 2 then i + 2 else i + 1) t
theorem ys_args_lvs (ad : Nat → Nat) (r : Nat → Int) : ∀ (x : List ys_V) (i : Nat), ys_lvs ad r (ys_args i x) = lv_args i (x.map (ys_den ad r))
  | [], i => rfl
  | v :: t, i => by
    show (i, ys_den ad r v) :: ys_lvs ad r (ys_args (if ys_cat v = 2 then i + 2 else i + 1) t) = (i, ys_den ad r v) :: lv_args (if (ys_den ad r v).category = 2 then i + 2 else i + 1) (t.map (ys_den ad r))
    rw [ys_cat_den, ys_args_lvs ad r t]
theorem ys_sl_len (ad : Nat → Nat) (r : Nat → Int) : ∀ (x : List ys_V), (lg_sl (x.map (ys_den ad r))).length = (x.map ys_cat).sum
  | [] => rfl
  | v :: t => by
    have ih := ys_sl_len ad r t
    unfold lg_sl at ih ⊢
    rw [List.map_cons, List.flatMap_cons, List.length_append, ih, List.map_cons, List.sum_cons, ys_cat_den]
    congr 1
    rcases v with (y | y) | y
    · rfl
    · rfl
    · rfl
def ys_S0 (K : ys_K) : ys_S := (K.2.1.2.1, K.2.1.2.2, ys_args 0 K.2.1.1, [])
abbrev ys_Q : Type := List (Nat × (Instr × Nat)) × (ys_FL × List (Nat × Int) × List (Nat × Int) × List Nat) × List (Nat × ys_T)
def ys_chk (sh : List ys_C) (calls : ys_CA) (K : ys_K) (Z : ys_Q) (n : Nat) : Bool := ys_scb (ys_S0 K) && (decide ((K.2.1.1.map ys_cat).sum ≤ K.1.1.2.2.1) && (ys_run sh Z.2.1.1 Z.2.1.2.1 Z.2.1.2.2.1 calls Z.2.1.2.2.2 K (fun pc => Z.1.lookup pc) Z.2.2 none n true 0 (ys_S0 K) && Z.2.2.all (fun q => ys_scb (ys_sT K.2.1.2.1 q.2) && (ys_geb (K.2.1.2.1.1 ++ q.2.1) q.2.2.2.2.2.2 0 && (ys_bel (K.2.1.2.1.1 ++ q.2.1).length q.2.2.2.2.2.2 && (match ys_ass (K.2.1.2.1.1 ++ q.2.1, K.2.1.2.1.2 ++ q.2.2.1) q.2.2.1 with
  | some b => ys_run sh Z.2.1.1 Z.2.1.2.1 Z.2.1.2.2.1 calls Z.2.1.2.2.2 K (fun pc => Z.1.lookup pc) Z.2.2 (some q.2.2.2.2.2.2) n true q.1 (b, (ys_sT K.2.1.2.1 q.2).2)
  | none => true))))))
theorem ys_lk3 {α : Type} : ∀ (x : List (Nat × α)) (i : Nat) (v : α), x.lookup i = some v → (i, v) ∈ x
  | [], i, v, h => by cases h
  | (j, w) :: t, i, v, h => by
    unfold List.lookup at h
    cases hc : i == j with
    | true =>
      rw [hc] at h
      cases h
      rw [beq_iff_eq] at hc
      rw [hc]
      exact List.mem_cons_self
    | false =>
      rw [hc] at h
      exact List.mem_cons_of_mem _ (ys_lk3 t i v h)
theorem ys_method {l : Launch} {D : va_G} {cl : List vw_C} {ad : Nat → Nat} {cT : Nat → ClassId} {sh : List ys_C} {tys : List (ClassId × FieldType)} {G : List Cond} {K : ys_K} {calls : ys_CA} {Z : ys_Q} (n : Nat) (hy : plainName K.1.1.1.cls = true) (hcode : ∀ q ∈ Z.1, decode K.1.1.2.1 q.1 = .ok q.2) (hty : ys_Ty tys cT sh) (hLk : ys_Lk K.1.1.1.cls (ys_ws G K) cl Z.2.1.1 Z.2.1.2.1 Z.2.1.2.2.1 Z.2.1.2.2.2) (hcalls : ∀ q ∈ calls, ys_Con l D cl ad cT sh tys G q.2 ∧ ys_CL K.1.1.1.cls (ys_ws G K) cl sh G (if q.1.2 = true then .invokestatic q.1.1 else .invokevirtual q.1.1) q.2) (hchk : ys_chk sh calls K Z n = true) : ys_Con l D cl ad cT sh tys G K := by
  intro rr g0 sz hB har
  unfold ys_chk at hchk
  rw [Bool.and_eq_true, Bool.and_eq_true, Bool.and_eq_true, decide_eq_true_eq] at hchk
  obtain ⟨c1, c2, c3, c4⟩ := hchk
  refine Met.ofW (cc := K.1.1.2.1) (maxL := K.1.1.2.2.1) (ret := K.1.1.2.2.2) hy rfl ?_
  intro p e s m args below meth c s₁ Bd hml hv
  obtain ⟨hargs, hsz, hP, hK, hD0⟩ := hv
  subst hargs
  subst hsz
  have hlocks := Bd.notSynchronized
  have S : CallFix p m c K.1.1.2.1 K.1.1.2.2.1 s (K.2.1.1.map (ys_den ad rr)).toArray (ys_ws G K) K.1.1.1.cls := ⟨Bd.exec, Bd.bytes, hml, findClass_of_methodNamed Bd.named, atoms_spec (ws := ys_ws G K) Bd.pre⟩
  have hsc0 := ys_scb_ok c1
  have hnx : ∀ pc i, (fun pc => Z.1.lookup pc) pc = some i → decode K.1.1.2.1 pc = .ok i := fun pc i hi => hcode (pc, i) (ys_lk3 _ _ _ hi)
  have hT : ∀ q ∈ Z.2.2, ys_scb (ys_sT K.2.1.2.1 q.2) = true := fun q hq => by
    have := List.all_eq_true.mp c4 q hq
    rw [Bool.and_eq_true] at this
    exact this.1
  have claim : ∀ (N : Nat), ∀ q ∈ Z.2.2, ∀ (r2 : Nat → Int) (H : Heap) (locs : List Loc) (ls : Array Slot) (st : List Value), ys_rep D cl ad cT sh (va_A (ys_wK ad cT sh K rr g0) s.heap.size) s.heap K.1.1.2.2.1 K.2.2.2 g0 rr r2 K.2.1.2.1.1.length (ys_sT K.2.1.2.1 q.2) H locs ls st → ys_ev r2 q.2.2.2.2.2.2 < (N : Int) → W p l e (ys_rm K) s m (K.2.1.1.map (ys_den ad rr)).toArray below meth c H locs 0 0 (MQ below (ys_Post D cl ad cT sh tys K rr g0 s.heap.size) (K.2.1.1.map (ys_den ad rr)).toArray s 0 0 (va_A (ys_wK ad cT sh K rr g0) s.heap.size)) (F0 m q.1 ls st) := by
    intro N
    induction N with
    | zero =>
      intro q hq r2 H locs ls st hrep hlt
      have := List.all_eq_true.mp c4 q hq
      rw [Bool.and_eq_true, Bool.and_eq_true] at this
      have h0 := ys_geb_le hrep.1.1 this.2.1
      omega
    | succ N ih =>
      intro q hq r2 H locs ls st hrep hlt
      have hc := List.all_eq_true.mp c4 q hq
      rw [Bool.and_eq_true, Bool.and_eq_true, Bool.and_eq_true] at hc
      have hEl : K.2.1.2.1.1.length ≤ (K.2.1.2.1.1 ++ q.2.1).length := by
        rw [List.length_append]
        omega
      have hrun := ys_run_ok (r0 := r2) (E := (K.2.1.2.1.1 ++ q.2.1).length) (rr := rr) (g0 := g0) S Bd.returns hlocks hK hty hLk hcalls hnx hEl (fun i hi => hrep.2.2.1.2 i hi) hB hsc0.1 hT (mo := some q.2.2.2.2.2.2) (fun m0 hm0 => by
        cases hm0
        exact ys_stb_bel hc.2.2.1) (fun q' hq' r3 H' locs' ls' st' hrep' hlt' => ih q' hq' r3 H' locs' ls' st' hrep' (by
          have := hlt' _ rfl
          omega)) n true q.1
      have hfk : ys_fk r2 q.2.2.1 := fun f hf => hrep.1.2 f (List.mem_append_right _ hf)
      obtain ⟨b', eb, hb'⟩ := ys_ass_ok q.2.2.1 hrep.1 hfk
      have hl' := ys_ass_len q.2.2.1 eb
      have hcr := hc.2.2.2
      rw [show ys_ass (K.2.1.2.1.1 ++ q.2.1, K.2.1.2.1.2 ++ q.2.2.1) q.2.2.1 = some b' from eb] at hcr
      have hrep' : ys_rep D cl ad cT sh (va_A (ys_wK ad cT sh K rr g0) s.heap.size) s.heap K.1.1.2.2.1 K.2.2.2 g0 r2 r2 (K.2.1.2.1.1 ++ q.2.1).length (ys_sT K.2.1.2.1 q.2) H locs ls st := ⟨hrep.1, hrep.2.1, ⟨Nat.le_refl _, fun _ _ => rfl⟩, hrep.2.2.2⟩
      exact hrun (b', (ys_sT K.2.1.2.1 q.2).2) hcr r2 H locs ls st (ys_rep_ext hrep' (fun _ _ => rfl) hb' (Nat.le_of_eq hl'.symm) (ys_ass_sc q.2.2.1 rfl hrep.2.1.1 (fun f hf => hrep.2.1.1 f (List.mem_append_right _ hf)) eb))
  have hrun := ys_run_ok (r0 := rr) (E := K.2.1.2.1.1.length) (rr := rr) (g0 := g0) S Bd.returns hlocks hK hty hLk hcalls hnx (Nat.le_refl _) (fun _ _ => rfl) hB hsc0.1 hT (mo := none) (fun m0 hm0 => by cases hm0) (fun q hq r2 H locs ls st hrep _ => claim ((ys_ev r2 q.2.2.2.2.2.2).toNat + 1) q hq r2 H locs ls st hrep (by omega)) n true 0 (ys_S0 K) c3
  rw [lg_entry_eq]
  have hl := lv_entry (K.2.1.1.map (ys_den ad rr)) (n := K.1.1.2.2.1) (by rw [ys_sl_len]; exact c2)
  refine hrun rr s.heap [] _ [] ⟨hB, hsc0, ⟨Nat.le_refl _, fun _ _ => rfl⟩, ⟨g0, ⟨har, fun _ _ => rfl⟩, hP, hD0.self, va_S.rf⟩, ?_, rfl⟩
  rw [show ys_lvs ad rr (ys_S0 K).2.2.1 = lv_args 0 (K.2.1.1.map (ys_den ad rr)) from ys_args_lvs ad rr K.2.1.1 0]
  exact hl
end
section
/-! what is done on a way with arrays and products: reads and products name a symbol, writes change what an array holds -/
abbrev yt_G : Type := Nat → Nat → Int
abbrev yt_Ev : Type := ((Nat × ys_L × Nat) ⊕ (Nat × ys_L × ys_L)) ⊕ ((Nat × ys_L × ys_L) ⊕ ((Nat × Nat × List ys_L × List Nat × List Nat) ⊕ (Nat × Nat × ys_L × ys_L × ys_L)))
abbrev yt_Tb : Type := Nat → Nat → (Nat → Int) → yt_G → yt_G → Prop
def yt_e (em : List Nat) (k : Nat) : Nat := em.getD k 100000
def yt_sub (em : List Nat) (g : yt_G) : yt_G := fun k => g (yt_e em k)
def yt_ok (tb : yt_Tb) (r : Nat → Int) (v : yt_Ev) (g g' : yt_G) : Prop := match v with
  | .inl (.inl q) => g' = g ∧ r q.2.2 = g q.1 (ys_ev r q.2.1).toNat
  | .inl (.inr q) => g' = g ∧ r q.1 = ys_ev r q.2.1 * ys_ev r q.2.2
  | .inr (.inl q) => g' = ys_gup g q.1 (ys_ev r q.2.1).toNat (ys_ev r q.2.2)
  | .inr (.inr (.inl q)) => tb q.1 q.2.1 (ys_val r 0 q.2.2.1) (yt_sub q.2.2.2.1 g) (yt_sub q.2.2.2.1 g') ∧ ∀ j, j ∉ q.2.2.2.2 → g' j = g j
  | .inr (.inr (.inr q)) => g' = ys_gcp g q.1 q.2.1 (ys_ev r q.2.2.1).toNat (ys_ev r q.2.2.2.1).toNat (ys_ev r q.2.2.2.2).toNat
def yt_h (tb : yt_Tb) (r : Nat → Int) (gi : yt_G) : List yt_Ev → yt_G → Prop
  | [], g => g = gi
  | v :: h, g => ∃ g', yt_h tb r gi h g' ∧ yt_ok tb r v g' g
/-- what the symbols below n settle -/
def yt_sc (n : Nat) (v : yt_Ev) : Prop := match v with
  | .inl (.inl q) => ys_stb n q.2.1 ∧ q.2.2 < n
  | .inl (.inr q) => q.1 < n ∧ ys_stb n q.2.1 ∧ ys_stb n q.2.2
  | .inr (.inl q) => ys_stb n q.2.1 ∧ ys_stb n q.2.2
  | .inr (.inr (.inl q)) => ∀ x ∈ q.2.2.1, ys_stb n x
  | .inr (.inr (.inr q)) => ys_stb n q.2.2.1 ∧ ys_stb n q.2.2.2.1 ∧ ys_stb n q.2.2.2.2
theorem yt_sc_mono {n m : Nat} (hm : n ≤ m) : ∀ {v : yt_Ev}, yt_sc n v → yt_sc m v
  | .inl (.inl _), h => ⟨ys_stb_mono h.1 hm, Nat.lt_of_lt_of_le h.2 hm⟩
  | .inl (.inr _), h => ⟨Nat.lt_of_lt_of_le h.1 hm, ys_stb_mono h.2.1 hm, ys_stb_mono h.2.2 hm⟩
  | .inr (.inl _), h => ⟨ys_stb_mono h.1 hm, ys_stb_mono h.2 hm⟩
  | .inr (.inr (.inl _)), h => fun x hx => ys_stb_mono (h x hx) hm
  | .inr (.inr (.inr _)), h => ⟨ys_stb_mono h.1 hm, ys_stb_mono h.2.1 hm, ys_stb_mono h.2.2 hm⟩
theorem yt_val_cong {r r' : Nat → Int} {n : Nat} (hr : ∀ i, i < n → r i = r' i) {t : List ys_L} (ht : ∀ x ∈ t, ys_stb n x) : ys_val r 0 t = ys_val r' 0 t := funext fun i => ys_stb_at (Nat.zero_le _) ht i r r' hr
theorem yt_ok_cong {tb : yt_Tb} {r r' : Nat → Int} {n : Nat} (hr : ∀ i, i < n → r i = r' i) {g g' : yt_G} : ∀ {v : yt_Ev}, yt_sc n v → yt_ok tb r v g g' → yt_ok tb r' v g g'
  | .inl (.inl q), h, k => ⟨k.1, by rw [← hr _ h.2, ← h.1 r r' hr]; exact k.2⟩
  | .inl (.inr q), h, k => ⟨k.1, by rw [← hr _ h.1, ← h.2.1 r r' hr, ← h.2.2 r r' hr]; exact k.2⟩
  | .inr (.inl q), h, k => by
    have k : g' = ys_gup g q.1 (ys_ev r q.2.1).toNat (ys_ev r q.2.2) := k
    show g' = ys_gup g q.1 (ys_ev r' q.2.1).toNat (ys_ev r' q.2.2)
    rw [← h.1 r r' hr, ← h.2 r r' hr]
    exact k
  | .inr (.inr (.inl q)), h, k => ⟨by rw [← yt_val_cong hr h]; exact k.1, k.2⟩
  | .inr (.inr (.inr q)), h, k => by
    have k : g' = ys_gcp g q.1 q.2.1 (ys_ev r q.2.2.1).toNat (ys_ev r q.2.2.2.1).toNat (ys_ev r q.2.2.2.2).toNat := k
    show g' = ys_gcp g q.1 q.2.1 (ys_ev r' q.2.2.1).toNat (ys_ev r' q.2.2.2.1).toNat (ys_ev r' q.2.2.2.2).toNat
    rw [← h.1 r r' hr, ← h.2.1 r r' hr, ← h.2.2 r r' hr]
    exact k
theorem yt_h_cong {tb : yt_Tb} {r r' : Nat → Int} {n : Nat} (hr : ∀ i, i < n → r i = r' i) {gi : yt_G} : ∀ {h : List yt_Ev} {g : yt_G}, (∀ v ∈ h, yt_sc n v) → yt_h tb r gi h g → yt_h tb r' gi h g
  | [], _, _, k => k
  | v :: h, g, hs, k => by
    obtain ⟨g', k1, k2⟩ := k
    exact ⟨g', yt_h_cong hr (fun w hw => hs w (List.mem_cons_of_mem _ hw)) k1, yt_ok_cong hr (hs v List.mem_cons_self) k2⟩
/-- an element that was read, and not written since -/
def yt_mem (k : Nat) (x : ys_L) : List yt_Ev → Option Nat
  | [] => none
  | .inl (.inl q) :: h => if q.1 = k ∧ q.2.1 = x then some q.2.2 else yt_mem k x h
  | .inl (.inr _) :: h => yt_mem k x h
  | .inr (.inl q) :: h => if q.1 = k then none else yt_mem k x h
  | .inr (.inr (.inl q)) :: h => if q.2.2.2.2.contains k then none else yt_mem k x h
  | .inr (.inr (.inr q)) :: h => if q.2.1 = k then none else yt_mem k x h
theorem yt_mem_ok {tb : yt_Tb} {r : Nat → Int} {gi : yt_G} {k : Nat} {x : ys_L} {n : Nat} : ∀ (h : List yt_Ev) (g : yt_G), yt_mem k x h = some n → yt_h tb r gi h g → r n = g k (ys_ev r x).toNat
  | [], g, e, _ => by cases e
  | .inl (.inl q) :: h, g, e, k2 => by
    obtain ⟨g', k1, k3, k4⟩ := k2
    unfold yt_mem at e
    rw [k3]
    split at e
    · rename_i hq
      cases Option.some.inj e
      rw [← hq.1, ← hq.2]
      exact k4
    · exact yt_mem_ok h g' e k1
  | .inl (.inr q) :: h, g, e, k2 => by
    obtain ⟨g', k1, k3, k4⟩ := k2
    unfold yt_mem at e
    rw [k3]
    exact yt_mem_ok h g' e k1
  | .inr (.inl q) :: h, g, e, k2 => by
    obtain ⟨g', k1, k3⟩ := k2
    have k3 : g = ys_gup g' q.1 (ys_ev r q.2.1).toNat (ys_ev r q.2.2) := k3
    unfold yt_mem at e
    split at e
    · cases e
    · rename_i hq
      rw [yt_mem_ok h g' e k1, k3]
      unfold ys_gup
      rw [if_neg (fun z => hq z.symm)]
  | .inr (.inr (.inl q)) :: h, g, e, k2 => by
    obtain ⟨g', k1, k3⟩ := k2
    unfold yt_mem at e
    split at e
    · cases e
    · rename_i hq
      rw [yt_mem_ok h g' e k1, k3.2 k (fun z => hq (List.contains_iff_mem.mpr z))]
  | .inr (.inr (.inr q)) :: h, g, e, k2 => by
    obtain ⟨g', k1, k3⟩ := k2
    have k3 : g = ys_gcp g' q.1 q.2.1 (ys_ev r q.2.2.1).toNat (ys_ev r q.2.2.2.1).toNat (ys_ev r q.2.2.2.2).toNat := k3
    unfold yt_mem at e
    split at e
    · cases e
    · rename_i hq
      rw [yt_mem_ok h g' e k1, k3]
      unfold ys_gcp
      rw [if_neg (fun z => hq z.symm)]
section YTX
variable (p : Program) (l : Launch) (e : Env) (R : Room) (s : State) (m : MethodId) (args : Array Value) (below : List Frame) (meth : Method) (c : Code) (Q : State → Prop) (kc kz : Nat) (D : va_G) (cl : List vw_C) (ad : Nat → Nat) (cT : Nat → ClassId) (sh : List ys_C) (A : Nat → Prop) (H0 : Heap) (nL : Nat) (mods : List Nat) (g0 : yt_G) (r0 : Nat → Int) (E : Nat) (tb : yt_Tb) (gi : yt_G)
/-- from here on all goes well, for whatever the words so far may stand for -/
def yt_X (h : List yt_Ev) (pc : Nat) (S : ys_S) : Prop := ∀ (r : Nat → Int) (g : yt_G) (H : Heap) (locs : List Loc) (ls : Array Slot) (st : List Value), ys_rep D cl ad cT sh A H0 nL [] g r0 r E S H locs ls st → yt_h tb r gi h g → (∀ v ∈ h, yt_sc S.1.1.length v) → (∀ k, k ∉ mods → g k = g0 k) → W p l e R s m args below meth c H locs kc kz Q (F0 m pc ls st)
end YTX
section YTY
variable {p : Program} {l : Launch} {e : Env} {R : Room} {s : State} {m : MethodId} {args : Array Value} {below : List Frame} {meth : Method} {c : Code} {Q : State → Prop} {kc kz : Nat} {D : va_G} {cl : List vw_C} {ad : Nat → Nat} {cT : Nat → ClassId} {sh : List ys_C} {A : Nat → Prop} {H0 : Heap} {nL : Nat} {mods : List Nat} {g0 : yt_G} {r0 : Nat → Int} {E : Nat} {tb : yt_Tb} {gi : yt_G} {h : List yt_Ev} {pc : Nat} {b : ys_B} {fds : ys_F} {lv : List (Nat × ys_V)} {sv : List ys_V} {succ : List (Nat × ys_S)} {cc : ByteArray} {own : String} {Ts : List Cond} {tys : List (ClassId × FieldType)}
variable {K : ys_K} {fl : ys_FL} {ci cj : List (Nat × Int)} {cps : List Nat} {nx : Nat → Option (Instr × Nat)}
/-- the same contents, and other symbols behind those that were -/
theorem yt_next {r r' : Nat → Int} {g : yt_G} {H H' : Heap} {locs locs' : List Loc} {ls ls' : Array Slot} {st st' : List Value} {S : ys_S} {pc' : Nat} (hrep : ys_rep D cl ad cT sh A H0 nL [] g r0 r E (b, fds, lv, sv) H locs ls st) (hh : yt_h tb r gi h g) (hsc : ∀ v ∈ h, yt_sc b.1.length v) (hm : ∀ k, k ∉ mods → g k = g0 k) (k : yt_X p l e R s m args below meth c Q kc kz D cl ad cT sh A H0 nL mods g0 r0 E tb gi h pc' S) (hrep' : ys_rep D cl ad cT sh A H0 nL [] g r r' b.1.length S H' locs' ls' st') : W p l e R s m args below meth c H' locs' kc kz Q (F0 m pc' ls' st') := by
  obtain ⟨h1, h2, ⟨hE, hr⟩, h3⟩ := hrep'
  have hE0 : E ≤ b.1.length := hrep.2.2.1.1
  refine k r' g H' locs' ls' st' ⟨h1, h2, ⟨Nat.le_trans hE0 hE, fun i hi => (hr i (Nat.lt_of_lt_of_le hi hE0)).trans (hrep.2.2.1.2 i hi)⟩, h3⟩ (yt_h_cong (fun i hi => (hr i hi).symm) hsc hh) (fun v hv => yt_sc_mono hE (hsc v hv)) hm
theorem yt_self {r : Nat → Int} {g : yt_G} {H : Heap} {locs : List Loc} {ls : Array Slot} {st : List Value} (hrep : ys_rep D cl ad cT sh A H0 nL [] g r0 r E (b, fds, lv, sv) H locs ls st) : ys_rep D cl ad cT sh A H0 nL [] g r r b.1.length (b, fds, lv, sv) H locs ls st := ⟨hrep.1, hrep.2.1, ⟨Nat.le_refl _, fun _ _ => rfl⟩, hrep.2.2.2⟩
/-- a step that the first engine knows, and that writes no array -/
theorem yt_plain {i : Instr} {n : Nat} (S : CallFix p m c cc nL s args Ts own) (hnL : K.1.1.2.2.1 = nL) (hmods : K.2.2.2 = []) (hfr : K.1.2.1 ≤ R.frames) (hlo : K.1.2.2 ≤ R.locals) (hkk : kc ≤ R.cells ∧ kz ≤ R.slots) (hA0 : ∀ q, H0.size ≤ q → A q) (hK : va_K D cl tys s) (hty : ys_Ty tys cT sh) (hLk : ys_Lk own Ts cl fl ci cj cps) (hnx : ∀ pc i, nx pc = some i → decode cc pc = .ok i) (hd : decode cc pc = .ok (i, n)) (hs : ys_stp sh fl ci cj [] cps K nx pc b fds lv sv i n = some succ) (hni : ys_isr i = false)
    (k : ∀ q ∈ succ, yt_X p l e R s m args below meth c Q kc kz D cl ad cT sh A H0 nL mods g0 r0 E tb gi h q.1 q.2) : yt_X p l e R s m args below meth c Q kc kz D cl ad cT sh A H0 nL mods g0 r0 E tb gi h pc (b, fds, lv, sv) := by
  intro r g H locs ls st hrep hh hsc hm
  exact ys_stp_gen (l := l) (e := e) (below := below) (meth := meth) (Q := Q) (ad := ad) (mods := []) (g0 := g) (r0 := r) (E := b.1.length) (G := []) (calls := []) S hnL hmods hfr hlo hkk hA0 hK hty hLk (fun q hq => absurd hq List.not_mem_nil) hnx hd hs (fun z => by rw [hni] at z; cases z) (fun q hq r' H' locs' ls' st' hrep' => yt_next hrep hh hsc hm (k q hq) hrep') r H locs ls st (yt_self hrep)
end YTY
end
section
/-! arrays, exactly -/
abbrev yt_U : Type := Nat × ys_S × List yt_Ev
def yt_mk (w : Bool) (x : ys_L) : ys_V := match w with
  | true => .inl (.inr x)
  | false => .inl (.inl x)
def yt_vl (w : Bool) (z : Int) : Value := match w with
  | true => .long (Int64.ofInt z)
  | false => .int (Int32.ofInt z)
theorem yt_mk_den {ad : Nat → Nat} {r : Nat → Int} {w : Bool} {x : ys_L} : ys_den ad r (yt_mk w x) = yt_vl w (ys_ev r x) := by
  cases w <;> rfl
theorem yt_mk_st {n : Nat} {w : Bool} {x : ys_L} (h : ys_stb n x) : ys_stV n (yt_mk w x) := by
  cases w <;> exact h
def yt_hld (kd : Nat) (w : Bool) (sh : List ys_C) (h : List yt_Ev) (pc : Nat) (b : ys_B) (fds : ys_F) (lv : List (Nat × ys_V)) (sv : List ys_V) : Option (List yt_U) := match sv with
  | .inl (.inl x) :: .inr (some k) :: t => (match sh[k]?, fds.2[k]? with
    | some (.inr y), some a => if decide (y.1 = kd) && ys_inb b x y.2.1 then (match yt_mem k x h with
      | some n => if n < b.1.length then some [(pc + 1, (b, fds, lv, yt_mk w (ys_sym n) :: t), h)] else none
      | none => (match ys_spl b.1 a x with
        | some i => some ((ys_cut3 pc b x i (fds, lv, .inl (.inl x) :: .inr (some k) :: t)).map fun q => (q.1, q.2, h))
        | none => if (ys_rd b.1 a x).1 = (ys_rd b.1 a x).2 then some [(pc + 1, (b, fds, lv, yt_mk w ([], (ys_rd b.1 a x).1) :: t), h)] else some [(pc + 1, ((b.1 ++ [ys_rd b.1 a x], b.2), fds, lv, yt_mk w (ys_sym b.1.length) :: t), .inl (.inl (k, x, b.1.length)) :: h)])) else none
    | _, _ => none)
  | _ => none
section YTA
variable {p : Program} {l : Launch} {e : Env} {R : Room} {s : State} {m : MethodId} {args : Array Value} {below : List Frame} {meth : Method} {c : Code} {Q : State → Prop} {kc kz : Nat} {D : va_G} {cl : List vw_C} {ad : Nat → Nat} {cT : Nat → ClassId} {sh : List ys_C} {A : Nat → Prop} {H0 : Heap} {nL : Nat} {mods : List Nat} {g0 : yt_G} {r0 : Nat → Int} {E : Nat} {tb : yt_Tb} {gi : yt_G} {h : List yt_Ev} {pc : Nat} {b : ys_B} {fds : ys_F} {lv : List (Nat × ys_V)} {sv : List ys_V} {succ : List yt_U} {cc : ByteArray} {own : String} {Ts : List Cond} {tys : List (ClassId × FieldType)}
/-- what an exact state holds -/
theorem yt_wd {r : Nat → Int} {g : yt_G} {S : ys_S} {H : Heap} {locs : List Loc} {ls : Array Slot} {st : List Value} (hrep : ys_rep D cl ad cT sh A H0 nL [] g r0 r E S H locs ls st) : (∀ (k : Nat) (a : ys_R), S.2.1.2[k]? = some a → ys_rok a (g k)) ∧ va_P D cl (ys_wld ad cT sh r g S.2.1.1) H ∧ va_D A (ys_wld ad cT sh r g S.2.1.1) ∧ va_S A H0 H locs := by
  obtain ⟨g', hg, hP, hD, hS⟩ := hrep.2.2.2.1
  have e1 : g' = g := funext fun k => hg.2 k List.not_mem_nil
  rw [e1] at hg hP hD
  exact ⟨hg.1, hP, hD, hS⟩
theorem yt_kld {kd : Nat} {w : Bool} (hrow : ∀ (x : ys_L) (k : Nat) (y : Nat × Nat × List Nat) (r : Nat → Int) (g : yt_G) (H : Heap) (locs : List Loc) (ls : Array Slot) (st2 : List Value) (n : Nat), sh[k]? = some (.inr y) → y.1 = kd → va_P D cl (ys_wld ad cT sh r g fds.1) H → vp_in (Int32.ofInt (ys_ev r x)) y.2.1 → (Int32.ofInt (ys_ev r x)).toNatClampNeg = n → W p l e R s m args below meth c H locs kc kz Q (F0 m (pc + 1) ls (yt_vl w (g k n) :: st2)) → W p l e R s m args below meth c H locs kc kz Q (F0 m pc ls (.int (Int32.ofInt (ys_ev r x)) :: .ref (ad k) :: st2)))
    (hs : yt_hld kd w sh h pc b fds lv sv = some succ) (k : ∀ q ∈ succ, yt_X p l e R s m args below meth c Q kc kz D cl ad cT sh A H0 nL mods g0 r0 E tb gi q.2.2 q.1 q.2.1) : yt_X p l e R s m args below meth c Q kc kz D cl ad cT sh A H0 nL mods g0 r0 E tb gi h pc (b, fds, lv, sv) := by
  unfold yt_hld at hs
  split at hs
  · rename_i x kk t
    split at hs
    · rename_i y a hsh har
      split at hs
      · rename_i hc
        rw [Bool.and_eq_true, decide_eq_true_eq] at hc
        obtain ⟨hkd, hin⟩ := hc
        intro r g H locs ls st hrep hh hsc hm
        obtain ⟨st1, e1, g1, hx⟩ := ys_rep_pop hrep
        obtain ⟨st2, e2, g2, -⟩ := ys_rep_pop g1
        obtain ⟨hg, hP, hD, hS⟩ := yt_wd hrep
        obtain ⟨n, e3, hn, hvi, e4⟩ := ys_inb_ok hrep.1 hin
        have e5 : (ys_ev r x).toNat = n := by rw [e3]; rfl
        split at hs
        · rename_i n0 hmem
          split at hs
          · rename_i hlt
            cases Option.some.inj hs
            subst e1; subst e2
            refine hrow x kk y r g H locs ls st2 n hsh hkd hP hvi e4 ?_
            have h1 := yt_mem_ok h g hmem hh
            rw [e5] at h1
            have k1 := k _ List.mem_cons_self r g H locs ls _ (ys_rep_push g2 (yt_mk w (ys_sym n0)) (yt_mk_st (ys_stb_sym hlt))) hh hsc hm
            rw [yt_mk_den, ys_sym_ev, h1] at k1
            exact k1
          · cases hs
        · split at hs
          · rename_i i hi
            cases Option.some.inj hs
            exact ys_kcut3 (p := p) (l := l) (e := e) (R := R) (s := s) (m := m) (args := args) (below := below) (meth := meth) (c := c) (Q := Q) (kc := kc) (kz := kz) (yt_self hrep) (hrep.2.1.2.2.2 (.inl (.inl x)) List.mem_cons_self) (fun q hq r' H' locs' ls' st' hrep' => yt_next hrep hh hsc hm (k _ (List.mem_map.mpr ⟨q, hq, rfl⟩)) hrep')
          · have hrd : (ys_rd b.1 a x).1 ≤ g kk n ∧ g kk n ≤ (ys_rd b.1 a x).2 := ys_rd_ok hrep.1.1 (hg kk a har) e3
            split at hs
            · rename_i heq
              cases Option.some.inj hs
              subst e1; subst e2
              refine hrow x kk y r g H locs ls st2 n hsh hkd hP hvi e4 ?_
              have k1 := k _ List.mem_cons_self r g H locs ls _ (ys_rep_push g2 (yt_mk w ([], (ys_rd b.1 a x).1)) (yt_mk_st (ys_stb_cst _))) hh hsc hm
              have e6 : ys_ev r (([], (ys_rd b.1 a x).1) : ys_L) = g kk n := by
                rw [ys_ev0]
                omega
              rw [yt_mk_den, e6] at k1
              exact k1
            · cases Option.some.inj hs
              subst e1; subst e2
              refine hrow x kk y r g H locs ls st2 n hsh hkd hP hvi e4 ?_
              have hok := ys_new_ok hrep.1 hrep.2.1.1 hrd
              have hll : b.1.length ≤ (b.1 ++ [ys_rd b.1 a x]).length := by rw [List.length_append]; omega
              have hlt : b.1.length < (b.1 ++ [ys_rd b.1 a x]).length := by rw [List.length_append, List.length_singleton]; omega
              have g3 := ys_rep_ext g2 (r' := ys_up r b.1.length (g kk n)) (b' := (b.1 ++ [ys_rd b.1 a x], b.2)) ys_up_lt hok hll (ys_scB_new hrep.2.1.1)
              have hx : ys_stb b.1.length x := hx
              have hcg : ∀ i, i < b.1.length → r i = ys_up r b.1.length (g kk n) i := fun i hi => (ys_up_lt i hi).symm
              have k1 := k _ List.mem_cons_self (ys_up r b.1.length (g kk n)) g H locs ls _ (ys_rep_push g3 (yt_mk w (ys_sym b.1.length)) (yt_mk_st (ys_stb_sym hlt))) ⟨g, yt_h_cong hcg hsc hh, rfl, by
                show ys_up r b.1.length (g kk n) b.1.length = g kk (ys_ev (ys_up r b.1.length (g kk n)) x).toNat
                rw [ys_up_at, ← hx r _ hcg, e5]⟩ (fun v hv => by
                  rcases List.mem_cons.mp hv with q | q
                  · rw [q]
                    exact ⟨ys_stb_mono hx hll, hlt⟩
                  · exact yt_sc_mono hll (hsc v q)) hm
              rw [yt_mk_den, ys_sym_ev, ys_up_at] at k1
              exact k1
      · cases hs
    · cases hs
  · cases hs
theorem yt_kild (hexec : p.tables.exec = Jvm.exec) (hb : c.code = cc) (hK : va_K D cl tys s) (hty : tys[0]? = some (cT 0, .int)) (hd : decode cc pc = .ok (.iaload, 1)) (hs : yt_hld 0 false sh h pc b fds lv sv = some succ) (k : ∀ q ∈ succ, yt_X p l e R s m args below meth c Q kc kz D cl ad cT sh A H0 nL mods g0 r0 E tb gi q.2.2 q.1 q.2.1) : yt_X p l e R s m args below meth c Q kc kz D cl ad cT sh A H0 nL mods g0 r0 E tb gi h pc (b, fds, lv, sv) := by
  refine yt_kld (kd := 0) (w := false) (fun x kk y r g H locs ls st2 n hsh hkd hP hvi e4 hW => ?_) hs k
  have hw := ys_wld_get (ad := ad) (cT := cT) (r := r) (g := g) (fds := fds.1) hsh
  obtain ⟨kd, len, tg⟩ := y
  have hkd : kd = 0 := hkd
  subst hkd
  refine va_iald hexec hb hK hP kk 0 (f := fun j => Int32.ofInt (g kk j)) hw hty hvi hd ?_
  rw [e4]
  exact hW
theorem yt_klld (hexec : p.tables.exec = Jvm.exec) (hb : c.code = cc) (hK : va_K D cl tys s) (hty : tys[1]? = some (cT 1, .long)) (hd : decode cc pc = .ok (.laload, 1)) (hs : yt_hld 1 true sh h pc b fds lv sv = some succ) (k : ∀ q ∈ succ, yt_X p l e R s m args below meth c Q kc kz D cl ad cT sh A H0 nL mods g0 r0 E tb gi q.2.2 q.1 q.2.1) : yt_X p l e R s m args below meth c Q kc kz D cl ad cT sh A H0 nL mods g0 r0 E tb gi h pc (b, fds, lv, sv) := by
  refine yt_kld (kd := 1) (w := true) (fun x kk y r g H locs ls st2 n hsh hkd hP hvi e4 hW => ?_) hs k
  have hw := ys_wld_get (ad := ad) (cT := cT) (r := r) (g := g) (fds := fds.1) hsh
  obtain ⟨kd, len, tg⟩ := y
  have hkd : kd = 1 := hkd
  subst hkd
  refine va_lald hexec hb hK hP kk 1 (f := fun j => Int64.ofInt (g kk j)) hw hty hvi hd ?_
  rw [e4]
  exact hW
theorem yt_kbld (hexec : p.tables.exec = Jvm.exec) (hb : c.code = cc) (hK : va_K D cl tys s) (hty : tys[2]? = some (cT 2, .byte)) (hd : decode cc pc = .ok (.baload, 1)) (hs : yt_hld 2 false sh h pc b fds lv sv = some succ) (k : ∀ q ∈ succ, yt_X p l e R s m args below meth c Q kc kz D cl ad cT sh A H0 nL mods g0 r0 E tb gi q.2.2 q.1 q.2.1) : yt_X p l e R s m args below meth c Q kc kz D cl ad cT sh A H0 nL mods g0 r0 E tb gi h pc (b, fds, lv, sv) := by
  refine yt_kld (kd := 2) (w := false) (fun x kk y r g H locs ls st2 n hsh hkd hP hvi e4 hW => ?_) hs k
  have hw := ys_wld_get (ad := ad) (cT := cT) (r := r) (g := g) (fds := fds.1) hsh
  obtain ⟨kd, len, tg⟩ := y
  have hkd : kd = 2 := hkd
  subst hkd
  refine va_bald hexec hb hK hP kk 2 (f := fun j => Int32.ofInt (g kk j)) hw hty hvi hd ?_
  rw [e4]
  exact hW
theorem yt_kzld (hexec : p.tables.exec = Jvm.exec) (hb : c.code = cc) (hK : va_K D cl tys s) (hty : tys[3]? = some (cT 3, .boolean)) (hd : decode cc pc = .ok (.baload, 1)) (hs : yt_hld 3 false sh h pc b fds lv sv = some succ) (k : ∀ q ∈ succ, yt_X p l e R s m args below meth c Q kc kz D cl ad cT sh A H0 nL mods g0 r0 E tb gi q.2.2 q.1 q.2.1) : yt_X p l e R s m args below meth c Q kc kz D cl ad cT sh A H0 nL mods g0 r0 E tb gi h pc (b, fds, lv, sv) := by
  refine yt_kld (kd := 3) (w := false) (fun x kk y r g H locs ls st2 n hsh hkd hP hvi e4 hW => ?_) hs k
  have hw := ys_wld_get (ad := ad) (cT := cT) (r := r) (g := g) (fds := fds.1) hsh
  obtain ⟨kd, len, tg⟩ := y
  have hkd : kd = 3 := hkd
  subst hkd
  refine va_zald hexec hb hK hP kk 3 (f := fun j => Int32.ofInt (g kk j)) hw hty hvi hd ?_
  rw [e4]
  exact hW
end YTA
def yt_hst (kd : Nat) (w : Bool) (q0 : Int × Int) (sh : List ys_C) (mods : List Nat) (h : List yt_Ev) (pc : Nat) (b : ys_B) (fds : ys_F) (lv : List (Nat × ys_V)) (sv : List ys_V) : Option (List yt_U) := match sv with
  | v :: .inl (.inl x) :: .inr (some k) :: t => (match (match w, v with
      | false, .inl (.inl z) => some z
      | true, .inl (.inr z) => some z
      | _, _ => none), sh[k]?, fds.2[k]? with
    | some z, some (.inr y), some a => (match ys_ivl b.1 z with
      | some q => if decide (y.1 = kd) && (ys_inb b x y.2.1 && (decide (k ∈ mods) && (decide (q0.1 ≤ q.1) && decide (q.2 ≤ q0.2)))) then some [(pc + 1, (b, (fds.1, fds.2.set k (ys_wr b.1 a x q)), lv, t), .inr (.inl (k, x, z)) :: h)] else none
      | none => none)
    | _, _, _ => none)
  | _ => none
section YTB
variable {p : Program} {l : Launch} {e : Env} {R : Room} {s : State} {m : MethodId} {args : Array Value} {below : List Frame} {meth : Method} {c : Code} {Q : State → Prop} {kc kz : Nat} {D : va_G} {cl : List vw_C} {ad : Nat → Nat} {cT : Nat → ClassId} {sh : List ys_C} {A : Nat → Prop} {H0 : Heap} {nL : Nat} {mods : List Nat} {g0 : yt_G} {r0 : Nat → Int} {E : Nat} {tb : yt_Tb} {gi : yt_G} {h : List yt_Ev} {pc : Nat} {b : ys_B} {fds : ys_F} {lv : List (Nat × ys_V)} {sv : List ys_V} {succ : List yt_U} {cc : ByteArray} {own : String} {Ts : List Cond} {tys : List (ClassId × FieldType)}
theorem yt_kst {kd : Nat} {w : Bool} {q0 : Int × Int} (hrow : ∀ (x z : ys_L) (k : Nat) (y : Nat × Nat × List Nat) (r : Nat → Int) (g : yt_G) (H : Heap) (locs : List Loc) (ls : Array Slot) (st2 : List Value) (n : Nat), sh[k]? = some (.inr y) → y.1 = kd → (q0.1 ≤ ys_ev r z ∧ ys_ev r z ≤ q0.2) → va_P D cl (ys_wld ad cT sh r g fds.1) H → va_D A (ys_wld ad cT sh r g fds.1) → va_S A H0 H locs → vp_in (Int32.ofInt (ys_ev r x)) y.2.1 → (Int32.ofInt (ys_ev r x)).toNatClampNeg = n → (∀ (H1 : Heap) (locs1 : List Loc), va_P D cl (ys_wld ad cT sh r (ys_gup g k n (ys_ev r z)) fds.1) H1 → va_D A (ys_wld ad cT sh r (ys_gup g k n (ys_ev r z)) fds.1) → va_S A H0 H1 locs1 → W p l e R s m args below meth c H1 locs1 kc kz Q (F0 m (pc + 1) ls st2)) → W p l e R s m args below meth c H locs kc kz Q (F0 m pc ls (yt_vl w (ys_ev r z) :: .int (Int32.ofInt (ys_ev r x)) :: .ref (ad k) :: st2)))
    (hs : yt_hst kd w q0 sh mods h pc b fds lv sv = some succ) (k : ∀ q ∈ succ, yt_X p l e R s m args below meth c Q kc kz D cl ad cT sh A H0 nL mods g0 r0 E tb gi q.2.2 q.1 q.2.1) : yt_X p l e R s m args below meth c Q kc kz D cl ad cT sh A H0 nL mods g0 r0 E tb gi h pc (b, fds, lv, sv) := by
  unfold yt_hst at hs
  split at hs
  · rename_i v x kk t
    split at hs
    · rename_i z y a hz hsh har
      split at hs
      · rename_i q hiv
        split at hs
        · rename_i hc
          simp only [Bool.and_eq_true, decide_eq_true_eq] at hc
          obtain ⟨hkd, hin, hmk, hq⟩ := hc
          cases Option.some.inj hs
          have k := k _ List.mem_cons_self
          intro r g H locs ls st hrep hh hsc hm
          obtain ⟨st1, e1, g1, hvs⟩ := ys_rep_pop hrep
          obtain ⟨st2, e2, g2, hx⟩ := ys_rep_pop g1
          obtain ⟨st3, e3, g3, -⟩ := ys_rep_pop g2
          obtain ⟨hg, hP, hD, hS⟩ := yt_wd hrep
          obtain ⟨n, e4, hn, hvi, e5⟩ := ys_inb_ok hrep.1 hin
          have hzq := ys_ivl_ok hrep.1.1 hiv
          have hv : v = yt_mk w z := by
            split at hz
            · cases Option.some.inj hz
              rfl
            · cases Option.some.inj hz
              rfl
            · cases hz
          have hzs : ys_stb b.1.length z := by
            rw [hv] at hvs
            cases w <;> exact hvs
          rw [hv, yt_mk_den] at e1
          subst e1; subst e2; subst e3
          refine hrow x z kk y r g H locs ls st3 n hsh hkd (by omega) hP hD hS hvi e5 fun H1 locs1 hP1 hD1 hS1 => ?_
          obtain ⟨q1, ⟨s0, s1, s2, s3⟩, q2, -, q4, q5⟩ := g3
          refine k r (ys_gup g kk n (ys_ev r z)) H1 locs1 ls st3 ⟨q1, ⟨s0, s1, s2, s3⟩, q2, ⟨_, ⟨fun i w2 hi => ?_, fun _ _ => rfl⟩, hP1, hD1, hS1⟩, q4, q5⟩ ⟨g, hh, by
            show ys_gup g kk n (ys_ev r z) = ys_gup g kk (ys_ev r x).toNat (ys_ev r z)
            rw [e4]
            rfl⟩ (fun v hv => ?_) (fun i hi => ?_)
          · by_cases hk : i = kk
            · subst hk
              have hl : i < fds.2.length := (List.getElem?_eq_some_iff.mp har).1
              have hi : (fds.2.set i (ys_wr b.1 a x q))[i]? = some w2 := hi
              rw [List.getElem?_set_self hl] at hi
              cases hi
              have e6 : ys_gup g i n (ys_ev r z) i = fun j => if j = n then ys_ev r z else g i j := if_pos rfl
              rw [e6]
              exact ys_wr_ok hrep.1.1 (hg i a har) e4 hzq
            · have hi : (fds.2.set kk (ys_wr b.1 a x q))[i]? = some w2 := hi
              rw [List.getElem?_set_ne (Ne.symm hk)] at hi
              have e6 : ys_gup g kk n (ys_ev r z) i = g i := if_neg hk
              rw [e6]
              exact hg i w2 hi
          · rcases List.mem_cons.mp hv with q | q
            · rw [q]
              exact ⟨hx, hzs⟩
            · exact hsc v q
          · have hk : i ≠ kk := fun e => hi (e ▸ hmk)
            have e6 : ys_gup g kk n (ys_ev r z) i = g i := if_neg hk
            rw [e6]
            exact hm i hi
        · cases hs
      · cases hs
    · cases hs
  · cases hs
theorem yt_kist (hexec : p.tables.exec = Jvm.exec) (hb : c.code = cc) (hK : va_K D cl tys s) (hty : tys[0]? = some (cT 0, .int)) (hd : decode cc pc = .ok (.iastore, 1)) (hs : yt_hst 0 false ((-9223372036854775808), 9223372036854775808) sh mods h pc b fds lv sv = some succ) (k : ∀ q ∈ succ, yt_X p l e R s m args below meth c Q kc kz D cl ad cT sh A H0 nL mods g0 r0 E tb gi q.2.2 q.1 q.2.1) : yt_X p l e R s m args below meth c Q kc kz D cl ad cT sh A H0 nL mods g0 r0 E tb gi h pc (b, fds, lv, sv) := by
  refine yt_kst (kd := 0) (w := false) (fun x z kk y r g H locs ls st2 n hsh hkd hq hP hD hS hvi e5 hW => ?_) hs k
  have hw := ys_wld_get (ad := ad) (cT := cT) (r := r) (g := g) (fds := fds.1) hsh
  obtain ⟨kd, len, tg⟩ := y
  have hkd : kd = 0 := hkd
  subst hkd
  refine va_iast hexec hb hK hP hD hS kk 0 (f := fun j => Int32.ofInt (g kk j)) hw hty hvi hd fun H1 locs1 hP1 hD1 hS1 => ?_
  have ew := ys_wld_set (ad := ad) (cT := cT) (r := r) (g := g) (g' := ys_gup g kk n (ys_ev r z)) (fds := fds.1) (fds' := fds.1) hsh (fun i hi => ⟨if_neg hi, rfl⟩)
  have ef : (fun j => Int32.ofInt (ys_gup g kk n (ys_ev r z) kk j)) = upd (fun j => Int32.ofInt (g kk j)) (Int32.ofInt (ys_ev r x)).toNatClampNeg (Int32.ofInt (ys_ev r z)) := by
    rw [e5]
    funext j
    unfold ys_gup upd
    rw [if_pos rfl]
    by_cases hj : j = n
    · rw [if_pos hj, if_pos hj]
    · rw [if_neg hj, if_neg hj]
  have ec : ys_cel ad cT r (ys_gup g kk n (ys_ev r z)) kk (.inr (0, len, tg)) (fds.1.getD kk []) = (ad kk, .inl (cT 0, len, .inl (upd (fun j => Int32.ofInt (g kk j)) (Int32.ofInt (ys_ev r x)).toNatClampNeg (Int32.ofInt (ys_ev r z))))) := by
    show ((ad kk, Sum.inl (cT 0, len, Sum.inl (fun j => Int32.ofInt (ys_gup g kk n (ys_ev r z) kk j)))) : Nat × va_E) = _
    rw [ef]
  rw [ec] at ew
  exact hW H1 locs1 (by rw [ew]; exact hP1) (by rw [ew]; exact hD1) hS1
theorem yt_klst (hexec : p.tables.exec = Jvm.exec) (hb : c.code = cc) (hK : va_K D cl tys s) (hty : tys[1]? = some (cT 1, .long)) (hd : decode cc pc = .ok (.lastore, 1)) (hs : yt_hst 1 true ((-9223372036854775808), 9223372036854775808) sh mods h pc b fds lv sv = some succ) (k : ∀ q ∈ succ, yt_X p l e R s m args below meth c Q kc kz D cl ad cT sh A H0 nL mods g0 r0 E tb gi q.2.2 q.1 q.2.1) : yt_X p l e R s m args below meth c Q kc kz D cl ad cT sh A H0 nL mods g0 r0 E tb gi h pc (b, fds, lv, sv) := by
  refine yt_kst (kd := 1) (w := true) (fun x z kk y r g H locs ls st2 n hsh hkd hq hP hD hS hvi e5 hW => ?_) hs k
  have hw := ys_wld_get (ad := ad) (cT := cT) (r := r) (g := g) (fds := fds.1) hsh
  obtain ⟨kd, len, tg⟩ := y
  have hkd : kd = 1 := hkd
  subst hkd
  refine va_last hexec hb hK hP hD hS kk 1 (f := fun j => Int64.ofInt (g kk j)) hw hty hvi hd fun H1 locs1 hP1 hD1 hS1 => ?_
  have ew := ys_wld_set (ad := ad) (cT := cT) (r := r) (g := g) (g' := ys_gup g kk n (ys_ev r z)) (fds := fds.1) (fds' := fds.1) hsh (fun i hi => ⟨if_neg hi, rfl⟩)
  have ef : (fun j => Int64.ofInt (ys_gup g kk n (ys_ev r z) kk j)) = vp_updL (fun j => Int64.ofInt (g kk j)) (Int32.ofInt (ys_ev r x)).toNatClampNeg (Int64.ofInt (ys_ev r z)) := by
    rw [e5]
    funext j
    unfold ys_gup vp_updL
    rw [if_pos rfl]
    by_cases hj : j = n
    · rw [if_pos hj, if_pos hj]
    · rw [if_neg hj, if_neg hj]
  have ec : ys_cel ad cT r (ys_gup g kk n (ys_ev r z)) kk (.inr (1, len, tg)) (fds.1.getD kk []) = (ad kk, .inl (cT 1, len, .inr (.inl (vp_updL (fun j => Int64.ofInt (g kk j)) (Int32.ofInt (ys_ev r x)).toNatClampNeg (Int64.ofInt (ys_ev r z)))))) := by
    show ((ad kk, Sum.inl (cT 1, len, Sum.inr (Sum.inl (fun j => Int64.ofInt (ys_gup g kk n (ys_ev r z) kk j))))) : Nat × va_E) = _
    rw [ef]
  rw [ec] at ew
  exact hW H1 locs1 (by rw [ew]; exact hP1) (by rw [ew]; exact hD1) hS1
theorem yt_kbst (hexec : p.tables.exec = Jvm.exec) (hb : c.code = cc) (hK : va_K D cl tys s) (hty : tys[2]? = some (cT 2, .byte)) (hd : decode cc pc = .ok (.bastore, 1)) (hs : yt_hst 2 false ((-128), 127) sh mods h pc b fds lv sv = some succ) (k : ∀ q ∈ succ, yt_X p l e R s m args below meth c Q kc kz D cl ad cT sh A H0 nL mods g0 r0 E tb gi q.2.2 q.1 q.2.1) : yt_X p l e R s m args below meth c Q kc kz D cl ad cT sh A H0 nL mods g0 r0 E tb gi h pc (b, fds, lv, sv) := by
  refine yt_kst (kd := 2) (w := false) (fun x z kk y r g H locs ls st2 n hsh hkd hq hP hD hS hvi e5 hW => ?_) hs k
  have hw := ys_wld_get (ad := ad) (cT := cT) (r := r) (g := g) (fds := fds.1) hsh
  obtain ⟨kd, len, tg⟩ := y
  have hkd : kd = 2 := hkd
  subst hkd
  refine va_bast hexec hb hK hP hD hS kk 2 (f := fun j => Int32.ofInt (g kk j)) hw hty hvi hd fun H1 locs1 hP1 hD1 hS1 => ?_
  have ew := ys_wld_set (ad := ad) (cT := cT) (r := r) (g := g) (g' := ys_gup g kk n (ys_ev r z)) (fds := fds.1) (fds' := fds.1) hsh (fun i hi => ⟨if_neg hi, rfl⟩)
  have ef : (fun j => Int32.ofInt (ys_gup g kk n (ys_ev r z) kk j)) = upd (fun j => Int32.ofInt (g kk j)) (Int32.ofInt (ys_ev r x)).toNatClampNeg (vp_nar .byte (Int32.ofInt (ys_ev r z))) := by
    rw [e5]
    funext j
    unfold ys_gup upd
    rw [if_pos rfl]
    by_cases hj : j = n
    · rw [if_pos hj, if_pos hj]
      exact (ys_nar_b hq.1 hq.2).symm
    · rw [if_neg hj, if_neg hj]
  have ec : ys_cel ad cT r (ys_gup g kk n (ys_ev r z)) kk (.inr (2, len, tg)) (fds.1.getD kk []) = (ad kk, .inl (cT 2, len, .inl (upd (fun j => Int32.ofInt (g kk j)) (Int32.ofInt (ys_ev r x)).toNatClampNeg (vp_nar .byte (Int32.ofInt (ys_ev r z)))))) := by
    show ((ad kk, Sum.inl (cT 2, len, Sum.inl (fun j => Int32.ofInt (ys_gup g kk n (ys_ev r z) kk j)))) : Nat × va_E) = _
    rw [ef]
  rw [ec] at ew
  exact hW H1 locs1 (by rw [ew]; exact hP1) (by rw [ew]; exact hD1) hS1
theorem yt_kzst (hexec : p.tables.exec = Jvm.exec) (hb : c.code = cc) (hK : va_K D cl tys s) (hty : tys[3]? = some (cT 3, .boolean)) (hd : decode cc pc = .ok (.bastore, 1)) (hs : yt_hst 3 false (0, 1) sh mods h pc b fds lv sv = some succ) (k : ∀ q ∈ succ, yt_X p l e R s m args below meth c Q kc kz D cl ad cT sh A H0 nL mods g0 r0 E tb gi q.2.2 q.1 q.2.1) : yt_X p l e R s m args below meth c Q kc kz D cl ad cT sh A H0 nL mods g0 r0 E tb gi h pc (b, fds, lv, sv) := by
  refine yt_kst (kd := 3) (w := false) (fun x z kk y r g H locs ls st2 n hsh hkd hq hP hD hS hvi e5 hW => ?_) hs k
  have hw := ys_wld_get (ad := ad) (cT := cT) (r := r) (g := g) (fds := fds.1) hsh
  obtain ⟨kd, len, tg⟩ := y
  have hkd : kd = 3 := hkd
  subst hkd
  refine va_zast hexec hb hK hP hD hS kk 3 (f := fun j => Int32.ofInt (g kk j)) hw hty hvi hd fun H1 locs1 hP1 hD1 hS1 => ?_
  have ew := ys_wld_set (ad := ad) (cT := cT) (r := r) (g := g) (g' := ys_gup g kk n (ys_ev r z)) (fds := fds.1) (fds' := fds.1) hsh (fun i hi => ⟨if_neg hi, rfl⟩)
  have ef : (fun j => Int32.ofInt (ys_gup g kk n (ys_ev r z) kk j)) = upd (fun j => Int32.ofInt (g kk j)) (Int32.ofInt (ys_ev r x)).toNatClampNeg (vp_nar .boolean (Int32.ofInt (ys_ev r z))) := by
    rw [e5]
    funext j
    unfold ys_gup upd
    rw [if_pos rfl]
    by_cases hj : j = n
    · rw [if_pos hj, if_pos hj]
      exact (ys_nar_z hq.1 hq.2).symm
    · rw [if_neg hj, if_neg hj]
  have ec : ys_cel ad cT r (ys_gup g kk n (ys_ev r z)) kk (.inr (3, len, tg)) (fds.1.getD kk []) = (ad kk, .inl (cT 3, len, .inl (upd (fun j => Int32.ofInt (g kk j)) (Int32.ofInt (ys_ev r x)).toNatClampNeg (vp_nar .boolean (Int32.ofInt (ys_ev r z)))))) := by
    show ((ad kk, Sum.inl (cT 3, len, Sum.inl (fun j => Int32.ofInt (ys_gup g kk n (ys_ev r z) kk j)))) : Nat × va_E) = _
    rw [ef]
  rw [ec] at ew
  exact hW H1 locs1 (by rw [ew]; exact hP1) (by rw [ew]; exact hD1) hS1
/-- a part of one array into another -/
def yt_hcp (lo : Nat) (sh : List ys_C) (mods : List Nat) (h : List yt_Ev) (pc : Nat) (b : ys_B) (fds : ys_F) (lv : List (Nat × ys_V)) (sv : List ys_V) : Option (List yt_U) := match sv with
  | .inl (.inl n) :: .inl (.inl dp) :: .inr (some kd) :: .inl (.inl sp) :: .inr (some ks) :: t => (match sh[kd]?, sh[ks]?, fds.2[kd]?, fds.2[ks]? with
    | some (.inr yd), some (.inr ys), some ad, some as => if (decide (yd.1 = 0) || decide (yd.1 = 1)) && (decide (ys.1 = yd.1) && (ys_prt b dp n yd.2.1 && (ys_prt b sp n ys.2.1 && (decide (kd ∈ mods) && decide ((t.map ys_cat).sum + ys_ncw ≤ lo))))) then some [(pc + 3, (b, (fds.1, fds.2.set kd (ys_hul (ys_alh ad.2 ad.1) (ys_alh as.2 as.1), [])), lv, t), .inr (.inr (.inr (ks, kd, sp, dp, n))) :: h)] else none
    | _, _, _, _ => none)
  | _ => none
theorem yt_ncl {b : ys_B} {r : Nat → Int} (hb : ys_okB r b) {x n : ys_L} {len : Nat} (hc : ys_prt b x n len = true) : (Int32.ofInt (ys_ev r x)).toNatClampNeg = (ys_ev r x).toNat ∧ (Int32.ofInt (ys_ev r n)).toNatClampNeg = (ys_ev r n).toNat := by
  unfold ys_prt at hc
  rw [Bool.and_eq_true, Bool.and_eq_true] at hc
  have e1 := ys_inr32 hb.1 hc.1
  have e2 := ys_inr32 hb.1 hc.2.1
  exact ⟨by show (Int32.ofInt (ys_ev r x)).toInt.toNat = _; rw [e1], by show (Int32.ofInt (ys_ev r n)).toInt.toNat = _; rw [e2]⟩
theorem yt_kcp {idx lo : Nat} (hexec : p.tables.exec = Jvm.exec) (hb : c.code = cc) (hml : c.maxLocals = nL) (hts : ∀ w ∈ Ts, w.before args s = true) (hown : s.vm.findClass own = some m.cls) (hK : va_K D cl tys s) (hty0 : tys[0]? = some (cT 0, .int)) (hty1 : tys[1]? = some (cT 1, .long)) (hfr : 1 ≤ R.frames) (hlo : lo ≤ R.locals) (hw1 : Cond.methodLink own idx arraycopyName ∈ Ts) (hw2 : Cond.native arraycopyName ∈ Ts) (hw3 : Cond.static arraycopyName ∈ Ts) (hw4 : Cond.initialized "java/lang/System" ∈ Ts) (hd : decode cc pc = .ok (.invokestatic idx, 3)) (hs : yt_hcp lo sh mods h pc b fds lv sv = some succ) (k : ∀ q ∈ succ, yt_X p l e R s m args below meth c Q kc kz D cl ad cT sh A H0 nL mods g0 r0 E tb gi q.2.2 q.1 q.2.1) : yt_X p l e R s m args below meth c Q kc kz D cl ad cT sh A H0 nL mods g0 r0 E tb gi h pc (b, fds, lv, sv) := by
  unfold yt_hcp at hs
  split at hs
  · rename_i n dp kd sp ks t
    split at hs
    · rename_i yd ys aD aS hshd hshs hard hars
      split at hs
      · rename_i hc
        simp only [Bool.and_eq_true, Bool.or_eq_true, decide_eq_true_eq] at hc
        obtain ⟨hkd, hks, hpd, hps, hmk, hlw⟩ := hc
        cases Option.some.inj hs
        have k := k _ List.mem_cons_self
        intro r g H locs ls st hrep hh hsc hm
        obtain ⟨st1, e1, g1, hn⟩ := ys_rep_pop hrep
        obtain ⟨st2, e2, g2, hdp⟩ := ys_rep_pop g1
        obtain ⟨st3, e3, g3, -⟩ := ys_rep_pop g2
        obtain ⟨st4, e4, g4, hsp⟩ := ys_rep_pop g3
        obtain ⟨st5, e5, g5, -⟩ := ys_rep_pop g4
        subst e1; subst e2; subst e3; subst e4; subst e5
        obtain ⟨hg, hP, hD, hS⟩ := yt_wd hrep
        obtain ⟨q1, ⟨s0, s1, s2, s3⟩, q2, -, q4, q5⟩ := g5
        obtain ⟨p1, p2, p3⟩ := ys_prt_ok hrep.1 hpd
        obtain ⟨p4, -, p6⟩ := ys_prt_ok hrep.1 hps
        obtain ⟨c1, c2⟩ := yt_ncl hrep.1 hpd
        obtain ⟨c3, -⟩ := yt_ncl hrep.1 hps
        have hwd := ys_wld_get (ad := ad) (cT := cT) (r := r) (g := g) (fds := fds.1) hshd
        have hws := ys_wld_get (ad := ad) (cT := cT) (r := r) (g := g) (fds := fds.1) hshs
        have hrest : (st5.map fun v => v.category).sum + (nativeFrameWords "java/lang/System" "arraycopy" 5 + 11) ≤ R.locals := by
          rw [q5, ys_cats]
          exact Nat.le_trans hlw hlo
        obtain ⟨kdd, ld, td⟩ := yd
        obtain ⟨kss, lsn, tss⟩ := ys
        have hks : kss = kdd := hks
        subst hks
        obtain ⟨G1, eG⟩ : ∃ G1 : yt_G, G1 = ys_gcp g ks kd (ys_ev r sp).toNat (ys_ev r dp).toNat (ys_ev r n).toNat := ⟨_, rfl⟩
        have fin : ∀ (H1 : Heap) (locs1 : List Loc), va_P D cl (ys_wld ad cT sh r G1 fds.1) H1 → va_D A (ys_wld ad cT sh r G1 fds.1) → va_S A H0 H1 locs1 → W p l e R s m args below meth c H1 locs1 kc kz Q (F0 m (pc + 3) ls st5) := by
          intro H1 locs1 hP1 hD1 hS1
          refine k r G1 H1 locs1 ls _ ⟨q1, ⟨s0, s1, s2, s3⟩, q2, ⟨_, ⟨fun i w hi => ?_, fun _ _ => rfl⟩, hP1, hD1, hS1⟩, q4, q5⟩ ⟨g, hh, eG⟩ (fun v hv => ?_) (fun i hi => ?_)
          · by_cases hk : i = kd
            · subst hk
              have hl : i < fds.2.length := (List.getElem?_eq_some_iff.mp hard).1
              have hi : (fds.2.set i (ys_hul (ys_alh aD.2 aD.1) (ys_alh aS.2 aS.1), []))[i]? = some w := hi
              rw [List.getElem?_set_self hl] at hi
              cases hi
              intro j
              show (ys_hul (ys_alh aD.2 aD.1) (ys_alh aS.2 aS.1)).1 ≤ G1 i j ∧ G1 i j ≤ (ys_hul (ys_alh aD.2 aD.1) (ys_alh aS.2 aS.1)).2
              rw [eG]
              unfold ys_gcp
              rw [if_pos rfl]
              unfold va_cpy
              split
              · exact ys_hul_r (ys_alh_ok (hg ks aS hars) _)
              · exact ys_hul_l (ys_alh_ok (hg i aD hard) j)
            · have hi : (fds.2.set kd (ys_hul (ys_alh aD.2 aD.1) (ys_alh aS.2 aS.1), []))[i]? = some w := hi
              rw [List.getElem?_set_ne (Ne.symm hk)] at hi
              have e6 : G1 i = g i := by rw [eG]; exact if_neg hk
              rw [e6]
              exact hg i w hi
          · rcases List.mem_cons.mp hv with q | q
            · rw [q]
              exact ⟨hsp, hdp, hn⟩
            · exact hsc v q
          · have hk : i ≠ kd := fun e => hi (e ▸ hmk)
            have e6 : G1 i = g i := by rw [eG]; exact if_neg hk
            rw [e6]
            exact hm i hi
        have ew := ys_wld_set (ad := ad) (cT := cT) (r := r) (g := g) (g' := G1) (fds := fds.1) (fds' := fds.1) hshd (fun i hi => ⟨by rw [eG]; exact if_neg hi, rfl⟩)
        have hml2 : c.maxLocals = ls.size := hml.trans q4.1.symm
        rcases hkd with hk0 | hk1
        · have hk0 : kss = 0 := hk0
          subst hk0
          refine va_copyi hexec hb hml2 hown (hts _ hw1) (hts _ hw2) (hts _ hw3) (hts _ hw4) hK hP hD hS ks kd 0 0 (f := fun j => Int32.ofInt (g ks j)) (g := fun j => Int32.ofInt (g kd j)) hws hwd hty0 hty0 rfl p4 p1 p2 p6 p3 (fun i _ => rfl) hfr hrest hd fun H1 locs1 hP1 hD1 hS1 => ?_
          rw [c1, c2, c3] at hP1 hD1
          have ef : (fun j => Int32.ofInt (G1 kd j)) = va_cpy (fun j => Int32.ofInt (g ks j)) (fun j => Int32.ofInt (g kd j)) (ys_ev r sp).toNat (ys_ev r dp).toNat (ys_ev r n).toNat := by
            funext j
            rw [eG]
            unfold ys_gcp
            rw [if_pos rfl]
            unfold va_cpy
            split <;> rfl
          have ec : ys_cel ad cT r G1 kd (.inr (0, ld, td)) (fds.1.getD kd []) = (ad kd, .inl (cT 0, ld, .inl (va_cpy (fun j => Int32.ofInt (g ks j)) (fun j => Int32.ofInt (g kd j)) (ys_ev r sp).toNat (ys_ev r dp).toNat (ys_ev r n).toNat))) := by
            show ((ad kd, Sum.inl (cT 0, ld, Sum.inl (fun j => Int32.ofInt (G1 kd j)))) : Nat × va_E) = _
            rw [ef]
          rw [ec] at ew
          exact fin H1 locs1 (by rw [ew]; exact hP1) (by rw [ew]; exact hD1) hS1
        · have hk1 : kss = 1 := hk1
          subst hk1
          refine va_copyl hexec hb hml2 hown (hts _ hw1) (hts _ hw2) (hts _ hw3) (hts _ hw4) hK hP hD hS ks kd 1 1 (f := fun j => Int64.ofInt (g ks j)) (g := fun j => Int64.ofInt (g kd j)) hws hwd hty1 hty1 rfl p4 p1 p2 p6 p3 (fun i _ => rfl) hfr hrest hd fun H1 locs1 hP1 hD1 hS1 => ?_
          rw [c1, c2, c3] at hP1 hD1
          have ef : (fun j => Int64.ofInt (G1 kd j)) = va_cpy (fun j => Int64.ofInt (g ks j)) (fun j => Int64.ofInt (g kd j)) (ys_ev r sp).toNat (ys_ev r dp).toNat (ys_ev r n).toNat := by
            funext j
            rw [eG]
            unfold ys_gcp
            rw [if_pos rfl]
            unfold va_cpy
            split <;> rfl
          have ec : ys_cel ad cT r G1 kd (.inr (1, ld, td)) (fds.1.getD kd []) = (ad kd, .inl (cT 1, ld, .inr (.inl (va_cpy (fun j => Int64.ofInt (g ks j)) (fun j => Int64.ofInt (g kd j)) (ys_ev r sp).toNat (ys_ev r dp).toNat (ys_ev r n).toNat)))) := by
            show ((ad kd, Sum.inl (cT 1, ld, Sum.inr (Sum.inl (fun j => Int64.ofInt (G1 kd j))))) : Nat × va_E) = _
            rw [ef]
          rw [ec] at ew
          exact fin H1 locs1 (by rw [ew]; exact hP1) (by rw [ew]; exact hD1) hS1
      · cases hs
    · cases hs
  · cases hs
end YTB
end
section
/-! numbers by cases: a new symbol, facts, what the number is, whether it is the product -/
abbrev yt_Br : Type := (Int × Int) × List ys_L × ys_L × Bool
def yt_num (w : Bool) (pc : Nat) (b : ys_B) (fds : ys_F) (lv : List (Nat × ys_V)) (t : List ys_V) (h : List yt_Ev) (x y : ys_L) (brs : List yt_Br) : List yt_U := brs.flatMap fun br => match ys_ass (b.1 ++ [br.1], b.2) br.2.1 with
  | some b' => [(pc, (b', fds, lv, yt_mk w br.2.2.1 :: t), if br.2.2.2 = true then .inl (.inr (b.1.length, x, y)) :: h else h)]
  | none => []
def yt_bst (n : Nat) (br : yt_Br) : Prop := (∀ f ∈ br.2.1, ys_stb (n + 1) f) ∧ ys_stb (n + 1) br.2.2.1
def yt_sel (w : Bool) (n : Nat) (r : Nat → Int) (x y : ys_L) (V : Value) (br : yt_Br) (z : Int) : Prop := (br.1.1 ≤ z ∧ z ≤ br.1.2) ∧ ys_fk (ys_up r n z) br.2.1 ∧ yt_vl w (ys_ev (ys_up r n z) br.2.2.1) = V ∧ (br.2.2.2 = true → z = ys_ev r x * ys_ev r y)
section YTN
variable {p : Program} {l : Launch} {e : Env} {R : Room} {s : State} {m : MethodId} {args : Array Value} {below : List Frame} {meth : Method} {c : Code} {Q : State → Prop} {kc kz : Nat} {D : va_G} {cl : List vw_C} {ad : Nat → Nat} {cT : Nat → ClassId} {sh : List ys_C} {A : Nat → Prop} {H0 : Heap} {nL : Nat} {mods : List Nat} {g0 : yt_G} {r0 : Nat → Int} {E : Nat} {tb : yt_Tb} {gi : yt_G} {h : List yt_Ev} {pc : Nat} {b : ys_B} {fds : ys_F} {lv : List (Nat × ys_V)} {sv : List ys_V} {succ : List yt_U} {cc : ByteArray} {own : String} {Ts : List Cond} {tys : List (ClassId × FieldType)}
theorem yt_knum {w : Bool} {pc' : Nat} {x y : ys_L} {brs : List yt_Br} {t : List ys_V} {r : Nat → Int} {g : yt_G} {H : Heap} {locs : List Loc} {ls : Array Slot} {st : List Value} {V : Value} (hrep : ys_rep D cl ad cT sh A H0 nL [] g r0 r E (b, fds, lv, t) H locs ls st) (hh : yt_h tb r gi h g) (hsc : ∀ v ∈ h, yt_sc b.1.length v) (hm : ∀ k, k ∉ mods → g k = g0 k) (hx : ys_stb b.1.length x) (hy : ys_stb b.1.length y) (hst : ∀ br ∈ brs, yt_bst b.1.length br) (hsel : ∃ br ∈ brs, ∃ z, yt_sel w b.1.length r x y V br z) (k : ∀ q ∈ yt_num w pc' b fds lv t h x y brs, yt_X p l e R s m args below meth c Q kc kz D cl ad cT sh A H0 nL mods g0 r0 E tb gi q.2.2 q.1 q.2.1) : W p l e R s m args below meth c H locs kc kz Q (F0 m pc' ls (V :: st)) := by
  obtain ⟨br, hbr, z, hz, hf, hV, hev⟩ := hsel
  obtain ⟨hs1, hs2⟩ := hst br hbr
  have hok := ys_new_ok hrep.1 hrep.2.1.1 hz
  have hl0 : (b.1 ++ [br.1]).length = b.1.length + 1 := by rw [List.length_append, List.length_singleton]
  obtain ⟨b', eb, hb'⟩ := ys_ass_ok br.2.1 hok hf
  have hl : b'.1.length = b.1.length + 1 := (ys_ass_len _ eb).trans hl0
  have hsc' := ys_ass_sc (n := b.1.length + 1) br.2.1 hl0 (ys_scB_new hrep.2.1.1) hs1 eb
  have g3 := ys_rep_ext hrep (r' := ys_up r b.1.length z) (b' := b') ys_up_lt hb' (by rw [hl]; omega) hsc'
  have hmem : ((pc', (b', fds, lv, yt_mk w br.2.2.1 :: t), if br.2.2.2 = true then .inl (.inr (b.1.length, x, y)) :: h else h) : yt_U) ∈ yt_num w pc' b fds lv t h x y brs := by
    refine List.mem_flatMap.mpr ⟨br, hbr, ?_⟩
    rw [eb]
    exact List.mem_cons_self
  have hcg : ∀ i, i < b.1.length → r i = ys_up r b.1.length z i := fun i hi => (ys_up_lt i hi).symm
  have hle : b.1.length ≤ b'.1.length := by rw [hl]; omega
  have k1 := k _ hmem (ys_up r b.1.length z) g H locs ls _ (ys_rep_push g3 (yt_mk w br.2.2.1) (yt_mk_st (by rw [hl]; exact hs2))) (by
    dsimp only
    split
    · rename_i he
      refine ⟨g, yt_h_cong hcg hsc hh, rfl, ?_⟩
      show ys_up r b.1.length z b.1.length = ys_ev (ys_up r b.1.length z) x * ys_ev (ys_up r b.1.length z) y
      rw [ys_up_at, ← hx r _ hcg, ← hy r _ hcg]
      exact hev he
    · exact yt_h_cong hcg hsc hh) (fun v hv => by
      dsimp only at hv
      split at hv
      · rcases List.mem_cons.mp hv with q | q
        · rw [q]
          exact ⟨by show b.1.length < b'.1.length; omega, ys_stb_mono hx hle, ys_stb_mono hy hle⟩
        · exact yt_sc_mono hle (hsc v q)
      · exact yt_sc_mono hle (hsc v hv)) hm
  rw [yt_mk_den, hV] at k1
  exact k1
end YTN
/-- facts in short -/
def yt_ge0 (n : Nat) (fs : List ys_L) : Prop := ∀ f ∈ fs, ys_stb (n + 1) f
theorem yt_fk2 {r : Nat → Int} {f g : ys_L} (h1 : 0 ≤ ys_ev r f) (h2 : 0 ≤ ys_ev r g) : ys_fk r [f, g] := fun q hq => by
  rcases List.mem_cons.mp hq with e | e
  · rw [e]; exact h1
  · rw [List.mem_singleton.mp e]; exact h2
theorem yt_fk3 {r : Nat → Int} {f g k : ys_L} (h1 : 0 ≤ ys_ev r f) (h2 : 0 ≤ ys_ev r g) (h3 : 0 ≤ ys_ev r k) : ys_fk r [f, g, k] := fun q hq => by
  rcases List.mem_cons.mp hq with e | e
  · rw [e]; exact h1
  · exact yt_fk2 h2 h3 q e
theorem yt_all1 {n : Nat} {f : ys_L} (h1 : ys_stb n f) : ∀ q ∈ [f], ys_stb n q := fun q hq => by rw [List.mem_singleton.mp hq]; exact h1
theorem yt_all2 {n : Nat} {f g : ys_L} (h1 : ys_stb n f) (h2 : ys_stb n g) : ∀ q ∈ [f, g], ys_stb n q := fun q hq => by
  rcases List.mem_cons.mp hq with e | e
  · rw [e]; exact h1
  · exact yt_all1 h2 q e
theorem yt_all3 {n : Nat} {f g k : ys_L} (h1 : ys_stb n f) (h2 : ys_stb n g) (h3 : ys_stb n k) : ∀ q ∈ [f, g, k], ys_stb n q := fun q hq => by
  rcases List.mem_cons.mp hq with e | e
  · rw [e]; exact h1
  · exact yt_all2 h2 h3 q e
def yt_m1 (f : ys_L) : ys_L := ys_add f ([], -1)
theorem yt_m1_ev {r : Nat → Int} {f : ys_L} : ys_ev r (yt_m1 f) = ys_ev r f - 1 := ys_m1 r f
def yt_ng (f : ys_L) : ys_L := ys_scale (-1) f
theorem yt_ng_ev {r : Nat → Int} {f : ys_L} : ys_ev r (yt_ng f) = -ys_ev r f := by
  unfold yt_ng
  rw [ys_scale_ev]
  omega
theorem yt_up_ev {r : Nat → Int} {n : Nat} {z : Int} {x : ys_L} (hx : ys_stb n x) : ys_ev (ys_up r n z) x = ys_ev r x := hx _ _ fun i hi => ys_up_lt i hi
theorem yt_up_sym {r : Nat → Int} {n : Nat} {z : Int} : ys_ev (ys_up r n z) (ys_sym n) = z := by rw [ys_sym_ev, ys_up_at]
/-- what is left of a division, by the signs -/
def yt_brem (b : ys_B) (x y : ys_L) : Option (List yt_Br) := match ys_low b.1 y, ys_high b.1 y with
  | some ly, some hy => if ys_inr true b.1 x && ys_inr true b.1 y then
      (if 1 ≤ ly then some [((0, 0), [x, yt_m1 (ys_sub y x)], x, false), ((0, hy), [ys_sub x y, yt_m1 (ys_sub y (ys_sym b.1.length)), ys_sub (ys_sub x y) (ys_sym b.1.length)], ys_sym b.1.length, false), ((-hy, 0), [yt_m1 (yt_ng x), yt_m1 (ys_add (ys_sym b.1.length) y), ys_sub (ys_sym b.1.length) x], ys_sym b.1.length, false)]
      else if hy ≤ -1 then some [((0, -ly), [x, yt_m1 (ys_sub (yt_ng y) (ys_sym b.1.length)), ys_sub x (ys_sym b.1.length)], ys_sym b.1.length, false), ((ly, 0), [yt_m1 (yt_ng x), yt_m1 (ys_sub (ys_sym b.1.length) y), ys_sub (ys_sym b.1.length) x], ys_sym b.1.length, false)]
      else none) else none
  | _, _ => none
theorem yt_rem64 {x y : Int} (hx : -9223372036854775808 ≤ x ∧ x ≤ 9223372036854775807) (hy : -9223372036854775808 ≤ y ∧ y ≤ 9223372036854775807) : Int64.ofInt x - Int64.ofInt x / Int64.ofInt y * Int64.ofInt y = Int64.ofInt (x.tmod y) := by
  have hd : Int64.ofInt x / Int64.ofInt y = Int64.ofInt (x.tdiv y) := by
    apply Int64.toInt_inj.mp
    rw [Int64.toInt_div, Int64.toInt_ofInt_of_le (by omega) (by omega), Int64.toInt_ofInt_of_le (by omega) (by omega), Int64.toInt_ofInt]
  rw [hd, ← Int64.ofInt_mul, ← Int64.ofInt_sub, Int.tmod_def, Int.mul_comm y]
theorem yt_emod_big {x y : Int} (hy : 1 ≤ y) (hxy : y ≤ x) : x % y ≤ x - y := by
  have h1 := Int.emod_add_mul_ediv x y
  have h2 : 1 ≤ x / y := Int.le_ediv_of_mul_le (by omega) (by omega)
  have h3 := Int.mul_le_mul_of_nonneg_left h2 (show (0 : Int) ≤ y by omega)
  omega
theorem yt_brem_ok {b : ys_B} {x y : ys_L} {brs : List yt_Br} (hs : yt_brem b x y = some brs) (hx : ys_stb b.1.length x) (hy : ys_stb b.1.length y) {r : Nat → Int} (hb : ys_okB r b) : ys_ev r y ≠ 0 ∧ (ys_mn true ≤ ys_ev r y ∧ ys_ev r y ≤ ys_mx true) ∧ (∀ br ∈ brs, yt_bst b.1.length br) ∧ ∃ br ∈ brs, ∃ z, yt_sel true b.1.length r x y (.long (Int64.ofInt (ys_ev r x) - Int64.ofInt (ys_ev r x) / Int64.ofInt (ys_ev r y) * Int64.ofInt (ys_ev r y))) br z := by
  have sx := ys_stb_mono hx (Nat.le_succ _)
  have sy := ys_stb_mono hy (Nat.le_succ _)
  have sn : ys_stb (b.1.length + 1) (ys_sym b.1.length) := ys_stb_sym (Nat.lt_succ_self _)
  unfold yt_brem at hs
  split at hs
  · rename_i ly hyy hl hu
    split at hs
    · rename_i hc
      rw [Bool.and_eq_true] at hc
      have rx := ys_inr_ok hb.1 hc.1
      have ry := ys_inr_ok hb.1 hc.2
      rw [ys_mn_t, ys_mx_t] at rx ry
      have l1 := ys_low_le hb.1 hl
      have l2 := ys_high_le hb.1 hu
      have hrem := yt_rem64 rx ry
      rw [hrem]
      split at hs
      · rename_i hp
        cases Option.some.inj hs
        refine ⟨by omega, ys_inr_ok hb.1 hc.2, ?_, ?_⟩
        · intro br hbr
          rcases List.mem_cons.mp hbr with q | hbr
          · rw [q]
            exact ⟨yt_all2 sx (ys_stb_m1 (ys_stb_sub sy sx)), sx⟩
          rcases List.mem_cons.mp hbr with q | hbr
          · rw [q]
            exact ⟨yt_all3 (ys_stb_sub sx sy) (ys_stb_m1 (ys_stb_sub sy sn)) (ys_stb_sub (ys_stb_sub sx sy) sn), sn⟩
          · rw [List.mem_singleton.mp hbr]
            exact ⟨yt_all3 (ys_stb_m1 (ys_stb_scale _ sx)) (ys_stb_m1 (ys_stb_add sn sy)) (ys_stb_sub sn sx), sn⟩
        · by_cases h0 : 0 ≤ ys_ev r x
          · have e1 : (ys_ev r x).tmod (ys_ev r y) = ys_ev r x % ys_ev r y := Int.tmod_eq_emod_of_nonneg h0
            have e2 := Int.emod_nonneg (ys_ev r x) (b := ys_ev r y) (by omega)
            have e3 := Int.emod_lt_of_pos (ys_ev r x) (b := ys_ev r y) (by omega)
            by_cases hlt : ys_ev r x < ys_ev r y
            · refine ⟨_, List.mem_cons_self, 0, ⟨Int.le_refl 0, Int.le_refl 0⟩, yt_fk2 ?_ ?_, ?_, fun z => by cases z⟩
              · rw [yt_up_ev hx]; exact h0
              · rw [yt_m1_ev, ys_sub_ev, yt_up_ev hx, yt_up_ev hy]; omega
              · show Value.long (Int64.ofInt (ys_ev _ x)) = _
                rw [yt_up_ev hx, e1, Int.emod_eq_of_lt h0 hlt]
            · have e4 := yt_emod_big (x := ys_ev r x) (y := ys_ev r y) (by omega) (by omega)
              refine ⟨_, List.mem_cons_of_mem _ List.mem_cons_self, ys_ev r x % ys_ev r y, ⟨e2, by show _ ≤ hyy; omega⟩, yt_fk3 ?_ ?_ ?_, ?_, fun z => by cases z⟩
              · rw [ys_sub_ev, yt_up_ev hx, yt_up_ev hy]; omega
              · rw [yt_m1_ev, ys_sub_ev, yt_up_ev hy, yt_up_sym]; omega
              · rw [ys_sub_ev, ys_sub_ev, yt_up_ev hx, yt_up_ev hy, yt_up_sym]; omega
              · show Value.long (Int64.ofInt (ys_ev _ (ys_sym b.1.length))) = _
                rw [yt_up_sym, e1]
          · have e1 : (ys_ev r x).tmod (ys_ev r y) = -((-ys_ev r x) % ys_ev r y) := by
              have := Int.neg_tmod (-ys_ev r x) (ys_ev r y)
              rw [Int.neg_neg, Int.tmod_eq_emod_of_nonneg (show 0 ≤ -ys_ev r x by omega)] at this
              exact this
            have e2 := Int.emod_nonneg (-ys_ev r x) (b := ys_ev r y) (by omega)
            have e3 := Int.emod_lt_of_pos (-ys_ev r x) (b := ys_ev r y) (by omega)
            have e4 : (-ys_ev r x) % ys_ev r y ≤ -ys_ev r x := by
              by_cases hlt : -ys_ev r x < ys_ev r y
              · rw [Int.emod_eq_of_lt (by omega) hlt]
                omega
              · have := yt_emod_big (x := -ys_ev r x) (y := ys_ev r y) (by omega) (by omega)
                omega
            refine ⟨_, List.mem_cons_of_mem _ (List.mem_cons_of_mem _ List.mem_cons_self), -((-ys_ev r x) % ys_ev r y), ⟨by show -hyy ≤ _; omega, by show _ ≤ (0 : Int); omega⟩, yt_fk3 ?_ ?_ ?_, ?_, fun z => by cases z⟩
            · rw [yt_m1_ev, yt_ng_ev, yt_up_ev hx]; omega
            · rw [yt_m1_ev, ys_add_ev, yt_up_ev hy, yt_up_sym]; omega
            · rw [ys_sub_ev, yt_up_ev hx, yt_up_sym]; omega
            · show Value.long (Int64.ofInt (ys_ev _ (ys_sym b.1.length))) = _
              rw [yt_up_sym, e1]
      · split at hs
        · rename_i hp
          cases Option.some.inj hs
          refine ⟨by omega, ys_inr_ok hb.1 hc.2, ?_, ?_⟩
          · intro br hbr
            rcases List.mem_cons.mp hbr with q | hbr
            · rw [q]
              exact ⟨yt_all3 sx (ys_stb_m1 (ys_stb_sub (ys_stb_scale _ sy) sn)) (ys_stb_sub sx sn), sn⟩
            · rw [List.mem_singleton.mp hbr]
              exact ⟨yt_all3 (ys_stb_m1 (ys_stb_scale _ sx)) (ys_stb_m1 (ys_stb_sub sn sy)) (ys_stb_sub sn sx), sn⟩
          · have e0 : (ys_ev r x).tmod (ys_ev r y) = (ys_ev r x).tmod (-ys_ev r y) := (Int.tmod_neg _ _).symm
            rw [e0]
            by_cases h0 : 0 ≤ ys_ev r x
            · have e1 : (ys_ev r x).tmod (-ys_ev r y) = ys_ev r x % (-ys_ev r y) := Int.tmod_eq_emod_of_nonneg h0
              have e2 := Int.emod_nonneg (ys_ev r x) (b := -ys_ev r y) (by omega)
              have e3 := Int.emod_lt_of_pos (ys_ev r x) (b := -ys_ev r y) (by omega)
              have e4 : ys_ev r x % (-ys_ev r y) ≤ ys_ev r x := by
                by_cases hlt : ys_ev r x < -ys_ev r y
                · rw [Int.emod_eq_of_lt h0 hlt]
                  omega
                · have := yt_emod_big (x := ys_ev r x) (y := -ys_ev r y) (by omega) (by omega)
                  omega
              refine ⟨_, List.mem_cons_self, ys_ev r x % (-ys_ev r y), ⟨e2, by show _ ≤ -ly; omega⟩, yt_fk3 ?_ ?_ ?_, ?_, fun z => by cases z⟩
              · rw [yt_up_ev hx]; exact h0
              · rw [yt_m1_ev, ys_sub_ev, yt_ng_ev, yt_up_ev hy, yt_up_sym]; omega
              · rw [ys_sub_ev, yt_up_ev hx, yt_up_sym]; omega
              · show Value.long (Int64.ofInt (ys_ev _ (ys_sym b.1.length))) = _
                rw [yt_up_sym, e1]
            · have e1 : (ys_ev r x).tmod (-ys_ev r y) = -((-ys_ev r x) % (-ys_ev r y)) := by
                have := Int.neg_tmod (-ys_ev r x) (-ys_ev r y)
                rw [Int.neg_neg, Int.tmod_eq_emod_of_nonneg (show 0 ≤ -ys_ev r x by omega)] at this
                exact this
              have e2 := Int.emod_nonneg (-ys_ev r x) (b := -ys_ev r y) (by omega)
              have e3 := Int.emod_lt_of_pos (-ys_ev r x) (b := -ys_ev r y) (by omega)
              have e4 : (-ys_ev r x) % (-ys_ev r y) ≤ -ys_ev r x := by
                by_cases hlt : -ys_ev r x < -ys_ev r y
                · rw [Int.emod_eq_of_lt (by omega) hlt]
                  omega
                · have := yt_emod_big (x := -ys_ev r x) (y := -ys_ev r y) (by omega) (by omega)
                  omega
              refine ⟨_, List.mem_cons_of_mem _ List.mem_cons_self, -((-ys_ev r x) % (-ys_ev r y)), ⟨by show ly ≤ _; omega, by show _ ≤ (0 : Int); omega⟩, yt_fk3 ?_ ?_ ?_, ?_, fun z => by cases z⟩
              · rw [yt_m1_ev, yt_ng_ev, yt_up_ev hx]; omega
              · rw [yt_m1_ev, ys_sub_ev, yt_up_ev hy, yt_up_sym]; omega
              · rw [ys_sub_ev, yt_up_ev hx, yt_up_sym]; omega
              · show Value.long (Int64.ofInt (ys_ev _ (ys_sym b.1.length))) = _
                rw [yt_up_sym, e1]
        · cases hs
    · cases hs
  · cases hs
/-- a quotient by what is above 0 -/
def yt_bdiv (b : ys_B) (x y : ys_L) : Option (List yt_Br) := match ys_low b.1 y, ys_low b.1 x, ys_high b.1 x with
  | some ly, some lx, some hx => if ys_inr true b.1 x && (ys_inr true b.1 y && decide (1 ≤ ly)) then some [((0, 0), [x, yt_m1 (ys_sub y x)], ([], 0), false), ((1, hx), [ys_sub x y, ys_sub x (ys_sym b.1.length)], ys_sym b.1.length, false), ((lx, 0), [yt_m1 (yt_ng x), ys_sub (ys_sym b.1.length) x], ys_sym b.1.length, false)] else none
  | _, _, _ => none
theorem yt_div64 {x y : Int} (hx : -9223372036854775808 ≤ x ∧ x ≤ 9223372036854775807) (hy : -9223372036854775808 ≤ y ∧ y ≤ 9223372036854775807) : Int64.ofInt x / Int64.ofInt y = Int64.ofInt (x.tdiv y) := by
  apply Int64.toInt_inj.mp
  rw [Int64.toInt_div, Int64.toInt_ofInt_of_le (by omega) (by omega), Int64.toInt_ofInt_of_le (by omega) (by omega), Int64.toInt_ofInt]
theorem yt_bdiv_ok {b : ys_B} {x y : ys_L} {brs : List yt_Br} (hs : yt_bdiv b x y = some brs) (hx : ys_stb b.1.length x) (hy : ys_stb b.1.length y) {r : Nat → Int} (hb : ys_okB r b) : ys_ev r y ≠ 0 ∧ (ys_mn true ≤ ys_ev r y ∧ ys_ev r y ≤ ys_mx true) ∧ (∀ br ∈ brs, yt_bst b.1.length br) ∧ ∃ br ∈ brs, ∃ z, yt_sel true b.1.length r x y (.long (Int64.ofInt (ys_ev r x) / Int64.ofInt (ys_ev r y))) br z := by
  have sx := ys_stb_mono hx (Nat.le_succ _)
  have sy := ys_stb_mono hy (Nat.le_succ _)
  have sn : ys_stb (b.1.length + 1) (ys_sym b.1.length) := ys_stb_sym (Nat.lt_succ_self _)
  unfold yt_bdiv at hs
  split at hs
  · rename_i ly lx hxx hl hlx hu
    split at hs
    · rename_i hc
      rw [Bool.and_eq_true, Bool.and_eq_true, decide_eq_true_eq] at hc
      obtain ⟨c1, c2, hp⟩ := hc
      have rx := ys_inr_ok hb.1 c1
      have ry := ys_inr_ok hb.1 c2
      rw [ys_mn_t, ys_mx_t] at rx ry
      have l1 := ys_low_le hb.1 hl
      have l2 := ys_high_le hb.1 hu
      have l3 := ys_low_le hb.1 hlx
      rw [yt_div64 rx ry]
      cases Option.some.inj hs
      refine ⟨by omega, ys_inr_ok hb.1 c2, ?_, ?_⟩
      · intro br hbr
        rcases List.mem_cons.mp hbr with q | hbr
        · rw [q]
          exact ⟨yt_all2 sx (ys_stb_m1 (ys_stb_sub sy sx)), ys_stb_cst 0⟩
        rcases List.mem_cons.mp hbr with q | hbr
        · rw [q]
          exact ⟨yt_all2 (ys_stb_sub sx sy) (ys_stb_sub sx sn), sn⟩
        · rw [List.mem_singleton.mp hbr]
          exact ⟨yt_all2 (ys_stb_m1 (ys_stb_scale _ sx)) (ys_stb_sub sn sx), sn⟩
      · by_cases h0 : 0 ≤ ys_ev r x
        · have e1 : (ys_ev r x).tdiv (ys_ev r y) = ys_ev r x / ys_ev r y := Int.tdiv_eq_ediv_of_nonneg h0
          by_cases hlt : ys_ev r x < ys_ev r y
          · refine ⟨_, List.mem_cons_self, 0, ⟨Int.le_refl 0, Int.le_refl 0⟩, yt_fk2 ?_ ?_, ?_, fun z => by cases z⟩
            · rw [yt_up_ev hx]; exact h0
            · rw [yt_m1_ev, ys_sub_ev, yt_up_ev hx, yt_up_ev hy]; omega
            · show Value.long (Int64.ofInt (ys_ev _ (([], 0) : ys_L))) = _
              rw [ys_ev0, e1, Int.ediv_eq_zero_of_lt h0 hlt]
          · have e2 : 1 ≤ ys_ev r x / ys_ev r y := Int.le_ediv_of_mul_le (by omega) (by omega)
            have e3 := Int.ediv_le_self (ys_ev r y) h0
            refine ⟨_, List.mem_cons_of_mem _ List.mem_cons_self, ys_ev r x / ys_ev r y, ⟨e2, by show _ ≤ hxx; omega⟩, yt_fk2 ?_ ?_, ?_, fun z => by cases z⟩
            · rw [ys_sub_ev, yt_up_ev hx, yt_up_ev hy]; omega
            · rw [ys_sub_ev, yt_up_ev hx, yt_up_sym]; omega
            · show Value.long (Int64.ofInt (ys_ev _ (ys_sym b.1.length))) = _
              rw [yt_up_sym, e1]
        · have e1 : (ys_ev r x).tdiv (ys_ev r y) = -((-ys_ev r x) / ys_ev r y) := by
            have := Int.neg_tdiv (-ys_ev r x) (ys_ev r y)
            rw [Int.neg_neg, Int.tdiv_eq_ediv_of_nonneg (show 0 ≤ -ys_ev r x by omega)] at this
            exact this
          have e2 := Int.ediv_nonneg (a := -ys_ev r x) (b := ys_ev r y) (by omega) (by omega)
          have e3 := Int.ediv_le_self (a := -ys_ev r x) (ys_ev r y) (by omega)
          refine ⟨_, List.mem_cons_of_mem _ (List.mem_cons_of_mem _ List.mem_cons_self), -((-ys_ev r x) / ys_ev r y), ⟨by show lx ≤ _; omega, by show _ ≤ (0 : Int); omega⟩, yt_fk2 ?_ ?_, ?_, fun z => by cases z⟩
          · rw [yt_m1_ev, yt_ng_ev, yt_up_ev hx]; omega
          · rw [ys_sub_ev, yt_up_ev hx, yt_up_sym]; omega
          · show Value.long (Int64.ofInt (ys_ev _ (ys_sym b.1.length))) = _
            rw [yt_up_sym, e1]
    · cases hs
  · cases hs
/-- a product, by the bounds of both -/
def yt_mi (a b : Int) : Int := if a ≤ b then a else b
def yt_ma (a b : Int) : Int := if a ≤ b then b else a
def yt_pr (lx hx ly hy : Int) : Int × Int := (yt_mi (yt_mi (lx * ly) (lx * hy)) (yt_mi (hx * ly) (hx * hy)), yt_ma (yt_ma (lx * ly) (lx * hy)) (yt_ma (hx * ly) (hx * hy)))
def yt_sq (lx hx : Int) : Int × Int := (if 0 ≤ lx then lx * lx else if hx ≤ 0 then hx * hx else 0, yt_ma (lx * lx) (hx * hx))
theorem yt_mul1 {l h x y : Int} (h1 : l ≤ x) (h2 : x ≤ h) : yt_mi (l * y) (h * y) ≤ x * y ∧ x * y ≤ yt_ma (l * y) (h * y) := by
  unfold yt_mi yt_ma
  by_cases hy : 0 ≤ y
  · have a1 := Int.mul_le_mul_of_nonneg_right h1 hy
    have a2 := Int.mul_le_mul_of_nonneg_right h2 hy
    split <;> omega
  · have a1 := Int.mul_le_mul_of_nonpos_right h1 (show y ≤ 0 by omega)
    have a2 := Int.mul_le_mul_of_nonpos_right h2 (show y ≤ 0 by omega)
    split <;> omega
theorem yt_pr_ok {lx hx ly hy x y : Int} (h1 : lx ≤ x) (h2 : x ≤ hx) (h3 : ly ≤ y) (h4 : y ≤ hy) : (yt_pr lx hx ly hy).1 ≤ x * y ∧ x * y ≤ (yt_pr lx hx ly hy).2 := by
  have a := yt_mul1 (y := y) h1 h2
  have b := yt_mul1 (y := lx) h3 h4
  have c := yt_mul1 (y := hx) h3 h4
  rw [Int.mul_comm ly lx, Int.mul_comm hy lx, Int.mul_comm y lx] at b
  rw [Int.mul_comm ly hx, Int.mul_comm hy hx, Int.mul_comm y hx] at c
  unfold yt_pr
  dsimp only
  generalize yt_mi (lx * ly) (lx * hy) = m1 at *
  generalize yt_mi (hx * ly) (hx * hy) = m2 at *
  generalize yt_ma (lx * ly) (lx * hy) = m3 at *
  generalize yt_ma (hx * ly) (hx * hy) = m4 at *
  unfold yt_mi yt_ma at *
  split at a <;> split <;> split <;> omega
theorem yt_sq_ok {lx hx x : Int} (h1 : lx ≤ x) (h2 : x ≤ hx) : (yt_sq lx hx).1 ≤ x * x ∧ x * x ≤ (yt_sq lx hx).2 := by
  unfold yt_sq yt_ma
  dsimp only
  by_cases h0 : 0 ≤ x
  · have a1 := Int.mul_le_mul h2 h2 h0 (show 0 ≤ hx by omega)
    have a2 := Int.mul_nonneg h0 h0
    refine ⟨?_, by split <;> omega⟩
    split
    · rename_i hl
      exact Int.mul_le_mul h1 h1 hl h0
    · split
      · rename_i hh
        have : hx = 0 := by omega
        rw [this]
        omega
      · exact a2
  · have a0 : x * x = (-x) * (-x) := (Int.neg_mul_neg x x).symm
    have b0 : lx * lx = (-lx) * (-lx) := (Int.neg_mul_neg lx lx).symm
    have a1 := Int.mul_le_mul (show -x ≤ -lx by omega) (show -x ≤ -lx by omega) (show 0 ≤ -x by omega) (show 0 ≤ -lx by omega)
    rw [← a0, ← b0] at a1
    have a2 := Int.mul_nonneg (show 0 ≤ -x by omega) (show 0 ≤ -x by omega)
    rw [← a0] at a2
    refine ⟨?_, by split <;> omega⟩
    split
    · omega
    · split
      · rename_i hh
        have c0 : hx * hx = (-hx) * (-hx) := (Int.neg_mul_neg hx hx).symm
        rw [a0, c0]
        exact Int.mul_le_mul (show -hx ≤ -x by omega) (show -hx ≤ -x by omega) (show 0 ≤ -hx by omega) (show 0 ≤ -x by omega)
      · exact a2
def yt_pb (x y : ys_L) (q t : Int × Int) : Int × Int := if x = y then yt_sq q.1 q.2 else yt_pr q.1 q.2 t.1 t.2
def yt_bmul (w : Bool) (b : ys_B) (x y : ys_L) : Option (List yt_Br) := match ys_ivl b.1 x, ys_ivl b.1 y with
  | some q, some t => if ys_mn w ≤ (yt_pb x y q t).1 ∧ (yt_pb x y q t).2 ≤ ys_mx w then some [(yt_pb x y q t, [], ys_sym b.1.length, true)] else none
  | _, _ => none
theorem yt_bmul_ok {w : Bool} {b : ys_B} {x y : ys_L} {brs : List yt_Br} (hs : yt_bmul w b x y = some brs) {r : Nat → Int} (hb : ys_okB r b) : (∀ br ∈ brs, yt_bst b.1.length br) ∧ ∃ br ∈ brs, ∃ z, yt_sel w b.1.length r x y (yt_vl w (ys_ev r x * ys_ev r y)) br z := by
  have sn : ys_stb (b.1.length + 1) (ys_sym b.1.length) := ys_stb_sym (Nat.lt_succ_self _)
  unfold yt_bmul at hs
  split at hs
  · rename_i q t hq ht
    have h1 := ys_ivl_ok hb.1 hq
    have h2 := ys_ivl_ok hb.1 ht
    split at hs
    · have hs := (Option.some.inj hs).symm
      subst hs
      refine ⟨fun br hbr => ?_, _, List.mem_cons_self, ys_ev r x * ys_ev r y, ?_, fun f hf => absurd hf List.not_mem_nil, ?_, fun _ => rfl⟩
      · rw [List.mem_singleton.mp hbr]
        exact ⟨fun f hf => absurd hf List.not_mem_nil, sn⟩
      · show (yt_pb x y q t).1 ≤ _ ∧ _ ≤ (yt_pb x y q t).2
        unfold yt_pb
        split
        · rename_i e
          rw [← e]
          exact yt_sq_ok h1.1 h1.2
        · exact yt_pr_ok h1.1 h1.2 h2.1 h2.2
      · show yt_vl w (ys_ev _ (ys_sym b.1.length)) = _
        rw [yt_up_sym]
    · cases hs
  · cases hs
/-- bits of two that are not below 0 -/
def yt_band (b : ys_B) (x y : ys_L) : Option (List yt_Br) := match ys_nnb false b.1 y with
  | some u => if ys_geb b.1 x 0 && ys_inr false b.1 x then some [((0, u), [ys_sub y (ys_sym b.1.length), ys_sub x (ys_sym b.1.length)], ys_sym b.1.length, false)] else some [((0, u), [ys_sub y (ys_sym b.1.length)], ys_sym b.1.length, false)]
  | none => none
theorem yt_and_comm32 (x y : Int32) : x &&& y = y &&& x := by
  apply Int32.toBitVec_inj.mp
  rw [Int32.toBitVec_and, Int32.toBitVec_and, BitVec.and_comm]
theorem yt_band_ok {b : ys_B} {x y : ys_L} {brs : List yt_Br} (hs : yt_band b x y = some brs) (hx : ys_stb b.1.length x) (hy : ys_stb b.1.length y) {r : Nat → Int} (hb : ys_okB r b) : (∀ br ∈ brs, yt_bst b.1.length br) ∧ ∃ br ∈ brs, ∃ z, yt_sel false b.1.length r x y (.int (Int32.ofInt (ys_ev r x) &&& Int32.ofInt (ys_ev r y))) br z := by
  have sx := ys_stb_mono hx (Nat.le_succ _)
  have sy := ys_stb_mono hy (Nat.le_succ _)
  have sn : ys_stb (b.1.length + 1) (ys_sym b.1.length) := ys_stb_sym (Nat.lt_succ_self _)
  unfold yt_band at hs
  split at hs
  · rename_i u hu
    obtain ⟨e1, e2, e3⟩ := ys_nnb32 hb.1 hu
    obtain ⟨a1, a2⟩ := ys_and32 (Int32.ofInt (ys_ev r x)) (y := Int32.ofInt (ys_ev r y)) (by rw [e1]; exact e2)
    rw [e1] at a2
    split at hs
    · rename_i hc
      rw [Bool.and_eq_true] at hc
      have ex := ys_inr32 hb.1 hc.2
      have e4 := ys_geb_le hb.1 hc.1
      obtain ⟨-, a3⟩ := ys_and32 (Int32.ofInt (ys_ev r y)) (y := Int32.ofInt (ys_ev r x)) (by rw [ex]; exact e4)
      rw [ex, yt_and_comm32] at a3
      cases Option.some.inj hs
      refine ⟨fun br hbr => ?_, _, List.mem_cons_self, (Int32.ofInt (ys_ev r x) &&& Int32.ofInt (ys_ev r y)).toInt, ⟨a1, by show _ ≤ u; omega⟩, yt_fk2 ?_ ?_, ?_, fun z => by cases z⟩
      · rw [List.mem_singleton.mp hbr]
        exact ⟨yt_all2 (ys_stb_sub sy sn) (ys_stb_sub sx sn), sn⟩
      · rw [ys_sub_ev, yt_up_ev hy, yt_up_sym]; omega
      · rw [ys_sub_ev, yt_up_ev hx, yt_up_sym]; omega
      · show Value.int (Int32.ofInt (ys_ev _ (ys_sym b.1.length))) = _
        rw [yt_up_sym, Int32.ofInt_toInt]
    · cases Option.some.inj hs
      refine ⟨fun br hbr => ?_, _, List.mem_cons_self, (Int32.ofInt (ys_ev r x) &&& Int32.ofInt (ys_ev r y)).toInt, ⟨a1, by show _ ≤ u; omega⟩, ys_fk1 ?_, ?_, fun z => by cases z⟩
      · rw [List.mem_singleton.mp hbr]
        exact ⟨yt_all1 (ys_stb_sub sy sn), sn⟩
      · rw [ys_sub_ev, yt_up_ev hy, yt_up_sym]; omega
      · show Value.int (Int32.ofInt (ys_ev _ (ys_sym b.1.length))) = _
        rw [yt_up_sym, Int32.ofInt_toInt]
  · cases hs
/-- how far from 0 -/
def yt_babs (w : Bool) (b : ys_B) (x : ys_L) : Option (List yt_Br) := if ys_inr w b.1 x then (if ys_geb b.1 x (ys_mn w + 1) then some [((0, 0), [x], x, false), ((0, 0), [yt_m1 (yt_ng x)], yt_ng x, false)] else some [((0, 0), [x], x, false), ((0, 0), [yt_m1 (yt_ng x), ys_sub x ([], ys_mn w + 1)], yt_ng x, false), ((0, 0), [ys_sub ([], ys_mn w) x], ([], ys_mn w), false)]) else none
theorem yt_babs_ok {w : Bool} {b : ys_B} {x : ys_L} {brs : List yt_Br} (hs : yt_babs w b x = some brs) (hx : ys_stb b.1.length x) {r : Nat → Int} (hb : ys_okB r b) {V : Value} (hV1 : 0 ≤ ys_ev r x → V = yt_vl w (ys_ev r x)) (hV2 : ys_ev r x < 0 → V = yt_vl w (-ys_ev r x)) (hV3 : ys_ev r x = ys_mn w → V = yt_vl w (ys_mn w)) : (ys_mn w ≤ ys_ev r x ∧ ys_ev r x ≤ ys_mx w) ∧ (∀ br ∈ brs, yt_bst b.1.length br) ∧ ∃ br ∈ brs, ∃ z, yt_sel w b.1.length r x x V br z := by
  have sx := ys_stb_mono hx (Nat.le_succ _)
  unfold yt_babs at hs
  split at hs
  · rename_i hc
    have rx := ys_inr_ok hb.1 hc
    refine ⟨rx, ?_⟩
    split at hs
    · cases Option.some.inj hs
      refine ⟨fun br hbr => ?_, ?_⟩
      · rcases List.mem_cons.mp hbr with q | hbr
        · rw [q]
          exact ⟨yt_all1 sx, sx⟩
        · rw [List.mem_singleton.mp hbr]
          exact ⟨yt_all1 (ys_stb_m1 (ys_stb_scale _ sx)), ys_stb_scale _ sx⟩
      · by_cases h0 : 0 ≤ ys_ev r x
        · refine ⟨_, List.mem_cons_self, 0, ⟨Int.le_refl 0, Int.le_refl 0⟩, ys_fk1 ?_, ?_, fun z => by cases z⟩
          · rw [yt_up_ev hx]; exact h0
          · dsimp only
            rw [yt_up_ev hx, hV1 h0]
        · refine ⟨_, List.mem_cons_of_mem _ List.mem_cons_self, 0, ⟨Int.le_refl 0, Int.le_refl 0⟩, ys_fk1 ?_, ?_, fun z => by cases z⟩
          · rw [yt_m1_ev, yt_ng_ev, yt_up_ev hx]; omega
          · dsimp only
            rw [yt_ng_ev, yt_up_ev hx, hV2 (by omega)]
    · cases Option.some.inj hs
      refine ⟨fun br hbr => ?_, ?_⟩
      · rcases List.mem_cons.mp hbr with q | hbr
        · rw [q]
          exact ⟨yt_all1 sx, sx⟩
        rcases List.mem_cons.mp hbr with q | hbr
        · rw [q]
          exact ⟨yt_all2 (ys_stb_m1 (ys_stb_scale _ sx)) (ys_stb_sub sx (ys_stb_cst _)), ys_stb_scale _ sx⟩
        · rw [List.mem_singleton.mp hbr]
          exact ⟨yt_all1 (ys_stb_sub (ys_stb_cst _) sx), ys_stb_cst _⟩
      · by_cases h0 : 0 ≤ ys_ev r x
        · refine ⟨_, List.mem_cons_self, 0, ⟨Int.le_refl 0, Int.le_refl 0⟩, ys_fk1 ?_, ?_, fun z => by cases z⟩
          · rw [yt_up_ev hx]; exact h0
          · dsimp only
            rw [yt_up_ev hx, hV1 h0]
        · by_cases h1 : ys_ev r x = ys_mn w
          · refine ⟨_, List.mem_cons_of_mem _ (List.mem_cons_of_mem _ List.mem_cons_self), 0, ⟨Int.le_refl 0, Int.le_refl 0⟩, ys_fk1 ?_, ?_, fun z => by cases z⟩
            · rw [ys_sub_ev, yt_up_ev hx, ys_ev0]; omega
            · dsimp only
              rw [ys_ev0, hV3 h1]
          · refine ⟨_, List.mem_cons_of_mem _ List.mem_cons_self, 0, ⟨Int.le_refl 0, Int.le_refl 0⟩, yt_fk2 ?_ ?_, ?_, fun z => by cases z⟩
            · rw [yt_m1_ev, yt_ng_ev, yt_up_ev hx]; omega
            · rw [ys_sub_ev, yt_up_ev hx, ys_ev0]; omega
            · dsimp only
              rw [yt_ng_ev, yt_up_ev hx, hV2 (by omega)]
  · cases hs
end
section
/-! a call by a contract over a part of the world -/
def yt_rV (em : List Nat) (v : ys_V) : ys_V := match v with
  | .inl x => .inl x
  | .inr none => .inr none
  | .inr (some j) => .inr (some (yt_e em j))
theorem yt_rV_den {ad : Nat → Nat} {r : Nat → Int} {em : List Nat} (v : ys_V) : ys_den ad r (yt_rV em v) = ys_den (fun k => ad (yt_e em k)) r v := by
  rcases v with (x | x) | x
  · rfl
  · rfl
  · cases x <;> rfl
theorem yt_rV_st {n : Nat} {em : List Nat} {v : ys_V} (h : ys_stV n v) : ys_stV n (yt_rV em v) := by
  rcases v with (x | x) | x
  · exact h
  · exact h
  · cases x <;> trivial
theorem yt_rV_cat {em : List Nat} {v : ys_V} : ys_cat (yt_rV em v) = ys_cat v := by
  rcases v with (x | x) | x
  · rfl
  · rfl
  · cases x <;> rfl
/-- where a cell stands among others -/
def yt_ix (j : Nat) : Nat → List Nat → Option Nat
  | _, [] => none
  | i, x :: t => if x = j then some i else yt_ix j (i + 1) t
theorem yt_ix_some {j k : Nat} : ∀ (l : List Nat) (i : Nat), yt_ix j i l = some k → ∃ n, k = i + n ∧ l[n]? = some j
  | [], i, h => by cases h
  | x :: t, i, h => by
    unfold yt_ix at h
    split at h
    · rename_i e
      cases Option.some.inj h
      exact ⟨0, rfl, by rw [e]; rfl⟩
    · obtain ⟨n, h1, h2⟩ := yt_ix_some t (i + 1) h
      exact ⟨n + 1, by omega, h2⟩
theorem yt_ix_none {j : Nat} : ∀ (l : List Nat) (i : Nat), yt_ix j i l = none → j ∉ l
  | [], i, _ => List.not_mem_nil
  | x :: t, i, h => by
    unfold yt_ix at h
    split at h
    · cases h
    · rename_i e
      intro hm
      rcases List.mem_cons.mp hm with q | q
      · exact e q.symm
      · exact yt_ix_none t (i + 1) h q
def yt_shok1 (em : List Nat) (c' : ys_C) (c : Option ys_C) : Bool := match c', c with
  | .inl ci, some (.inl cj) => decide (ci = cj)
  | .inr a, some (.inr a2) => decide (a2 = (a.1, a.2.1, a.2.2.map (yt_e em)))
  | _, _ => false
def yt_shok (em : List Nat) (sh' sh : List ys_C) : Bool := decide (sh'.length ≤ em.length) && (va_nd em && (em.all (fun j => decide (j < 100000)) && (sh'.zip em).all (fun q => yt_shok1 em q.1 sh[q.2]?)))
theorem yt_con_eq {ad : Nat → Nat} {em : List Nat} {f : Nat → Int} {a : Nat × Nat × List Nat} : ys_con (fun k => ad (yt_e em k)) f a = ys_con ad f (a.1, a.2.1, a.2.2.map (yt_e em)) := by
  unfold ys_con
  have e1 : (fun j : Nat => (a.2.2[j]?).map fun k => ad (yt_e em k)) = fun j : Nat => ((a.2.2.map (yt_e em))[j]?).map ad := by
    funext j
    rw [List.getElem?_map, Option.map_map]
    rfl
  rw [e1]
theorem yt_cel_eq {ad : Nat → Nat} {cT : Nat → ClassId} {em : List Nat} {r r' : Nat → Int} {g g' : yt_G} {k j : Nat} {c c' : ys_C} {fs fs' : List ys_V} (hc : yt_shok1 em c' (some c) = true) (hj : yt_e em k = j) (hg : g' k = g j) (hf : fs'.map (ys_den (fun k => ad (yt_e em k)) r') = fs.map (ys_den ad r)) : ys_cel (fun k => ad (yt_e em k)) cT r' g' k c' fs' = ys_cel ad cT r g j c fs := by
  subst hj
  cases c' with
  | inl ci =>
    cases c with
    | inl cj =>
      have e1 : ci = cj := of_decide_eq_true hc
      show (ad (yt_e em k), Sum.inr (ci, _)) = (ad (yt_e em k), Sum.inr (cj, _))
      rw [hf, e1]
    | inr a2 => cases hc
  | inr a =>
    cases c with
    | inl cj => cases hc
    | inr a2 =>
      have e1 : a2 = (a.1, a.2.1, a.2.2.map (yt_e em)) := of_decide_eq_true hc
      subst e1
      show (ad (yt_e em k), Sum.inl (cT a.1, ys_con (fun k => ad (yt_e em k)) (g' k) a)) = (ad (yt_e em k), Sum.inl (cT a.1, ys_con ad (g (yt_e em k)) (a.1, a.2.1, a.2.2.map (yt_e em))))
      rw [hg, yt_con_eq]
theorem yt_shok_ok {em : List Nat} {sh' sh : List ys_C} (h : yt_shok em sh' sh = true) : sh'.length ≤ em.length ∧ va_nd em = true ∧ (∀ j ∈ em, j < 100000) ∧ ∀ (k : Nat) (c' : ys_C), sh'[k]? = some c' → ∃ c, em[k]? = some (yt_e em k) ∧ sh[yt_e em k]? = some c ∧ yt_shok1 em c' (some c) = true := by
  unfold yt_shok at h
  rw [Bool.and_eq_true, Bool.and_eq_true, Bool.and_eq_true, decide_eq_true_eq] at h
  obtain ⟨h1, h2, h3, h4⟩ := h
  refine ⟨h1, h2, fun j hj => of_decide_eq_true (List.all_eq_true.mp h3 j hj), fun k c' hk => ?_⟩
  have hlt : k < em.length := by
    have := (List.getElem?_eq_some_iff.mp hk).1
    omega
  have e1 : em[k]? = some (yt_e em k) := by
    unfold yt_e
    rw [List.getD_eq_getElem?_getD, List.getElem?_eq_getElem hlt]
    rfl
  have e2 : (sh'.zip em)[k]? = some (c', yt_e em k) := by
    rw [List.getElem?_zip_eq_some]
    exact ⟨hk, e1⟩
  have e3 := List.all_eq_true.mp h4 _ (List.mem_of_getElem? e2)
  dsimp only at e3
  cases hc : sh[yt_e em k]? with
  | none =>
    rw [hc] at e3
    cases c' <;> cases e3
  | some c =>
    rw [hc] at e3
    exact ⟨c, e1, rfl, e3⟩
theorem yt_wld_sub {ad : Nat → Nat} {cT : Nat → ClassId} {em : List Nat} {sh' sh : List ys_C} (h : yt_shok em sh' sh = true) {r r' : Nat → Int} {g : yt_G} {F F' : List (List ys_V)} (hf : ∀ k, k < sh'.length → (F'.getD k []).map (ys_den (fun k => ad (yt_e em k)) r') = (F.getD (yt_e em k) []).map (ys_den ad r)) (k : Nat) (q : Nat × va_E) (hq : (ys_wld (fun k => ad (yt_e em k)) cT sh' r' (yt_sub em g) F')[k]? = some q) : (ys_wld ad cT sh r g F)[yt_e em k]? = some q := by
  obtain ⟨h1, h2, h3, h4⟩ := yt_shok_ok h
  have hlt : k < sh'.length := by
    have := (List.getElem?_eq_some_iff.mp hq).1
    rw [ys_wld_len] at this
    exact this
  obtain ⟨c, e1, e2, e3⟩ := h4 k _ (List.getElem?_eq_getElem hlt)
  rw [ys_wld_get (List.getElem?_eq_getElem hlt)] at hq
  rw [ys_wld_get e2, ← hq]
  congr 1
  exact (yt_cel_eq e3 rfl rfl (hf k hlt)).symm
/-- rows put back among the others -/
def yt_bk {α : Type} (em : List Nat) (rows old : List α) : List α := (List.range old.length).filterMap fun j => match yt_ix j 0 em with
  | some k => rows[k]?
  | none => old[j]?
def yt_bkl {α : Type} (em : List Nat) (rows old : List α) : Bool := decide (rows.length = em.length) && em.all (fun j => decide (j < old.length))
theorem yt_fm {α β : Type} {f : α → Option β} : ∀ (l : List α), (∀ x ∈ l, (f x).isSome = true) → ∀ i : Nat, (l.filterMap f)[i]? = (l[i]?).bind f
  | [], _, i => by simp
  | x :: t, h, i => by
    obtain ⟨y, hy⟩ := Option.isSome_iff_exists.mp (h x List.mem_cons_self)
    rw [List.filterMap_cons, hy]
    cases i with
    | zero => simp [hy]
    | succ i =>
      rw [List.getElem?_cons_succ, List.getElem?_cons_succ]
      exact yt_fm t (fun z hz => h z (List.mem_cons_of_mem _ hz)) i
theorem yt_bk_get {α : Type} {em : List Nat} {rows old : List α} (h : yt_bkl em rows old = true) (j : Nat) (hj : j < old.length) : (yt_bk em rows old)[j]? = match yt_ix j 0 em with
    | some k => rows[k]?
    | none => old[j]? := by
  unfold yt_bkl at h
  rw [Bool.and_eq_true, decide_eq_true_eq] at h
  unfold yt_bk
  rw [yt_fm, List.getElem?_range hj]
  · rfl
  · intro x hx
    have hx := List.mem_range.mp hx
    cases hc : yt_ix x 0 em with
    | none =>
      show (old[x]?).isSome = true
      rw [List.getElem?_eq_getElem hx]
      rfl
    | some k =>
      obtain ⟨n, e1, e2⟩ := yt_ix_some em 0 hc
      have := (List.getElem?_eq_some_iff.mp e2).1
      show (rows[k]?).isSome = true
      rw [List.getElem?_eq_getElem (by omega)]
      rfl
theorem yt_bk_len {α : Type} {em : List Nat} {rows old : List α} (h : yt_bkl em rows old = true) : (yt_bk em rows old).length = old.length := by
  have h1 : ∀ j, j < old.length → (yt_bk em rows old)[j]?.isSome = true := fun j hj => by
    rw [yt_bk_get h j hj]
    unfold yt_bkl at h
    rw [Bool.and_eq_true, decide_eq_true_eq] at h
    cases hc : yt_ix j 0 em with
    | none =>
      show (old[j]?).isSome = true
      rw [List.getElem?_eq_getElem hj]
      rfl
    | some k =>
      obtain ⟨n, e1, e2⟩ := yt_ix_some em 0 hc
      have := (List.getElem?_eq_some_iff.mp e2).1
      show (rows[k]?).isSome = true
      rw [List.getElem?_eq_getElem (by omega)]
      rfl
  have h2 : (yt_bk em rows old).length ≤ old.length := by
    unfold yt_bk
    refine Nat.le_trans (List.length_filterMap_le _ _) ?_
    rw [List.length_range]
    exact Nat.le_refl _
  rcases Nat.lt_or_ge (yt_bk em rows old).length old.length with q | q
  · have h3 := h1 _ q
    rw [List.getElem?_eq_none (Nat.le_refl _)] at h3
    cases h3
  · omega
def yt_gb (em : List Nat) (g g1 : yt_G) : yt_G := fun j => match yt_ix j 0 em with
  | some k => g1 k
  | none => g j
theorem yt_take_get {em : List Nat} {nc n j : Nat} (h : (em.take nc)[n]? = some j) : n < nc ∧ em[n]? = some j := by
  rw [List.getElem?_take] at h
  split at h
  · rename_i hn
    exact ⟨hn, h⟩
  · cases h
theorem yt_e_get {em : List Nat} {k : Nat} (hk : k < em.length) : em[k]? = some (yt_e em k) := by
  unfold yt_e
  rw [List.getD_eq_getElem?_getD, List.getElem?_eq_getElem hk]
  rfl
theorem yt_gb_sub {em : List Nat} {g g1 : yt_G} {nc : Nat} (hn : va_nd em = true) (hl : ∀ j ∈ em, j < 100000) (hnc : nc ≤ em.length) {mods : List Nat} (hm : ∀ k ∈ mods, k < nc) (hg : ∀ k, k ∉ mods → g1 k = yt_sub em g k) : yt_sub em (yt_gb (em.take nc) g g1) = g1 := by
  funext k
  show yt_gb (em.take nc) g g1 (yt_e em k) = g1 k
  unfold yt_gb
  by_cases hk : k < nc
  · have e1 := yt_e_get (em := em) (k := k) (by omega)
    have e0 : (em.take nc)[k]? = some (yt_e em k) := by
      rw [List.getElem?_take, if_pos hk]
      exact e1
    cases hc : yt_ix (yt_e em k) 0 (em.take nc) with
    | none => exact absurd (List.mem_of_getElem? e0) (yt_ix_none _ 0 hc)
    | some i =>
      obtain ⟨n, e2, e3⟩ := yt_ix_some _ 0 hc
      have e4 := va_nd_inj em hn n k _ (yt_take_get e3).2 e1
      show g1 i = g1 k
      rw [e2, e4, Nat.zero_add]
  · have h2 := hg k (fun h => hk (hm k h))
    cases hc : yt_ix (yt_e em k) 0 (em.take nc) with
    | none =>
      show g (yt_e em k) = g1 k
      rw [h2]
      rfl
    | some i =>
      obtain ⟨n2, e2, e3⟩ := yt_ix_some _ 0 hc
      obtain ⟨f1, f2⟩ := yt_take_get e3
      by_cases hke : k < em.length
      · have := va_nd_inj em hn n2 k _ f2 (yt_e_get hke)
        omega
      · have e1 : yt_e em k = 100000 := by
          unfold yt_e
          rw [List.getD_eq_getElem?_getD, List.getElem?_eq_none (by omega)]
          rfl
        have := hl _ (List.mem_of_getElem? f2)
        omega
/-! contracts with words of their own: what must hold ahead, what holds behind -/
abbrev yt_Ps : Type := (Nat → Int) → yt_G → Prop
abbrev yt_Ph : Type := Nat → (Nat → Int) → yt_G → yt_G → Prop
section YTK
variable (l : Launch) (D : va_G) (cl : List vw_C) (cT : Nat → ClassId) (tys : List (ClassId × FieldType)) (G : List Cond)
def yt_Alt (ad : Nat → Nat) (sh : List ys_C) (K : ys_K) (Ph : yt_Ph) (r0 : Nat → Int) (g0 : yt_G) (sz : Nat) (i : Nat) (a : ys_A) (oc : Outcome) (t : State) : Prop := ∃ (r1 : Nat → Int) (g1 : yt_G), ((∀ i, i < K.2.1.2.1.1.length → r1 i = r0 i) ∧ (∀ i, K.2.1.2.1.1.length + a.1.length ≤ i → r1 i = 0) ∧ (∀ (j : Nat) (q : Int × Int), a.1[j]? = some q → q.1 ≤ r1 (K.2.1.2.1.1.length + j) ∧ r1 (K.2.1.2.1.1.length + j) ≤ q.2) ∧ ys_fk r1 a.2.1 ∧ ys_gok K.2.2.2 a.2.2.1.2 g0 g1 ∧ va_P D cl (ys_wld ad cT sh r1 g1 a.2.2.1.1) t.heap ∧ va_D (va_A (ys_wK ad cT sh K r0 g0) sz) (ys_wld ad cT sh r1 g1 a.2.2.1.1) ∧ va_K D cl tys t ∧ oc = .returned (a.2.2.2.map (ys_den ad r1))) ∧ Ph i r1 g0 g1
def yt_Post (ad : Nat → Nat) (sh : List ys_C) (K : ys_K) (Ph : yt_Ph) (r0 : Nat → Int) (g0 : yt_G) (sz : Nat) : Array Value → State → Outcome → State → Prop := fun _ st oc t => (∃ (i : Nat) (a : ys_A), K.2.2.1[i]? = some a ∧ yt_Alt D cl cT tys ad sh K Ph r0 g0 sz i a oc t) ∧ va_F (va_A (ys_wK ad cT sh K r0 g0) sz) st t
def yt_Con (sh : List ys_C) (K : ys_K) (Ps : yt_Ps) (Ph : yt_Ph) : Prop := ∀ (ad : Nat → Nat) (r0 : Nat → Int) (g0 : yt_G) (sz : Nat), ys_okB r0 K.2.1.2.1 → (∀ i, K.2.1.2.1.1.length ≤ i → r0 i = 0) → (∀ (k : Nat) (a : ys_R), K.2.1.2.2.2[k]? = some a → ys_rok a (g0 k)) → Ps r0 g0 → Met l K.1.1.1 (ys_ws G K) (ys_rm K) (ys_Pre D cl ad cT sh tys K r0 g0 sz) (yt_Post D cl cT tys ad sh K Ph r0 g0 sz) 0 0 (va_A (ys_wK ad cT sh K r0 g0) sz)
end YTK
/-- the state behind a call -/
def yt_dR : ys_R := ((0, 0), [])
def yt_aft (pc : Nat) (b : ys_B) (fds : ys_F) (lv : List (Nat × ys_V)) (rest : List ys_V) (h : List yt_Ev) (d : Nat) (em ec : List Nat) (K : ys_K) (t : List ys_L) (i : Nat) (a : ys_A) : List yt_U := match ys_ass (b.1 ++ a.1, b.2) (a.2.1.map (ys_put 0 (ys_tau b.1.length t a))) with
  | some b' => [(pc, (b', (yt_bk ec (a.2.2.1.1.map (fun w => w.map fun v => yt_rV em (ys_pV 0 (ys_tau b.1.length t a) v))) fds.1, yt_bk ec (ys_arm K.2.2.2 0 (ec.map fun k => fds.2.getD k yt_dR) a.2.2.1.2) fds.2), lv, a.2.2.2.toList.map (fun v => yt_rV em (ys_pV 0 (ys_tau b.1.length t a) v)) ++ rest), if d = 0 ∧ K.2.2.2 = [] then h else .inr (.inr (.inl (d, i, ys_tau b.1.length t a, em, K.2.2.2.map (yt_e em)))) :: h)]
  | none => []
abbrev yt_CE : Type := ((Nat × Bool) × (Nat × Bool × List Nat)) × (List ys_C × ys_K)
def yt_ats (pc : Nat) (b : ys_B) (fds : ys_F) (lv : List (Nat × ys_V)) (rest : List ys_V) (h : List yt_Ev) (d : Nat) (em ec : List Nat) (K : ys_K) (t : List ys_L) : Nat → List ys_A → List yt_U
  | _, [] => []
  | i, a :: x => yt_aft pc b fds lv rest h d em ec K t i a ++ yt_ats pc b fds lv rest h d em ec K t (i + 1) x
theorem yt_ats_mem {pc : Nat} {b : ys_B} {fds : ys_F} {lv : List (Nat × ys_V)} {rest : List ys_V} {h : List yt_Ev} {d : Nat} {em ec : List Nat} {K : ys_K} {t : List ys_L} : ∀ (x : List ys_A) (i j : Nat) (a : ys_A), x[j]? = some a → ∀ q ∈ yt_aft pc b fds lv rest h d em ec K t (i + j) a, q ∈ yt_ats pc b fds lv rest h d em ec K t i x
  | [], i, j, a, hj, q, hq => by cases hj
  | a0 :: x, i, 0, a, hj, q, hq => by
    cases hj
    exact List.mem_append_left _ hq
  | a0 :: x, i, j + 1, a, hj, q, hq => List.mem_append_right _ (yt_ats_mem x (i + 1) j a hj q (by rw [show i + 1 + j = i + (j + 1) by omega]; exact hq))
def yt_hcall (fr lo : Nat) (mods : List Nat) (C : yt_CE) (h : List yt_Ev) (pc : Nat) (b : ys_B) (fds : ys_F) (lv : List (Nat × ys_V)) (sv : List ys_V) : Option (List ys_L × List yt_U) := match ys_zf (C.2.2.2.1.2.2.1.map fun w => w.map (yt_rV C.1.2.2.2)) ((C.1.2.2.2.take C.2.1.length).map fun k => fds.1.getD k []) with
  | some fp => if decide (C.2.2.2.1.1.length ≤ sv.length) && (decide (((sv.drop C.2.2.2.1.1.length).map ys_cat).sum ≤ 8) && (decide (C.2.2.1.2.1 + 1 ≤ fr) && (decide (8 + (C.2.2.1.1.2.2.1 + 11) + C.2.2.1.2.2 ≤ lo) && (C.2.2.2.2.2.all (fun k => mods.contains (yt_e C.1.2.2.2 k) && decide (k < C.2.1.length)) && (C.2.2.2.2.1.all (fun a => decide (a.2.2.1.1.length = C.2.1.length) && decide (a.2.2.1.2.length = C.2.1.length)) && (C.1.2.2.2.take C.2.1.length).all (fun j => decide (j < fds.1.length) && decide (j < fds.2.length))))))) then (match ys_mat b ((C.1.2.2.2.take C.2.1.length).map fun k => fds.2.getD k yt_dR) 0 C.2.2.2.1.2.1.1 C.2.2.2.1.2.1.2 C.2.2.2.1.2.2.2 ((C.2.2.2.1.1.map (yt_rV C.1.2.2.2)).zip (sv.take C.2.2.2.1.1.length).reverse ++ fp) with
      | some t => some (t, yt_ats (pc + 3) b fds lv (sv.drop C.2.2.2.1.1.length) h C.1.2.1 C.1.2.2.2 (C.1.2.2.2.take C.2.1.length) C.2.2 t 0 C.2.2.2.2.1)
      | none => none) else none
  | none => none
section YTC
variable {p : Program} {l : Launch} {e : Env} {R : Room} {s : State} {m : MethodId} {args : Array Value} {below : List Frame} {meth : Method} {c : Code} {Q : State → Prop} {kc kz : Nat} {D : va_G} {cl : List vw_C} {ad : Nat → Nat} {cT : Nat → ClassId} {sh : List ys_C} {A : Nat → Prop} {H0 : Heap} {nL : Nat} {mods : List Nat} {g0 : yt_G} {r0 : Nat → Int} {E : Nat} {tb : yt_Tb} {gi : yt_G} {h : List yt_Ev} {pc : Nat} {b : ys_B} {fds : ys_F} {lv : List (Nat × ys_V)} {sv : List ys_V} {cc : ByteArray} {own : String} {Ts : List Cond} {tys : List (ClassId × FieldType)}
variable {G : List Cond} {K : ys_K} {sh' : List ys_C} {em ec : List Nat} {d : Nat}
theorem yt_kaft {t : List ys_L} {i : Nat} {a : ys_A} {r : Nat → Int} {g : yt_G} {H H1 : Heap} {locs locs1 : List Loc} {ls : Array Slot} {st : List Value} {v : Option Value} {t1 : State} (hrep : ys_rep D cl ad cT sh A H0 nL [] g r0 r E (b, fds, lv, sv) H locs ls st) (hh : yt_h tb r gi h g) (hsc : ∀ v ∈ h, yt_sc b.1.length v) (hm0 : ∀ k, k ∉ mods → g k = g0 k) (hsh : yt_shok em sh' sh = true) (hshl : sh.length = fds.1.length) (ht : ∀ x ∈ t, ys_stb b.1.length x) (hlen : t.length = K.2.1.2.1.1.length) (hec : ec = em.take sh'.length) (hm : ∀ k, k ∈ K.2.2.2 → yt_e em k ∈ mods ∧ k < sh'.length) (hal : a.2.2.1.1.length = sh'.length ∧ a.2.2.1.2.length = sh'.length) (hel : ∀ j ∈ ec, j < fds.1.length ∧ j < fds.2.length) (hA : yt_Alt D cl cT tys (fun k => ad (yt_e em k)) sh' K (tb d) (ys_val r 0 t) (yt_sub em g) H.size i a (.returned v) t1) (hH1 : t1.heap = H1) (hkeep : ∀ q, q < H.size → ¬ (∃ j ∈ ec, q = ad j) → H1[q]? = H[q]?) (hS1 : va_S A H0 H1 locs1) (k : ∀ q ∈ yt_aft pc b fds lv sv h d em ec K t i a, yt_X p l e R s m args below meth c Q kc kz D cl ad cT sh A H0 nL mods g0 r0 E tb gi q.2.2 q.1 q.2.1) : W p l e R s m args below meth c H1 locs1 kc kz Q (F0 m pc ls (v.toList ++ st)) := by
  obtain ⟨r1, g1, ⟨a1, a2, a3, a4, a5, a6, a7, a8, a9⟩, aP⟩ := hA
  obtain ⟨hl1, hnd, hl2, hcl⟩ := yt_shok_ok hsh
  obtain ⟨hg, hP, hD, hS⟩ := yt_wd hrep
  have hecl : ec.length = sh'.length := by rw [hec, List.length_take]; omega
  have hecg : ∀ n j, ec[n]? = some j → n < sh'.length ∧ em[n]? = some j := fun n j hn => by rw [hec] at hn; exact yt_take_get hn
  have hece : ∀ n j, ec[n]? = some j → yt_e em n = j := fun n j hn => by
    have := (hecg n j hn).2
    rw [yt_e_get (List.getElem?_eq_some_iff.mp this).1] at this
    exact Option.some.inj this
  obtain ⟨r', hr'⟩ : ∃ r' : Nat → Int, r' = fun i => if i < b.1.length then r i else r1 (t.length + (i - b.1.length)) := ⟨_, rfl⟩
  have hlo : ∀ i, i < b.1.length → r' i = r i := fun i hi => by rw [hr']; exact if_pos hi
  have hhi : ∀ j, r' (b.1.length + j) = r1 (t.length + j) := fun j => by
    rw [hr']
    show (if b.1.length + j < b.1.length then _ else _) = _
    rw [if_neg (by omega), show b.1.length + j - b.1.length = j by omega]
  have hv : ys_val r' 0 (ys_tau b.1.length t a) = r1 := by
    funext i
    show ys_ev r' (ys_at 0 (ys_tau b.1.length t a) i) = r1 i
    unfold ys_at
    rw [if_neg (by omega), Nat.sub_zero, ys_tau_get]
    by_cases h1 : i < t.length
    · rw [if_pos h1]
      have e1 : ys_val r 0 t i = ys_ev r (t.getD i ([], 0)) := by
        show ys_ev r (ys_at 0 t i) = _
        unfold ys_at
        rw [if_neg (by omega), Nat.sub_zero]
      have hmem : ys_stb b.1.length (t.getD i ([], 0)) := by
        rw [List.getD_eq_getElem?_getD, List.getElem?_eq_getElem h1]
        exact ht _ (List.getElem_mem h1)
      rw [hmem r' r hlo, ← e1, a1 i (by omega)]
    · rw [if_neg h1]
      by_cases h2 : i < t.length + a.1.length
      · rw [if_pos h2, ys_sym_ev, hhi, show t.length + (i - t.length) = i by omega]
      · rw [if_neg h2, a2 i (by omega)]
        rfl
  have hlen2 : (b.1 ++ a.1).length = b.1.length + a.1.length := List.length_append
  have hok : ys_okB r' (b.1 ++ a.1, b.2) := by
    refine ⟨fun i w hi => ?_, fun f hf => ?_⟩
    · by_cases hl : i < b.1.length
      · rw [List.getElem?_append_left hl] at hi
        rw [hlo i hl]
        exact hrep.1.1 i w hi
      · rw [List.getElem?_append_right (by omega)] at hi
        have e2 := hhi (i - b.1.length)
        rw [show b.1.length + (i - b.1.length) = i by omega] at e2
        rw [e2, hlen]
        exact a3 _ w hi
    · rw [hrep.2.1.1 f hf r' r hlo]
      exact hrep.1.2 f hf
  have hfk : ys_fk r' (a.2.1.map (ys_put 0 (ys_tau b.1.length t a))) := by
    intro f hf
    obtain ⟨f0, hf0, e0⟩ := List.mem_map.mp hf
    rw [← e0, ys_put_ev, hv]
    exact a4 f0 hf0
  have htt : ∀ x ∈ ys_tau b.1.length t a, ys_stb (b.1.length + a.1.length) x := by
    intro x hx
    unfold ys_tau at hx
    rcases List.mem_append.mp hx with q | q
    · exact ys_stb_mono (ht x q) (by omega)
    · obtain ⟨j, hj, e0⟩ := List.mem_map.mp q
      rw [← e0]
      exact ys_stb_sym (by have := List.mem_range.mp hj; omega)
  obtain ⟨b', eb, hb'⟩ := ys_ass_ok _ hok hfk
  have hl' := ys_ass_len _ eb
  have hl' : b'.1.length = b.1.length + a.1.length := hl'.trans hlen2
  have hscb : ys_scB ((b.1 ++ a.1, b.2) : ys_B) := fun f hf => by
    show ys_stb (b.1 ++ a.1).length f
    rw [hlen2]
    exact ys_stb_mono (m := b.1.length + a.1.length) (hrep.2.1.1 f hf) (Nat.le_add_right _ _)
  have hsc' := ys_ass_sc (n := b.1.length + a.1.length) _ hlen2 hscb (fun f hf => by
    obtain ⟨f0, hf0, e0⟩ := List.mem_map.mp hf
    rw [← e0]
    exact ys_stb_put (by omega) htt f0) eb
  unfold yt_aft at k
  rw [eb] at k
  have k := k _ List.mem_cons_self
  obtain ⟨rows, erows⟩ : ∃ rows : List (List ys_V), rows = a.2.2.1.1.map (fun w => w.map fun v => yt_rV em (ys_pV 0 (ys_tau b.1.length t a) v)) := ⟨_, rfl⟩
  obtain ⟨ars, ears⟩ : ∃ ars : List ys_R, ars = ys_arm K.2.2.2 0 (ec.map fun k => fds.2.getD k yt_dR) a.2.2.1.2 := ⟨_, rfl⟩
  rw [← erows, ← ears] at k
  have hrl : rows.length = ec.length := by rw [erows, List.length_map, hecl]; exact hal.1
  have hb1 : yt_bkl ec rows fds.1 = true := by
    unfold yt_bkl
    rw [Bool.and_eq_true, decide_eq_true_eq]
    exact ⟨hrl, List.all_eq_true.mpr fun j hj => decide_eq_true (hel j hj).1⟩
  have harl : ars.length = ec.length := by
    rw [ears]
    have : ∀ (x y : List ys_R) (i : Nat), x.length = y.length → (ys_arm K.2.2.2 i x y).length = y.length := by
      intro x
      induction x with
      | nil => intro y i h; cases y with
        | nil => rfl
        | cons _ _ => cases h
      | cons x0 x ih => intro y i h; cases y with
        | nil => cases h
        | cons y0 y =>
          unfold ys_arm
          rw [List.length_cons, List.length_cons, ih y (i + 1) (by simpa using h)]
    rw [this _ _ _ (by rw [List.length_map, hecl]; exact hal.2.symm), hal.2, hecl]
  have hb2 : yt_bkl ec ars fds.2 = true := by
    unfold yt_bkl
    rw [Bool.and_eq_true, decide_eq_true_eq]
    exact ⟨harl, List.all_eq_true.mpr fun j hj => decide_eq_true (hel j hj).2⟩
  obtain ⟨g2, eg2⟩ : ∃ g2 : yt_G, g2 = yt_gb ec g g1 := ⟨_, rfl⟩
  have hsub : yt_sub em g2 = g1 := by
    rw [eg2, hec]
    exact yt_gb_sub hnd hl2 hl1 (fun k hk => (hm k hk).2) (fun k hk => a5.2 k hk)
  have hg2n : ∀ j, j ∉ ec → g2 j = g j := fun j hj => by
    rw [eg2]
    show yt_gb ec g g1 j = g j
    unfold yt_gb
    cases hc : yt_ix j 0 ec with
    | none => rfl
    | some k =>
      obtain ⟨n, -, e2⟩ := yt_ix_some ec 0 hc
      exact absurd (List.mem_of_getElem? e2) hj
  have hg2m : ∀ j, j ∉ K.2.2.2.map (yt_e em) → g2 j = g j := fun j hj => by
    by_cases hje : j ∈ ec
    · obtain ⟨k, hk⟩ := List.getElem?_of_mem hje
      have e1 : yt_e em k = j := hece k j hk
      have e2 : g2 (yt_e em k) = g1 k := congrFun hsub k
      rw [e1] at e2
      rw [e2, a5.2 k (fun hq => hj (List.mem_map.mpr ⟨k, hq, e1⟩))]
      show g (yt_e em k) = g j
      rw [e1]
    · exact hg2n j hje
  have hrow : ∀ kk, (rows.getD kk []).map (ys_den ad r') = (a.2.2.1.1.getD kk []).map (ys_den (fun k => ad (yt_e em k)) r1) := by
    intro kk
    rw [erows, List.getD_eq_getElem?_getD, List.getD_eq_getElem?_getD, List.getElem?_map]
    cases a.2.2.1.1[kk]? with
    | none => rfl
    | some w =>
      show (w.map fun v => yt_rV em (ys_pV 0 (ys_tau b.1.length t a) v)).map (ys_den ad r') = w.map (ys_den (fun k => ad (yt_e em k)) r1)
      rw [List.map_map]
      apply List.map_congr_left
      intro x _
      show ys_den ad r' (yt_rV em (ys_pV 0 _ x)) = _
      rw [yt_rV_den, ys_pV_den, hv]
  obtain ⟨-, ⟨s0, s1, s2, s3⟩, ⟨hE, hr0⟩, -, q4, q5⟩ := hrep
  have hst : v.toList ++ st = (a.2.2.2.toList.map (fun v => yt_rV em (ys_pV 0 (ys_tau b.1.length t a) v)) ++ sv).map (ys_den ad r') := by
    rw [List.map_append, q5]
    have e3 : v = a.2.2.2.map (ys_den (fun k => ad (yt_e em k)) r1) := by
      have := a9
      cases this
      rfl
    congr 1
    · rw [e3]
      cases a.2.2.2 with
      | none => rfl
      | some x =>
        show [ys_den (fun k => ad (yt_e em k)) r1 x] = [ys_den ad r' (yt_rV em (ys_pV 0 _ x))]
        rw [yt_rV_den, ys_pV_den, hv]
    · exact List.map_congr_left fun x hx => ys_den_cong (fun i hi => (hlo i hi).symm) (s3 x hx)
  -- the world behind the call, cell by cell
  have hcell : ∀ (j : Nat) (q : Nat × va_E), (ys_wld ad cT sh r' g2 (yt_bk ec rows fds.1))[j]? = some q → (∃ k : Nat, yt_e em k = j ∧ k < ec.length ∧ (ys_wld (fun k => ad (yt_e em k)) cT sh' r1 g1 a.2.2.1.1)[k]? = some q) ∨ (j ∉ ec ∧ (ys_wld ad cT sh r g fds.1)[j]? = some q) := by
    intro j q hq
    have hj : j < sh.length := by
      have := (List.getElem?_eq_some_iff.mp hq).1
      rw [ys_wld_len] at this
      exact this
    have hshj := List.getElem?_eq_getElem hj
    rw [ys_wld_get hshj] at hq
    have hgd : (yt_bk ec rows fds.1).getD j [] = (match yt_ix j 0 ec with
        | some k => rows[k]?
        | none => fds.1[j]?).getD [] := by
      rw [List.getD_eq_getElem?_getD, yt_bk_get hb1 j (by omega)]
    cases hc : yt_ix j 0 ec with
    | none =>
      right
      rw [hc] at hgd
      refine ⟨yt_ix_none ec 0 hc, ?_⟩
      rw [ys_wld_get hshj, ← hq]
      congr 1
      have e1 : (yt_bk ec rows fds.1).getD j [] = fds.1.getD j [] := by
        rw [hgd, List.getD_eq_getElem?_getD]
      rw [e1]
      have e2 : (fds.1.getD j []).map (ys_den ad r) = (fds.1.getD j []).map (ys_den ad r') := by
        apply List.map_congr_left
        intro x hx
        refine ys_den_cong (fun i hi => (hlo i hi).symm) ?_
        rw [List.getD_eq_getElem?_getD] at hx
        cases hcc : fds.1[j]? with
        | none => rw [hcc] at hx; cases hx
        | some w => rw [hcc] at hx; exact s1 w (List.mem_of_getElem? hcc) x hx
      unfold ys_cel
      cases sh[j] with
      | inl ci =>
        show (ad j, Sum.inr (ci, _)) = (ad j, Sum.inr (ci, _))
        rw [e2]
      | inr a =>
        show (ad j, Sum.inl (cT a.1, ys_con ad (g j) a)) = (ad j, Sum.inl (cT a.1, ys_con ad (g2 j) a))
        rw [hg2n j (yt_ix_none ec 0 hc)]
    | some k =>
      left
      obtain ⟨n, e1, e2⟩ := yt_ix_some ec 0 hc
      rw [Nat.zero_add] at e1
      subst e1
      have hk := (List.getElem?_eq_some_iff.mp e2).1
      have e3 : yt_e em k = j := hece k j e2
      refine ⟨k, e3, hk, ?_⟩
      have hsk := List.getElem?_eq_getElem (show k < sh'.length by omega)
      obtain ⟨c2, f1, f2, f3⟩ := hcl k _ hsk
      rw [e3, hshj] at f2
      rw [ys_wld_get hsk, ← hq]
      congr 1
      have e4 : sh[j] = c2 := Option.some.inj f2
      rw [e4]
      refine yt_cel_eq f3 e3 ?_ ?_
      · have := congrFun hsub k
        rw [← this]
        show g2 (yt_e em k) = g2 j
        rw [e3]
      · rw [hgd, hc]
        show _ = ((rows[k]?).getD []).map (ys_den ad r')
        rw [← List.getD_eq_getElem?_getD, hrow k]
  have hP2 : va_P D cl (ys_wld ad cT sh r' g2 (yt_bk ec rows fds.1)) H1 := by
    intro j q hq
    rcases hcell j q hq with ⟨k, e1, e2, e3⟩ | ⟨e1, e2⟩
    · rw [← hH1]
      exact a6 k q e3
    · have h1 := hP j q e2
      refine h1.kept (hkeep q.1 h1.lt fun hx => ?_)
      obtain ⟨j2, hj2, e3⟩ := hx
      have hj2l : j2 < sh.length := by rw [hshl]; exact (hel j2 hj2).1
      have e4 := ys_wld_get (ad := ad) (cT := cT) (r := r) (g := g) (fds := fds.1) (List.getElem?_eq_getElem hj2l)
      have e5 := hD.1 j j2 q _ e2 e4 e3
      exact e1 (e5 ▸ hj2)
  have hD2 : va_D A (ys_wld ad cT sh r' g2 (yt_bk ec rows fds.1)) := by
    have hadr : ∀ (j : Nat) (q : Nat × va_E), (ys_wld ad cT sh r' g2 (yt_bk ec rows fds.1))[j]? = some q → ∃ q0, (ys_wld ad cT sh r g fds.1)[j]? = some q0 ∧ q0.1 = q.1 := by
      intro j q hq
      have hj : j < sh.length := by
        have := (List.getElem?_eq_some_iff.mp hq).1
        rw [ys_wld_len] at this
        exact this
      rw [ys_wld_get (List.getElem?_eq_getElem hj)] at hq
      refine ⟨_, ys_wld_get (List.getElem?_eq_getElem hj), ?_⟩
      rw [← Option.some.inj hq]
      rfl
    refine ⟨fun i j x y hi hj hxy => ?_, fun k q hk => ?_⟩
    · obtain ⟨x0, f1, f2⟩ := hadr i x hi
      obtain ⟨y0, f3, f4⟩ := hadr j y hj
      exact hD.1 i j x0 y0 f1 f3 (by rw [f2, f4]; exact hxy)
    · obtain ⟨x0, f1, f2⟩ := hadr k q hk
      rw [← f2]
      exact hD.2 k x0 f1
  have hars2 : ∀ (kk : Nat) (z : ys_R), (yt_bk ec ars fds.2)[kk]? = some z → ys_rok z (g2 kk) := by
    intro j z hz
    have hj : j < fds.2.length := by
      have := (List.getElem?_eq_some_iff.mp hz).1
      rw [yt_bk_len hb2] at this
      exact this
    rw [yt_bk_get hb2 j hj] at hz
    cases hc : yt_ix j 0 ec with
    | none =>
      rw [hc] at hz
      rw [hg2n j (yt_ix_none ec 0 hc)]
      exact hg j z hz
    | some k =>
      rw [hc] at hz
      have hz : ars[k]? = some z := hz
      obtain ⟨n, e1, e2⟩ := yt_ix_some ec 0 hc
      rw [Nat.zero_add] at e1
      subst e1
      have e3 : yt_e em k = j := hece k j e2
      have e4 : g2 j = g1 k := by
        rw [← e3]
        exact congrFun hsub k
      rw [e4]
      rw [ears] at hz
      rcases ys_arm_get _ _ _ 0 k z hz with ⟨-, h2⟩ | ⟨h1, h2⟩
      · exact a5.1 k z h2
      · rw [Nat.zero_add] at h1
        rw [a5.2 k h1]
        show ys_rok z (g (yt_e em k))
        rw [e3]
        rw [List.getElem?_map, e2] at h2
        have h2 : some (fds.2.getD j yt_dR) = some z := h2
        refine hg j z ?_
        rw [← h2, List.getD_eq_getElem?_getD, List.getElem?_eq_getElem hj]
        rfl
  have hE' : E ≤ b'.1.length := by
    rw [hl']
    exact Nat.le_trans hE (by show b.1.length ≤ _; omega)
  have hbk1 : ∀ w ∈ yt_bk ec rows fds.1, ∀ v ∈ w, ys_stV b'.1.length v := by
    intro w hw x hx
    obtain ⟨j, hj⟩ := List.getElem?_of_mem hw
    have hjl : j < fds.1.length := by
      have := (List.getElem?_eq_some_iff.mp hj).1
      rw [yt_bk_len hb1] at this
      exact this
    rw [yt_bk_get hb1 j hjl] at hj
    rw [hl']
    cases hc : yt_ix j 0 ec with
    | none =>
      rw [hc] at hj
      exact ys_stV_mono (s1 w (List.mem_of_getElem? hj) x hx) (by show b.1.length ≤ _; omega)
    | some k =>
      rw [hc] at hj
      have hj : rows[k]? = some w := hj
      rw [erows] at hj
      obtain ⟨w0, -, e0⟩ := List.mem_map.mp (List.mem_of_getElem? hj)
      rw [← e0] at hx
      obtain ⟨x0, -, e1⟩ := List.mem_map.mp hx
      rw [← e1]
      exact yt_rV_st (ys_pV_st (by omega) htt x0)
  have hk2 : ∀ kk, kk ∉ mods → g2 kk = g0 kk := fun kk hkk => by
    rw [hg2m kk (fun hx => by
      obtain ⟨k0, h1, h2⟩ := List.mem_map.mp hx
      exact hkk (h2 ▸ (hm k0 h1).1))]
    exact hm0 kk hkk
  have hh2 := yt_h_cong (fun i hi => (hlo i hi).symm) hsc hh
  have hle : b.1.length ≤ b'.1.length := by rw [hl']; omega
  refine k r' g2 H1 locs1 ls _ ⟨hb', ⟨hsc', hbk1, fun q hq => ?_, fun x hx => ?_⟩, ⟨hE', fun i hi => (hlo i (Nat.lt_of_lt_of_le hi hE)).trans (hr0 i hi)⟩, ⟨g2, ⟨hars2, fun _ _ => rfl⟩, hP2, hD2, hS1⟩, ?_, hst⟩ ?_ (fun x hx => ?_) hk2
  · exact ys_stV_mono (s2 q hq) hle
  · show ys_stV b'.1.length _
    rw [hl']
    rcases List.mem_append.mp hx with q | q
    · obtain ⟨x0, -, e1⟩ := List.mem_map.mp q
      rw [← e1]
      exact yt_rV_st (ys_pV_st (by omega) htt x0)
    · exact ys_stV_mono (s3 x q) (by show b.1.length ≤ _; omega)
  · have e4 : ys_lvs ad r lv = ys_lvs ad r' lv := List.map_congr_left fun q hq => by rw [ys_den_cong (fun i hi => (hlo i hi).symm) (s2 q hq)]
    exact e4 ▸ q4
  · dsimp only
    split
    · rename_i hde
      have e5 : g2 = g := funext fun j => hg2m j (by rw [hde.2]; exact List.not_mem_nil)
      rw [e5]
      exact hh2
    · exact ⟨g, hh2, by
        show tb d i (ys_val r' 0 (ys_tau b.1.length t a)) (yt_sub em g) (yt_sub em g2)
        rw [hv, hsub]
        exact aP, hg2m⟩
  · dsimp only at hx
    split at hx
    · exact yt_sc_mono hle (hsc x hx)
    · rcases List.mem_cons.mp hx with q | q
      · rw [q]
        show ∀ y ∈ ys_tau b.1.length t a, ys_stb b'.1.length y
        rw [hl']
        exact htt
      · exact yt_sc_mono hle (hsc x q)
theorem yt_kcall {i : Instr} {fr lo : Nat} {C : yt_CE} {t : List ys_L} {succ : List yt_U} {Ps : yt_Ps} (S : CallFix p m c cc nL s args Ts own) (hK : va_K D cl tys s) (hA0 : ∀ q, H0.size ≤ q → A q) (hcon : yt_Con l D cl cT tys G C.2.1 C.2.2 Ps (tb C.1.2.1)) (hCL : ys_CL own Ts cl C.2.1 G i C.2.2) (hsh : yt_shok C.1.2.2.2 C.2.1 sh = true) (hshl : sh.length = fds.1.length) (hd : decode cc pc = .ok (i, 3)) (hfr : fr ≤ R.frames) (hlo : lo ≤ R.locals) (hkk : kc ≤ R.cells ∧ kz ≤ R.slots) (hs : yt_hcall fr lo mods C h pc b fds lv sv = some (t, succ)) (hps : ∀ (r : Nat → Int) (g : yt_G), ys_okB r b → (∀ i, i < E → r i = r0 i) → yt_h tb r gi h g → Ps (ys_val r 0 t) (yt_sub C.1.2.2.2 g)) (k : ∀ q ∈ succ, yt_X p l e R s m args below meth c Q kc kz D cl ad cT sh A H0 nL mods g0 r0 E tb gi q.2.2 q.1 q.2.1) : yt_X p l e R s m args below meth c Q kc kz D cl ad cT sh A H0 nL mods g0 r0 E tb gi h pc (b, fds, lv, sv) := by
  obtain ⟨⟨⟨idx0, st0⟩, d, hp, em⟩, sh', K⟩ := C
  dsimp only at hcon hCL hsh hps
  unfold yt_hcall at hs
  dsimp only at hs
  split at hs
  · rename_i fp hfp
    split at hs
    · rename_i hc
      simp only [Bool.and_eq_true, decide_eq_true_eq] at hc
      obtain ⟨c1, c2, c3, c4, c5, c6, c7⟩ := hc
      split at hs
      · rename_i t0 hmat
        cases Option.some.inj hs
        intro r g H locs ls st hrep hh hsc hm0
        obtain ⟨et, e2, e3, e4, e5, e6, e7⟩ := ys_mat_ok (ad := ad) hrep.1 hmat
        obtain ⟨hg, hP, hD, hS⟩ := yt_wd hrep
        obtain ⟨hl1, hnd, hl2, hcl⟩ := yt_shok_ok hsh
        have hel : ∀ j ∈ em.take sh'.length, j < fds.1.length ∧ j < fds.2.length := fun j hj => by
          have := List.all_eq_true.mp c7 j hj
          rw [Bool.and_eq_true, decide_eq_true_eq, decide_eq_true_eq] at this
          exact this
        have hsv : sv = sv.take K.2.1.1.length ++ sv.drop K.2.1.1.length := (List.take_append_drop _ _).symm
        have hst2 : ∀ q ∈ (K.2.1.1.map (yt_rV em)).zip (sv.take K.2.1.1.length).reverse ++ fp, ys_stV b.1.length q.2 := by
          intro q hq
          rcases List.mem_append.mp hq with g1 | g1
          · exact hrep.2.1.2.2.2 _ (List.mem_of_mem_take (List.mem_reverse.mp (List.of_mem_zip g1).2))
          · obtain ⟨w, h1, h2⟩ := ys_zf_mem _ _ _ hfp q g1
            obtain ⟨j, hj, e0⟩ := List.mem_map.mp h1
            rw [← e0, List.getD_eq_getElem?_getD] at h2
            cases hcc : fds.1[j]? with
            | none => rw [hcc] at h2; cases h2
            | some w => rw [hcc] at h2; exact hrep.2.1.2.1 w (List.mem_of_getElem? hcc) _ h2
        have htst : ∀ x ∈ t, ys_stb b.1.length x := by
          rw [et]
          exact ys_col_st _ _ hst2
        have hrows : ∀ k, k < sh'.length → (K.2.1.2.2.1.getD k []).map (ys_den (fun k => ad (yt_e em k)) (ys_val r 0 t)) = (fds.1.getD (yt_e em k) []).map (ys_den ad r) := by
          intro k hk
          have h1 := ys_zf_ok (ad := ad) (r := r) (r' := ys_val r 0 t) _ _ _ hfp (fun q hq => e5 q (List.mem_append_right _ hq)) k
          have h2 : ((em.take sh'.length).map fun k => fds.1.getD k []).getD k [] = fds.1.getD (yt_e em k) [] := by
            rw [List.getD_eq_getElem?_getD, List.getElem?_map, List.getElem?_take, if_pos hk, yt_e_get (by omega)]
            rfl
          rw [h2] at h1
          rw [← h1, List.getD_eq_getElem?_getD, List.getD_eq_getElem?_getD, List.getElem?_map]
          cases K.2.1.2.2.1[k]? with
          | none => rfl
          | some w =>
            show w.map _ = (w.map (yt_rV em)).map (ys_den ad (ys_val r 0 t))
            rw [List.map_map]
            apply List.map_congr_left
            intro x _
            exact (yt_rV_den x).symm
        have hby := yt_wld_sub (ad := ad) (cT := cT) (r := r) (r' := ys_val r 0 t) (g := g) (F := fds.1) (F' := K.2.1.2.2.1) hsh hrows
        have hargs : K.2.1.1.map (ys_den (fun k => ad (yt_e em k)) (ys_val r 0 t)) = ((sv.take K.2.1.1.length).reverse).map (ys_den ad r) := by
          have h1 := ys_zip_map (ad := ad) (r := r) (r' := ys_val r 0 t) (K.2.1.1.map (yt_rV em)) (sv.take K.2.1.1.length).reverse (by rw [List.length_map, List.length_reverse, List.length_take]; omega) (fun q hq => e5 q (List.mem_append_left _ hq))
          rw [← h1, List.map_map]
          apply List.map_congr_left
          intro x _
          exact (yt_rV_den x).symm
        have hokB : ys_okB (ys_val r 0 t) K.2.1.2.1 := ⟨fun j q hj => by
          have := e3 j q hj
          rw [Nat.zero_add] at this
          exact this, e4⟩
        have har : ∀ (kk : Nat) (a : ys_R), K.2.1.2.2.2[kk]? = some a → ys_rok a (yt_sub em g kk) := fun kk a ha => by
          obtain ⟨a0, h1, h2⟩ := e7 kk a ha
          rw [List.getElem?_map] at h1
          cases hc : (em.take sh'.length)[kk]? with
          | none => rw [hc] at h1; cases h1
          | some j =>
            rw [hc] at h1
            have h1 : some (fds.2.getD j yt_dR) = some a0 := h1
            have hj := (hel j (List.mem_of_getElem? hc)).2
            have e1 : yt_e em kk = j := by
              have h9 := (yt_take_get hc).2
              rw [yt_e_get (List.getElem?_eq_some_iff.mp h9).1] at h9
              exact Option.some.inj h9
            show ys_rok a (g (yt_e em kk))
            rw [e1]
            refine ys_rle_ok h2 (hg j a0 ?_)
            rw [← h1, List.getD_eq_getElem?_getD, List.getElem?_eq_getElem hj]
            rfl
        have hM := hcon (fun k => ad (yt_e em k)) (ys_val r 0 t) (yt_sub em g) H.size hokB (fun i hi => ys_val_high (by omega)) har (hps r g hrep.1 hrep.2.2.1.2 hh)
        have hP' : va_P D cl (ys_wK (fun k => ad (yt_e em k)) cT sh' K (ys_val r 0 t) (yt_sub em g)) H := hP.by _ hby
        have hD' : va_D A (ys_wK (fun k => ad (yt_e em k)) cT sh' K (ys_val r 0 t) (yt_sub em g)) := by
          refine hD.by _ hby fun i j hi hj hij => ?_
          have hi : i < em.length := by
            have hi : i < (ys_wld (fun k => ad (yt_e em k)) cT sh' (ys_val r 0 t) (yt_sub em g) K.2.1.2.2.1).length := hi
            rw [ys_wld_len] at hi
            omega
          have hj : j < em.length := by
            have hj : j < (ys_wld (fun k => ad (yt_e em k)) cT sh' (ys_val r 0 t) (yt_sub em g) K.2.1.2.2.1).length := hj
            rw [ys_wld_len] at hj
            omega
          have f1 : ∀ i, i < em.length → em[i]? = some (yt_e em i) := fun i hi => yt_e_get hi
          exact va_nd_inj em hnd i j (yt_e em i) (f1 i hi) (by rw [hij]; exact f1 j hj)
        have hadd : ∀ q, (∃ (k : Nat) (x : va_E), (ys_wK (fun k => ad (yt_e em k)) cT sh' K (ys_val r 0 t) (yt_sub em g))[k]? = some (q, x)) → ∃ j ∈ em.take sh'.length, q = ad j := by
          intro q ⟨kk, x, hx⟩
          have hlt : kk < sh'.length := by
            have := (List.getElem?_eq_some_iff.mp hx).1
            have this : kk < (ys_wld (fun k => ad (yt_e em k)) cT sh' (ys_val r 0 t) (yt_sub em g) K.2.1.2.2.1).length := this
            rw [ys_wld_len] at this
            exact this
          have hx : (ys_wld (fun k => ad (yt_e em k)) cT sh' (ys_val r 0 t) (yt_sub em g) K.2.1.2.2.1)[kk]? = some (q, x) := hx
          rw [ys_wld_get (List.getElem?_eq_getElem hlt)] at hx
          have e1 : (em.take sh'.length)[kk]? = some (yt_e em kk) := by
            rw [List.getElem?_take, if_pos hlt, yt_e_get (by omega)]
          refine ⟨yt_e em kk, List.mem_of_getElem? e1, ?_⟩
          have := congrArg Prod.fst (Option.some.inj hx)
          exact this.symm
        have hF : ∀ q, va_A (ys_wK (fun k => ad (yt_e em k)) cT sh' K (ys_val r 0 t) (yt_sub em g)) H.size q → A q := by
          intro q hq
          rcases hq with ⟨kk, x, hx⟩ | hq
          · exact hD'.2 kk (q, x) hx
          · exact hA0 q (Nat.le_trans hS.1 hq)
        have hpre : ∀ U : State, U.heap = H → s.WarmedH U.vm → ys_Pre D cl (fun k => ad (yt_e em k)) cT sh' tys K (ys_val r 0 t) (yt_sub em g) H.size (K.2.1.1.map (ys_den (fun k => ad (yt_e em k)) (ys_val r 0 t))).toArray U := fun U hU hW => ⟨rfl, by rw [hU], by rw [hU]; exact hP', va_K.moved hW.alike hK, hD'.weaken (fun _ _ _ _ => trivial)⟩
        have hrest : 2 * (F0 m pc ls st).monitorRoom + (((sv.drop K.2.1.1.length).map (ys_den ad r)).map fun v => v.category).sum ≤ 8 := lv_room (rest := st) (by rw [ys_cats]; exact c2)
        have hfull : st = (K.2.1.1.map (ys_den (fun k => ad (yt_e em k)) (ys_val r 0 t))).reverse ++ (sv.drop K.2.1.1.length).map (ys_den ad r) := by
          rw [hargs, ← List.map_reverse, List.reverse_reverse, ← List.map_append, ← hsv]
          exact hrep.2.2.2.2.2
        have hgo : va_Run p l e R s m args below meth c H locs kc kz 0 0 (F0 m pc ls st) ((sv.drop K.2.1.1.length).map (ys_den ad r)) (yt_Post D cl cT tys (fun k => ad (yt_e em k)) sh' K (tb d) (ys_val r 0 t) (yt_sub em g) H.size (K.2.1.1.map (ys_den (fun k => ad (yt_e em k)) (ys_val r 0 t))).toArray) (va_A (ys_wK (fun k => ad (yt_e em k)) cT sh' K (ys_val r 0 t) (yt_sub em g)) H.size) := by
          rcases hCL with ⟨idx, k1, ci, C, T, N, as, ei, ea, h1, h2, h3, h4⟩ | ⟨idx, ei, h3, h4⟩
          · subst ei
            have hw := ys_wld_get (ad := fun k => ad (yt_e em k)) (cT := cT) (r := ys_val r 0 t) (g := yt_sub em g) (fds := K.2.1.2.2.1) h1
            rw [ea] at hpre hfull ⊢
            rw [List.map_cons] at hpre hfull ⊢
            rw [List.reverse_cons, List.append_assoc] at hfull
            have hlen : (as.map (ys_den (fun k => ad (yt_e em k)) (ys_val r 0 t))).length = as.length := List.length_map _
            exact va_runV (C := C) (b := ad (yt_e em k1)) (As := as.map (ys_den (fun k => ad (yt_e em k)) (ys_val r 0 t))) S hM (cwV as.length S.2.2.2.2 h3 rfl rfl rfl h4 ⟨Nat.le_trans c3 hfr, Nat.le_trans c4 hlo⟩) ⟨ys_blind, va_recv hK hP' h2 hw, hpre⟩ rfl hlen hrep.2.2.2.2.1.1 hfull (by rw [ea] at hrest; exact hrest) hd hkk
          · subst ei
            exact va_runS (As := K.2.1.1.map (ys_den (fun k => ad (yt_e em k)) (ys_val r 0 t))) S hM (va_cwS K.2.1.1.length S.2.2.2.2 h3 rfl rfl rfl h4 ⟨Nat.le_trans c3 hfr, Nat.le_trans c4 hlo⟩) ⟨ys_blind, hpre⟩ rfl (List.length_map _) hrep.2.2.2.2.1.1 hfull hrest hd hkk
        intro T hT X
        obtain ⟨v, st₀, t1, T', L, h0, X', hL, f1, f2, ⟨⟨ia, a, ha, hAlt⟩, hz, hk⟩, stp⟩ := hgo T hT X
        rw [h0] at hz hk
        have hrep2 : ys_rep D cl ad cT sh A H0 nL [] g r0 r E (b, fds, lv, sv.drop K.2.1.1.length) H locs ls ((sv.drop K.2.1.1.length).map (ys_den ad r)) := by
          obtain ⟨q1, ⟨s0, s1, s2, s3⟩, q2, q3, q4, q5⟩ := hrep
          exact ⟨q1, ⟨s0, s1, s2, fun x hx => s3 x (List.mem_of_mem_drop hx)⟩, q2, q3, q4, rfl⟩
        have hm : ∀ kk, kk ∈ K.2.2.2 → yt_e em kk ∈ mods ∧ kk < sh'.length := fun kk hkk => by
          have := List.all_eq_true.mp c5 kk hkk
          rw [Bool.and_eq_true, decide_eq_true_eq] at this
          exact ⟨List.contains_iff_mem.mp this.1, this.2⟩
        have hal : a.2.2.1.1.length = sh'.length ∧ a.2.2.1.2.length = sh'.length := by
          have := List.all_eq_true.mp c6 a (List.mem_of_getElem? ha)
          rw [Bool.and_eq_true, decide_eq_true_eq, decide_eq_true_eq] at this
          exact this
        have hkeep : ∀ q, q < H.size → ¬ (∃ j ∈ em.take sh'.length, q = ad j) → T'.heap[q]? = H[q]? := fun q h1 h2 => by
          rw [f1]
          refine hk q h1 fun z => ?_
          rcases z with z | z
          · exact h2 (hadd q z)
          · omega
        obtain ⟨t2, a1, b1⟩ := yt_kaft (H1 := T'.heap) (locs1 := locs ++ L) (sh' := sh') hrep2 hh hsc hm0 hsh hshl htst e2 rfl hm hal hel hAlt f1.symm hkeep ⟨Nat.le_trans hS.1 (by rw [f1]; exact hz), fun q h1 h2 => by rw [f1, hk q (Nat.lt_of_lt_of_le h1 hS.1) (fun z => h2 (hF q z))]; exact hS.2.1 q h1 h2, fun q hq => by
          rcases List.mem_append.mp hq with g1 | g1
          · exact hS.2.2 q g1
          · exact hF _ (hL q g1)⟩ (fun q hq => k q (yt_ats_mem _ 0 ia a ha q (by rw [Nat.zero_add]; exact hq))) T' rfl X'
        exact ⟨t2, stp t2 a1, b1⟩
      · cases hs
    · cases hs
  · cases hs
end YTC
end
section
/-! one step of the second engine -/
def yt_un (w : Bool) (v : ys_V) : Option ys_L := match w, v with
  | false, .inl (.inl z) => some z
  | true, .inl (.inr z) => some z
  | _, _ => none
theorem yt_un_ok {w : Bool} {v : ys_V} {z : ys_L} (h : yt_un w v = some z) : v = yt_mk w z := by
  unfold yt_un at h
  split at h
  · cases Option.some.inj h
    rfl
  · cases Option.some.inj h
    rfl
  · cases h
theorem yt_mk_sti {n : Nat} {w : Bool} {x : ys_L} (h : ys_stV n (yt_mk w x)) : ys_stb n x := by
  cases w <;> exact h
def yt_hbin (w : Bool) (F : ys_B → ys_L → ys_L → Option (List yt_Br)) (h : List yt_Ev) (pc : Nat) (b : ys_B) (fds : ys_F) (lv : List (Nat × ys_V)) (sv : List ys_V) : Option (List yt_U) := match sv with
  | vy :: vx :: t => (match yt_un w vy, yt_un w vx with
    | some y, some x => (match F b x y with
      | some brs => some (yt_num w (pc + 1) b fds lv t h x y brs)
      | none => none)
    | _, _ => none)
  | _ => none
def yt_hone (w : Bool) (k : Nat) (F : ys_B → ys_L → Option (List yt_Br)) (fr lo : Nat) (h : List yt_Ev) (pc : Nat) (b : ys_B) (fds : ys_F) (lv : List (Nat × ys_V)) (sv : List ys_V) : Option (List yt_U) := match sv with
  | vx :: t => (match yt_un w vx with
    | some x => (match F b x with
      | some brs => if decide (1 ≤ fr) && decide ((t.map ys_cat).sum + k ≤ lo) then some (yt_num w (pc + 3) b fds lv t h x x brs) else none
      | none => none)
    | none => none)
  | _ => none
/-- the greater of two longs -/
def yt_bmax (b : ys_B) (x y : ys_L) : Option (List yt_Br) := if ys_inr true b.1 x && ys_inr true b.1 y then some [((0, 0), [yt_m1 (ys_sub x y)], x, false), ((0, 0), [ys_sub y x], y, false)] else none
def yt_hmx (fr lo : Nat) (h : List yt_Ev) (pc : Nat) (b : ys_B) (fds : ys_F) (lv : List (Nat × ys_V)) (sv : List ys_V) : Option (List yt_U) := match sv with
  | vy :: vx :: t => (match yt_un true vy, yt_un true vx with
    | some y, some x => (match yt_bmax b x y with
      | some brs => if decide (1 ≤ fr) && decide ((t.map ys_cat).sum + 15 ≤ lo) then some (yt_num true (pc + 3) b fds lv t h x y brs) else none
      | none => none)
    | _, _ => none)
  | _ => none
def yt_Cq (own : String) (Ts : List Cond) (v : Nat) : Prop := match v / 100000 with
  | 3 => Cond.methodLink own (v - 300000) Lib.Math.abs.name ∈ Ts ∧ Cond.static Lib.Math.abs.name ∈ Ts ∧ Cond.initialized "java/lang/Math" ∈ Ts ∧ Cond.code Lib.Math.abs.name Lib.Math.abs.code 1 (some .int) ∈ Ts
  | 4 => Cond.methodLink own (v - 400000) Lib.MathLoose.abs_long.x ∈ Ts ∧ Cond.static Lib.MathLoose.abs_long.x ∈ Ts ∧ Cond.initialized "java/lang/Math" ∈ Ts ∧ Cond.code Lib.MathLoose.abs_long.x Lib.MathLoose.abs_long.code 2 (some .long) ∈ Ts
  | 5 => Cond.methodLink own (v - 500000) Lib.MathLoose.max_long.x ∈ Ts ∧ Cond.static Lib.MathLoose.max_long.x ∈ Ts ∧ Cond.initialized "java/lang/Math" ∈ Ts ∧ Cond.code Lib.MathLoose.max_long.x Lib.MathLoose.max_long.code 4 (some .long) ∈ Ts
  | _ => False
abbrev yt_O : Type := Nat × List ys_L × List Nat
/-- a product of longs that may go round: its word is that of a call, number 998 -/
def yt_hwm (h : List yt_Ev) (pc : Nat) (b : ys_B) (fds : ys_F) (lv : List (Nat × ys_V)) (sv : List ys_V) : Option (List yt_U) := match sv with
  | vy :: vx :: t => (match yt_un true vy, yt_un true vx with
    | some y, some x => if x.1 = [] then none else if y.1 = [] then none else some [(pc + 1, ((b.1 ++ [(ys_mn true, ys_mx true)], b.2), fds, lv, yt_mk true (ys_sym b.1.length) :: t), .inr (.inr (.inl (998, 0, [x, y, ys_sym b.1.length], [], []))) :: h)]
    | _, _ => none)
  | _ => none
def yt_inv (fr lo : Nat) (mods : List Nat) (sh : List ys_C) (idx : Nat) (st : Bool) (h : List yt_Ev) (pc : Nat) (b : ys_B) (fds : ys_F) (lv : List (Nat × ys_V)) (sv : List ys_V) : List yt_CE → Option (List yt_U × List yt_O)
  | [] => none
  | C :: t => if C.1.1 = (idx, st) then (match yt_hcall fr lo mods C h pc b fds lv sv with
    | some o => if sh.length = fds.1.length then some (o.2, if C.1.2.2.1 = true then [(C.1.2.1, o.1, C.1.2.2.2)] else []) else none
    | none => yt_inv fr lo mods sh idx st h pc b fds lv sv t) else yt_inv fr lo mods sh idx st h pc b fds lv sv t
def yt_p (x : Option (List yt_U)) : Option (List yt_U × List yt_O) := match x with
  | some y => some (y, [])
  | none => none
def yt_pl (h : List yt_Ev) (x : Option (List (Nat × ys_S))) : Option (List yt_U × List yt_O) := match x with
  | some y => some (y.map (fun q => (q.1, q.2, h)), [])
  | none => none
theorem yt_p_ok {x : Option (List yt_U)} {o : List yt_U × List yt_O} (h : yt_p x = some o) : x = some o.1 := by
  unfold yt_p at h
  split at h
  · cases Option.some.inj h
    rfl
  · cases h
theorem yt_pl_ok {e : List yt_Ev} {x : Option (List (Nat × ys_S))} {o : List yt_U × List yt_O} (h : yt_pl e x = some o) : ∃ y, x = some y ∧ o.1 = y.map fun q => (q.1, q.2, e) := by
  unfold yt_pl at h
  split at h
  · rename_i y
    cases Option.some.inj h
    exact ⟨y, rfl, rfl⟩
  · cases h
def yt_K0 (K : ys_K) : ys_K := (K.1, K.2.1, ([], []))
def yt_nc (F : ys_B → ys_L → ys_L → Option (List yt_Br)) (b : ys_B) (x y : ys_L) : Option (List yt_Br) := if y.1 = [] then none else F b x y
def yt_nc2 (F : ys_B → ys_L → ys_L → Option (List yt_Br)) (b : ys_B) (x y : ys_L) : Option (List yt_Br) := if x.1 = [] then none else if y.1 = [] then none else F b x y
theorem yt_nc_ok {F : ys_B → ys_L → ys_L → Option (List yt_Br)} {b : ys_B} {x y : ys_L} {o : List yt_Br} (h : yt_nc F b x y = some o) : F b x y = some o := by
  unfold yt_nc at h
  split at h
  · cases h
  · exact h
theorem yt_nc2_ok {F : ys_B → ys_L → ys_L → Option (List yt_Br)} {b : ys_B} {x y : ys_L} {o : List yt_Br} (h : yt_nc2 F b x y = some o) : F b x y = some o := by
  unfold yt_nc2 at h
  split at h
  · cases h
  · split at h
    · cases h
    · exact h
def yt_step (sh : List ys_C) (fl : ys_FL) (ci cj : List (Nat × Int)) (calls : List yt_CE) (cps cqs : List Nat) (K : ys_K) (nx : Nat → Option (Instr × Nat)) (h : List yt_Ev) (pc : Nat) (b : ys_B) (fds : ys_F) (lv : List (Nat × ys_V)) (sv : List ys_V) (i : Instr) (n : Nat) : Option (List yt_U × List yt_O) := match i with
  | .iaload => ys_g1 n 1 (yt_p (yt_hld 0 false sh h pc b fds lv sv))
  | .laload => ys_g1 n 1 (yt_p (yt_hld 1 true sh h pc b fds lv sv))
  | .baload => ys_g1 n 1 (ys_or (yt_p (yt_hld 2 false sh h pc b fds lv sv)) (yt_p (yt_hld 3 false sh h pc b fds lv sv)))
  | .iastore => ys_g1 n 1 (yt_p (yt_hst 0 false (-9223372036854775808, 9223372036854775808) sh K.2.2.2 h pc b fds lv sv))
  | .lastore => ys_g1 n 1 (yt_p (yt_hst 1 true (-9223372036854775808, 9223372036854775808) sh K.2.2.2 h pc b fds lv sv))
  | .bastore => ys_g1 n 1 (ys_or (yt_p (yt_hst 2 false (-128, 127) sh K.2.2.2 h pc b fds lv sv)) (yt_p (yt_hst 3 false (0, 1) sh K.2.2.2 h pc b fds lv sv)))
  | .lrem => ys_or (ys_g1 n 1 (yt_p (yt_hbin true (yt_nc yt_brem) h pc b fds lv sv))) (yt_pl h (ys_stp sh fl ci cj [] cps (yt_K0 K) nx pc b fds lv sv .lrem n))
  | .ldiv => ys_or (ys_g1 n 1 (yt_p (yt_hbin true (yt_nc yt_bdiv) h pc b fds lv sv))) (yt_pl h (ys_stp sh fl ci cj [] cps (yt_K0 K) nx pc b fds lv sv .ldiv n))
  | .lmul => ys_or (ys_or (ys_g1 n 1 (yt_p (yt_hbin true (yt_nc2 (yt_bmul true)) h pc b fds lv sv))) (ys_g1 n 1 (yt_p (yt_hwm h pc b fds lv sv)))) (yt_pl h (ys_stp sh fl ci cj [] cps (yt_K0 K) nx pc b fds lv sv .lmul n))
  | .imul => ys_or (ys_g1 n 1 (yt_p (yt_hbin false (yt_nc2 (yt_bmul false)) h pc b fds lv sv))) (yt_pl h (ys_stp sh fl ci cj [] cps (yt_K0 K) nx pc b fds lv sv .imul n))
  | .iand => ys_or (ys_g1 n 1 (yt_p (yt_hbin false (yt_nc2 yt_band) h pc b fds lv sv))) (yt_pl h (ys_stp sh fl ci cj [] cps (yt_K0 K) nx pc b fds lv sv .iand n))
  | .invokevirtual k => ys_g1 n 3 (yt_inv K.1.2.1 K.1.2.2 K.2.2.2 sh k false h pc b fds lv sv calls)
  | .invokestatic k => if 100000 ≤ k then none else if cps.contains k then (if 1 ≤ K.1.2.1 then ys_g1 n 3 (yt_p (yt_hcp K.1.2.2 sh K.2.2.2 h pc b fds lv sv)) else none) else if cqs.contains (300000 + k) then ys_g1 n 3 (yt_p (yt_hone false 13 (yt_babs false) K.1.2.1 K.1.2.2 h pc b fds lv sv)) else if cqs.contains (400000 + k) then ys_g1 n 3 (yt_p (yt_hone true 13 (yt_babs true) K.1.2.1 K.1.2.2 h pc b fds lv sv)) else if cqs.contains (500000 + k) then ys_g1 n 3 (yt_p (yt_hmx K.1.2.1 K.1.2.2 h pc b fds lv sv)) else if cps.contains (100000 + k) || cps.contains (200000 + k) then yt_pl h (ys_stp sh fl ci cj [] cps (yt_K0 K) nx pc b fds lv sv (.invokestatic k) n) else ys_g1 n 3 (yt_inv K.1.2.1 K.1.2.2 K.2.2.2 sh k true h pc b fds lv sv calls)
  | i => if ys_isr i = true then none else yt_pl h (ys_stp sh fl ci cj [] cps (yt_K0 K) nx pc b fds lv sv i n)
section YTS
variable {p : Program} {l : Launch} {e : Env} {R : Room} {s : State} {m : MethodId} {args : Array Value} {below : List Frame} {meth : Method} {c : Code} {Q : State → Prop} {kc kz : Nat} {D : va_G} {cl : List vw_C} {ad : Nat → Nat} {cT : Nat → ClassId} {sh : List ys_C} {A : Nat → Prop} {H0 : Heap} {nL : Nat} {mods : List Nat} {g0 : yt_G} {r0 : Nat → Int} {E : Nat} {tb : yt_Tb} {gi : yt_G} {h : List yt_Ev} {pc : Nat} {b : ys_B} {fds : ys_F} {lv : List (Nat × ys_V)} {sv : List ys_V} {succ : List yt_U} {cc : ByteArray} {own : String} {Ts : List Cond} {tys : List (ClassId × FieldType)}
theorem yt_kbin {w : Bool} {F : ys_B → ys_L → ys_L → Option (List yt_Br)} {OK : (Nat → Int) → ys_L → ys_L → Prop} {V : (Nat → Int) → ys_L → ys_L → Value} (hF : ∀ (r : Nat → Int) (x y : ys_L) (brs : List yt_Br), F b x y = some brs → ys_stb b.1.length x → ys_stb b.1.length y → ys_okB r b → OK r x y ∧ (∀ br ∈ brs, yt_bst b.1.length br) ∧ ∃ br ∈ brs, ∃ z, yt_sel w b.1.length r x y (V r x y) br z) (hrow : ∀ (r : Nat → Int) (x y : ys_L) (H : Heap) (locs : List Loc) (ls : Array Slot) (rest : List Value), OK r x y → W p l e R s m args below meth c H locs kc kz Q (F0 m (pc + 1) ls (V r x y :: rest)) → W p l e R s m args below meth c H locs kc kz Q (F0 m pc ls (yt_vl w (ys_ev r y) :: yt_vl w (ys_ev r x) :: rest))) (hs : yt_hbin w F h pc b fds lv sv = some succ) (k : ∀ q ∈ succ, yt_X p l e R s m args below meth c Q kc kz D cl ad cT sh A H0 nL mods g0 r0 E tb gi q.2.2 q.1 q.2.1) : yt_X p l e R s m args below meth c Q kc kz D cl ad cT sh A H0 nL mods g0 r0 E tb gi h pc (b, fds, lv, sv) := by
  unfold yt_hbin at hs
  split at hs
  · rename_i vy vx t
    split at hs
    · rename_i y x hy hx
      split at hs
      · rename_i brs hb
        have hs := (Option.some.inj hs).symm
        subst hs
        intro r g H locs ls st hrep hh hsc hm
        obtain ⟨st1, e1, g1, sy⟩ := ys_rep_pop hrep
        obtain ⟨st2, e2, g2, sx⟩ := ys_rep_pop g1
        rw [yt_un_ok hy, yt_mk_den] at e1
        rw [yt_un_ok hx, yt_mk_den] at e2
        rw [yt_un_ok hy] at sy
        rw [yt_un_ok hx] at sx
        subst e1; subst e2
        have sx := yt_mk_sti sx
        have sy := yt_mk_sti sy
        obtain ⟨h1, h2, h3⟩ := hF r x y brs hb sx sy hrep.1
        exact hrow r x y H locs ls st2 h1 (yt_knum g2 hh hsc hm sx sy h2 h3 k)
      · cases hs
    · cases hs
  · cases hs
theorem yt_kone {w : Bool} {kk fr lo : Nat} {F : ys_B → ys_L → Option (List yt_Br)} {V : (Nat → Int) → ys_L → Value} (hfr : fr ≤ R.frames) (hlo : lo ≤ R.locals) (hF : ∀ (r : Nat → Int) (x : ys_L) (brs : List yt_Br), F b x = some brs → ys_stb b.1.length x → ys_okB r b → (∀ br ∈ brs, yt_bst b.1.length br) ∧ ∃ br ∈ brs, ∃ z, yt_sel w b.1.length r x x (V r x) br z) (hrow : ∀ (r : Nat → Int) (x : ys_L) (H : Heap) (locs : List Loc) (ls : Array Slot) (rest : List Value), ls.size = nL → 1 ≤ R.frames → (rest.map fun v => v.category).sum + kk ≤ R.locals → W p l e R s m args below meth c H locs kc kz Q (F0 m (pc + 3) ls (V r x :: rest)) → W p l e R s m args below meth c H locs kc kz Q (F0 m pc ls (yt_vl w (ys_ev r x) :: rest))) (hs : yt_hone w kk F fr lo h pc b fds lv sv = some succ) (k : ∀ q ∈ succ, yt_X p l e R s m args below meth c Q kc kz D cl ad cT sh A H0 nL mods g0 r0 E tb gi q.2.2 q.1 q.2.1) : yt_X p l e R s m args below meth c Q kc kz D cl ad cT sh A H0 nL mods g0 r0 E tb gi h pc (b, fds, lv, sv) := by
  unfold yt_hone at hs
  split at hs
  · rename_i vx t
    split at hs
    · rename_i x hx
      split at hs
      · rename_i brs hb
        split at hs
        · rename_i hc
          rw [Bool.and_eq_true, decide_eq_true_eq, decide_eq_true_eq] at hc
          have hs := (Option.some.inj hs).symm
          subst hs
          intro r g H locs ls st hrep hh hsc hm
          obtain ⟨st1, e1, g1, sx⟩ := ys_rep_pop hrep
          rw [yt_un_ok hx, yt_mk_den] at e1
          rw [yt_un_ok hx] at sx
          subst e1
          have sx := yt_mk_sti sx
          obtain ⟨h2, h3⟩ := hF r x brs hb sx hrep.1
          refine hrow r x H locs ls st1 g1.2.2.2.2.1.1 (Nat.le_trans hc.1 hfr) ?_ (yt_knum g1 hh hsc hm sx sx h2 h3 k)
          rw [g1.2.2.2.2.2, ys_cats]
          exact Nat.le_trans hc.2 hlo
        · cases hs
      · cases hs
    · cases hs
  · cases hs
theorem yt_kmx {fr lo idx : Nat} (hexec : p.tables.exec = Jvm.exec) (hb : c.code = cc) (hml : c.maxLocals = nL) (hts : ∀ w ∈ Ts, w.before args s = true) (hown : s.vm.findClass own = some m.cls) (hfr : fr ≤ R.frames) (hlo : lo ≤ R.locals) (hkk : kc ≤ R.cells ∧ kz ≤ R.slots) (hw : Cond.methodLink own idx Lib.MathLoose.max_long.x ∈ Ts ∧ Cond.static Lib.MathLoose.max_long.x ∈ Ts ∧ Cond.initialized "java/lang/Math" ∈ Ts ∧ Cond.code Lib.MathLoose.max_long.x Lib.MathLoose.max_long.code 4 (some .long) ∈ Ts) (hd : decode cc pc = .ok (.invokestatic idx, 3)) (hs : yt_hmx fr lo h pc b fds lv sv = some succ) (k : ∀ q ∈ succ, yt_X p l e R s m args below meth c Q kc kz D cl ad cT sh A H0 nL mods g0 r0 E tb gi q.2.2 q.1 q.2.1) : yt_X p l e R s m args below meth c Q kc kz D cl ad cT sh A H0 nL mods g0 r0 E tb gi h pc (b, fds, lv, sv) := by
  unfold yt_hmx at hs
  split at hs
  · rename_i vy vx t
    split at hs
    · rename_i y x hy hx
      split at hs
      · rename_i brs hbr
        split at hs
        · rename_i hc
          rw [Bool.and_eq_true, decide_eq_true_eq, decide_eq_true_eq] at hc
          have hs := (Option.some.inj hs).symm
          subst hs
          intro r g H locs ls st hrep hh hsc hm
          obtain ⟨st1, e1, g1, sy⟩ := ys_rep_pop hrep
          obtain ⟨st2, e2, g2, sx⟩ := ys_rep_pop g1
          rw [yt_un_ok hy, yt_mk_den] at e1
          rw [yt_un_ok hx, yt_mk_den] at e2
          rw [yt_un_ok hy] at sy
          rw [yt_un_ok hx] at sx
          subst e1; subst e2
          have sx := yt_mk_sti sx
          have sy := yt_mk_sti sy
          have sx1 := ys_stb_mono sx (Nat.le_succ _)
          have sy1 := ys_stb_mono sy (Nat.le_succ _)
          unfold yt_bmax at hbr
          split at hbr
          · rename_i hi
            rw [Bool.and_eq_true] at hi
            have ex := ys_inr64 hrep.1.1 hi.1
            have ey := ys_inr64 hrep.1.1 hi.2
            have hbr := (Option.some.inj hbr).symm
            subst hbr
            obtain ⟨w1, w2, w3, w4⟩ := hw
            refine va_mmax_long hexec hb (hml.trans g2.2.2.2.2.1.1.symm) hown (hts _ w1) (hts _ w2) (hts _ w3) (hts _ w4) (Nat.le_trans hc.1 hfr) (by rw [g2.2.2.2.2.2, ys_cats]; exact Nat.le_trans hc.2 hlo) hkk.1 hkk.2 hd (x := Int64.ofInt (ys_ev r x)) (y := Int64.ofInt (ys_ev r y)) ?_
            refine yt_knum g2 hh hsc hm sx sy (fun br hbr => ?_) ?_ k
            · rcases List.mem_cons.mp hbr with q | hbr
              · rw [q]
                exact ⟨yt_all1 (ys_stb_m1 (ys_stb_sub sx1 sy1)), sx1⟩
              · rw [List.mem_singleton.mp hbr]
                exact ⟨yt_all1 (ys_stb_sub sy1 sx1), sy1⟩
            · by_cases hlt : Int64.ofInt (ys_ev r y) < Int64.ofInt (ys_ev r x)
              · rw [if_pos hlt]
                rw [Int64.lt_iff_toInt_lt, ex, ey] at hlt
                refine ⟨_, List.mem_cons_self, 0, ⟨Int.le_refl 0, Int.le_refl 0⟩, ys_fk1 ?_, ?_, fun z => by cases z⟩
                · rw [yt_m1_ev, ys_sub_ev, yt_up_ev sx, yt_up_ev sy]; omega
                · show Value.long (Int64.ofInt (ys_ev _ x)) = _
                  rw [yt_up_ev sx]
              · rw [if_neg hlt]
                rw [Int64.lt_iff_toInt_lt, ex, ey] at hlt
                refine ⟨_, List.mem_cons_of_mem _ List.mem_cons_self, 0, ⟨Int.le_refl 0, Int.le_refl 0⟩, ys_fk1 ?_, ?_, fun z => by cases z⟩
                · rw [ys_sub_ev, yt_up_ev sx, yt_up_ev sy]; omega
                · show Value.long (Int64.ofInt (ys_ev _ y)) = _
                  rw [yt_up_ev sy]
          · cases hbr
        · cases hs
      · cases hs
    · cases hs
  · cases hs
theorem yt_kwm (hw : ∀ (r : Nat → Int) (g : yt_G), r 2 = (r 0 * r 1).bmod Int64.size → tb 998 0 r g g) (hexec : p.tables.exec = Jvm.exec) (hb : c.code = cc) (hd : decode cc pc = .ok (.lmul, 1)) (hs : yt_hwm h pc b fds lv sv = some succ) (k : ∀ q ∈ succ, yt_X p l e R s m args below meth c Q kc kz D cl ad cT sh A H0 nL mods g0 r0 E tb gi q.2.2 q.1 q.2.1) : yt_X p l e R s m args below meth c Q kc kz D cl ad cT sh A H0 nL mods g0 r0 E tb gi h pc (b, fds, lv, sv) := by
  unfold yt_hwm at hs
  split at hs
  · rename_i vy vx t
    split at hs
    · rename_i y x hy hx
      split at hs
      · cases hs
      · split at hs
        · cases hs
        · have hs := (Option.some.inj hs).symm
          subst hs
          intro r g H locs ls st hrep hh hsc hm
          obtain ⟨st1, e1, g1, sy⟩ := ys_rep_pop hrep
          obtain ⟨st2, e2, g2, sx⟩ := ys_rep_pop g1
          rw [yt_un_ok hy, yt_mk_den] at e1
          rw [yt_un_ok hx, yt_mk_den] at e2
          rw [yt_un_ok hy] at sy
          rw [yt_un_ok hx] at sx
          subst e1; subst e2
          have sx := yt_mk_sti sx
          have sy := yt_mk_sti sy
          refine lv_lmul hexec hb hd ?_
          rw [← Int64.ofInt_mul]
          obtain ⟨z, hz⟩ : ∃ z : Int, z = (Int64.ofInt (ys_ev r x * ys_ev r y)).toInt := ⟨_, rfl⟩
          have hrg := ys_r64 (Int64.ofInt (ys_ev r x * ys_ev r y))
          rw [← hz] at hrg
          have hok := ys_new_ok (q := (ys_mn true, ys_mx true)) hrep.1 hrep.2.1.1 hrg
          have hll : b.1.length ≤ (b.1 ++ [(ys_mn true, ys_mx true)]).length := by rw [List.length_append]; omega
          have hlt : b.1.length < (b.1 ++ [(ys_mn true, ys_mx true)]).length := by rw [List.length_append, List.length_singleton]; omega
          have g3 := ys_rep_ext g2 (r' := ys_up r b.1.length z) (b' := (b.1 ++ [(ys_mn true, ys_mx true)], b.2)) ys_up_lt hok hll (ys_scB_new hrep.2.1.1)
          have hcg : ∀ i, i < b.1.length → r i = ys_up r b.1.length z i := fun i hi => (ys_up_lt i hi).symm
          have k1 := k _ List.mem_cons_self (ys_up r b.1.length z) g H locs ls _ (ys_rep_push g3 (yt_mk true (ys_sym b.1.length)) (yt_mk_st (ys_stb_sym hlt))) ⟨g, yt_h_cong hcg hsc hh, hw _ _ (by
            show ys_ev (ys_up r b.1.length z) (ys_sym b.1.length) = (ys_ev (ys_up r b.1.length z) x * ys_ev (ys_up r b.1.length z) y).bmod Int64.size
            rw [yt_up_sym, yt_up_ev sx, yt_up_ev sy, hz, Int64.toInt_ofInt]), fun _ _ => rfl⟩ (fun v hv => by
              rcases List.mem_cons.mp hv with q | q
              · rw [q]
                show ∀ u ∈ [x, y, ys_sym b.1.length], ys_stb (b.1 ++ [(ys_mn true, ys_mx true)]).length u
                exact yt_all3 (ys_stb_mono sx hll) (ys_stb_mono sy hll) (ys_stb_sym hlt)
              · exact yt_sc_mono hll (hsc v q)) hm
          rw [yt_mk_den, yt_up_sym, hz] at k1
          have e5 : yt_vl true (Int64.ofInt (ys_ev r x * ys_ev r y)).toInt = .long (Int64.ofInt (ys_ev r x * ys_ev r y)) := congrArg Value.long (Int64.ofInt_toInt _)
          rw [e5] at k1
          exact k1
    · cases hs
  · cases hs
theorem yt_abs64 {z : Int} (h : ys_mn true ≤ z ∧ z ≤ ys_mx true) : (0 ≤ z → (if 0 < Int64.ofInt z then Int64.ofInt z else -Int64.ofInt z) = Int64.ofInt z) ∧ (z < 0 → (if 0 < Int64.ofInt z then Int64.ofInt z else -Int64.ofInt z) = Int64.ofInt (-z)) := by
  rw [ys_mn_t, ys_mx_t] at h
  have e : (Int64.ofInt z).toInt = z := Int64.toInt_ofInt_of_le (by omega) (by omega)
  have e0 : (0 : Int64).toInt = 0 := rfl
  refine ⟨fun h0 => ?_, fun h0 => ?_⟩
  · split
    · rfl
    · rename_i hn
      rw [Int64.lt_iff_toInt_lt, e, e0] at hn
      have : z = 0 := by omega
      rw [this]
      rfl
  · rw [if_neg (by rw [Int64.lt_iff_toInt_lt, e, e0]; omega), Int64.ofInt_neg]
theorem yt_abs32 {z : Int} (h : ys_mn false ≤ z ∧ z ≤ ys_mx false) : (0 ≤ z → (if 0 ≤ Int32.ofInt z then Int32.ofInt z else 0 - Int32.ofInt z) = Int32.ofInt z) ∧ (z < 0 → (if 0 ≤ Int32.ofInt z then Int32.ofInt z else 0 - Int32.ofInt z) = Int32.ofInt (-z)) := by
  rw [ys_mn_f, ys_mx_f] at h
  have e : (Int32.ofInt z).toInt = z := Int32.toInt_ofInt_of_le (by omega) (by omega)
  have e0 : (0 : Int32).toInt = 0 := rfl
  refine ⟨fun h0 => ?_, fun h0 => ?_⟩
  · rw [if_pos (by rw [Int32.le_iff_toInt_le, e, e0]; exact h0)]
  · rw [if_neg (by rw [Int32.le_iff_toInt_le, e, e0]; omega), Int32.ofInt_neg, Int32.zero_sub]
variable {G : List Cond} {pt : Nat → yt_Ps} {calls : List yt_CE} {K : ys_K} {fl : ys_FL} {ci cj : List (Nat × Int)} {cps cqs : List Nat} {nx : Nat → Option (Instr × Nat)}
theorem yt_kinv {idx : Nat} {st : Bool} {fr lo : Nat} {o : List yt_U × List yt_O} (S : CallFix p m c cc nL s args Ts own) (hK : va_K D cl tys s) (hA0 : ∀ q, H0.size ≤ q → A q) (hfr : fr ≤ R.frames) (hlo : lo ≤ R.locals) (hkk : kc ≤ R.cells ∧ kz ≤ R.slots) (hd : decode cc pc = .ok (if st = true then .invokestatic idx else .invokevirtual idx, 3)) (hob : ∀ q ∈ o.2, ∀ (r : Nat → Int) (g : yt_G), ys_okB r b → (∀ i, i < E → r i = r0 i) → yt_h tb r gi h g → pt q.1 (ys_val r 0 q.2.1) (yt_sub q.2.2 g)) (k : ∀ q ∈ o.1, yt_X p l e R s m args below meth c Q kc kz D cl ad cT sh A H0 nL mods g0 r0 E tb gi q.2.2 q.1 q.2.1) : ∀ (cs : List yt_CE), (∀ C ∈ cs, yt_Con l D cl cT tys G C.2.1 C.2.2 (pt C.1.2.1) (tb C.1.2.1) ∧ ys_CL own Ts cl C.2.1 G (if C.1.1.2 = true then .invokestatic C.1.1.1 else .invokevirtual C.1.1.1) C.2.2 ∧ yt_shok C.1.2.2.2 C.2.1 sh = true ∧ (C.1.2.2.1 = false → ∀ r g, pt C.1.2.1 r g)) → yt_inv fr lo mods sh idx st h pc b fds lv sv cs = some o → yt_X p l e R s m args below meth c Q kc kz D cl ad cT sh A H0 nL mods g0 r0 E tb gi h pc (b, fds, lv, sv)
  | [], _, hs => by cases hs
  | C :: t, hc, hs => by
    have ht : ∀ x ∈ t, yt_Con l D cl cT tys G x.2.1 x.2.2 (pt x.1.2.1) (tb x.1.2.1) ∧ ys_CL own Ts cl x.2.1 G (if x.1.1.2 = true then .invokestatic x.1.1.1 else .invokevirtual x.1.1.1) x.2.2 ∧ yt_shok x.1.2.2.2 x.2.1 sh = true ∧ (x.1.2.2.1 = false → ∀ r g, pt x.1.2.1 r g) := fun x hx => hc x (List.mem_cons_of_mem _ hx)
    unfold yt_inv at hs
    split at hs
    · rename_i he
      split at hs
      · rename_i x hx
        split at hs
        · rename_i hl
          have hs := (Option.some.inj hs).symm
          subst hs
          obtain ⟨h1, h2, h3, h4⟩ := hc C List.mem_cons_self
          rw [he] at h2
          refine yt_kcall (t := x.1) (succ := x.2) S hK hA0 h1 h2 h3 hl hd hfr hlo hkk hx (fun r g q1 q2 q3 => ?_) k
          cases hp : C.1.2.2.1 with
          | false => exact h4 hp _ _
          | true => exact hob (C.1.2.1, x.1, C.1.2.2.2) (by rw [hp]; exact List.mem_cons_self) r g q1 q2 q3
        · cases hs
      · exact yt_kinv S hK hA0 hfr hlo hkk hd hob k t ht hs
    · exact yt_kinv S hK hA0 hfr hlo hkk hd hob k t ht hs
set_option maxHeartbeats 4000000 in
theorem yt_step_ok {i : Instr} {n : Nat} {o : List yt_U × List yt_O} (hw : ∀ (r : Nat → Int) (g : yt_G), r 2 = (r 0 * r 1).bmod Int64.size → tb 998 0 r g g) (S : CallFix p m c cc nL s args Ts own) (hnL : K.1.1.2.2.1 = nL) (hmods : K.2.2.2 = mods) (hfr : K.1.2.1 ≤ R.frames) (hlo : K.1.2.2 ≤ R.locals) (hkk : kc ≤ R.cells ∧ kz ≤ R.slots) (hA0 : ∀ q, H0.size ≤ q → A q) (hK : va_K D cl tys s) (hty : ys_Ty tys cT sh) (hLk : ys_Lk own Ts cl fl ci cj cps) (hCq : ∀ v, v ∈ cqs → yt_Cq own Ts v) (hcalls : ∀ C ∈ calls, yt_Con l D cl cT tys G C.2.1 C.2.2 (pt C.1.2.1) (tb C.1.2.1) ∧ ys_CL own Ts cl C.2.1 G (if C.1.1.2 = true then .invokestatic C.1.1.1 else .invokevirtual C.1.1.1) C.2.2 ∧ yt_shok C.1.2.2.2 C.2.1 sh = true ∧ (C.1.2.2.1 = false → ∀ r g, pt C.1.2.1 r g)) (hnx : ∀ pc i, nx pc = some i → decode cc pc = .ok i) (hd : decode cc pc = .ok (i, n)) (hs : yt_step sh fl ci cj calls cps cqs K nx h pc b fds lv sv i n = some o) (hob : ∀ q ∈ o.2, ∀ (r : Nat → Int) (g : yt_G), ys_okB r b → (∀ i, i < E → r i = r0 i) → yt_h tb r gi h g → pt q.1 (ys_val r 0 q.2.1) (yt_sub q.2.2 g)) (k : ∀ q ∈ o.1, yt_X p l e R s m args below meth c Q kc kz D cl ad cT sh A H0 nL mods g0 r0 E tb gi q.2.2 q.1 q.2.1) : yt_X p l e R s m args below meth c Q kc kz D cl ad cT sh A H0 nL mods g0 r0 E tb gi h pc (b, fds, lv, sv) := by
  subst hnL
  subst hmods
  have hexec := S.1
  have hb := S.2.1
  have hml := S.2.2.1
  have hown := S.2.2.2.1
  have hts := S.2.2.2.2
  obtain ⟨t0, t1, t2, t3, t4, t5⟩ := hty
  have hpl : ∀ {j : Instr}, decode cc pc = .ok (j, n) → ys_isr j = false → yt_pl h (ys_stp sh fl ci cj [] cps (yt_K0 K) nx pc b fds lv sv j n) = some o → yt_X p l e R s m args below meth c Q kc kz D cl ad cT sh A H0 K.1.1.2.2.1 K.2.2.2 g0 r0 E tb gi h pc (b, fds, lv, sv) := by
    intro j hdj hj hp
    obtain ⟨y, h1, h2⟩ := yt_pl_ok hp
    exact yt_plain (K := yt_K0 K) S rfl rfl hfr hlo hkk hA0 hK ⟨t0, t1, t2, t3, t4, t5⟩ hLk hnx hdj h1 hj (fun q hq => k (q.1, q.2, h) (by rw [h2]; exact List.mem_map.mpr ⟨q, hq, rfl⟩))
  cases i with
  | iaload =>
    obtain ⟨e0, hs1⟩ := ys_g1_ok hs
    subst e0
    exact yt_kild hexec hb hK t0 hd (yt_p_ok hs1) k
  | laload =>
    obtain ⟨e0, hs1⟩ := ys_g1_ok hs
    subst e0
    exact yt_klld hexec hb hK t1 hd (yt_p_ok hs1) k
  | baload =>
    obtain ⟨e0, hs1⟩ := ys_g1_ok hs
    subst e0
    rcases ys_or_ok hs1 with hs2 | hs2
    · exact yt_kbld hexec hb hK t2 hd (yt_p_ok hs2) k
    · exact yt_kzld hexec hb hK t3 hd (yt_p_ok hs2) k
  | iastore =>
    obtain ⟨e0, hs1⟩ := ys_g1_ok hs
    subst e0
    exact yt_kist hexec hb hK t0 hd (yt_p_ok hs1) k
  | lastore =>
    obtain ⟨e0, hs1⟩ := ys_g1_ok hs
    subst e0
    exact yt_klst hexec hb hK t1 hd (yt_p_ok hs1) k
  | bastore =>
    obtain ⟨e0, hs1⟩ := ys_g1_ok hs
    subst e0
    rcases ys_or_ok hs1 with hs2 | hs2
    · exact yt_kbst hexec hb hK t2 hd (yt_p_ok hs2) k
    · exact yt_kzst hexec hb hK t3 hd (yt_p_ok hs2) k
  | lrem =>
    rcases ys_or_ok hs with hs1 | hs1
    · obtain ⟨e0, hs2⟩ := ys_g1_ok hs1
      subst e0
      refine yt_kbin (w := true) (OK := fun r _ y => ys_ev r y ≠ 0 ∧ (ys_mn true ≤ ys_ev r y ∧ ys_ev r y ≤ ys_mx true)) (V := fun r x y => .long (Int64.ofInt (ys_ev r x) - Int64.ofInt (ys_ev r x) / Int64.ofInt (ys_ev r y) * Int64.ofInt (ys_ev r y))) (fun r x y brs hF sx sy hbb => ?_) (fun r x y H locs ls rest hok kk => lv_lrem hexec hb hd (ys_ne64 hok.1 hok.2) kk) (yt_p_ok hs2) k
      obtain ⟨h1, h2, h3⟩ := yt_brem_ok (yt_nc_ok hF) sx sy hbb
      exact ⟨⟨h1, h2⟩, h3⟩
    · exact hpl hd rfl hs1
  | ldiv =>
    rcases ys_or_ok hs with hs1 | hs1
    · obtain ⟨e0, hs2⟩ := ys_g1_ok hs1
      subst e0
      refine yt_kbin (w := true) (OK := fun r _ y => ys_ev r y ≠ 0 ∧ (ys_mn true ≤ ys_ev r y ∧ ys_ev r y ≤ ys_mx true)) (V := fun r x y => .long (Int64.ofInt (ys_ev r x) / Int64.ofInt (ys_ev r y))) (fun r x y brs hF sx sy hbb => ?_) (fun r x y H locs ls rest hok kk => lv_ldiv hexec hb hd (ys_ne64 hok.1 hok.2) kk) (yt_p_ok hs2) k
      obtain ⟨h1, h2, h3⟩ := yt_bdiv_ok (yt_nc_ok hF) sx sy hbb
      exact ⟨⟨h1, h2⟩, h3⟩
    · exact hpl hd rfl hs1
  | lmul =>
    rcases ys_or_ok hs with hs1 | hs1
    · rcases ys_or_ok hs1 with hs1 | hs1
      · obtain ⟨e0, hs2⟩ := ys_g1_ok hs1
        subst e0
        refine yt_kbin (OK := fun _ _ _ => True) (V := fun r x y => yt_vl true (ys_ev r x * ys_ev r y)) (fun r x y brs hF sx sy hbb => ⟨trivial, yt_bmul_ok (yt_nc2_ok hF) hbb⟩) (fun r x y H locs ls rest _ kk => lv_lmul hexec hb hd ?_) (yt_p_ok hs2) k
        rw [← Int64.ofInt_mul]
        exact kk
      · obtain ⟨e0, hs2⟩ := ys_g1_ok hs1
        subst e0
        exact yt_kwm hw hexec hb hd (yt_p_ok hs2) k
    · exact hpl hd rfl hs1
  | imul =>
    rcases ys_or_ok hs with hs1 | hs1
    · obtain ⟨e0, hs2⟩ := ys_g1_ok hs1
      subst e0
      refine yt_kbin (OK := fun _ _ _ => True) (V := fun r x y => yt_vl false (ys_ev r x * ys_ev r y)) (fun r x y brs hF sx sy hbb => ⟨trivial, yt_bmul_ok (yt_nc2_ok hF) hbb⟩) (fun r x y H locs ls rest _ kk => lv_imul hexec hb hd ?_) (yt_p_ok hs2) k
      rw [← Int32.ofInt_mul]
      exact kk
    · exact hpl hd rfl hs1
  | iand =>
    rcases ys_or_ok hs with hs1 | hs1
    · obtain ⟨e0, hs2⟩ := ys_g1_ok hs1
      subst e0
      exact yt_kbin (OK := fun _ _ _ => True) (V := fun r x y => .int (Int32.ofInt (ys_ev r x) &&& Int32.ofInt (ys_ev r y))) (fun r x y brs hF sx sy hbb => ⟨trivial, yt_band_ok (yt_nc2_ok hF) sx sy hbb⟩) (fun r x y H locs ls rest _ kk => lv_iand hexec hb hd kk) (yt_p_ok hs2) k
    · exact hpl hd rfl hs1
  | invokevirtual idx =>
    obtain ⟨e0, hs1⟩ := ys_g1_ok hs
    subst e0
    exact yt_kinv (st := false) S hK hA0 hfr hlo hkk hd hob k calls hcalls hs1
  | invokestatic idx =>
    unfold yt_step at hs
    dsimp only at hs
    split at hs
    · cases hs
    · split at hs
      · rename_i hc
        split at hs
        · rename_i hf1
          obtain ⟨e0, hs1⟩ := ys_g1_ok hs
          subst e0
          have hq := hLk.2.2.2 idx (List.contains_iff_mem.mp hc)
          unfold ys_Cp at hq
          rw [show idx / 100000 = 0 by omega] at hq
          obtain ⟨w1, w2, w3, w4⟩ := hq
          exact yt_kcp hexec hb hml hts hown hK t0 t1 (Nat.le_trans hf1 hfr) hlo w1 w2 w3 w4 hd (yt_p_ok hs1) k
        · cases hs
      · split at hs
        · rename_i hc
          obtain ⟨e0, hs1⟩ := ys_g1_ok hs
          subst e0
          have hq := hCq _ (List.contains_iff_mem.mp hc)
          unfold yt_Cq at hq
          rw [show (300000 + idx) / 100000 = 3 by omega, show 300000 + idx - 300000 = idx by omega] at hq
          obtain ⟨w1, w2, w3, w4⟩ := hq
          refine yt_kone (w := false) (V := fun r x => .int (if 0 ≤ Int32.ofInt (ys_ev r x) then Int32.ofInt (ys_ev r x) else 0 - Int32.ofInt (ys_ev r x))) hfr hlo (fun r x brs hF sx hbb => ?_) (fun r x H locs ls rest h1 h2 h3 kk => va_mabs hexec hb (hml.trans h1.symm) hown (hts _ w1) (hts _ w2) (hts _ w3) (hts _ w4) h2 h3 hkk.1 hkk.2 hd kk) (yt_p_ok hs1) k
          have hr : ys_mn false ≤ ys_ev r x ∧ ys_ev r x ≤ ys_mx false := by
            unfold yt_babs at hF
            split at hF
            · rename_i hi
              exact ys_inr_ok hbb.1 hi
            · cases hF
          obtain ⟨a1, a2⟩ := yt_abs32 hr
          refine (yt_babs_ok hF sx hbb (fun h0 => ?_) (fun h0 => ?_) (fun h0 => ?_)).2
          · rw [a1 h0]; rfl
          · rw [a2 h0]; rfl
          · rw [h0]; rfl
        · split at hs
          · rename_i hc
            obtain ⟨e0, hs1⟩ := ys_g1_ok hs
            subst e0
            have hq := hCq _ (List.contains_iff_mem.mp hc)
            unfold yt_Cq at hq
            rw [show (400000 + idx) / 100000 = 4 by omega, show 400000 + idx - 400000 = idx by omega] at hq
            obtain ⟨w1, w2, w3, w4⟩ := hq
            refine yt_kone (w := true) (V := fun r x => .long (if 0 < Int64.ofInt (ys_ev r x) then Int64.ofInt (ys_ev r x) else -Int64.ofInt (ys_ev r x))) hfr hlo (fun r x brs hF sx hbb => ?_) (fun r x H locs ls rest h1 h2 h3 kk => va_mabs_long hexec hb (hml.trans h1.symm) hown (hts _ w1) (hts _ w2) (hts _ w3) (hts _ w4) h2 h3 hkk.1 hkk.2 hd kk) (yt_p_ok hs1) k
            have hr : ys_mn true ≤ ys_ev r x ∧ ys_ev r x ≤ ys_mx true := by
              unfold yt_babs at hF
              split at hF
              · rename_i hi
                exact ys_inr_ok hbb.1 hi
              · cases hF
            obtain ⟨a1, a2⟩ := yt_abs64 hr
            refine (yt_babs_ok hF sx hbb (fun h0 => ?_) (fun h0 => ?_) (fun h0 => ?_)).2
            · rw [a1 h0]; rfl
            · rw [a2 h0]; rfl
            · rw [h0]; rfl
          · split at hs
            · rename_i hc
              obtain ⟨e0, hs1⟩ := ys_g1_ok hs
              subst e0
              have hq := hCq _ (List.contains_iff_mem.mp hc)
              unfold yt_Cq at hq
              rw [show (500000 + idx) / 100000 = 5 by omega, show 500000 + idx - 500000 = idx by omega] at hq
              exact yt_kmx hexec hb hml hts hown hfr hlo hkk hq hd (yt_p_ok hs1) k
            · split at hs
              · exact hpl hd rfl hs
              · obtain ⟨e0, hs1⟩ := ys_g1_ok hs
                subst e0
                exact yt_kinv (st := true) S hK hA0 hfr hlo hkk hd hob k calls hcalls hs1
  | ireturn => cases hs
  | lreturn => cases hs
  | return_ => cases hs
  | freturn => exact hpl hd rfl hs
  | _ => exact hpl hd rfl hs
end YTS
end
section
/-! runs and methods; where words are wanted, a list of conditions to be shown by hand -/
abbrev yt_T : Type := ys_T × List ys_L × Bool
abbrev yt_VC : Type := Nat × ys_B × List ys_L × List Nat × List yt_Ev
def yt_cck (E : Nat) (mo : Option ys_L) (b : ys_B) (fds : ys_F) (lv : List (Nat × ys_V)) (sv : List ys_V) (T : ys_T) : Option (List ys_L) := match ys_zf T.2.2.1.1 fds.1, ys_zl lv T.2.2.2.1 with
  | some fp, some lp => if T.2.2.2.2.1.length = sv.length then (match ys_mat b fds.2 E T.1 T.2.1 T.2.2.1.2 (lp ++ (T.2.2.2.2.1.zip sv ++ fp)) with
    | some t => (match mo with
      | none => some t
      | some m0 => if ys_ge b.1 b.2 2 (ys_add (ys_sub m0 (ys_put E t T.2.2.2.2.2)) ([], -1)) = true then some t else none)
    | none => none) else none
  | _, _ => none
def yt_fc (E : Nat) (mo : Option ys_L) (b : ys_B) (fds : ys_F) (lv : List (Nat × ys_V)) (sv : List ys_V) (h : List yt_Ev) (pc : Nat) : Nat → List (Nat × yt_T) → Option (List yt_VC)
  | _, [] => none
  | j, q :: x => if q.1 = pc then (match yt_cck E mo b fds lv sv q.2.1 with
    | some t => some (if (q.2.2.2 || !q.2.2.1.isEmpty) = true then [(j, b, t, [], h)] else [])
    | none => yt_fc E mo b fds lv sv h pc (j + 1) x) else yt_fc E mo b fds lv sv h pc (j + 1) x
theorem yt_fc_ok {E : Nat} {mo : Option ys_L} {b : ys_B} {fds : ys_F} {lv : List (Nat × ys_V)} {sv : List ys_V} {h : List yt_Ev} {pc : Nat} {vs : List yt_VC} : ∀ (x : List (Nat × yt_T)) (i : Nat), yt_fc E mo b fds lv sv h pc i x = some vs → ∃ (j : Nat) (q : Nat × yt_T) (t : List ys_L), x[j]? = some q ∧ q.1 = pc ∧ yt_cck E mo b fds lv sv q.2.1 = some t ∧ vs = if (q.2.2.2 || !q.2.2.1.isEmpty) = true then [(i + j, b, t, [], h)] else []
  | [], i, hs => by cases hs
  | q :: x, i, hs => by
    unfold yt_fc at hs
    split at hs
    · rename_i he
      split at hs
      · rename_i t ht
        exact ⟨0, q, t, rfl, he, ht, (Option.some.inj hs).symm⟩
      · obtain ⟨j, q', t, h1, h2, h3, h4⟩ := yt_fc_ok x (i + 1) hs
        exact ⟨j + 1, q', t, h1, h2, h3, by rw [h4, show i + 1 + j = i + (j + 1) by omega]⟩
    · obtain ⟨j, q', t, h1, h2, h3, h4⟩ := yt_fc_ok x (i + 1) hs
      exact ⟨j + 1, q', t, h1, h2, h3, by rw [h4, show i + 1 + j = i + (j + 1) by omega]⟩
def yt_ret1 (E : Nat) (b : ys_B) (fds : ys_F) (v : Option ys_V) (a : ys_A) : Option (List ys_L) := match ys_zf a.2.2.1.1 fds.1 with
  | some fp => (match a.2.2.2, v with
    | some x, some y => ys_mat b fds.2 E a.1 a.2.1 a.2.2.1.2 ((x, y) :: fp)
    | none, none => ys_mat b fds.2 E a.1 a.2.1 a.2.2.1.2 fp
    | _, _ => none)
  | none => none
def yt_ret2 (E : Nat) (b : ys_B) (fds : ys_F) (v : Option ys_V) (h : List yt_Ev) (sa : List Bool) : Nat → List ys_A → Option (List yt_VC)
  | _, [] => none
  | i, a :: x => match yt_ret1 E b fds v a with
    | some t => some (if sa.getD i false = true then [(1000 + i, b, t, [], h)] else [])
    | none => yt_ret2 E b fds v h sa (i + 1) x
theorem yt_ret2_ok {E : Nat} {b : ys_B} {fds : ys_F} {v : Option ys_V} {h : List yt_Ev} {sa : List Bool} {vs : List yt_VC} : ∀ (x : List ys_A) (i : Nat), yt_ret2 E b fds v h sa i x = some vs → ∃ (j : Nat) (a : ys_A) (t : List ys_L), x[j]? = some a ∧ yt_ret1 E b fds v a = some t ∧ vs = if sa.getD (i + j) false = true then [(1000 + (i + j), b, t, [], h)] else []
  | [], i, hs => by cases hs
  | a :: x, i, hs => by
    unfold yt_ret2 at hs
    split at hs
    · rename_i t ht
      exact ⟨0, a, t, rfl, ht, (Option.some.inj hs).symm⟩
    · obtain ⟨j, a', t, h1, h2, h3⟩ := yt_ret2_ok x (i + 1) hs
      exact ⟨j + 1, a', t, h1, h2, by rw [h3, show i + 1 + j = i + (j + 1) by omega]⟩
def yt_rt (K : ys_K) (sa : List Bool) (b : ys_B) (fds : ys_F) (sv : List ys_V) (h : List yt_Ev) (i : Instr) (n : Nat) : Option (List yt_VC) := match i with
  | .ireturn => (match sv with
    | [.inl (.inl x)] => if decide (n = 1) && (decide (K.1.1.2.2.2 = some .int) || (decide (K.1.1.2.2.2 = some .boolean) && (ys_geb b.1 x 0 && ys_geb b.1 (ys_scale (-1) x) (-1)))) then yt_ret2 K.2.1.2.1.1.length b fds (some (.inl (.inl x))) h sa 0 K.2.2.1 else none
    | _ => none)
  | .lreturn => (match sv with
    | [.inl (.inr x)] => if decide (n = 1) && decide (K.1.1.2.2.2 = some .long) then yt_ret2 K.2.1.2.1.1.length b fds (some (.inl (.inr x))) h sa 0 K.2.2.1 else none
    | _ => none)
  | .return_ => (match sv with
    | [] => if decide (n = 1) && decide (K.1.1.2.2.2 = none) then yt_ret2 K.2.1.2.1.1.length b fds none h sa 0 K.2.2.1 else none
    | _ => none)
  | _ => none
def yt_all {α : Type} (f : α → Option (List yt_VC)) : List α → Option (List yt_VC)
  | [] => some []
  | a :: t => match f a, yt_all f t with
    | some x, some y => some (x ++ y)
    | _, _ => none
theorem yt_all_ok {α : Type} {f : α → Option (List yt_VC)} : ∀ (l : List α) (vs : List yt_VC), yt_all f l = some vs → ∀ a ∈ l, ∃ x, f a = some x ∧ ∀ v ∈ x, v ∈ vs
  | [], vs, _, a, ha => by cases ha
  | b :: t, vs, hs, a, ha => by
    unfold yt_all at hs
    split at hs
    · rename_i x y hx hy
      cases Option.some.inj hs
      rcases List.mem_cons.mp ha with q | q
      · rw [q]
        exact ⟨x, hx, fun v hv => List.mem_append_left _ hv⟩
      · obtain ⟨x', h1, h2⟩ := yt_all_ok t y hy a q
        exact ⟨x', h1, fun v hv => List.mem_append_right _ (h2 v hv)⟩
    · cases hs
def yt_run (sh : List ys_C) (fl : ys_FL) (ci cj : List (Nat × Int)) (calls : List yt_CE) (cps cqs : List Nat) (K : ys_K) (nx : Nat → Option (Instr × Nat)) (cuts : List (Nat × yt_T)) (sa : List Bool) (mo : Option ys_L) : Nat → Bool → Nat → ys_S → List yt_Ev → Option (List yt_VC)
  | 0, _, _, _, _ => none
  | n + 1, f, pc, S, h => if !f && cuts.any (fun q => q.1 == pc) then yt_fc K.2.1.2.1.1.length mo S.1 S.2.1 S.2.2.1 S.2.2.2 h pc 0 cuts else (match nx pc with
    | none => none
    | some i => if ys_isr i.1 = true then yt_rt K sa S.1 S.2.1 S.2.2.2 h i.1 i.2 else (match yt_step sh fl ci cj calls cps cqs K nx h pc S.1 S.2.1 S.2.2.1 S.2.2.2 i.1 i.2 with
      | none => none
      | some o => (match yt_all (fun q => yt_run sh fl ci cj calls cps cqs K nx cuts sa mo n false q.1 q.2.1 q.2.2) o.1 with
        | some vs => some (o.2.map (fun q => (2000 + q.1, S.1, q.2.1, q.2.2, h)) ++ vs)
        | none => none)))
def yt_cap (E : Nat) (r : Nat → Int) : Nat → Int := fun i => if i < E then r i else 0
theorem yt_cap_eq {E : Nat} {r r0 : Nat → Int} (h : ∀ i, i < E → r i = r0 i) (hz : ∀ i, E ≤ i → r0 i = 0) : yt_cap E r = r0 := by
  funext i
  unfold yt_cap
  split
  · rename_i hi
    exact h i hi
  · rw [hz i (by omega)]
section YTH
variable (tb : yt_Tb) (K : ys_K) (cuts : List (Nat × yt_T)) (Ga : Nat → yt_G → (Nat → Int) → yt_G → Prop) (Ph : yt_Ph) (pt : Nat → yt_Ps)
def yt_dd (g0 : yt_G) (v : yt_VC) (r : Nat → Int) (g : yt_G) : Prop := if v.1 < 1000 then (∃ q, cuts[v.1]? = some q ∧ ys_fk (ys_val r K.2.1.2.1.1.length v.2.2.1) q.2.2.1 ∧ Ga v.1 g0 (ys_val r K.2.1.2.1.1.length v.2.2.1) g) else if v.1 < 2000 then Ph (v.1 - 1000) (ys_val r K.2.1.2.1.1.length v.2.2.1) g0 g else pt (v.1 - 2000) (ys_val r 0 v.2.2.1) (yt_sub v.2.2.2.1 g)
def yt_hold (E' : Nat) (ars : List ys_R) (Gs : yt_G → (Nat → Int) → yt_G → Prop) (v : yt_VC) : Prop := ∀ (g0 : yt_G) (r : Nat → Int) (gi g : yt_G), ys_okB r v.2.1 → yt_h tb r gi v.2.2.2.2 g → (∀ (k : Nat) (a : ys_R), ars[k]? = some a → ys_rok a (gi k)) → (∀ k, k ∉ K.2.2.2 → gi k = g0 k) → Gs g0 (yt_cap E' r) gi → yt_dd K cuts Ga Ph pt g0 v r g
end YTH
section YTR
variable {p : Program} {l : Launch} {e : Env} {R : Room} {s : State} {m : MethodId} {args : Array Value} {below : List Frame} {meth : Method} {c : Code} {Q : State → Prop} {kc kz : Nat} {D : va_G} {cl : List vw_C} {ad : Nat → Nat} {cT : Nat → ClassId} {sh : List ys_C} {A : Nat → Prop} {H0 : Heap} {nL : Nat} {mods : List Nat} {g0 : yt_G} {r0 : Nat → Int} {E : Nat} {tb : yt_Tb} {gi : yt_G} {h : List yt_Ev} {pc : Nat} {b : ys_B} {fds : ys_F} {lv : List (Nat × ys_V)} {sv : List ys_V} {cc : ByteArray} {own : String} {Ts : List Cond} {tys : List (ClassId × FieldType)}
variable {G : List Cond} {pt : Nat → yt_Ps} {calls : List yt_CE} {K : ys_K} {fl : ys_FL} {ci cj : List (Nat × Int)} {cps cqs : List Nat} {nx : Nat → Option (Instr × Nat)} {rr : Nat → Int} {cuts : List (Nat × yt_T)} {sa : List Bool} {mo : Option ys_L} {Ga : Nat → yt_G → (Nat → Int) → yt_G → Prop} {Ph : yt_Ph}
theorem yt_cck_ok {T : ys_T} {t : List ys_L} {r : Nat → Int} {g : yt_G} {H : Heap} {locs : List Loc} {ls : Array Slot} {st : List Value} (hE : K.2.1.2.1.1.length ≤ E) (hrr : ∀ i, i < K.2.1.2.1.1.length → r0 i = rr i) (hB : ys_okB rr K.2.1.2.1) (hBs : ys_scB K.2.1.2.1) (hT : ys_scb (ys_sT K.2.1.2.1 T) = true) (h : ys_rep D cl ad cT sh A H0 nL [] g r0 r E (b, fds, lv, sv) H locs ls st) (hc : yt_cck K.2.1.2.1.1.length mo b fds lv sv T = some t) :
    ys_rep D cl ad cT sh A H0 nL [] g rr (ys_val r K.2.1.2.1.1.length t) K.2.1.2.1.1.length (ys_sT K.2.1.2.1 T) H locs ls st ∧ t.length = T.1.length ∧ ∀ m0, mo = some m0 → ys_ev (ys_val r K.2.1.2.1.1.length t) T.2.2.2.2.2 < ys_ev r m0 := by
  unfold yt_cck at hc
  split at hc
  · rename_i fp lp hfp hlp
    split at hc
    · rename_i hsl
      split at hc
      · rename_i t0 hm
        have hm0 : t0 = t ∧ ∀ m0, mo = some m0 → ys_ge b.1 b.2 2 (ys_add (ys_sub m0 (ys_put K.2.1.2.1.1.length t0 T.2.2.2.2.2)) ([], -1)) = true := by
          split at hc
          · exact ⟨Option.some.inj hc, fun m0 hm0 => by cases hm0⟩
          · rename_i m0
            split at hc
            · rename_i hq
              exact ⟨Option.some.inj hc, fun m1 hm1 => by cases hm1; exact hq⟩
            · cases hc
        obtain ⟨et, hmm⟩ := hm0
        subst et
        obtain ⟨h1, h2, ⟨hEl, hr⟩, ⟨g', hg, hP, hD, hS⟩, hlv, hst⟩ := h
        obtain ⟨-, e2, e3, e4, e5, e6, e7⟩ := ys_mat_ok (ad := ad) h1 hm
        have hlow : ∀ i, i < K.2.1.2.1.1.length → ys_val r K.2.1.2.1.1.length t0 i = rr i := fun i hi => by rw [ys_val_low hi, hr i (Nat.lt_of_lt_of_le hi hE), hrr i hi]
        have ew : ys_wld ad cT sh (ys_val r K.2.1.2.1.1.length t0) g' T.2.2.1.1 = ys_wld ad cT sh r g' fds.1 := ys_wld_eq (ys_zf_ok _ _ _ hfp (fun q hq => e5 q (List.mem_append_right _ (List.mem_append_right _ hq))))
        refine ⟨⟨⟨fun i q hi => ?_, fun f hf => ?_⟩, ys_scb_ok hT, ⟨?_, hlow⟩, ⟨g', ⟨fun kk z hz => ?_, hg.2⟩, ?_, ?_, hS⟩, ⟨hlv.1, hlv.2.1, ?_⟩, ?_⟩, e2, fun m0 hm0 => ?_⟩
        · have hi : (K.2.1.2.1.1 ++ T.1)[i]? = some q := hi
          by_cases hl : i < K.2.1.2.1.1.length
          · rw [List.getElem?_append_left hl] at hi
            rw [hlow i hl]
            exact hB.1 i q hi
          · rw [List.getElem?_append_right (by omega)] at hi
            have := e3 _ q hi
            rw [show K.2.1.2.1.1.length + (i - K.2.1.2.1.1.length) = i by omega] at this
            exact this
        · rcases List.mem_append.mp hf with q | q
          · rw [hBs f q _ rr hlow]
            exact hB.2 f q
          · exact e4 f q
        · show K.2.1.2.1.1.length ≤ (K.2.1.2.1.1 ++ T.1).length
          rw [List.length_append]
          omega
        · obtain ⟨a0, g1, g2⟩ := e7 kk z hz
          exact ys_rle_ok g2 (hg.1 kk a0 g1)
        · show va_P D cl (ys_wld ad cT sh (ys_val r K.2.1.2.1.1.length t0) g' T.2.2.1.1) H
          rw [ew]
          exact hP
        · show va_D _ (ys_wld ad cT sh (ys_val r K.2.1.2.1.1.length t0) g' T.2.2.1.1)
          rw [ew]
          exact hD
        · exact ys_zl_ok hlv _ _ hlp (fun q hq => e5 q (List.mem_append_left _ hq))
        · rw [hst]
          exact (ys_zip_map _ _ hsl (fun q hq => e5 q (List.mem_append_right _ (List.mem_append_left _ hq)))).symm
        · have := ys_ge_le h1.1 h1.2 _ _ (hmm m0 hm0)
          rw [ys_m1, ys_sub_ev, ys_put_ev] at this
          omega
      · cases hc
    · cases hc
  · cases hc
theorem yt_kret {v : Option ys_V} {a : ys_A} {i : Nat} {tt : List ys_L} {r : Nat → Int} {g : yt_G} {H : Heap} {locs : List Loc} {ls : Array Slot} {st : List Value} {aa : Array Value} (hE : K.2.1.2.1.1.length ≤ E) (hrr : ∀ i, i < K.2.1.2.1.1.length → r0 i = rr i) (hK : va_K D cl tys s) (h : ys_rep D cl ad cT sh (va_A (ys_wK ad cT sh K rr g0) s.heap.size) s.heap nL [] g r0 r E (b, fds, lv, sv) H locs ls st) (hm0 : ∀ k, k ∉ K.2.2.2 → g k = g0 k) (ha : K.2.2.1[i]? = some a) (hs1 : yt_ret1 K.2.1.2.1.1.length b fds v a = some tt) (hPh : Ph i (ys_val r K.2.1.2.1.1.length tt) g0 g) :
    ∀ t : State, t.heap = H → s.WarmedH t.vm → yt_Post D cl cT tys ad sh K Ph rr g0 s.heap.size aa s (.returned (v.map (ys_den ad r))) t := by
  intro t ht hW
  obtain ⟨hg, hP, hD, hS⟩ := yt_wd h
  obtain ⟨h1, h2, ⟨hEl, hr⟩, -, -, -⟩ := h
  have key : ∀ (prs : List (ys_V × ys_V)) (fp : List (ys_V × ys_V)), ys_zf a.2.2.1.1 fds.1 = some fp → (∀ q ∈ fp, q ∈ prs) → ys_mat b fds.2 K.2.1.2.1.1.length a.1 a.2.1 a.2.2.1.2 prs = some tt → (a.2.2.2.map (ys_den ad (ys_val r K.2.1.2.1.1.length tt)) = v.map (ys_den ad r)) → yt_Post D cl cT tys ad sh K Ph rr g0 s.heap.size aa s (.returned (v.map (ys_den ad r))) t := by
    intro prs fp hz hsub hm hv
    obtain ⟨-, e2, e3, e4, e5, e6, e7⟩ := ys_mat_ok (ad := ad) h1 hm
    have ew : ys_wld ad cT sh (ys_val r K.2.1.2.1.1.length tt) g a.2.2.1.1 = ys_wld ad cT sh r g fds.1 := ys_wld_eq (ys_zf_ok _ _ _ hz (fun q hq => e5 q (hsub q hq)))
    refine ⟨⟨i, a, ha, ys_val r K.2.1.2.1.1.length tt, g, ⟨fun i hi => ?_, fun i hi => ys_val_high (by omega), e3, e4, ⟨fun kk z hz => ?_, hm0⟩, ?_, ?_, va_K.moved hW.alike hK, by rw [hv]⟩, hPh⟩, hS.F ht⟩
    · rw [ys_val_low hi, hr i (Nat.lt_of_lt_of_le hi hE), hrr i hi]
    · obtain ⟨a0, g1, g2⟩ := e7 kk z hz
      exact ys_rle_ok g2 (hg kk a0 g1)
    · rw [ew, ht]
      exact hP
    · rw [ew]
      exact hD
  unfold yt_ret1 at hs1
  split at hs1
  · rename_i fp hfp
    split at hs1
    · rename_i x y hx
      refine key _ fp hfp (fun q hq => List.mem_cons_of_mem _ hq) hs1 ?_
      obtain ⟨-, -, -, -, e5, -⟩ := ys_mat_ok (ad := ad) h1 hs1
      rw [hx]
      show some _ = some _
      rw [e5 (x, y) List.mem_cons_self]
    · rename_i hx
      refine key _ fp hfp (fun q hq => hq) hs1 ?_
      rw [hx]
      rfl
    · cases hs1
  · cases hs1
theorem yt_run_ok {ars : List ys_R} {Gs : yt_G → (Nat → Int) → yt_G → Prop} (hw : ∀ (r : Nat → Int) (g : yt_G), r 2 = (r 0 * r 1).bmod Int64.size → tb 998 0 r g g) (S : CallFix p m c K.1.1.2.1 K.1.1.2.2.1 s args (ys_ws G K) own) (hr : meth.sig.returnType = K.1.1.2.2.2) (hlocks : meth.locks = false) (hK : va_K D cl tys s) (hty : ys_Ty tys cT sh) (hLk : ys_Lk own (ys_ws G K) cl fl ci cj cps) (hCq : ∀ v, v ∈ cqs → yt_Cq own (ys_ws G K) v) (hcalls : ∀ C ∈ calls, yt_Con l D cl cT tys G C.2.1 C.2.2 (pt C.1.2.1) (tb C.1.2.1) ∧ ys_CL own (ys_ws G K) cl C.2.1 G (if C.1.1.2 = true then .invokestatic C.1.1.1 else .invokevirtual C.1.1.1) C.2.2 ∧ yt_shok C.1.2.2.2 C.2.1 sh = true ∧ (C.1.2.2.1 = false → ∀ r g, pt C.1.2.1 r g)) (hnx : ∀ pc i, nx pc = some i → decode K.1.1.2.1 pc = .ok i) (hE : K.2.1.2.1.1.length ≤ E) (hrr : ∀ i, i < K.2.1.2.1.1.length → r0 i = rr i) (hB : ys_okB rr K.2.1.2.1) (hBs : ys_scB K.2.1.2.1) (hz : ∀ i, E ≤ i → r0 i = 0) (hT : ∀ q ∈ cuts, ys_scb (ys_sT K.2.1.2.1 q.2.1) = true) (hmo : ∀ m0, mo = some m0 → ys_stb E m0)
    (hars : ∀ (k : Nat) (a : ys_R), ars[k]? = some a → ys_rok a (gi k)) (hgi : ∀ k, k ∉ K.2.2.2 → gi k = g0 k) (hGs : Gs g0 r0 gi) (hcn : cuts.length ≤ 1000) (han : K.2.2.1.length ≤ 1000) (hns : ∀ (j : Nat) (q : Nat × yt_T), cuts[j]? = some q → q.2.2.2 = false → ∀ g0 r g, Ga j g0 r g) (hsa : ∀ i, sa.getD i false = false → ∀ r g g', Ph i r g g')
    (hcut : ∀ (j : Nat) (q : Nat × yt_T), cuts[j]? = some q → ∀ (r2 : Nat → Int) (g : yt_G) (H : Heap) (locs : List Loc) (ls : Array Slot) (st : List Value), ys_rep D cl ad cT sh (va_A (ys_wK ad cT sh K rr g0) s.heap.size) s.heap K.1.1.2.2.1 [] g rr r2 K.2.1.2.1.1.length (ys_sT K.2.1.2.1 q.2.1) H locs ls st → ys_fk r2 q.2.2.1 → Ga j g0 r2 g → (∀ i, K.2.1.2.1.1.length + q.2.1.1.length ≤ i → r2 i = 0) → (∀ k, k ∉ K.2.2.2 → g k = g0 k) → (∀ m0, mo = some m0 → ys_ev r2 q.2.1.2.2.2.2.2 < ys_ev r0 m0) → W p l e (ys_rm K) s m args below meth c H locs 0 0 (MQ below (yt_Post D cl cT tys ad sh K Ph rr g0 s.heap.size) args s 0 0 (va_A (ys_wK ad cT sh K rr g0) s.heap.size)) (F0 m q.1 ls st)) :
    ∀ (n : Nat) (f : Bool) (pc : Nat) (x : ys_S) (h : List yt_Ev) (vs : List yt_VC), yt_run sh fl ci cj calls cps cqs K nx cuts sa mo n f pc x h = some vs → (∀ v ∈ vs, yt_hold tb K cuts Ga Ph pt E ars Gs v) → yt_X p l e (ys_rm K) s m args below meth c (MQ below (yt_Post D cl cT tys ad sh K Ph rr g0 s.heap.size) args s 0 0 (va_A (ys_wK ad cT sh K rr g0) s.heap.size)) 0 0 D cl ad cT sh (va_A (ys_wK ad cT sh K rr g0) s.heap.size) s.heap K.1.1.2.2.1 K.2.2.2 g0 r0 E tb gi h pc x
  | 0, f, pc, x, h, vs, hs, hv => by cases hs
  | n + 1, f, pc, x, h, vs, hs, hv => by
    have hexec := S.1
    have hb := S.2.1
    unfold yt_run at hs
    split at hs
    · obtain ⟨j, q, t, h1, h2, h3, h4⟩ := yt_fc_ok _ _ hs
      intro r g H locs ls st hrep hh hsc hm
      obtain ⟨k1, k2, k3⟩ := yt_cck_ok hE hrr hB hBs (hT q (List.mem_of_getElem? h1)) (b := x.1) (fds := x.2.1) (lv := x.2.2.1) (sv := x.2.2.2) hrep h3
      have hcap := yt_cap_eq hrep.2.2.1.2 hz
      have hfg : ys_fk (ys_val r K.2.1.2.1.1.length t) q.2.2.1 ∧ Ga j g0 (ys_val r K.2.1.2.1.1.length t) g := by
        by_cases hf : (q.2.2.2 || !q.2.2.1.isEmpty) = true
        · rw [if_pos hf] at h4
          have h5 := hv _ (h4 ▸ List.mem_cons_self) g0 r gi g hrep.1 hh hars hgi (by rw [hcap]; exact hGs)
          unfold yt_dd at h5
          have hj := (List.getElem?_eq_some_iff.mp h1).1
          rw [if_pos (show 0 + j < 1000 by omega)] at h5
          obtain ⟨q', e1, e2, e3⟩ := h5
          have e1 : cuts[0 + j]? = some q' := e1
          rw [Nat.zero_add, h1] at e1
          cases e1
          have e3 : Ga (0 + j) g0 (ys_val r K.2.1.2.1.1.length t) g := e3
          rw [Nat.zero_add] at e3
          exact ⟨e2, e3⟩
        · have hf : (q.2.2.2 || !q.2.2.1.isEmpty) = false := by simpa using hf
          rw [Bool.or_eq_false_iff] at hf
          have e1 : q.2.2.1 = [] := by
            have := hf.2
            cases hq : q.2.2.1 with
            | nil => rfl
            | cons a t => rw [hq] at this; cases this
          rw [e1]
          exact ⟨fun f hf => absurd hf List.not_mem_nil, hns j q h1 hf.1 _ _ _⟩
      have h6 := hcut j q h1 (ys_val r K.2.1.2.1.1.length t) g H locs ls st k1 hfg.1 hfg.2 (fun i hi => ys_val_high (by omega)) hm (fun m0 hm0 => by
        have := k3 m0 hm0
        rw [hmo m0 hm0 r r0 hrep.2.2.1.2] at this
        exact this)
      rw [h2] at h6
      exact h6
    · split at hs
      · cases hs
      · rename_i i hi
        have hd := hnx pc i hi
        split at hs
        · intro r g H locs ls st hrep hh hsc hm
          have hcap := yt_cap_eq hrep.2.2.1.2 hz
          have hf : ∀ q ∈ locs, va_A (ys_wK ad cT sh K rr g0) s.heap.size q.base := (yt_wd hrep).2.2.2.2.2
          have fin : ∀ v : Option ys_V, yt_ret2 K.2.1.2.1.1.length x.1 x.2.1 v h sa 0 K.2.2.1 = some vs → ∀ t : State, t.heap = H → s.WarmedH t.vm → yt_Post D cl cT tys ad sh K Ph rr g0 s.heap.size args s (.returned (v.map (ys_den ad r))) t := by
            intro v hv2
            obtain ⟨j, a, t, h1, h2, h3⟩ := yt_ret2_ok _ _ hv2
            refine yt_kret (b := x.1) (fds := x.2.1) (lv := x.2.2.1) (sv := x.2.2.2) hE hrr hK hrep hm h1 h2 ?_
            by_cases hc : sa.getD (0 + j) false = true
            · rw [if_pos hc] at h3
              have h5 := hv _ (h3 ▸ List.mem_cons_self) g0 r gi g hrep.1 hh hars hgi (by rw [hcap]; exact hGs)
              unfold yt_dd at h5
              have hj := (List.getElem?_eq_some_iff.mp h1).1
              rw [if_neg (show ¬ 1000 + (0 + j) < 1000 by omega), if_pos (show 1000 + (0 + j) < 2000 by omega)] at h5
              have h5 : Ph (1000 + (0 + j) - 1000) (ys_val r K.2.1.2.1.1.length t) g0 g := h5
              rw [show 1000 + (0 + j) - 1000 = j by omega] at h5
              exact h5
            · rw [Nat.zero_add] at hc
              exact hsa j (by simpa using hc) _ _ _
          unfold yt_rt at hs
          split at hs
          · rename_i hins
            split at hs
            · rename_i y hy
              split at hs
              · rename_i hc
                rw [Bool.and_eq_true, decide_eq_true_eq] at hc
                have hq := fin _ hs
                have hst : st = [.int (Int32.ofInt (ys_ev r y))] := by
                  have := hrep.2.2.2.2.2
                  rw [hy] at this
                  exact this
                have hd : decode K.1.1.2.1 pc = .ok (.ireturn, 1) := by
                  rw [hd, ← hins, ← hc.1]
                rw [hst]
                rcases (Bool.or_eq_true _ _).mp hc.2 with h1 | h1
                · exact W.iret hexec hb (hr.trans (of_decide_eq_true h1)) hq hf hd hlocks
                · rw [Bool.and_eq_true, Bool.and_eq_true] at h1
                  have g1 := ys_geb_le hrep.1.1 h1.2.1
                  have g2 := ys_geb_le hrep.1.1 h1.2.2
                  rw [ys_scale_ev] at g2
                  refine W.zret (ty := .boolean) hexec hb (hr.trans (of_decide_eq_true h1.1)) ?_ hq hf hd hlocks
                  show Value.int (Int32.ofInt (ys_ev r y) &&& 1) = Value.int (Int32.ofInt (ys_ev r y))
                  rcases ys_01 g1 (show ys_ev r y ≤ 1 by omega) with q | q <;> rw [q] <;> rfl
              · cases hs
            · cases hs
          · rename_i hins
            split at hs
            · rename_i y hy
              split at hs
              · rename_i hc
                rw [Bool.and_eq_true, decide_eq_true_eq] at hc
                have hq := fin _ hs
                have hst : st = [.long (Int64.ofInt (ys_ev r y))] := by
                  have := hrep.2.2.2.2.2
                  rw [hy] at this
                  exact this
                have hd : decode K.1.1.2.1 pc = .ok (.lreturn, 1) := by
                  rw [hd, ← hins, ← hc.1]
                rw [hst]
                exact W.lret hexec hb (hr.trans (of_decide_eq_true hc.2)) hq hf hd hlocks
              · cases hs
            · cases hs
          · rename_i hins
            split at hs
            · rename_i hy
              split at hs
              · rename_i hc
                rw [Bool.and_eq_true, decide_eq_true_eq] at hc
                have hq := fin _ hs
                have hst : st = [] := by
                  have := hrep.2.2.2.2.2
                  rw [hy] at this
                  exact this
                have hd : decode K.1.1.2.1 pc = .ok (.return_, 1) := by
                  rw [hd, ← hins, ← hc.1]
                rw [hst]
                exact W.vret hexec hb (hr.trans (of_decide_eq_true hc.2)) hq hf hd hlocks
              · cases hs
            · cases hs
          · cases hs
        · split at hs
          · cases hs
          · rename_i o ho
            split at hs
            · rename_i vs' hvs
              have hs := (Option.some.inj hs).symm
              subst hs
              refine yt_step_ok (b := x.1) (fds := x.2.1) (lv := x.2.2.1) (sv := x.2.2.2) hw S rfl rfl (Nat.le_refl _) (Nat.le_refl _) ⟨Nat.le_refl _, Nat.le_refl _⟩ (fun q h => Or.inr h) hK hty hLk hCq hcalls hnx hd ho (fun q hq r g q1 q2 q3 => ?_) (fun q hq => ?_)
              · have h5 := hv (2000 + q.1, x.1, q.2.1, q.2.2, h) (List.mem_append_left _ (List.mem_map.mpr ⟨q, hq, rfl⟩)) g0 r gi g q1 q3 hars hgi (by rw [yt_cap_eq q2 hz]; exact hGs)
                unfold yt_dd at h5
                rw [if_neg (show ¬ 2000 + q.1 < 1000 by omega), if_neg (show ¬ 2000 + q.1 < 2000 by omega)] at h5
                have h5 : pt (2000 + q.1 - 2000) (ys_val r 0 q.2.1) (yt_sub q.2.2 g) := h5
                rw [show 2000 + q.1 - 2000 = q.1 by omega] at h5
                exact h5
              · obtain ⟨y, h1, h2⟩ := yt_all_ok _ _ hvs q hq
                exact yt_run_ok hw S hr hlocks hK hty hLk hCq hcalls hnx hE hrr hB hBs hz hT hmo hars hgi hGs hcn han hns hsa hcut n false q.1 q.2.1 q.2.2 y h1 (fun v hv2 => hv v (List.mem_append_right _ (h2 v hv2)))
            · cases hs
end YTR
/-! alike or not, for the lists of conditions -/
def yt_dS {α β : Type} (a : DecidableEq α) (b : DecidableEq β) : DecidableEq (α ⊕ β) := fun x y => match x, y with
  | .inl u, .inl v => (match a u v with
    | isTrue h => isTrue (by rw [h])
    | isFalse h => isFalse (fun e => h (Sum.inl.inj e)))
  | .inr u, .inr v => (match b u v with
    | isTrue h => isTrue (by rw [h])
    | isFalse h => isFalse (fun e => h (Sum.inr.inj e)))
  | .inl _, .inr _ => isFalse (fun e => by cases e)
  | .inr _, .inl _ => isFalse (fun e => by cases e)
def yt_dL : DecidableEq ys_L := inferInstance
def yt_dLs : DecidableEq (List ys_L) := @instDecidableEqList _ yt_dL
def yt_dNs : DecidableEq (List Nat) := inferInstance
def yt_dP {α β : Type} (a : DecidableEq α) (b : DecidableEq β) : DecidableEq (α × β) := @instDecidableEqProd _ _ a b
def yt_d1 : DecidableEq (Nat × ys_L × Nat) := yt_dP instDecidableEqNat (yt_dP yt_dL instDecidableEqNat)
def yt_d2 : DecidableEq (Nat × ys_L × ys_L) := yt_dP instDecidableEqNat (yt_dP yt_dL yt_dL)
def yt_d4 : DecidableEq (Nat × Nat × List ys_L × List Nat × List Nat) := yt_dP instDecidableEqNat (yt_dP instDecidableEqNat (yt_dP yt_dLs (yt_dP yt_dNs yt_dNs)))
def yt_d5 : DecidableEq (Nat × Nat × ys_L × ys_L × ys_L) := yt_dP instDecidableEqNat (yt_dP instDecidableEqNat (yt_dP yt_dL (yt_dP yt_dL yt_dL)))
def yt_dEv : DecidableEq yt_Ev := yt_dS (yt_dS yt_d1 yt_d2) (yt_dS yt_d2 (yt_dS yt_d4 yt_d5))
def yt_dH : DecidableEq (List yt_Ev) := @instDecidableEqList _ yt_dEv
def yt_dB : DecidableEq ys_B := inferInstance
def yt_dVC : DecidableEq yt_VC := yt_dP instDecidableEqNat (yt_dP yt_dB (yt_dP yt_dLs (yt_dP yt_dNs yt_dH)))
def yt_dVs : DecidableEq (List yt_VC) := @instDecidableEqList _ yt_dVC
def yt_beq (x : Option (List yt_VC)) (y : List yt_VC) : Bool := match x with
  | some z => @decide (z = y) (yt_dVs z y)
  | none => false
theorem yt_beq_ok {x : Option (List yt_VC)} {y : List yt_VC} (h : yt_beq x y = true) : x = some y := by
  unfold yt_beq at h
  split at h
  · rename_i z
    rw [@of_decide_eq_true _ (yt_dVs z y) h]
  · cases h
/-- code; links: fields, ints, longs, copies, other members of the library; loop heads; which ends have words -/
abbrev yt_Q : Type := List (Nat × (Instr × Nat)) × (ys_FL × List (Nat × Int) × List (Nat × Int) × List Nat × List Nat) × List (Nat × yt_T) × List Bool
def yt_cks (sh : List ys_C) (calls : List yt_CE) (K : ys_K) (Z : yt_Q) (n : Nat) (vs : List (List yt_VC)) : Nat → List (Nat × yt_T) → Bool
  | _, [] => true
  | j, q :: x => (ys_scb (ys_sT K.2.1.2.1 q.2.1) && (q.2.2.1.all (ys_bel (K.2.1.2.1.1 ++ q.2.1.1).length) && (ys_geb (K.2.1.2.1.1 ++ q.2.1.1) q.2.1.2.2.2.2.2 0 && (ys_bel (K.2.1.2.1.1 ++ q.2.1.1).length q.2.1.2.2.2.2.2 && (match ys_ass (K.2.1.2.1.1 ++ q.2.1.1, K.2.1.2.1.2 ++ q.2.1.2.1) (q.2.1.2.1 ++ q.2.2.1) with
    | some b => yt_beq (yt_run sh Z.2.1.1 Z.2.1.2.1 Z.2.1.2.2.1 calls Z.2.1.2.2.2.1 Z.2.1.2.2.2.2 K (fun pc => Z.1.lookup pc) Z.2.2.1 Z.2.2.2 (some q.2.1.2.2.2.2.2) n true q.1 (b, (ys_sT K.2.1.2.1 q.2.1).2) []) (vs.getD (j + 1) [])
    | none => true))))) && yt_cks sh calls K Z n vs (j + 1) x
def yt_chk (sh : List ys_C) (calls : List yt_CE) (K : ys_K) (Z : yt_Q) (n : Nat) (vs : List (List yt_VC)) : Bool := ys_scb (ys_S0 K) && (decide ((K.2.1.1.map ys_cat).sum ≤ K.1.1.2.2.1) && (decide (Z.2.2.1.length ≤ 1000) && (decide (K.2.2.1.length ≤ 1000) && (yt_beq (yt_run sh Z.2.1.1 Z.2.1.2.1 Z.2.1.2.2.1 calls Z.2.1.2.2.2.1 Z.2.1.2.2.2.2 K (fun pc => Z.1.lookup pc) Z.2.2.1 Z.2.2.2 none n true 0 (ys_S0 K) []) (vs.getD 0 []) && yt_cks sh calls K Z n vs 0 Z.2.2.1))))
theorem yt_cks_ok {sh : List ys_C} {calls : List yt_CE} {K : ys_K} {Z : yt_Q} {n : Nat} {vs : List (List yt_VC)} : ∀ (x : List (Nat × yt_T)) (i : Nat), yt_cks sh calls K Z n vs i x = true → ∀ (j : Nat) (q : Nat × yt_T), x[j]? = some q → ys_scb (ys_sT K.2.1.2.1 q.2.1) = true ∧ (∀ f ∈ q.2.2.1, ys_bel (K.2.1.2.1.1 ++ q.2.1.1).length f = true) ∧ ys_geb (K.2.1.2.1.1 ++ q.2.1.1) q.2.1.2.2.2.2.2 0 = true ∧ ys_bel (K.2.1.2.1.1 ++ q.2.1.1).length q.2.1.2.2.2.2.2 = true ∧ ∀ b, ys_ass (K.2.1.2.1.1 ++ q.2.1.1, K.2.1.2.1.2 ++ q.2.1.2.1) (q.2.1.2.1 ++ q.2.2.1) = some b → yt_run sh Z.2.1.1 Z.2.1.2.1 Z.2.1.2.2.1 calls Z.2.1.2.2.2.1 Z.2.1.2.2.2.2 K (fun pc => Z.1.lookup pc) Z.2.2.1 Z.2.2.2 (some q.2.1.2.2.2.2.2) n true q.1 (b, (ys_sT K.2.1.2.1 q.2.1).2) [] = some (vs.getD (i + j + 1) [])
  | [], i, _, j, q, hq => by cases hq
  | q0 :: x, i, h, j, q, hq => by
    unfold yt_cks at h
    rw [Bool.and_eq_true] at h
    cases j with
    | zero =>
      cases hq
      have h := h.1
      rw [Bool.and_eq_true, Bool.and_eq_true, Bool.and_eq_true, Bool.and_eq_true] at h
      obtain ⟨h1, h2, h3, h4, h5⟩ := h
      refine ⟨h1, fun f hf => List.all_eq_true.mp h2 f hf, h3, h4, fun b hb => ?_⟩
      rw [hb] at h5
      exact yt_beq_ok h5
    | succ j =>
      have := yt_cks_ok x (i + 1) h.2 j q hq
      rw [show i + 1 + j + 1 = i + (j + 1) + 1 by omega] at this
      exact this
theorem yt_method {l : Launch} {D : va_G} {cl : List vw_C} {cT : Nat → ClassId} {sh : List ys_C} {tys : List (ClassId × FieldType)} {G : List Cond} {K : ys_K} {calls : List yt_CE} {Z : yt_Q} {tb : yt_Tb} {pt : Nat → yt_Ps} {Ps : yt_Ps} {Ph : yt_Ph} {Ga : Nat → yt_G → (Nat → Int) → yt_G → Prop} {vs : List (List yt_VC)} (n : Nat) (hw : ∀ (r : Nat → Int) (g : yt_G), r 2 = (r 0 * r 1).bmod Int64.size → tb 998 0 r g g) (hy : plainName K.1.1.1.cls = true) (hcode : ∀ q ∈ Z.1, decode K.1.1.2.1 q.1 = .ok q.2) (hty : ys_Ty tys cT sh) (hLk : ys_Lk K.1.1.1.cls (ys_ws G K) cl Z.2.1.1 Z.2.1.2.1 Z.2.1.2.2.1 Z.2.1.2.2.2.1) (hCq : ∀ v, v ∈ Z.2.1.2.2.2.2 → yt_Cq K.1.1.1.cls (ys_ws G K) v) (hcalls : ∀ C ∈ calls, yt_Con l D cl cT tys G C.2.1 C.2.2 (pt C.1.2.1) (tb C.1.2.1) ∧ ys_CL K.1.1.1.cls (ys_ws G K) cl C.2.1 G (if C.1.1.2 = true then .invokestatic C.1.1.1 else .invokevirtual C.1.1.1) C.2.2 ∧ yt_shok C.1.2.2.2 C.2.1 sh = true ∧ (C.1.2.2.1 = false → ∀ r g, pt C.1.2.1 r g)) (hns : ∀ (j : Nat) (q : Nat × yt_T), Z.2.2.1[j]? = some q → q.2.2.2 = false → ∀ g0 r g, Ga j g0 r g) (hsa : ∀ i, Z.2.2.2.getD i false = false → ∀ r g g', Ph i r g g') (hchk : yt_chk sh calls K Z n vs = true)
    (hv0 : ∀ v ∈ vs.getD 0 [], yt_hold tb K Z.2.2.1 Ga Ph pt K.2.1.2.1.1.length K.2.1.2.2.2 (fun g0 r g => Ps r g0 ∧ g = g0) v) (hv : ∀ (j : Nat) (q : Nat × yt_T), Z.2.2.1[j]? = some q → ∀ v ∈ vs.getD (j + 1) [], yt_hold tb K Z.2.2.1 Ga Ph pt (K.2.1.2.1.1.length + q.2.1.1.length) q.2.1.2.2.1.2 (Ga j) v) : yt_Con l D cl cT tys G sh K Ps Ph := by
  intro ad rr g0 sz hB hz har hPs
  unfold yt_chk at hchk
  rw [Bool.and_eq_true, Bool.and_eq_true, Bool.and_eq_true, Bool.and_eq_true, Bool.and_eq_true, decide_eq_true_eq, decide_eq_true_eq, decide_eq_true_eq] at hchk
  obtain ⟨c1, c2, c3, c4, c5, c6⟩ := hchk
  have c5 := yt_beq_ok c5
  have c6 := yt_cks_ok _ _ c6
  refine Met.ofW (cc := K.1.1.2.1) (maxL := K.1.1.2.2.1) (ret := K.1.1.2.2.2) hy rfl ?_
  intro p e s m args below meth c s₁ Bd hml hvv
  obtain ⟨hargs, hsz, hP, hK, hD0⟩ := hvv
  subst hargs
  subst hsz
  have hlocks := Bd.notSynchronized
  have S : CallFix p m c K.1.1.2.1 K.1.1.2.2.1 s (K.2.1.1.map (ys_den ad rr)).toArray (ys_ws G K) K.1.1.1.cls := ⟨Bd.exec, Bd.bytes, hml, findClass_of_methodNamed Bd.named, atoms_spec (ws := ys_ws G K) Bd.pre⟩
  have hsc0 := ys_scb_ok c1
  have hnx : ∀ pc i, (fun pc => Z.1.lookup pc) pc = some i → decode K.1.1.2.1 pc = .ok i := fun pc i hi => hcode (pc, i) (ys_lk3 _ _ _ hi)
  have hT : ∀ q ∈ Z.2.2.1, ys_scb (ys_sT K.2.1.2.1 q.2.1) = true := fun q hq => by
    obtain ⟨j, hj⟩ := List.getElem?_of_mem hq
    exact (c6 j q hj).1
  have claim : ∀ (N : Nat) (j : Nat) (q : Nat × yt_T), Z.2.2.1[j]? = some q → ∀ (r2 : Nat → Int) (g : yt_G) (H : Heap) (locs : List Loc) (ls : Array Slot) (st : List Value), ys_rep D cl ad cT sh (va_A (ys_wK ad cT sh K rr g0) s.heap.size) s.heap K.1.1.2.2.1 [] g rr r2 K.2.1.2.1.1.length (ys_sT K.2.1.2.1 q.2.1) H locs ls st → ys_fk r2 q.2.2.1 → Ga j g0 r2 g → (∀ i, K.2.1.2.1.1.length + q.2.1.1.length ≤ i → r2 i = 0) → (∀ k, k ∉ K.2.2.2 → g k = g0 k) → ys_ev r2 q.2.1.2.2.2.2.2 < (N : Int) → W p l e (ys_rm K) s m (K.2.1.1.map (ys_den ad rr)).toArray below meth c H locs 0 0 (MQ below (yt_Post D cl cT tys ad sh K Ph rr g0 s.heap.size) (K.2.1.1.map (ys_den ad rr)).toArray s 0 0 (va_A (ys_wK ad cT sh K rr g0) s.heap.size)) (F0 m q.1 ls st) := by
    intro N
    induction N with
    | zero =>
      intro j q hq r2 g H locs ls st hrep _ _ _ _ hlt
      have h0 := ys_geb_le hrep.1.1 (c6 j q hq).2.2.1
      omega
    | succ N ih =>
      intro j q hq r2 g H locs ls st hrep hfk hGa hz2 hgm hlt
      obtain ⟨d1, d2, d3, d4, d5⟩ := c6 j q hq
      have hlen : (K.2.1.2.1.1 ++ q.2.1.1).length = K.2.1.2.1.1.length + q.2.1.1.length := List.length_append
      have hfk2 : ys_fk r2 (q.2.1.2.1 ++ q.2.2.1) := fun f hf => by
        rcases List.mem_append.mp hf with z | z
        · exact hrep.1.2 f (List.mem_append_right _ z)
        · exact hfk f z
      obtain ⟨b', eb, hb'⟩ := ys_ass_ok (q.2.1.2.1 ++ q.2.2.1) hrep.1 hfk2
      have hl' := ys_ass_len _ eb
      have hrun := yt_run_ok (r0 := r2) (E := K.2.1.2.1.1.length + q.2.1.1.length) (rr := rr) (g0 := g0) (gi := g) (tb := tb) (pt := pt) (Ga := Ga) (ars := q.2.1.2.2.1.2) (Gs := Ga j) hw S Bd.returns hlocks hK hty hLk hCq hcalls hnx (Nat.le_add_right _ _) (fun i hi => hrep.2.2.1.2 i hi) hB hsc0.1 hz2 hT (mo := some q.2.1.2.2.2.2.2) (fun m0 hm0 => by
        cases hm0
        rw [← hlen]
        exact ys_stb_bel d4) (fun k a ha => (yt_wd hrep).1 k a ha) hgm hGa c3 c4 hns hsa (fun j' q' hq' r3 g3 H' locs' ls' st' hrep' hf3 hG3 hz3 hm3 hlt' => ih j' q' hq' r3 g3 H' locs' ls' st' hrep' hf3 hG3 hz3 hm3 (by
          have := hlt' _ rfl
          omega)) n true q.1 (b', (ys_sT K.2.1.2.1 q.2.1).2) [] _ (d5 b' eb) (by rw [Nat.zero_add]; exact hv j q hq)
      have hrep' : ys_rep D cl ad cT sh (va_A (ys_wK ad cT sh K rr g0) s.heap.size) s.heap K.1.1.2.2.1 [] g r2 r2 (K.2.1.2.1.1.length + q.2.1.1.length) (ys_sT K.2.1.2.1 q.2.1) H locs ls st := ⟨hrep.1, hrep.2.1, ⟨Nat.le_of_eq hlen.symm, fun _ _ => rfl⟩, hrep.2.2.2⟩
      have hscf : ∀ f ∈ q.2.1.2.1 ++ q.2.2.1, ys_stb (K.2.1.2.1.1 ++ q.2.1.1).length f := fun f hf => by
        rcases List.mem_append.mp hf with z | z
        · exact hrep.2.1.1 f (List.mem_append_right _ z)
        · exact ys_stb_bel (d2 f z)
      exact hrun r2 g H locs ls st (ys_rep_ext hrep' (fun _ _ => rfl) hb' (Nat.le_of_eq hl'.symm) (ys_ass_sc _ rfl hrep.2.1.1 hscf eb)) rfl (fun v hv => absurd hv List.not_mem_nil) hgm
  have hrun := yt_run_ok (r0 := rr) (E := K.2.1.2.1.1.length) (rr := rr) (g0 := g0) (gi := g0) (tb := tb) (pt := pt) (Ga := Ga) (ars := K.2.1.2.2.2) (Gs := fun g0 r g => Ps r g0 ∧ g = g0) hw S Bd.returns hlocks hK hty hLk hCq hcalls hnx (Nat.le_refl _) (fun _ _ => rfl) hB hsc0.1 hz hT (mo := none) (fun m0 hm0 => by cases hm0) har (fun _ _ => rfl) ⟨hPs, rfl⟩ c3 c4 hns hsa (fun j q hq r2 g H locs ls st hrep hf hG hz2 hm2 _ => claim ((ys_ev r2 q.2.1.2.2.2.2.2).toNat + 1) j q hq r2 g H locs ls st hrep hf hG hz2 hm2 (by omega)) n true 0 (ys_S0 K) [] _ c5 hv0
  rw [lg_entry_eq]
  have hl := lv_entry (K.2.1.1.map (ys_den ad rr)) (n := K.1.1.2.2.1) (by rw [ys_sl_len]; exact c2)
  refine hrun rr g0 s.heap [] _ [] ⟨hB, hsc0, ⟨Nat.le_refl _, fun _ _ => rfl⟩, ⟨g0, ⟨har, fun _ _ => rfl⟩, hP, hD0.self, va_S.rf⟩, ?_, rfl⟩ rfl (fun v hv => absurd hv List.not_mem_nil) (fun _ _ => rfl)
  rw [show ys_lvs ad rr (ys_S0 K).2.2.1 = lv_args 0 (K.2.1.1.map (ys_den ad rr)) from ys_args_lvs ad rr K.2.1.1 0]
  exact hl
end
