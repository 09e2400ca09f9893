/-! linear numbers over symbols, their bounds, what follows from facts -/
abbrev ys_L : Type := List (Nat × Int) × Int
def ys_sum (r : Nat → Int) : List (Nat × Int) → Int
  | [] => 0
  | q :: t => q.2 * r q.1 + ys_sum r t
def ys_ev (r : Nat → Int) (e : ys_L) : Int := ys_sum r e.1 + e.2
def ys_ins (i : Nat) (c : Int) : List (Nat × Int) → List (Nat × Int)
  | [] => [(i, c)]
  | q :: t => if i = q.1 then (if c + q.2 = 0 then t else (i, c + q.2) :: t) else q :: ys_ins i c t
def ys_addl : List (Nat × Int) → List (Nat × Int) → List (Nat × Int)
  | [], m => m
  | q :: t, m => ys_ins q.1 q.2 (ys_addl t m)
def ys_add (a b : ys_L) : ys_L := (ys_addl a.1 b.1, a.2 + b.2)
def ys_scl (k : Int) : List (Nat × Int) → List (Nat × Int)
  | [] => []
  | q :: t => (q.1, k * q.2) :: ys_scl k t
def ys_scale (k : Int) (a : ys_L) : ys_L := if k = 0 then ([], 0) else (ys_scl k a.1, k * a.2)
def ys_sub (a b : ys_L) : ys_L := ys_add a (ys_scale (-1) b)
def ys_cst (k : Int) : ys_L := ([], k)
def ys_sym (i : Nat) : ys_L := ([(i, 1)], 0)
theorem ys_ins_ev (r : Nat → Int) (i : Nat) (c : Int) : ∀ l, ys_sum r (ys_ins i c l) = c * r i + ys_sum r l := sorry
theorem ys_addl_ev (r : Nat → Int) : ∀ l m, ys_sum r (ys_addl l m) = ys_sum r l + ys_sum r m := sorry
theorem ys_add_ev (r : Nat → Int) (a b : ys_L) : ys_ev r (ys_add a b) = ys_ev r a + ys_ev r b := sorry
theorem ys_scl_ev (r : Nat → Int) (k : Int) : ∀ l, ys_sum r (ys_scl k l) = k * ys_sum r l := sorry
theorem ys_scale_ev (r : Nat → Int) (k : Int) (a : ys_L) : ys_ev r (ys_scale k a) = k * ys_ev r a := sorry
theorem ys_sub_ev (r : Nat → Int) (a b : ys_L) : ys_ev r (ys_sub a b) = ys_ev r a - ys_ev r b := sorry
theorem ys_cst_ev (r : Nat → Int) (k : Int) : ys_ev r (ys_cst k) = k := sorry
theorem ys_sym_ev (r : Nat → Int) (i : Nat) : ys_ev r (ys_sym i) = r i := sorry
/-- bounds of the symbols -/
abbrev ys_E : Type := List (Int × Int)
def ys_ok (r : Nat → Int) (v : ys_E) : Prop := ∀ (i : Nat) (q : Int × Int), v[i]? = some q → q.1 ≤ r i ∧ r i ≤ q.2
def ys_lo (v : ys_E) : List (Nat × Int) → Option Int
  | [] => some 0
  | q :: t => match v[q.1]?, ys_lo v t with
    | some w, some z => some ((if 0 ≤ q.2 then q.2 * w.1 else q.2 * w.2) + z)
    | _, _ => none
def ys_low (v : ys_E) (e : ys_L) : Option Int := match ys_lo v e.1 with
  | some z => some (z + e.2)
  | none => none
theorem ys_lo_le {r : Nat → Int} {v : ys_E} (h : ys_ok r v) : ∀ (l : List (Nat × Int)) (z : Int), ys_lo v l = some z → z ≤ ys_sum r l := sorry
theorem ys_low_le {r : Nat → Int} {v : ys_E} (h : ys_ok r v) {e : ys_L} {z : Int} (hz : ys_low v e = some z) : z ≤ ys_ev r e := sorry
/-- at least k by the bounds alone -/
def ys_geb (v : ys_E) (e : ys_L) (k : Int) : Bool := match ys_low v e with
  | some z => decide (k ≤ z)
  | none => false
theorem ys_geb_le {r : Nat → Int} {v : ys_E} (h : ys_ok r v) {e : ys_L} {k : Int} (hz : ys_geb v e k = true) : k ≤ ys_ev r e := sorry
def ys_high (v : ys_E) (e : ys_L) : Option Int := match ys_low v (ys_scale (-1) e) with
  | some z => some (-z)
  | none => none
theorem ys_high_le {r : Nat → Int} {v : ys_E} (h : ys_ok r v) {e : ys_L} {z : Int} (hz : ys_high v e = some z) : ys_ev r e ≤ z := sorry
/-- facts: each is at least 0 -/
def ys_fk (r : Nat → Int) (fs : List ys_L) : Prop := ∀ f ∈ fs, 0 ≤ ys_ev r f
def ys_ge (v : ys_E) (fs : List ys_L) : Nat → ys_L → Bool
  | 0, e => ys_geb v e 0
  | d + 1, e => ys_geb v e 0 || fs.any (fun f => ys_ge v fs d (ys_sub e f))
theorem ys_ge_le {r : Nat → Int} {v : ys_E} {fs : List ys_L} (h : ys_ok r v) (hf : ys_fk r fs) : ∀ (d : Nat) (e : ys_L), ys_ge v fs d e = true → 0 ≤ ys_ev r e := sorry
/-- a fact makes bounds tighter -/
def ys_tg (f : ys_L) : List (Nat × Int) → ys_E → ys_E
  | [], v => v
  | q :: t, v => ys_tg f t (match v[q.1]? with
    | none => v
    | some w =>
      if q.2 = 1 then (match ys_high v (ys_add f ([(q.1, -1)], 0)) with
        | some u => if w.1 < -u then v.set q.1 (-u, w.2) else v
        | none => v)
      else if q.2 = -1 then (match ys_high v (ys_add f ([(q.1, 1)], 0)) with
        | some u => if u < w.2 then v.set q.1 (w.1, u) else v
        | none => v)
      else v)
theorem ys_ok_set {r : Nat → Int} {v : ys_E} (h : ys_ok r v) (i : Nat) (w : Int × Int) (hw : w.1 ≤ r i ∧ r i ≤ w.2) : ys_ok r (v.set i w) := sorry
theorem ys_tg_len (f : ys_L) : ∀ (l : List (Nat × Int)) (v : ys_E), (ys_tg f l v).length = v.length := sorry
theorem ys_tg_ok {r : Nat → Int} {f : ys_L} (hf : 0 ≤ ys_ev r f) : ∀ (l : List (Nat × Int)) (v : ys_E), ys_ok r v → ys_ok r (ys_tg f l v) := sorry
/-- bounds and facts -/
abbrev ys_B : Type := ys_E × List ys_L
def ys_okB (r : Nat → Int) (b : ys_B) : Prop := ys_ok r b.1 ∧ ys_fk r b.2
/-- one more fact: nothing, if it can't be -/
def ys_as (b : ys_B) (f : ys_L) : Option ys_B :=
  if ys_geb b.1 (ys_scale (-1) f) 1 then none
  else some (ys_tg f f.1 b.1, match f.1 with
    | [] => b.2
    | [q] => if q.2 = 1 then b.2 else if q.2 = -1 then b.2 else f :: b.2
    | _ => f :: b.2)
theorem ys_as_ok {r : Nat → Int} {b : ys_B} {f : ys_L} (h : ys_okB r b) (hf : 0 ≤ ys_ev r f) : ∃ b', ys_as b f = some b' ∧ ys_okB r b' := sorry
theorem ys_as_len {b b' : ys_B} {f : ys_L} (h : ys_as b f = some b') : b'.1.length = b.1.length := sorry
/-- several facts -/
def ys_ass (b : ys_B) : List ys_L → Option ys_B
  | [] => some b
  | f :: t => match ys_as b f with
    | none => none
    | some b' => ys_ass b' t
theorem ys_ass_ok {r : Nat → Int} : ∀ (fs : List ys_L) {b : ys_B}, ys_okB r b → ys_fk r fs → ∃ b', ys_ass b fs = some b' ∧ ys_okB r b' := sorry
theorem ys_ass_len : ∀ (fs : List ys_L) {b b' : ys_B}, ys_ass b fs = some b' → b'.1.length = b.1.length := sorry
/-- putting linear numbers for symbols: those below E stay -/
def ys_at (E : Nat) (t : List ys_L) (i : Nat) : ys_L := if i < E then ys_sym i else t.getD (i - E) ([], 0)
def ys_pl (E : Nat) (t : List ys_L) : List (Nat × Int) → ys_L
  | [] => ([], 0)
  | q :: l => ys_add (ys_scale q.2 (ys_at E t q.1)) (ys_pl E t l)
def ys_put (E : Nat) (t : List ys_L) (e : ys_L) : ys_L := ys_add (ys_pl E t e.1) ([], e.2)
/-- the numbers that the symbols then stand for -/
def ys_val (r : Nat → Int) (E : Nat) (t : List ys_L) (i : Nat) : Int := ys_ev r (ys_at E t i)
theorem ys_pl_ev (r : Nat → Int) (E : Nat) (t : List ys_L) : ∀ l, ys_ev r (ys_pl E t l) = ys_sum (ys_val r E t) l := sorry
theorem ys_put_ev (r : Nat → Int) (E : Nat) (t : List ys_L) (e : ys_L) : ys_ev r (ys_put E t e) = ys_ev (ys_val r E t) e := sorry
theorem ys_val_low {r : Nat → Int} {E : Nat} {t : List ys_L} {i : Nat} (h : i < E) : ys_val r E t i = r i := sorry
/-- other symbols don't matter -/
def ys_bel (n : Nat) (e : ys_L) : Bool := e.1.all (fun q => decide (q.1 < n))
theorem ys_sum_cong {r r' : Nat → Int} {n : Nat} (h : ∀ i, i < n → r i = r' i) : ∀ l : List (Nat × Int), l.all (fun q => decide (q.1 < n)) = true → ys_sum r l = ys_sum r' l := sorry
theorem ys_ev_cong {r r' : Nat → Int} {n : Nat} (h : ∀ i, i < n → r i = r' i) {e : ys_L} (he : ys_bel n e = true) : ys_ev r e = ys_ev r' e := sorry
