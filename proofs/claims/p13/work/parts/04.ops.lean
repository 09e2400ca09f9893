/-! what the machine's arithmetic does to linear numbers -/
noncomputable def ys_mn (w : Bool) : Int := match w with
  | false => -2147483648
  | true => -9223372036854775808
noncomputable def ys_mx (w : Bool) : Int := match w with
  | false => 2147483647
  | true => 9223372036854775807
theorem ys_mn_f : ys_mn false = -2147483648 := rfl
theorem ys_mx_f : ys_mx false = 2147483647 := rfl
theorem ys_mn_t : ys_mn true = -9223372036854775808 := rfl
theorem ys_mx_t : ys_mx true = 9223372036854775807 := rfl
noncomputable def ys_inr (w : Bool) (v : ys_E) (e : ys_L) : Bool := ys_geb v e (ys_mn w) && ys_geb v (ys_scale (-1) e) (-(ys_mx w))
theorem ys_inr_ok {r : Nat → Int} {v : ys_E} (h : ys_ok r v) {w : Bool} {e : ys_L} (hz : ys_inr w v e = true) : ys_mn w ≤ ys_ev r e ∧ ys_ev r e ≤ ys_mx w := by
  unfold ys_inr at hz
  rw [Bool.and_eq_true] at hz
  have h1 := ys_geb_le h hz.1
  have h2 := ys_geb_le h hz.2
  rw [ys_scale_ev] at h2
  exact ⟨h1, by omega⟩
theorem ys_inr32 {r : Nat → Int} {v : ys_E} (h : ys_ok r v) {e : ys_L} (hz : ys_inr false v e = true) : (Int32.ofInt (ys_ev r e)).toInt = ys_ev r e := by
  obtain ⟨h1, h2⟩ := ys_inr_ok h hz
  rw [ys_mn_f] at h1
  rw [ys_mx_f] at h2
  exact Int32.toInt_ofInt_of_le (by omega) (by omega)
theorem ys_inr64 {r : Nat → Int} {v : ys_E} (h : ys_ok r v) {e : ys_L} (hz : ys_inr true v e = true) : (Int64.ofInt (ys_ev r e)).toInt = ys_ev r e := by
  obtain ⟨h1, h2⟩ := ys_inr_ok h hz
  rw [ys_mn_t] at h1
  rw [ys_mx_t] at h2
  exact Int64.toInt_ofInt_of_le (by omega) (by omega)
noncomputable def ys_new (b : ys_B) (q : Int × Int) : ys_B × ys_L := ((b.1 ++ [q], b.2), ys_sym b.1.length)
/-- bounds that meet: a constant -/
noncomputable def ys_ce (v : ys_E) (e : ys_L) : ys_L := match e.1 with
  | [] => e
  | _ => (match ys_low v e, ys_high v e with
    | some l, some u => if l = u then ([], l) else e
    | _, _ => e)
theorem ys_ce_ev {r : Nat → Int} {v : ys_E} (h : ys_ok r v) (e : ys_L) : ys_ev r (ys_ce v e) = ys_ev r e := by
  unfold ys_ce
  split
  · rfl
  · split
    · rename_i l u hl hu
      split
      · have h1 := ys_low_le h hl
        have h2 := ys_high_le h hu
        show ys_ev r (ys_cst l) = _
        rw [ys_cst_ev]
        omega
      · rfl
    · rfl
noncomputable def ys_nm (w : Bool) (b : ys_B) (e : ys_L) : ys_B × ys_L := if ys_inr w b.1 e = true then (b, ys_ce b.1 e) else ys_new b (ys_mn w, ys_mx w)
theorem ys_ce_st {n : Nat} {v : ys_E} {e : ys_L} (h : ys_stb n e) : ys_stb n (ys_ce v e) := by
  unfold ys_ce
  split
  · exact h
  · split
    · split
      · exact ys_stb_cst _
      · exact h
    · exact h
/-- a result: the numbers so far stay, its own has what is asked -/
noncomputable def ys_Op (r : Nat → Int) (b : ys_B) (o : ys_B × ys_L) (P : Int → Prop) : Prop := ∃ r' : Nat → Int, (∀ i, i < b.1.length → r' i = r i) ∧ ys_okB r' o.1 ∧ b.1.length ≤ o.1.1.length ∧ ys_scB o.1 ∧ ys_stb o.1.1.length o.2 ∧ P (ys_ev r' o.2)
theorem ys_Op_same {r : Nat → Int} {b : ys_B} {e : ys_L} {P : Int → Prop} (h : ys_okB r b) (hs : ys_scB b) (he : ys_stb b.1.length e) (hp : P (ys_ev r e)) : ys_Op r b (b, e) P := ⟨r, fun _ _ => rfl, h, Nat.le_refl _, hs, he, hp⟩
noncomputable def ys_up (r : Nat → Int) (n : Nat) (z : Int) : Nat → Int := fun i => if i = n then z else r i
theorem ys_up_lt {r : Nat → Int} {n : Nat} {z : Int} : ∀ i, i < n → ys_up r n z i = r i := fun i hi => if_neg (Nat.ne_of_lt hi)
theorem ys_up_at {r : Nat → Int} {n : Nat} {z : Int} : ys_up r n z n = z := if_pos rfl
theorem ys_new_ok {r : Nat → Int} {b : ys_B} {q : Int × Int} {z : Int} (h : ys_okB r b) (hs : ys_scB b) (hz : q.1 ≤ z ∧ z ≤ q.2) : ys_okB (ys_up r b.1.length z) (b.1 ++ [q], b.2) := by
  refine ⟨fun i w hi => ?_, fun f hf => ?_⟩
  · by_cases hl : i < b.1.length
    · rw [List.getElem?_append_left hl] at hi
      rw [ys_up_lt i hl]
      exact h.1 i w hi
    · have h1 : i < (b.1 ++ [q]).length := (List.getElem?_eq_some_iff.mp hi).1
      rw [List.length_append] at h1
      have h2 : i = b.1.length := by
        have : ([q] : List (Int × Int)).length = 1 := rfl
        omega
      subst h2
      rw [List.getElem?_append_right (Nat.le_refl _), Nat.sub_self] at hi
      cases hi
      rw [ys_up_at]
      exact hz
  · rw [← hs f hf r _ (fun i hi => (ys_up_lt i hi).symm)]
    exact h.2 f hf
theorem ys_scB_new {b : ys_B} {q : Int × Int} (hs : ys_scB b) : ys_scB (b.1 ++ [q], b.2) := fun f hf => ys_stb_mono (hs f hf) (by rw [List.length_append]; omega)
theorem ys_Op_new {r : Nat → Int} {b : ys_B} {q : Int × Int} {P : Int → Prop} (z : Int) (h : ys_okB r b) (hs : ys_scB b) (hz : q.1 ≤ z ∧ z ≤ q.2) (hp : P z) : ys_Op r b (ys_new b q) P := by
  have hl : (b.1 ++ [q]).length = b.1.length + 1 := by rw [List.length_append]; rfl
  refine ⟨ys_up r b.1.length z, ys_up_lt, ys_new_ok h hs hz, ?_, ys_scB_new hs, ?_, ?_⟩
  · show b.1.length ≤ (b.1 ++ [q]).length
    omega
  · show ys_stb (b.1 ++ [q]).length (ys_sym _)
    exact ys_stb_sym (by omega)
  · show P (ys_ev _ (ys_sym b.1.length))
    rw [ys_sym_ev, ys_up_at]
    exact hp
theorem ys_r32 (x : Int32) : ys_mn false ≤ x.toInt ∧ x.toInt ≤ ys_mx false := by
  have h1 := x.le_toInt
  have h2 := x.toInt_lt
  unfold ys_mn ys_mx
  constructor <;> (simp only []; omega)
theorem ys_r64 (x : Int64) : ys_mn true ≤ x.toInt ∧ x.toInt ≤ ys_mx true := by
  have h1 := x.le_toInt
  have h2 := x.toInt_lt
  unfold ys_mn ys_mx
  constructor <;> (simp only []; omega)
/-- one number alone is no symbol -/
noncomputable def ys_nw (b : ys_B) (q : Int × Int) : ys_B × ys_L := if q.1 = q.2 then (b, ([], q.1)) else ys_new b q
theorem ys_Op_nw {r : Nat → Int} {b : ys_B} {q : Int × Int} {P : Int → Prop} (z : Int) (h : ys_okB r b) (hs : ys_scB b) (hz : q.1 ≤ z ∧ z ≤ q.2) (hp : P z) : ys_Op r b (ys_nw b q) P := by
  unfold ys_nw
  split
  · rename_i he
    refine ys_Op_same h hs (ys_stb_cst q.1) ?_
    show P (ys_ev r (ys_cst q.1))
    rw [ys_cst_ev, show q.1 = z by omega]
    exact hp
  · exact ys_Op_new z h hs hz hp
theorem ys_Op_nw32 {r : Nat → Int} {b : ys_B} {q : Int × Int} (h : ys_okB r b) (hs : ys_scB b) (x : Int32) (hx : q.1 ≤ x.toInt ∧ x.toInt ≤ q.2) : ys_Op r b (ys_nw b q) (fun z => Int32.ofInt z = x) := ys_Op_nw x.toInt h hs hx (Int32.ofInt_toInt x)
theorem ys_Op_nw64 {r : Nat → Int} {b : ys_B} {q : Int × Int} (h : ys_okB r b) (hs : ys_scB b) (x : Int64) (hx : q.1 ≤ x.toInt ∧ x.toInt ≤ q.2) : ys_Op r b (ys_nw b q) (fun z => Int64.ofInt z = x) := ys_Op_nw x.toInt h hs hx (Int64.ofInt_toInt x)
theorem ys_Op_any32 {r : Nat → Int} {b : ys_B} (h : ys_okB r b) (hs : ys_scB b) (x : Int32) : ys_Op r b (ys_new b (ys_mn false, ys_mx false)) (fun z => Int32.ofInt z = x) := ys_Op_new x.toInt h hs (ys_r32 x) (Int32.ofInt_toInt x)
theorem ys_Op_any64 {r : Nat → Int} {b : ys_B} (h : ys_okB r b) (hs : ys_scB b) (x : Int64) : ys_Op r b (ys_new b (ys_mn true, ys_mx true)) (fun z => Int64.ofInt z = x) := ys_Op_new x.toInt h hs (ys_r64 x) (Int64.ofInt_toInt x)
theorem ys_Op_in32 {r : Nat → Int} {b : ys_B} {q : Int × Int} (h : ys_okB r b) (hs : ys_scB b) (x : Int32) (hx : q.1 ≤ x.toInt ∧ x.toInt ≤ q.2) : ys_Op r b (ys_new b q) (fun z => Int32.ofInt z = x) := ys_Op_new x.toInt h hs hx (Int32.ofInt_toInt x)
theorem ys_Op_in64 {r : Nat → Int} {b : ys_B} {q : Int × Int} (h : ys_okB r b) (hs : ys_scB b) (x : Int64) (hx : q.1 ≤ x.toInt ∧ x.toInt ≤ q.2) : ys_Op r b (ys_new b q) (fun z => Int64.ofInt z = x) := ys_Op_new x.toInt h hs hx (Int64.ofInt_toInt x)
theorem ys_Op_nm32 {r : Nat → Int} {b : ys_B} {e : ys_L} (h : ys_okB r b) (hs : ys_scB b) (he : ys_stb b.1.length e) {x : Int32} (hx : Int32.ofInt (ys_ev r e) = x) : ys_Op r b (ys_nm false b e) (fun z => Int32.ofInt z = x) := by
  unfold ys_nm
  by_cases hc : ys_inr false b.1 e = true
  · rw [if_pos hc]
    exact ys_Op_same h hs (ys_ce_st he) (by rw [ys_ce_ev h.1]; exact hx)
  · rw [if_neg hc]
    exact ys_Op_any32 h hs x
theorem ys_Op_nm64 {r : Nat → Int} {b : ys_B} {e : ys_L} (h : ys_okB r b) (hs : ys_scB b) (he : ys_stb b.1.length e) {x : Int64} (hx : Int64.ofInt (ys_ev r e) = x) : ys_Op r b (ys_nm true b e) (fun z => Int64.ofInt z = x) := by
  unfold ys_nm
  by_cases hc : ys_inr true b.1 e = true
  · rw [if_pos hc]
    exact ys_Op_same h hs (ys_ce_st he) (by rw [ys_ce_ev h.1]; exact hx)
  · rw [if_neg hc]
    exact ys_Op_any64 h hs x
/-- an operation on two numbers of one width: what it does to linear numbers is what it does to the machine's -/
noncomputable def ys_B32 (F : ys_B → ys_L → ys_L → Option (ys_B × ys_L)) (op : Int32 → Int32 → Int32) (ok : Int32 → Prop) : Prop := ∀ (r : Nat → Int) (b : ys_B) (x y : ys_L) (o : ys_B × ys_L), ys_okB r b → ys_scB b → ys_stb b.1.length x → ys_stb b.1.length y → F b x y = some o → ok (Int32.ofInt (ys_ev r y)) ∧ ys_Op r b o (fun z => Int32.ofInt z = op (Int32.ofInt (ys_ev r x)) (Int32.ofInt (ys_ev r y)))
noncomputable def ys_B64 (F : ys_B → ys_L → ys_L → Option (ys_B × ys_L)) (op : Int64 → Int64 → Int64) (ok : Int64 → Prop) : Prop := ∀ (r : Nat → Int) (b : ys_B) (x y : ys_L) (o : ys_B × ys_L), ys_okB r b → ys_scB b → ys_stb b.1.length x → ys_stb b.1.length y → F b x y = some o → ok (Int64.ofInt (ys_ev r y)) ∧ ys_Op r b o (fun z => Int64.ofInt z = op (Int64.ofInt (ys_ev r x)) (Int64.ofInt (ys_ev r y)))
noncomputable def ys_fadd (w : Bool) (b : ys_B) (x y : ys_L) : Option (ys_B × ys_L) := some (ys_nm w b (ys_add x y))
noncomputable def ys_fsub (w : Bool) (b : ys_B) (x y : ys_L) : Option (ys_B × ys_L) := some (ys_nm w b (ys_sub x y))
noncomputable def ys_fmul (w : Bool) (b : ys_B) (x y : ys_L) : Option (ys_B × ys_L) := some (match x.1, y.1 with
  | [], _ => ys_nm w b (ys_scale x.2 y)
  | _, [] => ys_nm w b (ys_scale y.2 x)
  | _, _ => ys_new b (ys_mn w, ys_mx w))
noncomputable def ys_fany (w : Bool) (b : ys_B) (_ _ : ys_L) : Option (ys_B × ys_L) := some (ys_new b (ys_mn w, ys_mx w))
theorem ys_fadd32 : ys_B32 (ys_fadd false) (fun x y => x + y) (fun _ => True) := by
  intro r b x y o h hs hx hy ho
  cases Option.some.inj ho
  exact ⟨trivial, ys_Op_nm32 h hs (ys_stb_add hx hy) (by rw [ys_add_ev, Int32.ofInt_add])⟩
theorem ys_fsub32 : ys_B32 (ys_fsub false) (fun x y => x - y) (fun _ => True) := by
  intro r b x y o h hs hx hy ho
  cases Option.some.inj ho
  exact ⟨trivial, ys_Op_nm32 h hs (ys_stb_sub hx hy) (by rw [ys_sub_ev, Int32.ofInt_sub])⟩
theorem ys_fadd64 : ys_B64 (ys_fadd true) (fun x y => x + y) (fun _ => True) := by
  intro r b x y o h hs hx hy ho
  cases Option.some.inj ho
  exact ⟨trivial, ys_Op_nm64 h hs (ys_stb_add hx hy) (by rw [ys_add_ev, Int64.ofInt_add])⟩
theorem ys_fsub64 : ys_B64 (ys_fsub true) (fun x y => x - y) (fun _ => True) := by
  intro r b x y o h hs hx hy ho
  cases Option.some.inj ho
  exact ⟨trivial, ys_Op_nm64 h hs (ys_stb_sub hx hy) (by rw [ys_sub_ev, Int64.ofInt_sub])⟩
theorem ys_ev_nil (r : Nat → Int) {x : ys_L} (h : x.1 = []) : ys_ev r x = x.2 := by
  show ys_sum r x.1 + x.2 = x.2
  rw [h]
  exact Int.zero_add _
theorem ys_fmul32 : ys_B32 (ys_fmul false) (fun x y => x * y) (fun _ => True) := by
  intro r b x y o h hs hx hy ho
  refine ⟨trivial, ?_⟩
  have ho := Option.some.inj ho
  subst ho
  split
  · rename_i h1
    exact ys_Op_nm32 h hs (ys_stb_scale _ hy) (by rw [ys_scale_ev, ys_ev_nil r h1, Int32.ofInt_mul])
  · rename_i h1 _
    exact ys_Op_nm32 h hs (ys_stb_scale _ hx) (by rw [ys_scale_ev, ys_ev_nil r h1, Int32.ofInt_mul, Int32.mul_comm])
  · exact ys_Op_any32 h hs _
theorem ys_fmul64 : ys_B64 (ys_fmul true) (fun x y => x * y) (fun _ => True) := by
  intro r b x y o h hs hx hy ho
  refine ⟨trivial, ?_⟩
  have ho := Option.some.inj ho
  subst ho
  split
  · rename_i h1
    exact ys_Op_nm64 h hs (ys_stb_scale _ hy) (by rw [ys_scale_ev, ys_ev_nil r h1, Int64.ofInt_mul])
  · rename_i h1 _
    exact ys_Op_nm64 h hs (ys_stb_scale _ hx) (by rw [ys_scale_ev, ys_ev_nil r h1, Int64.ofInt_mul, Int64.mul_comm])
  · exact ys_Op_any64 h hs _
theorem ys_fany32 (op : Int32 → Int32 → Int32) : ys_B32 (ys_fany false) op (fun _ => True) := by
  intro r b x y o h hs hx hy ho
  cases Option.some.inj ho
  exact ⟨trivial, ys_Op_any32 h hs _⟩
theorem ys_fany64 (op : Int64 → Int64 → Int64) : ys_B64 (ys_fany true) op (fun _ => True) := by
  intro r b x y o h hs hx hy ho
  cases Option.some.inj ho
  exact ⟨trivial, ys_Op_any64 h hs _⟩
/-! and: with a number not below 0 -/
noncomputable def ys_nnb (w : Bool) (v : ys_E) (y : ys_L) : Option Int := if ys_geb v y 0 && ys_inr w v y then ys_high v y else none
noncomputable def ys_fand (w : Bool) (b : ys_B) (x y : ys_L) : Option (ys_B × ys_L) := if y = ([], -1) then some (b, x) else if x = ([], -1) then some (b, y) else match ys_nnb w b.1 x, ys_nnb w b.1 y with
  | some u, some t => some (ys_nw b (0, if u ≤ t then u else t))
  | some u, none => some (ys_nw b (0, u))
  | none, some t => some (ys_nw b (0, t))
  | none, none => some (ys_new b (ys_mn w, ys_mx w))
theorem ys_toNat32 {y : Int32} (h : 0 ≤ y.toInt) : (y.toBitVec.toNat : Int) = y.toInt := by
  have h1 : y.toBitVec.toInt = y.toInt := rfl
  have h2 := BitVec.toInt_eq_toNat_cond y.toBitVec
  have h3 := y.toBitVec.isLt
  split at h2 <;> omega
theorem ys_toNat64 {y : Int64} (h : 0 ≤ y.toInt) : (y.toBitVec.toNat : Int) = y.toInt := by
  have h1 : y.toBitVec.toInt = y.toInt := rfl
  have h2 := BitVec.toInt_eq_toNat_cond y.toBitVec
  have h3 := y.toBitVec.isLt
  split at h2 <;> omega
theorem ys_ofNat32 {y : Int32} (h : y.toBitVec.toNat < 2 ^ 31) : y.toInt = (y.toBitVec.toNat : Int) := by
  have h1 : y.toBitVec.toInt = y.toInt := rfl
  have h2 := BitVec.toInt_eq_toNat_cond y.toBitVec
  split at h2 <;> omega
theorem ys_ofNat64 {y : Int64} (h : y.toBitVec.toNat < 2 ^ 63) : y.toInt = (y.toBitVec.toNat : Int) := by
  have h1 : y.toBitVec.toInt = y.toInt := rfl
  have h2 := BitVec.toInt_eq_toNat_cond y.toBitVec
  split at h2 <;> omega
theorem ys_and32 (x : Int32) {y : Int32} (h : 0 ≤ y.toInt) : 0 ≤ (x &&& y).toInt ∧ (x &&& y).toInt ≤ y.toInt := by
  have h1 := ys_toNat32 h
  have h2 : (x &&& y).toBitVec.toNat ≤ y.toBitVec.toNat := by
    rw [Int32.toBitVec_and, BitVec.toNat_and]
    exact Nat.and_le_right
  have h3 := y.toInt_lt
  have h4 := ys_ofNat32 (y := x &&& y) (by omega)
  omega
theorem ys_and64 (x : Int64) {y : Int64} (h : 0 ≤ y.toInt) : 0 ≤ (x &&& y).toInt ∧ (x &&& y).toInt ≤ y.toInt := by
  have h1 := ys_toNat64 h
  have h2 : (x &&& y).toBitVec.toNat ≤ y.toBitVec.toNat := by
    rw [Int64.toBitVec_and, BitVec.toNat_and]
    exact Nat.and_le_right
  have h3 := y.toInt_lt
  have h4 := ys_ofNat64 (y := x &&& y) (by omega)
  omega
theorem ys_andm32 (x : Int32) : x &&& -1 = x := by
  apply Int32.toBitVec_inj.mp
  rw [Int32.toBitVec_and]
  show x.toBitVec &&& BitVec.allOnes 32 = x.toBitVec
  exact BitVec.and_allOnes
theorem ys_nnb32 {r : Nat → Int} {v : ys_E} (h : ys_ok r v) {y : ys_L} {u : Int} (hu : ys_nnb false v y = some u) : (Int32.ofInt (ys_ev r y)).toInt = ys_ev r y ∧ 0 ≤ ys_ev r y ∧ ys_ev r y ≤ u := by
  unfold ys_nnb at hu
  split at hu
  · rename_i hc
    rw [Bool.and_eq_true] at hc
    exact ⟨ys_inr32 h hc.2, ys_geb_le h hc.1, ys_high_le h hu⟩
  · cases hu
theorem ys_fand32 : ys_B32 (ys_fand false) (fun x y => x &&& y) (fun _ => True) := by
  intro r b x y o h hs hx hy ho
  refine ⟨trivial, ?_⟩
  have right : ∀ {t : Int}, ys_nnb false b.1 y = some t → 0 ≤ (Int32.ofInt (ys_ev r x) &&& Int32.ofInt (ys_ev r y)).toInt ∧ (Int32.ofInt (ys_ev r x) &&& Int32.ofInt (ys_ev r y)).toInt ≤ t := by
    intro t ht
    obtain ⟨e1, e2, e3⟩ := ys_nnb32 h.1 ht
    have h2 := ys_and32 (Int32.ofInt (ys_ev r x)) (y := Int32.ofInt (ys_ev r y)) (by rw [e1]; exact e2)
    rw [e1] at h2
    omega
  have left : ∀ {u : Int}, ys_nnb false b.1 x = some u → 0 ≤ (Int32.ofInt (ys_ev r x) &&& Int32.ofInt (ys_ev r y)).toInt ∧ (Int32.ofInt (ys_ev r x) &&& Int32.ofInt (ys_ev r y)).toInt ≤ u := by
    intro u hu
    obtain ⟨e1, e2, e3⟩ := ys_nnb32 h.1 hu
    have h2 := ys_and32 (Int32.ofInt (ys_ev r y)) (y := Int32.ofInt (ys_ev r x)) (by rw [e1]; exact e2)
    rw [Int32.and_comm, e1] at h2
    omega
  unfold ys_fand at ho
  split at ho
  · rename_i he
    cases Option.some.inj ho
    refine ys_Op_same h hs hx ?_
    show Int32.ofInt (ys_ev r x) = Int32.ofInt (ys_ev r x) &&& Int32.ofInt (ys_ev r y)
    rw [he, show Int32.ofInt (ys_ev r (([], -1) : ys_L)) = -1 from rfl]
    exact (ys_andm32 _).symm
  split at ho
  · rename_i he
    cases Option.some.inj ho
    refine ys_Op_same h hs hy ?_
    show Int32.ofInt (ys_ev r y) = Int32.ofInt (ys_ev r x) &&& Int32.ofInt (ys_ev r y)
    rw [he, show Int32.ofInt (ys_ev r (([], -1) : ys_L)) = -1 from rfl, Int32.and_comm]
    exact (ys_andm32 _).symm
  split at ho
  · rename_i u t hu ht
    cases Option.some.inj ho
    have h1 := left hu
    have h2 := right ht
    exact ys_Op_nw32 h hs _ ⟨h1.1, by show (Int32.ofInt (ys_ev r x) &&& Int32.ofInt (ys_ev r y)).toInt ≤ (if u ≤ t then u else t); split <;> omega⟩
  · rename_i u hu ht
    cases Option.some.inj ho
    exact ys_Op_nw32 h hs _ (left hu)
  · rename_i t hu ht
    cases Option.some.inj ho
    exact ys_Op_nw32 h hs _ (right ht)
  · cases Option.some.inj ho
    exact ys_Op_any32 h hs _
theorem ys_andm64 (x : Int64) : x &&& -1 = x := by
  apply Int64.toBitVec_inj.mp
  rw [Int64.toBitVec_and]
  show x.toBitVec &&& BitVec.allOnes 64 = x.toBitVec
  exact BitVec.and_allOnes
theorem ys_nnb64 {r : Nat → Int} {v : ys_E} (h : ys_ok r v) {y : ys_L} {u : Int} (hu : ys_nnb true v y = some u) : (Int64.ofInt (ys_ev r y)).toInt = ys_ev r y ∧ 0 ≤ ys_ev r y ∧ ys_ev r y ≤ u := by
  unfold ys_nnb at hu
  split at hu
  · rename_i hc
    rw [Bool.and_eq_true] at hc
    exact ⟨ys_inr64 h hc.2, ys_geb_le h hc.1, ys_high_le h hu⟩
  · cases hu
theorem ys_fand64 : ys_B64 (ys_fand true) (fun x y => x &&& y) (fun _ => True) := by
  intro r b x y o h hs hx hy ho
  refine ⟨trivial, ?_⟩
  have right : ∀ {t : Int}, ys_nnb true b.1 y = some t → 0 ≤ (Int64.ofInt (ys_ev r x) &&& Int64.ofInt (ys_ev r y)).toInt ∧ (Int64.ofInt (ys_ev r x) &&& Int64.ofInt (ys_ev r y)).toInt ≤ t := by
    intro t ht
    obtain ⟨e1, e2, e3⟩ := ys_nnb64 h.1 ht
    have h2 := ys_and64 (Int64.ofInt (ys_ev r x)) (y := Int64.ofInt (ys_ev r y)) (by rw [e1]; exact e2)
    rw [e1] at h2
    omega
  have left : ∀ {u : Int}, ys_nnb true b.1 x = some u → 0 ≤ (Int64.ofInt (ys_ev r x) &&& Int64.ofInt (ys_ev r y)).toInt ∧ (Int64.ofInt (ys_ev r x) &&& Int64.ofInt (ys_ev r y)).toInt ≤ u := by
    intro u hu
    obtain ⟨e1, e2, e3⟩ := ys_nnb64 h.1 hu
    have h2 := ys_and64 (Int64.ofInt (ys_ev r y)) (y := Int64.ofInt (ys_ev r x)) (by rw [e1]; exact e2)
    rw [Int64.and_comm, e1] at h2
    omega
  unfold ys_fand at ho
  split at ho
  · rename_i he
    cases Option.some.inj ho
    refine ys_Op_same h hs hx ?_
    show Int64.ofInt (ys_ev r x) = Int64.ofInt (ys_ev r x) &&& Int64.ofInt (ys_ev r y)
    rw [he, show Int64.ofInt (ys_ev r (([], -1) : ys_L)) = -1 from rfl]
    exact (ys_andm64 _).symm
  split at ho
  · rename_i he
    cases Option.some.inj ho
    refine ys_Op_same h hs hy ?_
    show Int64.ofInt (ys_ev r y) = Int64.ofInt (ys_ev r x) &&& Int64.ofInt (ys_ev r y)
    rw [he, show Int64.ofInt (ys_ev r (([], -1) : ys_L)) = -1 from rfl, Int64.and_comm]
    exact (ys_andm64 _).symm
  split at ho
  · rename_i u t hu ht
    cases Option.some.inj ho
    have h1 := left hu
    have h2 := right ht
    exact ys_Op_nw64 h hs _ ⟨h1.1, by show (Int64.ofInt (ys_ev r x) &&& Int64.ofInt (ys_ev r y)).toInt ≤ (if u ≤ t then u else t); split <;> omega⟩
  · rename_i u hu ht
    cases Option.some.inj ho
    exact ys_Op_nw64 h hs _ (left hu)
  · rename_i t hu ht
    cases Option.some.inj ho
    exact ys_Op_nw64 h hs _ (right ht)
  · cases Option.some.inj ho
    exact ys_Op_any64 h hs _
/-! or, exclusive or: of numbers not below 0, below a power of two -/
noncomputable def ys_p2 (m : Int) : Nat := Nat.log2 m.toNat + 1
noncomputable def ys_for (b : ys_B) (x y : ys_L) : Option (ys_B × ys_L) :=
  match (if ys_geb b.1 x 0 && ys_inr false b.1 x && (ys_geb b.1 y 0 && ys_inr false b.1 y) then (match ys_high b.1 x, ys_high b.1 y with
    | some u, some t => some (ys_p2 (if u ≤ t then t else u))
    | _, _ => none) else none) with
  | some k => if k ≤ 31 then some (ys_nw b (0, 2 ^ k - 1)) else some (ys_new b (ys_mn false, ys_mx false))
  | none => some (ys_new b (ys_mn false, ys_mx false))
noncomputable def ys_fxor (b : ys_B) (x y : ys_L) : Option (ys_B × ys_L) := if y = ([], -1) then some (ys_nm false b (ys_sub ([], -1) x)) else ys_for b x y
theorem ys_p2_lt {m z : Int} (h : z ≤ m) : z.toNat < 2 ^ ys_p2 m := Nat.lt_of_le_of_lt (Int.toNat_le_toNat h) Nat.lt_log2_self
theorem ys_for32 (op : Int32 → Int32 → Int32) (hop : ∀ (x y : Int32) (k : Nat), x.toBitVec.toNat < 2 ^ k → y.toBitVec.toNat < 2 ^ k → (op x y).toBitVec.toNat < 2 ^ k) : ys_B32 ys_for op (fun _ => True) := by
  intro r b x y o h hs hx hy ho
  refine ⟨trivial, ?_⟩
  unfold ys_for at ho
  split at ho
  · rename_i k hk
    split at hk
    · rename_i hc
      rw [Bool.and_eq_true, Bool.and_eq_true, Bool.and_eq_true] at hc
      obtain ⟨⟨c1, c2⟩, c3, c4⟩ := hc
      split at hk
      · rename_i u t hu ht
        have hk := Option.some.inj hk
        split at ho
        · rename_i hk31
          cases Option.some.inj ho
          have ex := ys_inr32 h.1 c2
          have ey := ys_inr32 h.1 c4
          have x0 := ys_geb_le h.1 c1
          have y0 := ys_geb_le h.1 c3
          have xu := ys_high_le h.1 hu
          have yt := ys_high_le h.1 ht
          have xn := ys_toNat32 (y := Int32.ofInt (ys_ev r x)) (by rw [ex]; exact x0)
          have yn := ys_toNat32 (y := Int32.ofInt (ys_ev r y)) (by rw [ey]; exact y0)
          rw [ex] at xn
          rw [ey] at yn
          have xk : (Int32.ofInt (ys_ev r x)).toBitVec.toNat < 2 ^ k := by
            have := ys_p2_lt (m := if u ≤ t then t else u) (z := ys_ev r x) (by split <;> omega)
            rw [hk] at this
            omega
          have yk : (Int32.ofInt (ys_ev r y)).toBitVec.toNat < 2 ^ k := by
            have := ys_p2_lt (m := if u ≤ t then t else u) (z := ys_ev r y) (by split <;> omega)
            rw [hk] at this
            omega
          have zk := hop _ _ k xk yk
          have h31 : (2 : Nat) ^ k ≤ 2 ^ 31 := Nat.pow_le_pow_right (by decide) hk31
          have e := ys_ofNat32 (y := op (Int32.ofInt (ys_ev r x)) (Int32.ofInt (ys_ev r y))) (by omega)
          have hpow : ((2 : Int) ^ k) = ((2 ^ k : Nat) : Int) := by simp
          refine ys_Op_nw32 h hs _ ⟨by show (0 : Int) ≤ _; omega, ?_⟩
          show _ ≤ (2 : Int) ^ k - 1
          rw [hpow]
          omega
        · cases Option.some.inj ho
          exact ys_Op_any32 h hs _
      · cases hk
    · cases hk
  · cases Option.some.inj ho
    exact ys_Op_any32 h hs _
theorem ys_or32 : ys_B32 ys_for (fun x y => x ||| y) (fun _ => True) := ys_for32 _ fun x y k hx hy => by
  rw [Int32.toBitVec_or, BitVec.toNat_or]
  exact Nat.or_lt_two_pow hx hy
theorem ys_xor32 : ys_B32 ys_for (fun x y => x ^^^ y) (fun _ => True) := ys_for32 _ fun x y k hx hy => by
  rw [Int32.toBitVec_xor, BitVec.toNat_xor]
  exact Nat.xor_lt_two_pow hx hy
theorem ys_not32 (z : Int) : Int32.ofInt z ^^^ -1 = Int32.ofInt (-1 - z) := by
  rw [Int32.ofInt_sub, show Int32.ofInt (-1) = -1 from rfl]
  apply Int32.toBitVec_inj.mp
  show (Int32.ofInt z).toBitVec ^^^ BitVec.allOnes 32 = -1#32 - (Int32.ofInt z).toBitVec
  rw [BitVec.xor_allOnes]
  generalize (Int32.ofInt z).toBitVec = w
  apply BitVec.eq_of_toNat_eq
  rw [BitVec.toNat_not, BitVec.toNat_sub]
  have := w.isLt
  rw [show (-1#32).toNat = 4294967295 from rfl]
  omega
theorem ys_fxor32 : ys_B32 ys_fxor (fun x y => x ^^^ y) (fun _ => True) := by
  intro r b x y o h hs hx hy ho
  unfold ys_fxor at ho
  split at ho
  · rename_i he
    cases Option.some.inj ho
    refine ⟨trivial, ys_Op_nm32 h hs (ys_stb_sub (ys_stb_cst _) hx) ?_⟩
    show _ = Int32.ofInt (ys_ev r x) ^^^ Int32.ofInt (ys_ev r y)
    rw [he, show Int32.ofInt (ys_ev r (([], -1) : ys_L)) = -1 from rfl, ys_not32, ys_sub_ev]
    rfl
  · exact ys_xor32 r b x y o h hs hx hy ho
