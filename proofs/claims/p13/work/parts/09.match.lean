/-! one state within another's words -/
noncomputable def ys_eqV (v w : ys_V) : Bool := match v, w with
  | .inl (.inl x), .inl (.inl y) => yu_nul (ys_sub x y)
  | .inl (.inr x), .inl (.inr y) => yu_nul (ys_sub x y)
  | .inr x, .inr y => decide (x = y)
  | _, _ => false
theorem ys_sub0 {r : Nat → Int} {x y : ys_L} (h : ys_sub x y = ([], 0)) : ys_ev r x = ys_ev r y := by
  have h1 := ys_sub_ev r x y
  rw [h] at h1
  have h2 : ys_ev r (([], 0) : ys_L) = 0 := rfl
  omega
theorem ys_eqV_ok {ad : Nat → Nat} {v w : ys_V} (h : ys_eqV v w = true) (r : Nat → Int) : ys_den ad r v = ys_den ad r w := by
  unfold ys_eqV at h
  split at h
  · show Value.int _ = Value.int _
    rw [ys_sub0 (yu_nul_t h)]
  · show Value.long _ = Value.long _
    rw [ys_sub0 (yu_nul_t h)]
  · rw [of_decide_eq_true h]
  · cases h
noncomputable def ys_pV (E : Nat) (t : List ys_L) : ys_V → ys_V
  | .inl (.inl x) => .inl (.inl (ys_put E t x))
  | .inl (.inr x) => .inl (.inr (ys_put E t x))
  | .inr x => .inr x
theorem ys_pV_den {ad : Nat → Nat} (r : Nat → Int) (E : Nat) (t : List ys_L) (v : ys_V) : ys_den ad r (ys_pV E t v) = ys_den ad (ys_val r E t) v := by
  rcases v with (x | x) | x
  · show Value.int (Int32.ofInt (ys_ev r (ys_put E t x))) = _
    rw [ys_put_ev]
    rfl
  · show Value.long (Int64.ofInt (ys_ev r (ys_put E t x))) = _
    rw [ys_put_ev]
    rfl
  · cases x <;> rfl
theorem ys_pV_st {n E : Nat} {t : List ys_L} (hE : E ≤ n) (ht : ∀ x ∈ t, ys_stb n x) (v : ys_V) : ys_stV n (ys_pV E t v) := by
  rcases v with (x | x) | x
  · exact ys_stb_put hE ht x
  · exact ys_stb_put hE ht x
  · trivial
noncomputable def ys_col : Nat → List (ys_V × ys_V) → List ys_L
  | _, [] => []
  | j, q :: t => match q.1, q.2 with
    | .inl (.inl x), .inl (.inl y) => if yu_isy x j = true then y :: ys_col (j + 1) t else ys_col j t
    | .inl (.inr x), .inl (.inr y) => if yu_isy x j = true then y :: ys_col (j + 1) t else ys_col j t
    | _, _ => ys_col j t
theorem ys_col_st {n : Nat} : ∀ (l : List (ys_V × ys_V)) (j : Nat), (∀ q ∈ l, ys_stV n q.2) → ∀ x ∈ ys_col j l, ys_stb n x
  | [], j, h, x, hx => by cases hx
  | (v, w) :: t, j, h, x, hx => by
    have hw := h _ List.mem_cons_self
    have ht : ∀ q ∈ t, ys_stV n q.2 := fun q hq => h q (List.mem_cons_of_mem _ hq)
    unfold ys_col at hx
    split at hx
    · rename_i a y e1 e2
      split at hx
      · rcases List.mem_cons.mp hx with q | q
        · rw [q]
          have hw : ys_stV n w := hw
          rw [show w = .inl (.inl y) from e2] at hw
          exact hw
        · exact ys_col_st t _ ht x q
      · exact ys_col_st t _ ht x hx
    · rename_i a y e1 e2
      split at hx
      · rcases List.mem_cons.mp hx with q | q
        · rw [q]
          have hw : ys_stV n w := hw
          rw [show w = .inl (.inr y) from e2] at hw
          exact hw
        · exact ys_col_st t _ ht x q
      · exact ys_col_st t _ ht x hx
    · exact ys_col_st t _ ht x hx
noncomputable def ys_ivc (b : ys_B) : List ys_L → ys_E → Bool
  | [], [] => true
  | x :: t, q :: u => ys_ge b.1 b.2 2 (ys_sub x ([], q.1)) && (ys_ge b.1 b.2 2 (ys_sub ([], q.2) x) && ys_ivc b t u)
  | _, _ => false
theorem ys_ivc_ok {r : Nat → Int} {b : ys_B} (h : ys_okB r b) : ∀ (t : List ys_L) (u : ys_E), ys_ivc b t u = true → t.length = u.length ∧ ∀ (j : Nat) (q : Int × Int), u[j]? = some q → q.1 ≤ ys_ev r (t.getD j ([], 0)) ∧ ys_ev r (t.getD j ([], 0)) ≤ q.2
  | [], [], _ => ⟨rfl, fun j q hj => by cases hj⟩
  | x :: t, w :: u, hc => by
    unfold ys_ivc at hc
    rw [Bool.and_eq_true, Bool.and_eq_true] at hc
    obtain ⟨c1, c2, c3⟩ := hc
    obtain ⟨i1, i2⟩ := ys_ivc_ok h t u c3
    have h1 := ys_ge_le h.1 h.2 _ _ c1
    have h2 := ys_ge_le h.1 h.2 _ _ c2
    have z : ∀ i : Int, ys_ev r (([], i) : ys_L) = i := fun i => Int.zero_add _
    rw [ys_sub_ev, z] at h1
    rw [ys_sub_ev, z] at h2
    refine ⟨by rw [List.length_cons, List.length_cons, i1], fun j q hj => ?_⟩
    cases j with
    | zero =>
      cases hj
      show w.1 ≤ ys_ev r x ∧ ys_ev r x ≤ w.2
      omega
    | succ j => exact i2 j q hj
  | [], _ :: _, hc => by cases hc
  | _ :: _, [], hc => by cases hc
noncomputable def ys_sbs (q w : Int × Int) : Bool := yu_le w.1 q.1 && yu_le q.2 w.2
theorem ys_sbs_ok {q w : Int × Int} (h : ys_sbs q w = true) {z : Int} (hz : q.1 ≤ z ∧ z ≤ q.2) : w.1 ≤ z ∧ z ≤ w.2 := by
  unfold ys_sbs at h
  rw [Bool.and_eq_true, yu_le_iff, yu_le_iff] at h
  omega
noncomputable def ys_rle (a a' : ys_R) : Bool := ys_sbs a.1 a'.1 && (a.2.all (fun x => ys_sbs x.2 (ys_rat a' x.1)) && a'.2.all (fun x => ys_sbs (ys_rat a x.1) x.2))
theorem ys_lk_mem : ∀ (l : List (Nat × (Int × Int))) (i : Nat) (v : Int × Int), l.lookup i = some v → (i, v) ∈ l
  | [], i, v, h => by cases h
  | (j, w) :: t, i, v, h => by
    unfold List.lookup at h
    cases hc : i == j with
    | true =>
      rw [hc] at h
      cases h
      rw [beq_iff_eq] at hc
      rw [hc]
      exact List.mem_cons_self
    | false =>
      rw [hc] at h
      exact List.mem_cons_of_mem _ (ys_lk_mem t i v h)
theorem ys_rle_ok {a a' : ys_R} (h : ys_rle a a' = true) {f : Nat → Int} (ha : ys_rok a f) : ys_rok a' f := by
  unfold ys_rle at h
  rw [Bool.and_eq_true, Bool.and_eq_true] at h
  obtain ⟨h1, h2, h3⟩ := h
  intro j
  have hj := ha j
  cases hc : a'.2.lookup j with
  | some w =>
    have e1 : ys_rat a' j = w := by unfold ys_rat; rw [hc]; rfl
    rw [e1]
    exact ys_sbs_ok (List.all_eq_true.mp h3 _ (ys_lk_mem _ _ _ hc)) hj
  | none =>
    have e1 : ys_rat a' j = a'.1 := by unfold ys_rat; rw [hc]; rfl
    cases hd : a.2.lookup j with
    | some w =>
      have e2 : ys_rat a j = w := by unfold ys_rat; rw [hd]; rfl
      rw [e2] at hj
      exact ys_sbs_ok (List.all_eq_true.mp h2 _ (ys_lk_mem _ _ _ hd)) hj
    | none =>
      have e2 : ys_rat a j = a.1 := by unfold ys_rat; rw [hd]; rfl
      rw [e2] at hj
      rw [e1]
      exact ys_sbs_ok h1 hj
noncomputable def ys_rls : List ys_R → List ys_R → Bool
  | [], [] => true
  | a :: t, a' :: u => ys_rle a a' && ys_rls t u
  | _, _ => false
theorem ys_rls_ok : ∀ (l l' : List ys_R), ys_rls l l' = true → l.length = l'.length ∧ ∀ (k : Nat) (a' : ys_R), l'[k]? = some a' → ∃ a, l[k]? = some a ∧ ys_rle a a' = true
  | [], [], _ => ⟨rfl, fun k a' h => by cases h⟩
  | a :: t, a' :: u, h => by
    unfold ys_rls at h
    rw [Bool.and_eq_true] at h
    obtain ⟨i1, i2⟩ := ys_rls_ok t u h.2
    refine ⟨by rw [List.length_cons, List.length_cons, i1], fun k x hk => ?_⟩
    cases k with
    | zero =>
      cases hk
      exact ⟨a, rfl, h.1⟩
    | succ k => exact i2 k x hk
  | [], _ :: _, h => by cases h
  | _ :: _, [], h => by cases h
/-- a pair that names the next symbol needs no look: it is what the symbol stands for -/
noncomputable def ys_eqs (E : Nat) (t : List ys_L) : Nat → List (ys_V × ys_V) → Bool
  | _, [] => true
  | j, q :: l => match q.1, q.2 with
    | .inl (.inl x), .inl (.inl y) => if yu_isy x j = true then ys_eqs E t (j + 1) l else ys_eqV (ys_pV E t (.inl (.inl x))) (.inl (.inl y)) && ys_eqs E t j l
    | .inl (.inr x), .inl (.inr y) => if yu_isy x j = true then ys_eqs E t (j + 1) l else ys_eqV (ys_pV E t (.inl (.inr x))) (.inl (.inr y)) && ys_eqs E t j l
    | x, y => ys_eqV (ys_pV E t x) y && ys_eqs E t j l
theorem ys_sym_val {r : Nat → Int} {E : Nat} {p s : List ys_L} {y : ys_L} : ys_ev (ys_val r E (p ++ y :: s)) (ys_sym (E + p.length)) = ys_ev r y := by
  rw [ys_sym_ev]
  show ys_ev r (ys_at E (p ++ y :: s) (E + p.length)) = _
  unfold ys_at
  rw [if_neg (by omega), show E + p.length - E = p.length by omega, List.getD_eq_getElem?_getD, List.getElem?_append_right (Nat.le_refl _), Nat.sub_self, List.getElem?_cons_zero]
  rfl
theorem ys_eqs_ok {ad : Nat → Nat} {r : Nat → Int} {E : Nat} : ∀ (l : List (ys_V × ys_V)) (p : List ys_L), ys_eqs E (p ++ ys_col (E + p.length) l) (E + p.length) l = true → ∀ q ∈ l, ys_den ad (ys_val r E (p ++ ys_col (E + p.length) l)) q.1 = ys_den ad r q.2
  | [], p, h, q, hq => by cases hq
  | (v, w) :: l, p, h, q, hq => by
    have go : ∀ (t : List ys_L), ys_eqV (ys_pV E t v) w = true → ys_den ad (ys_val r E t) v = ys_den ad r w := fun t h1 => by
      have h2 := ys_eqV_ok (ad := ad) h1 r
      rw [ys_pV_den] at h2
      exact h2
    have nx : ∀ y : ys_L, p ++ y :: ys_col (E + p.length + 1) l = (p ++ [y]) ++ ys_col (E + (p ++ [y]).length) l := fun y => by
      rw [List.length_append, List.append_assoc]
      rfl
    rcases v with (x | x) | x <;> rcases w with (y | y) | y
    · by_cases c : yu_isy x (E + p.length) = true
      · have ec : ys_col (E + p.length) ((Sum.inl (Sum.inl x), Sum.inl (Sum.inl y)) :: l) = y :: ys_col (E + p.length + 1) l := if_pos c
        have es : ys_eqs E (p ++ ys_col (E + p.length) ((Sum.inl (Sum.inl x), Sum.inl (Sum.inl y)) :: l)) (E + p.length) ((Sum.inl (Sum.inl x), Sum.inl (Sum.inl y)) :: l) = ys_eqs E (p ++ ys_col (E + p.length) ((Sum.inl (Sum.inl x), Sum.inl (Sum.inl y)) :: l)) (E + p.length + 1) l := if_pos c
        rw [es] at h
        rw [ec] at h ⊢
        rcases List.mem_cons.mp hq with e | e
        · rw [e, yu_isy_t c]
          show Value.int (Int32.ofInt (ys_ev _ (ys_sym (E + p.length)))) = Value.int (Int32.ofInt (ys_ev r y))
          rw [ys_sym_val]
        · rw [nx] at h ⊢
          refine ys_eqs_ok l (p ++ [y]) ?_ q e
          rw [show E + (p ++ [y]).length = E + p.length + 1 by rw [List.length_append]; rfl]
          rw [show E + (p ++ [y]).length = E + p.length + 1 by rw [List.length_append]; rfl] at h
          exact h
      · have ec : ys_col (E + p.length) ((Sum.inl (Sum.inl x), Sum.inl (Sum.inl y)) :: l) = ys_col (E + p.length) l := if_neg c
        have es : ys_eqs E (p ++ ys_col (E + p.length) ((Sum.inl (Sum.inl x), Sum.inl (Sum.inl y)) :: l)) (E + p.length) ((Sum.inl (Sum.inl x), Sum.inl (Sum.inl y)) :: l) = (ys_eqV (ys_pV E (p ++ ys_col (E + p.length) ((Sum.inl (Sum.inl x), Sum.inl (Sum.inl y)) :: l)) (.inl (.inl x))) (.inl (.inl y)) && ys_eqs E (p ++ ys_col (E + p.length) ((Sum.inl (Sum.inl x), Sum.inl (Sum.inl y)) :: l)) (E + p.length) l) := if_neg c
        rw [es, ec, Bool.and_eq_true] at h
        rw [ec]
        rcases List.mem_cons.mp hq with e | e
        · rw [e]
          exact go _ h.1
        · exact ys_eqs_ok l p h.2 q e
    · have h : (ys_eqV (ys_pV E (p ++ ys_col (E + p.length) l) (.inl (.inl x))) (.inl (.inr y)) && ys_eqs E (p ++ ys_col (E + p.length) l) (E + p.length) l) = true := h
      rw [Bool.and_eq_true] at h
      show ys_den ad (ys_val r E (p ++ ys_col (E + p.length) l)) q.1 = _
      rcases List.mem_cons.mp hq with e | e
      · rw [e]
        exact go _ h.1
      · exact ys_eqs_ok l p h.2 q e
    · have h : (ys_eqV (ys_pV E (p ++ ys_col (E + p.length) l) (.inl (.inl x))) (.inr y) && ys_eqs E (p ++ ys_col (E + p.length) l) (E + p.length) l) = true := h
      rw [Bool.and_eq_true] at h
      show ys_den ad (ys_val r E (p ++ ys_col (E + p.length) l)) q.1 = _
      rcases List.mem_cons.mp hq with e | e
      · rw [e]
        exact go _ h.1
      · exact ys_eqs_ok l p h.2 q e
    · have h : (ys_eqV (ys_pV E (p ++ ys_col (E + p.length) l) (.inl (.inr x))) (.inl (.inl y)) && ys_eqs E (p ++ ys_col (E + p.length) l) (E + p.length) l) = true := h
      rw [Bool.and_eq_true] at h
      show ys_den ad (ys_val r E (p ++ ys_col (E + p.length) l)) q.1 = _
      rcases List.mem_cons.mp hq with e | e
      · rw [e]
        exact go _ h.1
      · exact ys_eqs_ok l p h.2 q e
    · by_cases c : yu_isy x (E + p.length) = true
      · have ec : ys_col (E + p.length) ((Sum.inl (Sum.inr x), Sum.inl (Sum.inr y)) :: l) = y :: ys_col (E + p.length + 1) l := if_pos c
        have es : ys_eqs E (p ++ ys_col (E + p.length) ((Sum.inl (Sum.inr x), Sum.inl (Sum.inr y)) :: l)) (E + p.length) ((Sum.inl (Sum.inr x), Sum.inl (Sum.inr y)) :: l) = ys_eqs E (p ++ ys_col (E + p.length) ((Sum.inl (Sum.inr x), Sum.inl (Sum.inr y)) :: l)) (E + p.length + 1) l := if_pos c
        rw [es] at h
        rw [ec] at h ⊢
        rcases List.mem_cons.mp hq with e | e
        · rw [e, yu_isy_t c]
          show Value.long (Int64.ofInt (ys_ev _ (ys_sym (E + p.length)))) = Value.long (Int64.ofInt (ys_ev r y))
          rw [ys_sym_val]
        · rw [nx] at h ⊢
          refine ys_eqs_ok l (p ++ [y]) ?_ q e
          rw [show E + (p ++ [y]).length = E + p.length + 1 by rw [List.length_append]; rfl]
          rw [show E + (p ++ [y]).length = E + p.length + 1 by rw [List.length_append]; rfl] at h
          exact h
      · have ec : ys_col (E + p.length) ((Sum.inl (Sum.inr x), Sum.inl (Sum.inr y)) :: l) = ys_col (E + p.length) l := if_neg c
        have es : ys_eqs E (p ++ ys_col (E + p.length) ((Sum.inl (Sum.inr x), Sum.inl (Sum.inr y)) :: l)) (E + p.length) ((Sum.inl (Sum.inr x), Sum.inl (Sum.inr y)) :: l) = (ys_eqV (ys_pV E (p ++ ys_col (E + p.length) ((Sum.inl (Sum.inr x), Sum.inl (Sum.inr y)) :: l)) (.inl (.inr x))) (.inl (.inr y)) && ys_eqs E (p ++ ys_col (E + p.length) ((Sum.inl (Sum.inr x), Sum.inl (Sum.inr y)) :: l)) (E + p.length) l) := if_neg c
        rw [es, ec, Bool.and_eq_true] at h
        rw [ec]
        rcases List.mem_cons.mp hq with e | e
        · rw [e]
          exact go _ h.1
        · exact ys_eqs_ok l p h.2 q e
    · have h : (ys_eqV (ys_pV E (p ++ ys_col (E + p.length) l) (.inl (.inr x))) (.inr y) && ys_eqs E (p ++ ys_col (E + p.length) l) (E + p.length) l) = true := h
      rw [Bool.and_eq_true] at h
      show ys_den ad (ys_val r E (p ++ ys_col (E + p.length) l)) q.1 = _
      rcases List.mem_cons.mp hq with e | e
      · rw [e]
        exact go _ h.1
      · exact ys_eqs_ok l p h.2 q e
    · have h : (ys_eqV (ys_pV E (p ++ ys_col (E + p.length) l) (.inr x)) (.inl (.inl y)) && ys_eqs E (p ++ ys_col (E + p.length) l) (E + p.length) l) = true := h
      rw [Bool.and_eq_true] at h
      show ys_den ad (ys_val r E (p ++ ys_col (E + p.length) l)) q.1 = _
      rcases List.mem_cons.mp hq with e | e
      · rw [e]
        exact go _ h.1
      · exact ys_eqs_ok l p h.2 q e
    · have h : (ys_eqV (ys_pV E (p ++ ys_col (E + p.length) l) (.inr x)) (.inl (.inr y)) && ys_eqs E (p ++ ys_col (E + p.length) l) (E + p.length) l) = true := h
      rw [Bool.and_eq_true] at h
      show ys_den ad (ys_val r E (p ++ ys_col (E + p.length) l)) q.1 = _
      rcases List.mem_cons.mp hq with e | e
      · rw [e]
        exact go _ h.1
      · exact ys_eqs_ok l p h.2 q e
    · have h : (ys_eqV (ys_pV E (p ++ ys_col (E + p.length) l) (.inr x)) (.inr y) && ys_eqs E (p ++ ys_col (E + p.length) l) (E + p.length) l) = true := h
      rw [Bool.and_eq_true] at h
      show ys_den ad (ys_val r E (p ++ ys_col (E + p.length) l)) q.1 = _
      rcases List.mem_cons.mp hq with e | e
      · rw [e]
        exact go _ h.1
      · exact ys_eqs_ok l p h.2 q e
noncomputable def ys_mat (b : ys_B) (ars : List ys_R) (E : Nat) (tiv : ys_E) (tf : List ys_L) (tars : List ys_R) (prs : List (ys_V × ys_V)) : Option (List ys_L) :=
  if ys_eqs E (ys_col E prs) E prs && (ys_ivc b (ys_col E prs) tiv && (tf.all (fun f => ys_ge b.1 b.2 2 (ys_put E (ys_col E prs) f)) && ys_rls ars tars)) then some (ys_col E prs) else none
theorem ys_mat_ok {ad : Nat → Nat} {r : Nat → Int} {b : ys_B} (h : ys_okB r b) {ars tars : List ys_R} {E : Nat} {tiv : ys_E} {tf : List ys_L} {prs : List (ys_V × ys_V)} {t : List ys_L} (hm : ys_mat b ars E tiv tf tars prs = some t) :
    t = ys_col E prs ∧ t.length = tiv.length ∧ (∀ (j : Nat) (q : Int × Int), tiv[j]? = some q → q.1 ≤ ys_val r E t (E + j) ∧ ys_val r E t (E + j) ≤ q.2) ∧ ys_fk (ys_val r E t) tf ∧ (∀ q ∈ prs, ys_den ad (ys_val r E t) q.1 = ys_den ad r q.2) ∧ (ars.length = tars.length ∧ ∀ (k : Nat) (a' : ys_R), tars[k]? = some a' → ∃ a, ars[k]? = some a ∧ ys_rle a a' = true) := by
  unfold ys_mat at hm
  split at hm
  · rename_i hc
    rw [Bool.and_eq_true, Bool.and_eq_true, Bool.and_eq_true] at hc
    obtain ⟨c3, c1, c2, c4⟩ := hc
    have et := (Option.some.inj hm).symm
    have c5 := ys_eqs_ok (ad := ad) (r := r) (E := E) prs [] c3
    rw [← et] at c1 c2
    obtain ⟨i1, i2⟩ := ys_ivc_ok h t tiv c1
    refine ⟨et, i1, fun j q hj => ?_, fun f hf => ?_, fun q hq => ?_, ys_rls_ok _ _ c4⟩
    · have e1 : ys_val r E t (E + j) = ys_ev r (t.getD j ([], 0)) := by
        show ys_ev r (ys_at E t (E + j)) = _
        unfold ys_at
        rw [if_neg (by omega), show E + j - E = j by omega]
      rw [e1]
      exact i2 j q hj
    · have h1 := ys_ge_le h.1 h.2 _ _ (List.all_eq_true.mp c2 f hf)
      rw [ys_put_ev] at h1
      exact h1
    · have h1 : ys_den ad (ys_val r E (ys_col E prs)) q.1 = ys_den ad r q.2 := c5 q hq
      rw [et]
      exact h1
  · cases hm
theorem ys_val_high {r : Nat → Int} {E : Nat} {t : List ys_L} {i : Nat} (h : E + t.length ≤ i) : ys_val r E t i = 0 := by
  show ys_ev r (ys_at E t i) = 0
  unfold ys_at
  rw [if_neg (by omega), List.getD_eq_getElem?_getD, List.getElem?_eq_none (by omega)]
  rfl
/-- fields by pairs -/
noncomputable def ys_zf : List (List ys_V) → List (List ys_V) → Option (List (ys_V × ys_V))
  | [], [] => some []
  | x :: t, y :: u => if x.length = y.length then (match ys_zf t u with
    | some l => some (x.zip y ++ l)
    | none => none) else none
  | _, _ => none
theorem ys_zip_map {ad : Nat → Nat} {r r' : Nat → Int} : ∀ (x y : List ys_V), x.length = y.length → (∀ q ∈ x.zip y, ys_den ad r' q.1 = ys_den ad r q.2) → x.map (ys_den ad r') = y.map (ys_den ad r)
  | [], [], _, _ => rfl
  | v :: x, w :: y, hl, h => by
    rw [List.map_cons, List.map_cons, ys_zip_map x y (by simpa using hl) (fun q hq => h q (List.mem_cons_of_mem _ hq)), h (v, w) List.mem_cons_self]
  | [], _ :: _, hl, _ => by cases hl
  | _ :: _, [], hl, _ => by cases hl
theorem ys_zf_ok {ad : Nat → Nat} {r r' : Nat → Int} : ∀ (x y : List (List ys_V)) (l : List (ys_V × ys_V)), ys_zf x y = some l → (∀ q ∈ l, ys_den ad r' q.1 = ys_den ad r q.2) → ∀ k, (x.getD k []).map (ys_den ad r') = (y.getD k []).map (ys_den ad r)
  | [], [], l, _, _ => fun k => by simp
  | a :: x, c :: y, l, hz, h => by
    unfold ys_zf at hz
    split at hz
    · rename_i hl
      split at hz
      · rename_i l' hl'
        cases Option.some.inj hz
        intro k
        cases k with
        | zero => exact ys_zip_map a c hl (fun q hq => h q (List.mem_append_left _ hq))
        | succ k => exact ys_zf_ok x y l' hl' (fun q hq => h q (List.mem_append_right _ hq)) k
      · cases hz
    · cases hz
  | [], _ :: _, l, hz, _ => by cases hz
  | _ :: _, [], l, hz, _ => by cases hz
theorem ys_zf_mem : ∀ (x y : List (List ys_V)) (l : List (ys_V × ys_V)), ys_zf x y = some l → ∀ q ∈ l, ∃ w ∈ y, q.2 ∈ w
  | [], [], l, hz, q, hq => by cases Option.some.inj hz; cases hq
  | a :: x, c :: y, l, hz, q, hq => by
    unfold ys_zf at hz
    split at hz
    · split at hz
      · rename_i l' hl'
        cases Option.some.inj hz
        rcases List.mem_append.mp hq with g | g
        · exact ⟨c, List.mem_cons_self, (List.of_mem_zip g).2⟩
        · obtain ⟨w, h1, h2⟩ := ys_zf_mem x y l' hl' q g
          exact ⟨w, List.mem_cons_of_mem _ h1, h2⟩
      · cases hz
    · cases hz
  | [], _ :: _, l, hz, _, _ => by cases hz
  | _ :: _, [], l, hz, _, _ => by cases hz
theorem ys_wld_eq {ad : Nat → Nat} {cT : Nat → ClassId} {sh : List ys_C} {r r' : Nat → Int} {g : Nat → Nat → Int} {x y : List (List ys_V)} (h : ∀ k, (x.getD k []).map (ys_den ad r') = (y.getD k []).map (ys_den ad r)) : ys_wld ad cT sh r' g x = ys_wld ad cT sh r g y := by
  unfold ys_wld
  apply List.map_congr_left
  intro k _
  unfold ys_cel
  cases sh.getD k (.inl 0) with
  | inl ci =>
    show (ad k, Sum.inr (ci, _)) = (ad k, Sum.inr (ci, _))
    rw [h k]
  | inr a => rfl
/-! contracts -/
abbrev ys_A : Type := ys_E × List ys_L × ys_F × Option ys_V
abbrev ys_K : Type := ((MethodName × ByteArray × Nat × Option FieldType) × (Nat × Nat)) × (List ys_V × ys_B × ys_F) × (List ys_A × List Nat)
noncomputable def ys_rm (K : ys_K) : Room := { frames := K.1.2.1, cells := 0, slots := 0, locals := K.1.2.2 }
noncomputable def ys_ws (G : List Cond) (K : ys_K) : List Cond := Cond.code K.1.1.1 K.1.1.2.1 K.1.1.2.2.1 K.1.1.2.2.2 :: G
section YSK
variable (l : Launch) (D : va_G) (cl : List vw_C) (ad : Nat → Nat) (cT : Nat → ClassId) (sh : List ys_C) (tys : List (ClassId × FieldType)) (G : List Cond)
noncomputable def ys_wK (K : ys_K) (r0 : Nat → Int) (g0 : Nat → Nat → Int) : va_W := ys_wld ad cT sh r0 g0 K.2.1.2.2.1
noncomputable def ys_Pre (K : ys_K) (r0 : Nat → Int) (g0 : Nat → Nat → Int) (sz : Nat) : Array Value → State → Prop := va_Pc (K.2.1.1.map (ys_den ad r0)) (fun U => U.heap.size = sz ∧ va_P D cl (ys_wK ad cT sh K r0 g0) U.heap ∧ va_K D cl tys U ∧ va_D (fun _ => True) (ys_wK ad cT sh K r0 g0))
noncomputable def ys_Alt (K : ys_K) (r0 : Nat → Int) (g0 : Nat → Nat → Int) (sz : Nat) (a : ys_A) (oc : Outcome) (t : State) : Prop := ∃ (r1 : Nat → Int) (g1 : Nat → Nat → Int), (∀ i, i < K.2.1.2.1.1.length → r1 i = r0 i) ∧ (∀ i, K.2.1.2.1.1.length + a.1.length ≤ i → r1 i = 0) ∧ (∀ (j : Nat) (q : Int × Int), a.1[j]? = some q → q.1 ≤ r1 (K.2.1.2.1.1.length + j) ∧ r1 (K.2.1.2.1.1.length + j) ≤ q.2) ∧ ys_fk r1 a.2.1 ∧ ys_gok K.2.2.2 a.2.2.1.2 g0 g1 ∧ va_P D cl (ys_wld ad cT sh r1 g1 a.2.2.1.1) t.heap ∧ va_D (va_A (ys_wK ad cT sh K r0 g0) sz) (ys_wld ad cT sh r1 g1 a.2.2.1.1) ∧ va_K D cl tys t ∧ oc = .returned (a.2.2.2.map (ys_den ad r1))
noncomputable def ys_Post (K : ys_K) (r0 : Nat → Int) (g0 : Nat → Nat → Int) (sz : Nat) : Array Value → State → Outcome → State → Prop := fun _ st oc t => (∃ a ∈ K.2.2.1, ys_Alt D cl ad cT sh tys K r0 g0 sz a oc t) ∧ va_F (va_A (ys_wK ad cT sh K r0 g0) sz) st t
noncomputable def ys_Con (K : ys_K) : Prop := ∀ (r0 : Nat → Int) (g0 : Nat → Nat → Int) (sz : Nat), ys_okB r0 K.2.1.2.1 → (∀ (k : Nat) (a : ys_R), K.2.1.2.2.2[k]? = some a → ys_rok a (g0 k)) → Met l K.1.1.1 (ys_ws G K) (ys_rm K) (ys_Pre D cl ad cT sh tys K r0 g0 sz) (ys_Post D cl ad cT sh tys K r0 g0 sz) 0 0 (va_A (ys_wK ad cT sh K r0 g0) sz)
end YSK

