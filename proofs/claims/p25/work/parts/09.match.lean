/-! one state within another's words -/
def ys_eqV (v w : ys_V) : Bool := match v, w with
  | .inl (.inl x), .inl (.inl y) => decide (ys_sub x y = ([], 0))
  | .inl (.inr x), .inl (.inr y) => decide (ys_sub x y = ([], 0))
  | .inr x, .inr y => decide (x = y)
  | _, _ => false
theorem ys_sub0 {r : Nat → Int} {x y : ys_L} (h : ys_sub x y = ([], 0)) : ys_ev r x = ys_ev r y := sorry
theorem ys_eqV_ok {ad : Nat → Nat} {v w : ys_V} (h : ys_eqV v w = true) (r : Nat → Int) : ys_den ad r v = ys_den ad r w := sorry
def ys_pV (E : Nat) (t : List ys_L) : ys_V → ys_V
  | .inl (.inl x) => .inl (.inl (ys_put E t x))
  | .inl (.inr x) => .inl (.inr (ys_put E t x))
  | .inr x => .inr x
theorem ys_pV_den {ad : Nat → Nat} (r : Nat → Int) (E : Nat) (t : List ys_L) (v : ys_V) : ys_den ad r (ys_pV E t v) = ys_den ad (ys_val r E t) v := sorry
theorem ys_pV_st {n E : Nat} {t : List ys_L} (hE : E ≤ n) (ht : ∀ x ∈ t, ys_stb n x) (v : ys_V) : ys_stV n (ys_pV E t v) := sorry
def ys_col : Nat → List (ys_V × ys_V) → List ys_L
  | _, [] => []
  | j, q :: t => match q.1, q.2 with
    | .inl (.inl x), .inl (.inl y) => if x = ys_sym j then y :: ys_col (j + 1) t else ys_col j t
    | .inl (.inr x), .inl (.inr y) => if x = ys_sym j then y :: ys_col (j + 1) t else ys_col j t
    | _, _ => ys_col j t
theorem ys_col_st {n : Nat} : ∀ (l : List (ys_V × ys_V)) (j : Nat), (∀ q ∈ l, ys_stV n q.2) → ∀ x ∈ ys_col j l, ys_stb n x := sorry
def ys_ivc (b : ys_B) : List ys_L → ys_E → Bool
  | [], [] => true
  | x :: t, q :: u => ys_ge b.1 b.2 2 (ys_sub x ([], q.1)) && (ys_ge b.1 b.2 2 (ys_sub ([], q.2) x) && ys_ivc b t u)
  | _, _ => false
theorem ys_ivc_ok {r : Nat → Int} {b : ys_B} (h : ys_okB r b) : ∀ (t : List ys_L) (u : ys_E), ys_ivc b t u = true → t.length = u.length ∧ ∀ (j : Nat) (q : Int × Int), u[j]? = some q → q.1 ≤ ys_ev r (t.getD j ([], 0)) ∧ ys_ev r (t.getD j ([], 0)) ≤ q.2 := sorry
def ys_sbs (q w : Int × Int) : Bool := decide (w.1 ≤ q.1) && decide (q.2 ≤ w.2)
theorem ys_sbs_ok {q w : Int × Int} (h : ys_sbs q w = true) {z : Int} (hz : q.1 ≤ z ∧ z ≤ q.2) : w.1 ≤ z ∧ z ≤ w.2 := sorry
def ys_rle (a a' : ys_R) : Bool := ys_sbs a.1 a'.1 && (a.2.all (fun x => ys_sbs x.2 (ys_rat a' x.1)) && a'.2.all (fun x => ys_sbs (ys_rat a x.1) x.2))
theorem ys_lk_mem : ∀ (l : List (Nat × (Int × Int))) (i : Nat) (v : Int × Int), l.lookup i = some v → (i, v) ∈ l := sorry
theorem ys_rle_ok {a a' : ys_R} (h : ys_rle a a' = true) {f : Nat → Int} (ha : ys_rok a f) : ys_rok a' f := sorry
def ys_rls : List ys_R → List ys_R → Bool
  | [], [] => true
  | a :: t, a' :: u => ys_rle a a' && ys_rls t u
  | _, _ => false
theorem ys_rls_ok : ∀ (l l' : List ys_R), ys_rls l l' = true → l.length = l'.length ∧ ∀ (k : Nat) (a' : ys_R), l'[k]? = some a' → ∃ a, l[k]? = some a ∧ ys_rle a a' = true := sorry
def ys_mat (b : ys_B) (ars : List ys_R) (E : Nat) (tiv : ys_E) (tf : List ys_L) (tars : List ys_R) (prs : List (ys_V × ys_V)) : Option (List ys_L) :=
  if ys_ivc b (ys_col E prs) tiv && (tf.all (fun f => ys_ge b.1 b.2 2 (ys_put E (ys_col E prs) f)) && (prs.all (fun q => ys_eqV (ys_pV E (ys_col E prs) q.1) q.2) && ys_rls ars tars)) then some (ys_col E prs) else none
theorem ys_mat_ok {ad : Nat → Nat} {r : Nat → Int} {b : ys_B} (h : ys_okB r b) {ars tars : List ys_R} {E : Nat} {tiv : ys_E} {tf : List ys_L} {prs : List (ys_V × ys_V)} {t : List ys_L} (hm : ys_mat b ars E tiv tf tars prs = some t) :
    t = ys_col E prs ∧ t.length = tiv.length ∧ (∀ (j : Nat) (q : Int × Int), tiv[j]? = some q → q.1 ≤ ys_val r E t (E + j) ∧ ys_val r E t (E + j) ≤ q.2) ∧ ys_fk (ys_val r E t) tf ∧ (∀ q ∈ prs, ys_den ad (ys_val r E t) q.1 = ys_den ad r q.2) ∧ (ars.length = tars.length ∧ ∀ (k : Nat) (a' : ys_R), tars[k]? = some a' → ∃ a, ars[k]? = some a ∧ ys_rle a a' = true) := sorry
theorem ys_val_high {r : Nat → Int} {E : Nat} {t : List ys_L} {i : Nat} (h : E + t.length ≤ i) : ys_val r E t i = 0 := sorry
/-- fields by pairs -/
def ys_zf : List (List ys_V) → List (List ys_V) → Option (List (ys_V × ys_V))
  | [], [] => some []
  | x :: t, y :: u => if x.length = y.length then (match ys_zf t u with
    | some l => some (x.zip y ++ l)
    | none => none) else none
  | _, _ => none
theorem ys_zip_map {ad : Nat → Nat} {r r' : Nat → Int} : ∀ (x y : List ys_V), x.length = y.length → (∀ q ∈ x.zip y, ys_den ad r' q.1 = ys_den ad r q.2) → x.map (ys_den ad r') = y.map (ys_den ad r) := sorry
theorem ys_zf_ok {ad : Nat → Nat} {r r' : Nat → Int} : ∀ (x y : List (List ys_V)) (l : List (ys_V × ys_V)), ys_zf x y = some l → (∀ q ∈ l, ys_den ad r' q.1 = ys_den ad r q.2) → ∀ k, (x.getD k []).map (ys_den ad r') = (y.getD k []).map (ys_den ad r) := sorry
theorem ys_zf_mem : ∀ (x y : List (List ys_V)) (l : List (ys_V × ys_V)), ys_zf x y = some l → ∀ q ∈ l, ∃ w ∈ y, q.2 ∈ w := sorry
theorem ys_wld_eq {ad : Nat → Nat} {cT : Nat → ClassId} {sh : List ys_C} {r r' : Nat → Int} {g : Nat → Nat → Int} {x y : List (List ys_V)} (h : ∀ k, (x.getD k []).map (ys_den ad r') = (y.getD k []).map (ys_den ad r)) : ys_wld ad cT sh r' g x = ys_wld ad cT sh r g y := sorry
/-! contracts -/
abbrev ys_A : Type := ys_E × List ys_L × ys_F × Option ys_V
abbrev ys_K : Type := ((MethodName × ByteArray × Nat × Option FieldType) × (Nat × Nat)) × (List ys_V × ys_B × ys_F) × (List ys_A × List Nat)
def ys_rm (K : ys_K) : Room := { frames := K.1.2.1, cells := 0, slots := 0, locals := K.1.2.2 }
def ys_ws (G : List Cond) (K : ys_K) : List Cond := Cond.code K.1.1.1 K.1.1.2.1 K.1.1.2.2.1 K.1.1.2.2.2 :: G
section YSK
variable (l : Launch) (D : va_G) (cl : List vw_C) (ad : Nat → Nat) (cT : Nat → ClassId) (sh : List ys_C) (tys : List (ClassId × FieldType)) (G : List Cond)
def ys_wK (K : ys_K) (r0 : Nat → Int) (g0 : Nat → Nat → Int) : va_W := ys_wld ad cT sh r0 g0 K.2.1.2.2.1
def ys_Pre (K : ys_K) (r0 : Nat → Int) (g0 : Nat → Nat → Int) (sz : Nat) : Array Value → State → Prop := va_Pc (K.2.1.1.map (ys_den ad r0)) (fun U => U.heap.size = sz ∧ va_P D cl (ys_wK ad cT sh K r0 g0) U.heap ∧ va_K D cl tys U ∧ va_D (fun _ => True) (ys_wK ad cT sh K r0 g0))
def ys_Alt (K : ys_K) (r0 : Nat → Int) (g0 : Nat → Nat → Int) (sz : Nat) (a : ys_A) (oc : Outcome) (t : State) : Prop := ∃ (r1 : Nat → Int) (g1 : Nat → Nat → Int), (∀ i, i < K.2.1.2.1.1.length → r1 i = r0 i) ∧ (∀ i, K.2.1.2.1.1.length + a.1.length ≤ i → r1 i = 0) ∧ (∀ (j : Nat) (q : Int × Int), a.1[j]? = some q → q.1 ≤ r1 (K.2.1.2.1.1.length + j) ∧ r1 (K.2.1.2.1.1.length + j) ≤ q.2) ∧ ys_fk r1 a.2.1 ∧ ys_gok K.2.2.2 a.2.2.1.2 g0 g1 ∧ va_P D cl (ys_wld ad cT sh r1 g1 a.2.2.1.1) t.heap ∧ va_D (va_A (ys_wK ad cT sh K r0 g0) sz) (ys_wld ad cT sh r1 g1 a.2.2.1.1) ∧ va_K D cl tys t ∧ oc = .returned (a.2.2.2.map (ys_den ad r1))
def ys_Post (K : ys_K) (r0 : Nat → Int) (g0 : Nat → Nat → Int) (sz : Nat) : Array Value → State → Outcome → State → Prop := fun _ st oc t => (∃ a ∈ K.2.2.1, ys_Alt D cl ad cT sh tys K r0 g0 sz a oc t) ∧ va_F (va_A (ys_wK ad cT sh K r0 g0) sz) st t
def ys_Con (K : ys_K) : Prop := ∀ (r0 : Nat → Int) (g0 : Nat → Nat → Int) (sz : Nat), ys_okB r0 K.2.1.2.1 → (∀ (k : Nat) (a : ys_R), K.2.1.2.2.2[k]? = some a → ys_rok a (g0 k)) → Met l K.1.1.1 (ys_ws G K) (ys_rm K) (ys_Pre D cl ad cT sh tys K r0 g0 sz) (ys_Post D cl ad cT sh tys K r0 g0 sz) 0 0 (va_A (ys_wK ad cT sh K r0 g0) sz)
end YSK


