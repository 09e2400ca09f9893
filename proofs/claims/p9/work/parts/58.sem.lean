/-! contracts with words -/
theorem yt_dcut {K : ys_K} {cuts : List (Nat × yt_T)} {Ga : Nat → yt_G → (Nat → Int) → yt_G → Prop} {Ph : yt_Ph} {pt : Nat → yt_Ps} {g0 : yt_G} {v : yt_VC} {r : Nat → Int} {g : yt_G} {q : Nat × yt_T} (h1 : v.1 < 1000) (h2 : cuts[v.1]? = some q) (h3 : ys_fk (ys_val r K.2.1.2.1.1.length v.2.2.1) q.2.2.1) (h4 : Ga v.1 g0 (ys_val r K.2.1.2.1.1.length v.2.2.1) g) : yt_dd K cuts Ga Ph pt g0 v r g := by
  unfold yt_dd
  rw [if_pos h1]
  exact ⟨q, h2, h3, h4⟩
theorem yt_dalt {K : ys_K} {cuts : List (Nat × yt_T)} {Ga : Nat → yt_G → (Nat → Int) → yt_G → Prop} {Ph : yt_Ph} {pt : Nat → yt_Ps} {g0 : yt_G} {v : yt_VC} {r : Nat → Int} {g : yt_G} (h1 : ¬ v.1 < 1000) (h2 : v.1 < 2000) (h3 : Ph (v.1 - 1000) (ys_val r K.2.1.2.1.1.length v.2.2.1) g0 g) : yt_dd K cuts Ga Ph pt g0 v r g := by
  unfold yt_dd
  rw [if_neg h1, if_pos h2]
  exact h3
theorem yt_dpre {K : ys_K} {cuts : List (Nat × yt_T)} {Ga : Nat → yt_G → (Nat → Int) → yt_G → Prop} {Ph : yt_Ph} {pt : Nat → yt_Ps} {g0 : yt_G} {v : yt_VC} {r : Nat → Int} {g : yt_G} (h1 : ¬ v.1 < 1000) (h2 : ¬ v.1 < 2000) (h3 : pt (v.1 - 2000) (ys_val r 0 v.2.2.1) (yt_sub v.2.2.2.1 g)) : yt_dd K cuts Ga Ph pt g0 v r g := by
  unfold yt_dd
  rw [if_neg h1, if_neg h2]
  exact h3
def yx_fkp (r : Nat → Int) : List ys_L → Prop
  | [] => True
  | f :: t => 0 ≤ ys_ev r f ∧ yx_fkp r t
theorem yx_fks (r : Nat → Int) : ∀ (l : List ys_L), yx_fkp r l → ys_fk r l
  | [], _ => fun f hf => absurd hf List.not_mem_nil
  | f :: t, h => fun q hq => by
    rcases List.mem_cons.mp hq with e | e
    · rw [e]; exact h.1
    · exact yx_fks r t h.2 q e
def yx_hv (tb : yt_Tb) (K : ys_K) (cuts : List (Nat × yt_T)) (Ga : Nat → yt_G → (Nat → Int) → yt_G → Prop) (Ph : yt_Ph) (pt : Nat → yt_Ps) : Nat → List (Nat × yt_T) → List (List yt_VC) → Prop
  | j, q :: x, v :: y => (∀ w ∈ v, yt_hold tb K cuts Ga Ph pt (K.2.1.2.1.1.length + q.2.1.1.length) q.2.1.2.2.1.2 (Ga j) w) ∧ yx_hv tb K cuts Ga Ph pt (j + 1) x y
  | _, _, _ => True
theorem yx_hv_ok {tb : yt_Tb} {K : ys_K} {cuts : List (Nat × yt_T)} {Ga : Nat → yt_G → (Nat → Int) → yt_G → Prop} {Ph : yt_Ph} {pt : Nat → yt_Ps} : ∀ (x : List (Nat × yt_T)) (y : List (List yt_VC)) (i : Nat), yx_hv tb K cuts Ga Ph pt i x y → ∀ (j : Nat) (q : Nat × yt_T), x[j]? = some q → ∀ v ∈ y.getD j [], yt_hold tb K cuts Ga Ph pt (K.2.1.2.1.1.length + q.2.1.1.length) q.2.1.2.2.1.2 (Ga (i + j)) v
  | [], y, i, _, j, q, hq => by cases hq
  | q0 :: x, [], i, _, j, q, hq => fun v hv => by cases j <;> cases hv
  | q0 :: x, v0 :: y, i, h, 0, q, hq => by cases hq; exact h.1
  | q0 :: x, v0 :: y, i, h, j + 1, q, hq => by
    have := yx_hv_ok x y (i + 1) h.2 j q hq
    rw [show i + 1 + j = i + (j + 1) by omega] at this
    exact this
def yx_chs (sh : List ys_C) (calls : List yt_CE) (K : ys_K) (Z : yt_Q) (n : Nat) (vs : List (List yt_VC)) : Bool := yx_kinds sh && (calls.all (fun C => yt_shok C.1.2.2.2 C.2.1 sh) && yt_chk sh calls K Z n vs)
theorem yx_sem {l : Launch} {D : va_G} {cT : Nat → ClassId} {tys : List (ClassId × FieldType)} {sh : List ys_C} {K : ys_K} {calls : List yt_CE} {Z : yt_Q} {tb : yt_Tb} {pt : Nat → yt_Ps} {Ps : yt_Ps} {Ph : yt_Ph} {Ga : Nat → yt_G → (Nat → Int) → yt_G → Prop} {vs : List (List yt_VC)} (hw : yt_Hw tb) (n : Nat) (hy : plainName K.1.1.1.cls = true) (hcode : ∀ q ∈ Z.1, decode K.1.1.2.1 q.1 = .ok q.2) (hty : yx_Ty tys cT) (hLk : ys_Lk K.1.1.1.cls (ys_ws yG K) vwCl Z.2.1.1 Z.2.1.2.1 Z.2.1.2.2.1 Z.2.1.2.2.2.1) (hCq : ∀ v, v ∈ Z.2.1.2.2.2.2 → yt_Cq K.1.1.1.cls (ys_ws yG K) v) (hcalls : ∀ C ∈ calls, yt_Con l D vwCl cT tys yG C.2.1 C.2.2 (pt C.1.2.1) (tb C.1.2.1) ∧ ys_CL K.1.1.1.cls (ys_ws yG K) vwCl C.2.1 yG (if C.1.1.2 = true then .invokestatic C.1.1.1 else .invokevirtual C.1.1.1) C.2.2 ∧ (C.1.2.2.1 = false → ∀ r g, pt C.1.2.1 r g)) (hns : ∀ (j : Nat) (q : Nat × yt_T), Z.2.2.1[j]? = some q → q.2.2.2 = false → ∀ g0 r g, Ga j g0 r g) (hsa : ∀ i, Z.2.2.2.getD i false = false → ∀ r g g', Ph i r g g') (hchk : yx_chs sh calls K Z n vs = true) (hv0 : ∀ v ∈ vs.getD 0 [], yt_hold tb K Z.2.2.1 Ga Ph pt K.2.1.2.1.1.length K.2.1.2.2.2 (fun g0 r g => Ps r g0 ∧ g = g0) v) (hv : yx_hv tb K Z.2.2.1 Ga Ph pt 0 Z.2.2.1 vs.tail) : yt_Con l D vwCl cT tys yG sh K Ps Ph := by
  unfold yx_chs at hchk
  rw [Bool.and_eq_true, Bool.and_eq_true] at hchk
  obtain ⟨c1, c2, c4⟩ := hchk
  refine yt_method n hw hy hcode (yx_ty hty c1) hLk hCq (fun C hC => ⟨(hcalls C hC).1, (hcalls C hC).2.1, List.all_eq_true.mp c2 C hC, (hcalls C hC).2.2⟩) hns hsa c4 hv0 (fun j q hq v hvv => ?_)
  have := yx_hv_ok _ _ 0 hv j q hq v (by
    cases vs with
    | nil => cases hvv
    | cons a t => exact hvv)
  rw [Nat.zero_add] at this
  exact this
theorem yx_methodT {l : Launch} {D : va_G} {cT : Nat → ClassId} {tys : List (ClassId × FieldType)} {sh : List ys_C} {K : ys_K} {calls : List yt_CE} {Z : yt_Q} {tb : yt_Tb} (hw : yt_Hw tb) (n : Nat) (hy : plainName K.1.1.1.cls = true) (hcode : ∀ q ∈ Z.1, decode K.1.1.2.1 q.1 = .ok q.2) (hty : yx_Ty tys cT) (hLk : ys_Lk K.1.1.1.cls (ys_ws yG K) vwCl Z.2.1.1 Z.2.1.2.1 Z.2.1.2.2.1 Z.2.1.2.2.2.1) (hCq : ∀ v, v ∈ Z.2.1.2.2.2.2 → yt_Cq K.1.1.1.cls (ys_ws yG K) v) (hcalls : ∀ C ∈ calls, yt_Con l D vwCl cT tys yG C.2.1 C.2.2 (fun _ _ => True) (tb C.1.2.1) ∧ ys_CL K.1.1.1.cls (ys_ws yG K) vwCl C.2.1 yG (if C.1.1.2 = true then .invokestatic C.1.1.1 else .invokevirtual C.1.1.1) C.2.2) (hchk : yx_chk sh calls K Z n = true) : yx_C l D cT tys sh K := by
  unfold yx_chk at hchk
  rw [Bool.and_eq_true, Bool.and_eq_true, Bool.and_eq_true] at hchk
  obtain ⟨c1, c2, c3, c4⟩ := hchk
  exact yt_method (tb := tb) (pt := fun _ _ _ => True) (Ga := fun _ _ _ _ => True) (vs := []) n hw hy hcode (yx_ty hty c1) hLk hCq (fun C hC => ⟨(hcalls C hC).1, (hcalls C hC).2, List.all_eq_true.mp c2 C hC, fun _ _ _ => trivial⟩) (fun _ _ _ _ _ _ _ => trivial) (fun _ _ _ _ _ => trivial) c4 (fun v hv => absurd hv List.not_mem_nil) (fun _ _ _ v hv => absurd hv List.not_mem_nil)
/-- how many of the first n are c -/
def yq_cnt (f : Nat → Int) (c : Int) : Nat → Int
  | 0 => 0
  | n + 1 => yq_cnt f c n + if f n = c then 1 else 0
theorem yq_cnt_nn (f : Nat → Int) (c : Int) : ∀ n, 0 ≤ yq_cnt f c n
  | 0 => Int.le_refl 0
  | n + 1 => by
    have := yq_cnt_nn f c n
    show 0 ≤ yq_cnt f c n + if f n = c then 1 else 0
    split <;> omega
theorem yq_cnt_le (f : Nat → Int) (c : Int) {m : Nat} : ∀ {n : Nat}, m ≤ n → yq_cnt f c m ≤ yq_cnt f c n
  | 0, h => by
    have : m = 0 := by omega
    rw [this]
    exact Int.le_refl _
  | n + 1, h => by
    by_cases e : m = n + 1
    · rw [e]
      exact Int.le_refl _
    · have := yq_cnt_le f c (m := m) (n := n) (by omega)
      show _ ≤ yq_cnt f c n + if f n = c then 1 else 0
      split <;> omega
theorem yq_cnt_s (f : Nat → Int) (c : Int) {x : Int} (hx : 0 ≤ x) {y : Int} (hy : y = x + 1) : yq_cnt f c y.toNat = yq_cnt f c x.toNat + if f x.toNat = c then 1 else 0 := by
  have : y.toNat = x.toNat + 1 := by omega
  rw [this]
  rfl
/-- the numbers of a sheet from a place on, n of them, as far as there are any, are near -/
def yq_near (sh sl : Nat → Int) (s fr n : Int) : Prop := ∀ j : Int, 0 ≤ j → j < n → fr + j < sl s.toNat → -300 ≤ sh (100 * s + fr + j).toNat ∧ sh (100 * s + fr + j).toNat ≤ 300
theorem yq_near_0 {sh sl : Nat → Int} {s fr : Int} : yq_near sh sl s fr 0 := fun j h1 h2 => by omega
theorem yq_near_m {sh sl : Nat → Int} {s fr n k : Int} (h : yq_near sh sl s fr n) (hk : k ≤ n) : yq_near sh sl s fr k := fun j h1 h2 h3 => h j h1 (by omega) h3
theorem yq_near_s {sh sl : Nat → Int} {s fr n k : Int} (h : yq_near sh sl s fr k) (hk : n = k + 1) (hv : fr + k < sl s.toNat → -300 ≤ sh (100 * s + fr + k).toNat ∧ sh (100 * s + fr + k).toNat ≤ 300) : yq_near sh sl s fr n := fun j h1 h2 h3 => by
  by_cases hj : j < k
  · exact h j h1 hj h3
  · have e : j = k := by omega
    subst e
    exact hv h3
/-- twice the area, with its sign -/
def yq_ar (x y : Nat → Int) (a b c : Nat) : Int := (x b - x a) * (y c - y a) - (y b - y a) * (x c - x a)
theorem yq_ar_sum (x y : Nat → Int) (a b c p : Nat) : yq_ar x y a b c = yq_ar x y a b p + yq_ar x y b c p + yq_ar x y c a p := by
  unfold yq_ar
  grind
def yq_abs (z : Int) : Int := if z < 0 then -z else z
def yq_set (f : Nat → Int) (k : Nat) (z : Int) : Nat → Int := fun j => if j = k then z else f j
def yq_sh (f : Nat → Int) (n : Int) : Prop := ∀ j : Nat, (j : Int) < n → 1 ≤ f j
theorem yq_gup_self {g : yt_G} {k n : Nat} {z : Int} : ys_gup g k n z k = yq_set (g k) n z := if_pos rfl
theorem yq_gup_ne {g : yt_G} {k n i : Nat} {z : Int} (h : i ≠ k) : ys_gup g k n z i = g i := if_neg h
/-- what a step says -/
def yq_ss (at_ sg z : Int) : Int := if at_ < z then (if sg = 0 then 1 else 0) else (if sg = 0 then 0 else 1)
def yq_says (ax at_ sg x y : Int) : Int := if ax = 0 then yq_ss at_ sg x else yq_ss at_ sg y
def yq_shr (s k n : Int) : Int := if 0 ≤ s ∧ s ≤ 3 ∧ 0 ≤ k ∧ k ≤ 3 ∧ n ≤ 100 then (if n < 0 then -4 else n) else -1
def yq_imr (k : Int) : Int := if 0 ≤ k ∧ k ≤ 2 then 0 else -1
def yq_imt (f : Nat → Int) (k : Int) : Nat → Int := if 0 ≤ k ∧ k ≤ 2 then yq_set f k.toNat 1 else f
def yq_bkr (f : Nat → Int) (k : Int) : Int := if 0 ≤ k ∧ k ≤ 2 then (if f k.toNat = 0 then -6 else 0) else -1
theorem yq_gcp_ne {g : yt_G} {s d a b n i : Nat} (h : i ≠ d) : ys_gcp g s d a b n i = g i := if_neg h
/-- every fourth number is no less than 0 -/
def yq_num (f : Nat → Int) : Prop := ∀ j : Nat, 0 ≤ f (4 * j + 3)
theorem yq_num_set {f : Nat → Int} {n : Nat} {z : Int} (h : yq_num f) (hz : n % 4 = 3 → 0 ≤ z) : yq_num (yq_set f n z) := fun j => by
  unfold yq_set
  split
  · exact hz (by omega)
  · exact h j
theorem yq_cnt_ub (f : Nat → Int) (c : Int) : ∀ n, yq_cnt f c n ≤ (n : Int)
  | 0 => Int.le_refl 0
  | n + 1 => by
    have := yq_cnt_ub f c n
    show yq_cnt f c n + (if f n = c then 1 else 0) ≤ ((n + 1 : Nat) : Int)
    split <;> omega
def yq_jr (a b c n : Int) : Int := if (-1000000 ≤ a ∧ a ≤ 1000000 ∧ -1000000 ≤ b ∧ b ≤ 1000000 ∧ -1000000 ≤ c ∧ c ≤ 1000000) ∧ (a ≠ 0 ∨ b ≠ 0) then (if 12 ≤ n then -5 else n + 1) else -1
def yq_jm (a b c n : Int) : Int := if (-1000000 ≤ a ∧ a ≤ 1000000 ∧ -1000000 ≤ b ∧ b ≤ 1000000 ∧ -1000000 ≤ c ∧ c ≤ 1000000) ∧ (a ≠ 0 ∨ b ≠ 0) then (if 12 ≤ n then n else n + 1) else n
def yq_kp (k i n o : Int) : Int := if k = i then n else o
def yq_pk (f : Nat → Int) (k J a b c : Int) : Int := if 0 ≤ k ∧ k ≤ 2 then (if f k.toNat = 0 then J else (if k = 0 then a else if k = 1 then b else c)) else J
def yq_sg (s k n i o a b : Int) : Int := if (0 ≤ k ∧ k ≤ 3 ∧ n ≤ 100) ∧ s = i then (if n < 0 then a else b) else o
theorem yq_sgT {s k n i S T : Int} (h : (0 ≤ S ∧ T = 1) ∨ (S < 0 ∧ T = 0)) : (0 ≤ yq_sg s k n i S (-1) k ∧ yq_sg s k n i T 0 1 = 1) ∨ (yq_sg s k n i S (-1) k < 0 ∧ yq_sg s k n i T 0 1 = 0) := by
  unfold yq_sg
  repeat' split
  all_goals omega
theorem yq_sgD {s k n i S K : Int} (h : S < 0 ∨ K = S) : yq_sg s k n i S (-1) k < 0 ∨ yq_sg s k n i K K k = yq_sg s k n i S (-1) k := by
  unfold yq_sg
  repeat' split
  all_goals omega
theorem yq_sgE {s k n i S L : Int} (h : 0 ≤ S ∨ L = 0) : 0 ≤ yq_sg s k n i S (-1) k ∨ yq_sg s k n i L 0 n = 0 := by
  unfold yq_sg
  repeat' split
  all_goals omega
def yq_at (s a b c d : Int) : Int := if s = 0 then a else if s = 1 then b else if s = 2 then c else d
theorem yq_at0 (a b c d : Int) : yq_at 0 a b c d = a := if_pos rfl
theorem yq_at1 (a b c d : Int) : yq_at 1 a b c d = b := by
  unfold yq_at
  rw [if_neg (by decide), if_pos rfl]
theorem yq_at2 (a b c d : Int) : yq_at 2 a b c d = c := by
  unfold yq_at
  rw [if_neg (by decide), if_neg (by decide), if_pos rfl]
theorem yq_at3 (a b c d : Int) : yq_at 3 a b c d = d := by
  unfold yq_at
  rw [if_neg (by decide), if_neg (by decide), if_neg (by decide)]
def yq_wr (s i T L : Int) : Int := if 0 ≤ s ∧ s ≤ 3 then (if T = 0 then -2 else if 0 ≤ i ∧ i < L then 0 else -3) else -1
def yq_wm (s i T L : Int) : Int := if 0 ≤ s ∧ s ≤ 3 then (if T < 0 then -2 else if 0 ≤ i ∧ i < L then 0 else -3) else -1
def yq_cr (s f t o m T U L K : Int) : Int := if (0 ≤ s ∧ s ≤ 3) ∧ (0 ≤ t ∧ t ≤ 3) ∧ 0 ≤ m then (if T = 0 ∨ U = 0 then -2 else if (0 ≤ f ∧ f + m ≤ L) ∧ (0 ≤ o ∧ o + m ≤ K) then m else -3) else -1
def yq_cm (s f t o m T U L K : Int) : Int := if (0 ≤ s ∧ s ≤ 3) ∧ (0 ≤ t ∧ t ≤ 3) ∧ 0 ≤ m then (if T < 0 ∨ U < 0 then -2 else if (0 ≤ f ∧ f + m ≤ L) ∧ (0 ≤ o ∧ o + m ≤ K) then m else -3) else -1
