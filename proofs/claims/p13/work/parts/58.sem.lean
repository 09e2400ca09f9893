/-! contracts with words -/
theorem yt_dcut {K : ys_K} {cuts : List (Nat × yt_T)} {Ga : Nat → yt_G → (Nat → Int) → yt_G → Prop} {Ph : yt_Ph} {pt : Nat → yt_Ps} {g0 : yt_G} {v : yt_VC} {r : Nat → Int} {g : yt_G} {q : Nat × yt_T} (h1 : v.1 < 1000) (h2 : cuts[v.1]? = some q) (h3 : ys_fk (ys_val r K.2.1.2.1.1.length v.2.2.1) q.2.2.1) (h4 : Ga v.1 g0 (ys_val r K.2.1.2.1.1.length v.2.2.1) g) : yt_dd K cuts Ga Ph pt g0 v r g := by
  unfold yt_dd
  rw [if_pos h1]
  exact ⟨q, h2, h3, h4⟩
theorem yt_dalt {K : ys_K} {cuts : List (Nat × yt_T)} {Ga : Nat → yt_G → (Nat → Int) → yt_G → Prop} {Ph : yt_Ph} {pt : Nat → yt_Ps} {g0 : yt_G} {v : yt_VC} {r : Nat → Int} {g : yt_G} (h1 : ¬ v.1 < 1000) (h2 : v.1 < 2000) (h3 : Ph (v.1 - 1000) (ys_val r K.2.1.2.1.1.length v.2.2.1) g0 g) : yt_dd K cuts Ga Ph pt g0 v r g := by
  unfold yt_dd
  rw [if_neg h1, if_pos h2]
  exact h3
theorem yt_dpre {K : ys_K} {cuts : List (Nat × yt_T)} {Ga : Nat → yt_G → (Nat → Int) → yt_G → Prop} {Ph : yt_Ph} {pt : Nat → yt_Ps} {g0 : yt_G} {v : yt_VC} {r : Nat → Int} {g : yt_G} (h1 : ¬ v.1 < 1000) (h2 : ¬ v.1 < 2000) (h3 : pt (v.1 - 2000) (ys_val r 0 v.2.2.1) (yt_sub v.2.2.2.1 g)) : yt_dd K cuts Ga Ph pt g0 v r g := by
  unfold yt_dd
  rw [if_neg h1, if_neg h2]
  exact h3
noncomputable def yx_fkp (r : Nat → Int) : List ys_L → Prop
  | [] => True
  | f :: t => 0 ≤ ys_ev r f ∧ yx_fkp r t
theorem yx_fks (r : Nat → Int) : ∀ (l : List ys_L), yx_fkp r l → ys_fk r l
  | [], _ => fun f hf => absurd hf List.not_mem_nil
  | f :: t, h => fun q hq => by
    rcases List.mem_cons.mp hq with e | e
    · rw [e]; exact h.1
    · exact yx_fks r t h.2 q e
noncomputable def yx_hv (tb : yt_Tb) (K : ys_K) (cuts : List (Nat × yt_T)) (Ga : Nat → yt_G → (Nat → Int) → yt_G → Prop) (Ph : yt_Ph) (pt : Nat → yt_Ps) : Nat → List (Nat × yt_T) → List (List yt_VC) → Prop
  | j, q :: x, v :: y => (∀ w ∈ v, yt_hold tb K cuts Ga Ph pt (K.2.1.2.1.1.length + q.2.1.1.length) q.2.1.2.2.1.2 (Ga j) w) ∧ yx_hv tb K cuts Ga Ph pt (j + 1) x y
  | _, _, _ => True
theorem yx_hv_ok {tb : yt_Tb} {K : ys_K} {cuts : List (Nat × yt_T)} {Ga : Nat → yt_G → (Nat → Int) → yt_G → Prop} {Ph : yt_Ph} {pt : Nat → yt_Ps} : ∀ (x : List (Nat × yt_T)) (y : List (List yt_VC)) (i : Nat), yx_hv tb K cuts Ga Ph pt i x y → ∀ (j : Nat) (q : Nat × yt_T), x[j]? = some q → ∀ v ∈ y.getD j [], yt_hold tb K cuts Ga Ph pt (K.2.1.2.1.1.length + q.2.1.1.length) q.2.1.2.2.1.2 (Ga (i + j)) v
  | [], y, i, _, j, q, hq => by cases hq
  | q0 :: x, [], i, _, j, q, hq => fun v hv => by cases j <;> cases hv
  | q0 :: x, v0 :: y, i, h, 0, q, hq => by cases hq; exact h.1
  | q0 :: x, v0 :: y, i, h, j + 1, q, hq => by
    have := yx_hv_ok x y (i + 1) h.2 j q hq
    rw [show i + 1 + j = i + (j + 1) by omega] at this
    exact this
noncomputable def yx_chs (sh : List ys_C) (calls : List yt_CE) (K : ys_K) (Z : yt_Q) (n : Nat) (vs : List (List yt_VC)) : Bool := yx_kinds sh && (calls.all (fun C => yt_shok C.1.2.2.2 C.2.1 sh) && yt_chk sh calls K Z n vs)
theorem yx_sem {l : Launch} {D : va_G} {cT : Nat → ClassId} {tys : List (ClassId × FieldType)} {sh : List ys_C} {K : ys_K} {calls : List yt_CE} {Z : yt_Q} {tb : yt_Tb} {pt : Nat → yt_Ps} {Ps : yt_Ps} {Ph : yt_Ph} {Ga : Nat → yt_G → (Nat → Int) → yt_G → Prop} {vs : List (List yt_VC)} (hw : yt_Hw tb) (n : Nat) (hy : plainName K.1.1.1.cls = true) (hcode : ∀ q ∈ Z.1, decode K.1.1.2.1 q.1 = .ok q.2) (hty : yx_Ty tys cT) (hLk : ys_Lk K.1.1.1.cls (ys_ws yG K) vwCl Z.2.1.1 Z.2.1.2.1 Z.2.1.2.2.1 Z.2.1.2.2.2.1) (hCq : ∀ v, v ∈ Z.2.1.2.2.2.2 → yt_Cq K.1.1.1.cls (ys_ws yG K) v) (hcalls : ∀ C ∈ calls, yt_Con l D vwCl cT tys yG C.2.1 C.2.2 (pt C.1.2.1) (tb C.1.2.1) ∧ ys_CL K.1.1.1.cls (ys_ws yG K) vwCl C.2.1 yG (if C.1.1.2 = true then .invokestatic C.1.1.1 else .invokevirtual C.1.1.1) C.2.2 ∧ (C.1.2.2.1 = false → ∀ r g, pt C.1.2.1 r g)) (hns : ∀ (j : Nat) (q : Nat × yt_T), Z.2.2.1[j]? = some q → q.2.2.2 = false → ∀ g0 r g, Ga j g0 r g) (hsa : ∀ i, Z.2.2.2.getD i false = false → ∀ r g g', Ph i r g g') (hchk : yx_chs sh calls K Z n vs = true) (hv0 : ∀ v ∈ vs.getD 0 [], yt_hold tb K Z.2.2.1 Ga Ph pt K.2.1.2.1.1.length K.2.1.2.2.2 (fun g0 r g => Ps r g0 ∧ g = g0) v) (hv : yx_hv tb K Z.2.2.1 Ga Ph pt 0 Z.2.2.1 vs.tail) : yt_Con l D vwCl cT tys yG sh K Ps Ph := by
  unfold yx_chs at hchk
  rw [Bool.and_eq_true, Bool.and_eq_true] at hchk
  obtain ⟨c1, c2, c4⟩ := hchk
  refine yt_method n hw hy hcode (yx_ty hty c1) hLk hCq (fun C hC => ⟨(hcalls C hC).1, (hcalls C hC).2.1, List.all_eq_true.mp c2 C hC, (hcalls C hC).2.2⟩) hns hsa c4 hv0 (fun j q hq v hvv => ?_)
  have := yx_hv_ok _ _ 0 hv j q hq v (by
    cases vs with
    | nil => cases hvv
    | cons a t => exact hvv)
  rw [Nat.zero_add] at this
  exact this
theorem yx_methodT {l : Launch} {D : va_G} {cT : Nat → ClassId} {tys : List (ClassId × FieldType)} {sh : List ys_C} {K : ys_K} {calls : List yt_CE} {Z : yt_Q} {tb : yt_Tb} (hw : yt_Hw tb) (n : Nat) (hy : plainName K.1.1.1.cls = true) (hcode : ∀ q ∈ Z.1, decode K.1.1.2.1 q.1 = .ok q.2) (hty : yx_Ty tys cT) (hLk : ys_Lk K.1.1.1.cls (ys_ws yG K) vwCl Z.2.1.1 Z.2.1.2.1 Z.2.1.2.2.1 Z.2.1.2.2.2.1) (hCq : ∀ v, v ∈ Z.2.1.2.2.2.2 → yt_Cq K.1.1.1.cls (ys_ws yG K) v) (hcalls : ∀ C ∈ calls, yt_Con l D vwCl cT tys yG C.2.1 C.2.2 (fun _ _ => True) (tb C.1.2.1) ∧ ys_CL K.1.1.1.cls (ys_ws yG K) vwCl C.2.1 yG (if C.1.1.2 = true then .invokestatic C.1.1.1 else .invokevirtual C.1.1.1) C.2.2) (hchk : yx_chk sh calls K Z n = true) : yx_C l D cT tys sh K := by
  unfold yx_chk at hchk
  rw [Bool.and_eq_true, Bool.and_eq_true, Bool.and_eq_true] at hchk
  obtain ⟨c1, c2, c3, c4⟩ := hchk
  exact yt_method (tb := tb) (pt := fun _ _ _ => True) (Ga := fun _ _ _ _ => True) (vs := []) n hw hy hcode (yx_ty hty c1) hLk hCq (fun C hC => ⟨(hcalls C hC).1, (hcalls C hC).2, List.all_eq_true.mp c2 C hC, fun _ _ _ => trivial⟩) (fun _ _ _ _ _ _ _ => trivial) (fun _ _ _ _ _ => trivial) c4 (fun v hv => absurd hv List.not_mem_nil) (fun _ _ _ v hv => absurd hv List.not_mem_nil)
/-- how many of the first n are c -/
noncomputable def yq_cnt (f : Nat → Int) (c : Int) : Nat → Int
  | 0 => 0
  | n + 1 => yq_cnt f c n + if f n = c then 1 else 0
theorem yq_cnt_nn (f : Nat → Int) (c : Int) : ∀ n, 0 ≤ yq_cnt f c n
  | 0 => Int.le_refl 0
  | n + 1 => by
    have := yq_cnt_nn f c n
    show 0 ≤ yq_cnt f c n + if f n = c then 1 else 0
    split <;> omega
theorem yq_cnt_le (f : Nat → Int) (c : Int) {m : Nat} : ∀ {n : Nat}, m ≤ n → yq_cnt f c m ≤ yq_cnt f c n
  | 0, h => by
    have : m = 0 := by omega
    rw [this]
    exact Int.le_refl _
  | n + 1, h => by
    by_cases e : m = n + 1
    · rw [e]
      exact Int.le_refl _
    · have := yq_cnt_le f c (m := m) (n := n) (by omega)
      show _ ≤ yq_cnt f c n + if f n = c then 1 else 0
      split <;> omega
theorem yq_cnt_s (f : Nat → Int) (c : Int) {x : Int} (hx : 0 ≤ x) {y : Int} (hy : y = x + 1) : yq_cnt f c y.toNat = yq_cnt f c x.toNat + if f x.toNat = c then 1 else 0 := by
  have : y.toNat = x.toNat + 1 := by omega
  rw [this]
  rfl
/-- the numbers of a sheet from a place on, n of them, as far as there are any, are near -/
noncomputable def yq_near (sh sl : Nat → Int) (s fr n : Int) : Prop := ∀ j : Int, 0 ≤ j → j < n → fr + j < sl s.toNat → -300 ≤ sh (100 * s + fr + j).toNat ∧ sh (100 * s + fr + j).toNat ≤ 300
theorem yq_near_0 {sh sl : Nat → Int} {s fr : Int} : yq_near sh sl s fr 0 := fun j h1 h2 => by omega
theorem yq_near_m {sh sl : Nat → Int} {s fr n k : Int} (h : yq_near sh sl s fr n) (hk : k ≤ n) : yq_near sh sl s fr k := fun j h1 h2 h3 => h j h1 (by omega) h3
theorem yq_near_s {sh sl : Nat → Int} {s fr n k : Int} (h : yq_near sh sl s fr k) (hk : n = k + 1) (hv : fr + k < sl s.toNat → -300 ≤ sh (100 * s + fr + k).toNat ∧ sh (100 * s + fr + k).toNat ≤ 300) : yq_near sh sl s fr n := fun j h1 h2 h3 => by
  by_cases hj : j < k
  · exact h j h1 hj h3
  · have e : j = k := by omega
    subst e
    exact hv h3
/-- twice the area, with its sign -/
noncomputable def yq_ar (x y : Nat → Int) (a b c : Nat) : Int := (x b - x a) * (y c - y a) - (y b - y a) * (x c - x a)
theorem yq_ar_sum (x y : Nat → Int) (a b c p : Nat) : yq_ar x y a b c = yq_ar x y a b p + yq_ar x y b c p + yq_ar x y c a p := by
  unfold yq_ar
  grind
noncomputable def yq_abs (z : Int) : Int := if z < 0 then -z else z
noncomputable def yq_set (f : Nat → Int) (k : Nat) (z : Int) : Nat → Int := fun j => if j = k then z else f j
noncomputable def yq_sh (f : Nat → Int) (n : Int) : Prop := ∀ j : Nat, (j : Int) < n → 1 ≤ f j
theorem yq_gup_self {g : yt_G} {k n : Nat} {z : Int} : ys_gup g k n z k = yq_set (g k) n z := if_pos rfl
theorem yq_gup_ne {g : yt_G} {k n i : Nat} {z : Int} (h : i ≠ k) : ys_gup g k n z i = g i := if_neg h
/-- what a step says -/
noncomputable def yq_ss (at_ sg z : Int) : Int := if at_ < z then (if sg = 0 then 1 else 0) else (if sg = 0 then 0 else 1)
noncomputable def yq_says (ax at_ sg x y : Int) : Int := if ax = 0 then yq_ss at_ sg x else yq_ss at_ sg y
noncomputable def yq_shr (s k n : Int) : Int := if 0 ≤ s ∧ s ≤ 3 ∧ 0 ≤ k ∧ k ≤ 3 ∧ n ≤ 100 then (if n < 0 then -4 else n) else -1
noncomputable def yq_imr (k : Int) : Int := if 0 ≤ k ∧ k ≤ 2 then 0 else -1
noncomputable def yq_imt (f : Nat → Int) (k : Int) : Nat → Int := if 0 ≤ k ∧ k ≤ 2 then yq_set f k.toNat 1 else f
noncomputable def yq_bkr (f : Nat → Int) (k : Int) : Int := if 0 ≤ k ∧ k ≤ 2 then (if f k.toNat = 0 then -6 else 0) else -1
theorem yq_gcp_ne {g : yt_G} {s d a b n i : Nat} (h : i ≠ d) : ys_gcp g s d a b n i = g i := if_neg h
/-- every fourth number is no less than 0 -/
noncomputable def yq_num (f : Nat → Int) : Prop := ∀ j : Nat, 0 ≤ f (4 * j + 3)
theorem yq_num_set {f : Nat → Int} {n : Nat} {z : Int} (h : yq_num f) (hz : n % 4 = 3 → 0 ≤ z) : yq_num (yq_set f n z) := fun j => by
  unfold yq_set
  split
  · exact hz (by omega)
  · exact h j
theorem yq_cnt_ub (f : Nat → Int) (c : Int) : ∀ n, yq_cnt f c n ≤ (n : Int)
  | 0 => Int.le_refl 0
  | n + 1 => by
    have := yq_cnt_ub f c n
    show yq_cnt f c n + (if f n = c then 1 else 0) ≤ ((n + 1 : Nat) : Int)
    split <;> omega
noncomputable def yq_jr (a b c n : Int) : Int := if (-1000000 ≤ a ∧ a ≤ 1000000 ∧ -1000000 ≤ b ∧ b ≤ 1000000 ∧ -1000000 ≤ c ∧ c ≤ 1000000) ∧ (a ≠ 0 ∨ b ≠ 0) then (if 12 ≤ n then -5 else n + 1) else -1
noncomputable def yq_jm (a b c n : Int) : Int := if (-1000000 ≤ a ∧ a ≤ 1000000 ∧ -1000000 ≤ b ∧ b ≤ 1000000 ∧ -1000000 ≤ c ∧ c ≤ 1000000) ∧ (a ≠ 0 ∨ b ≠ 0) then (if 12 ≤ n then n else n + 1) else n
noncomputable def yq_kp (k i n o : Int) : Int := if k = i then n else o
noncomputable def yq_pk (f : Nat → Int) (k J a b c : Int) : Int := if 0 ≤ k ∧ k ≤ 2 then (if f k.toNat = 0 then J else (if k = 0 then a else if k = 1 then b else c)) else J
noncomputable def yq_sg (s k n i o a b : Int) : Int := if (0 ≤ k ∧ k ≤ 3 ∧ n ≤ 100) ∧ s = i then (if n < 0 then a else b) else o
theorem yq_sgT {s k n i S T : Int} (h : (0 ≤ S ∧ T = 1) ∨ (S < 0 ∧ T = 0)) : (0 ≤ yq_sg s k n i S (-1) k ∧ yq_sg s k n i T 0 1 = 1) ∨ (yq_sg s k n i S (-1) k < 0 ∧ yq_sg s k n i T 0 1 = 0) := by
  unfold yq_sg
  repeat' split
  all_goals omega
theorem yq_sgD {s k n i S K : Int} (h : S < 0 ∨ K = S) : yq_sg s k n i S (-1) k < 0 ∨ yq_sg s k n i K K k = yq_sg s k n i S (-1) k := by
  unfold yq_sg
  repeat' split
  all_goals omega
theorem yq_sgE {s k n i S L : Int} (h : 0 ≤ S ∨ L = 0) : 0 ≤ yq_sg s k n i S (-1) k ∨ yq_sg s k n i L 0 n = 0 := by
  unfold yq_sg
  repeat' split
  all_goals omega
noncomputable def yq_at (s a b c d : Int) : Int := if s = 0 then a else if s = 1 then b else if s = 2 then c else d
theorem yq_at0 (a b c d : Int) : yq_at 0 a b c d = a := if_pos rfl
theorem yq_at1 (a b c d : Int) : yq_at 1 a b c d = b := by
  unfold yq_at
  rw [if_neg (by decide), if_pos rfl]
theorem yq_at2 (a b c d : Int) : yq_at 2 a b c d = c := by
  unfold yq_at
  rw [if_neg (by decide), if_neg (by decide), if_pos rfl]
theorem yq_at3 (a b c d : Int) : yq_at 3 a b c d = d := by
  unfold yq_at
  rw [if_neg (by decide), if_neg (by decide), if_neg (by decide)]
noncomputable def yq_wr (s i T L : Int) : Int := if 0 ≤ s ∧ s ≤ 3 then (if T = 0 then -2 else if 0 ≤ i ∧ i < L then 0 else -3) else -1
noncomputable def yq_wm (s i T L : Int) : Int := if 0 ≤ s ∧ s ≤ 3 then (if T < 0 then -2 else if 0 ≤ i ∧ i < L then 0 else -3) else -1
noncomputable def yq_cr (s f t o m T U L K : Int) : Int := if (0 ≤ s ∧ s ≤ 3) ∧ (0 ≤ t ∧ t ≤ 3) ∧ 0 ≤ m then (if T = 0 ∨ U = 0 then -2 else if (0 ≤ f ∧ f + m ≤ L) ∧ (0 ≤ o ∧ o + m ≤ K) then m else -3) else -1
noncomputable def yq_cm (s f t o m T U L K : Int) : Int := if (0 ≤ s ∧ s ≤ 3) ∧ (0 ≤ t ∧ t ≤ 3) ∧ 0 ≤ m then (if T < 0 ∨ U < 0 then -2 else if (0 ≤ f ∧ f + m ≤ L) ∧ (0 ≤ o ∧ o + m ≤ K) then m else -3) else -1
noncomputable def yq_fl (n : Nat) (v : Int) (f : Nat → Int) : Nat → Int := fun j => if j < n then v else f j
theorem yq_fl_z {n : Nat} {v : Int} {f : Nat → Int} (h : n = 0) : yq_fl n v f = f := funext fun j => if_neg (by omega)
theorem yq_fl_s {n m : Nat} {v : Int} {f : Nat → Int} (h : m = n + 1) : yq_set (yq_fl n v f) n v = yq_fl m v f := funext fun j => by
  unfold yq_set yq_fl
  by_cases h1 : j = n
  · rw [if_pos h1, if_pos (by omega)]
  · rw [if_neg h1]
    by_cases h2 : j < n
    · rw [if_pos h2, if_pos (by omega)]
    · rw [if_neg h2, if_neg (by omega)]
noncomputable def yq_cut (k v : Int) : Int := if k = 0 then (Int32.ofInt (Int32.ofInt v).toInt).toInt8.toInt else if k = 1 then (Int32.ofInt (Int32.ofInt v).toInt).toInt16.toInt else if k = 2 then (Int32.ofInt v).toInt else v
/-- the places from to on, mn of them, are those of f from fr on, cut to k as far as place i; the others are h's -/
noncomputable def yq_pb (to fr mn i k : Int) (f h : Nat → Int) : Nat → Int := fun j => if to ≤ (j : Int) ∧ (j : Int) < to + mn then (if (j : Int) < i then yq_cut k (f (fr + ((j : Int) - to)).toNat) else f (fr + ((j : Int) - to)).toNat) else h j
noncomputable def yq_pa (to fr mn k : Int) (f h : Nat → Int) : Nat → Int := fun j => if to ≤ (j : Int) ∧ (j : Int) < to + mn then yq_cut k (f (fr + ((j : Int) - to)).toNat) else h j
theorem yq_pb_0 {to fr mn k : Int} {f h : Nat → Int} (h1 : 0 ≤ to) (h2 : 0 ≤ fr) (h3 : 0 ≤ mn) : va_cpy f h fr.toNat to.toNat mn.toNat = yq_pb to fr mn to k f h := funext fun j => by
  unfold va_cpy yq_pb
  by_cases q : to ≤ (j : Int) ∧ (j : Int) < to + mn
  · rw [if_pos (by omega), if_pos q, if_neg (by omega), show fr.toNat + (j - to.toNat) = (fr + ((j : Int) - to)).toNat by omega]
  · rw [if_neg (by omega), if_neg q]
theorem yq_pb_s {to fr mn i m k : Int} {f h : Nat → Int} (h1 : 0 ≤ to) (h2 : to ≤ i) (h3 : i < to + mn) (h4 : m = i + 1) : yq_set (yq_pb to fr mn i k f h) i.toNat (yq_cut k (yq_pb to fr mn i k f h i.toNat)) = yq_pb to fr mn m k f h := funext fun j => by
  unfold yq_set
  by_cases h5 : j = i.toNat
  · rw [if_pos h5]
    unfold yq_pb
    rw [if_pos (by omega), if_neg (by omega), if_pos (by omega), if_pos (by omega), h5]
  · rw [if_neg h5]
    unfold yq_pb
    by_cases q : to ≤ (j : Int) ∧ (j : Int) < to + mn
    · rw [if_pos q, if_pos q]
      by_cases h6 : (j : Int) < i
      · rw [if_pos h6, if_pos (by omega)]
      · rw [if_neg h6, if_neg (by omega)]
    · rw [if_neg q, if_neg q]
theorem yq_pb_e {to fr mn i k : Int} {f h : Nat → Int} (h1 : to + mn ≤ i) : yq_pb to fr mn i k f h = yq_pa to fr mn k f h := funext fun j => by
  unfold yq_pb yq_pa
  by_cases q : to ≤ (j : Int) ∧ (j : Int) < to + mn
  · rw [if_pos q, if_pos q, if_pos (by omega)]
  · rw [if_neg q, if_neg q]
noncomputable def yq_sr (s k n i : Int) (f : Nat → Int) : Nat → Int := if (0 ≤ k ∧ k ≤ 3 ∧ n ≤ 100) ∧ s = i ∧ 0 ≤ n then yq_fl 100 0 f else f
noncomputable def yq_ml (s n : Int) (f : Nat → Int) : Nat → Int := fun j => if 100 * s ≤ (j : Int) ∧ (j : Int) < 100 * s + n then 0 else f j
theorem yq_ml_0 {s n : Int} {f : Nat → Int} (h : n = 0) : yq_ml s n f = f := funext fun j => if_neg (by omega)
theorem yq_ml_s {s n m x : Int} {f : Nat → Int} (h0 : 0 ≤ s) (h1 : 0 ≤ n) (h2 : m = n + 1) (hx : x = 100 * s + n) : yq_set (yq_ml s n f) x.toNat 0 = yq_ml s m f := funext fun j => by
  unfold yq_set yq_ml
  by_cases q : j = x.toNat
  · rw [if_pos q, if_pos (by omega)]
  · rw [if_neg q]
    by_cases q2 : 100 * s ≤ (j : Int) ∧ (j : Int) < 100 * s + n
    · rw [if_pos q2, if_pos (by omega)]
    · rw [if_neg q2, if_neg (by omega)]
noncomputable def yq_ms (s k n : Int) (f : Nat → Int) : Nat → Int := if (0 ≤ s ∧ s ≤ 3) ∧ (0 ≤ k ∧ k ≤ 3 ∧ n ≤ 100) then yq_ml s 100 f else f
noncomputable def yq_mw (s i v T L : Int) (f : Nat → Int) : Nat → Int := if (0 ≤ s ∧ s ≤ 3) ∧ 0 ≤ T ∧ (0 ≤ i ∧ i < L) then yq_set f (100 * s + i).toNat (yq_cut T v) else f
noncomputable def yq_xw (s i v n T L K : Int) (f : Nat → Int) : Nat → Int := if s = n ∧ T ≠ 0 ∧ (0 ≤ i ∧ i < L) then yq_set f i.toNat (yq_cut K v) else f
noncomputable def yq_rx (s i L V : Int) : Int := if (0 ≤ s ∧ s ≤ 3) ∧ (0 ≤ i ∧ i < L) then V else -9223372036854775808
noncomputable def yq_rm (s i T L V : Int) : Int := if (0 ≤ s ∧ s ≤ 3) ∧ 0 ≤ T ∧ (0 ≤ i ∧ i < L) then V else -9223372036854775808
noncomputable def yq_fat (s : Int) (a b c d : Nat → Int) : Nat → Int := if s = 0 then a else if s = 1 then b else if s = 2 then c else d
noncomputable def yq_xc (s fr t to mn n T U L K kd : Int) (f h : Nat → Int) : Nat → Int := if (0 ≤ s ∧ s ≤ 3) ∧ t = n ∧ 0 ≤ mn ∧ T ≠ 0 ∧ U ≠ 0 ∧ (0 ≤ fr ∧ fr + mn ≤ L) ∧ (0 ≤ to ∧ to + mn ≤ K) then yq_pa to fr mn kd f h else h
noncomputable def yq_mc (s fr t to mn T U L K : Int) (f : Nat → Int) : Nat → Int := if (0 ≤ s ∧ s ≤ 3) ∧ (0 ≤ t ∧ t ≤ 3) ∧ 0 ≤ mn ∧ 0 ≤ T ∧ 0 ≤ U ∧ (0 ≤ fr ∧ fr + mn ≤ L) ∧ (0 ≤ to ∧ to + mn ≤ K) then yq_pa (100 * t + to) (100 * s + fr) mn U f f else f
theorem yq_fat0 (a b c d : Nat → Int) : yq_fat 0 a b c d = a := if_pos rfl
theorem yq_fat1 (a b c d : Nat → Int) : yq_fat 1 a b c d = b := by
  unfold yq_fat
  rw [if_neg (by decide), if_pos rfl]
theorem yq_fat2 (a b c d : Nat → Int) : yq_fat 2 a b c d = c := by
  unfold yq_fat
  rw [if_neg (by decide), if_neg (by decide), if_pos rfl]
theorem yq_fat3 (a b c d : Nat → Int) : yq_fat 3 a b c d = d := by
  unfold yq_fat
  rw [if_neg (by decide), if_neg (by decide), if_neg (by decide)]
theorem yq_pa_0 {A B n k : Int} {f : Nat → Int} (h : n = 0) : yq_pa A B n k f f = f := funext fun j => if_neg (by omega)
theorem yq_pa_s {A B n m k x y : Int} {f : Nat → Int} (h0 : 0 ≤ A) (h1 : 0 ≤ n) (h2 : m = n + 1) (hx : x = A + n) (hy : y = B + n) : yq_set (yq_pa A B n k f f) x.toNat (yq_cut k (f y.toNat)) = yq_pa A B m k f f := funext fun j => by
  unfold yq_set yq_pa
  by_cases q : j = x.toNat
  · rw [if_pos q, if_pos (by omega), show B + ((j : Int) - A) = y by omega]
  · rw [if_neg q]
    by_cases q2 : A ≤ (j : Int) ∧ (j : Int) < A + n
    · rw [if_pos q2, if_pos (by omega)]
    · rw [if_neg q2, if_neg (by omega)]
theorem yq_shW {s k n L : Int} {i : Nat} {ii : Int} {f F : Nat → Int} (hi : ii = (i : Int)) (hi3 : i ≤ 3) (hL : L ≤ 100) (old : ∀ j : Nat, (j : Int) < L → f j = F (100 * i + j)) : ∀ j : Nat, (j : Int) < yq_sg s k n ii L 0 n → yq_sr s k n ii f j = yq_ms s k n F (100 * i + j) := by
  intro j hj
  unfold yq_sg at hj
  unfold yq_sr yq_ms
  by_cases c : (0 ≤ k ∧ k ≤ 3 ∧ n ≤ 100) ∧ s = ii
  · rw [if_pos c] at hj
    by_cases c2 : n < 0
    · rw [if_pos c2] at hj
      exfalso
      omega
    · rw [if_neg c2] at hj
      by_cases c3 : (0 ≤ s ∧ s ≤ 3) ∧ (0 ≤ k ∧ k ≤ 3 ∧ n ≤ 100)
      · rw [if_pos ⟨c.1, c.2, by omega⟩, if_pos c3]
        unfold yq_fl yq_ml
        rw [if_pos (by omega), if_pos (by omega)]
      · exfalso
        exact c3 ⟨⟨by omega, by omega⟩, c.1⟩
  · rw [if_neg c] at hj
    rw [if_neg (fun q => c ⟨q.1, q.2.1⟩)]
    by_cases c3 : (0 ≤ s ∧ s ≤ 3) ∧ (0 ≤ k ∧ k ≤ 3 ∧ n ≤ 100)
    · have c4 : ¬ s = ii := fun q => c ⟨c3.2, q⟩
      rw [if_pos c3]
      unfold yq_ml
      rw [if_neg (by omega)]
      exact old j hj
    · rw [if_neg c3]
      exact old j hj
theorem yq_wrW {s a v T L K A B S : Int} {i : Nat} {ii : Int} {f F : Nat → Int} (hi : ii = (i : Int)) (hi3 : i ≤ 3) (hL : L ≤ 100) (hT : (0 ≤ S ∧ T = 1) ∨ (S < 0 ∧ T = 0)) (hK : S < 0 ∨ K = S) (hA : s = ii → A = S) (hB : s = ii → B = L) (hB2 : 0 ≤ s → s ≤ 3 → B ≤ 100) (old : ∀ j : Nat, (j : Int) < L → f j = F (100 * i + j)) : ∀ j : Nat, (j : Int) < L → yq_xw s a v ii T L K f j = yq_mw s a v A B F (100 * i + j) := by
  intro j hj
  unfold yq_xw yq_mw
  by_cases c : s = ii
  · have e1 := hA c
    have e2 := hB c
    by_cases d : T ≠ 0 ∧ (0 ≤ a ∧ a < L)
    · rw [if_pos ⟨c, d.1, d.2⟩, if_pos ⟨by omega, by omega, by omega⟩]
      unfold yq_set
      by_cases e : j = a.toNat
      · rw [if_pos e, if_pos (by omega), show K = A by omega]
      · rw [if_neg e, if_neg (by omega)]
        exact old j hj
    · rw [if_neg (fun q => d q.2), if_neg (fun q => d ⟨by omega, by omega⟩)]
      exact old j hj
  · rw [if_neg (fun q => c q.1)]
    by_cases d : (0 ≤ s ∧ s ≤ 3) ∧ 0 ≤ A ∧ (0 ≤ a ∧ a < B)
    · have e3 := hB2 d.1.1 d.1.2
      rw [if_pos d]
      unfold yq_set
      rw [if_neg (by omega)]
      exact old j hj
    · rw [if_neg d]
      exact old j hj
theorem yq_cpW {s fr t to mn T U L K kd A B L' K' S : Int} {i : Nat} {ii : Int} {f h F : Nat → Int} (hi : ii = (i : Int)) (hi3 : i ≤ 3) (hK : K ≤ 100) (hU : (0 ≤ S ∧ U = 1) ∨ (S < 0 ∧ U = 0)) (hkd : S < 0 ∨ kd = S) (hA : 0 ≤ s → s ≤ 3 → ((0 ≤ A ∧ T = 1) ∨ (A < 0 ∧ T = 0)) ∧ L' = L ∧ L ≤ 100) (hB : t = ii → B = S ∧ K' = K) (hB2 : 0 ≤ t → t ≤ 3 → K' ≤ 100) (hf : 0 ≤ s → s ≤ 3 → ∀ j : Nat, (j : Int) < L → f j = F (100 * s + (j : Int)).toNat) (old : ∀ j : Nat, (j : Int) < K → h j = F (100 * i + j)) : ∀ j : Nat, (j : Int) < K → yq_xc s fr t to mn ii T U L K kd f h j = yq_mc s fr t to mn A B L' K' F (100 * i + j) := by
  intro j hj
  unfold yq_xc yq_mc
  by_cases cs : 0 ≤ s ∧ s ≤ 3
  · obtain ⟨e1, e2, e3⟩ := hA cs.1 cs.2
    have hf := hf cs.1 cs.2
    by_cases c : t = ii
    · obtain ⟨e4, e5⟩ := hB c
      by_cases d : 0 ≤ mn ∧ T ≠ 0 ∧ U ≠ 0 ∧ (0 ≤ fr ∧ fr + mn ≤ L) ∧ (0 ≤ to ∧ to + mn ≤ K)
      · rw [if_pos ⟨cs, c, d⟩, if_pos ⟨cs, by omega, d.1, by omega, by omega, by omega, by omega⟩]
        unfold yq_pa
        by_cases q : to ≤ (j : Int) ∧ (j : Int) < to + mn
        · rw [if_pos q, if_pos (by omega), hf _ (by omega), show kd = B by omega]
          congr 2
          omega
        · rw [if_neg q, if_neg (by omega)]
          exact old j hj
      · rw [if_neg (fun q => d q.2.2), if_neg (fun q => d ⟨q.2.2.1, by omega, by omega, by omega, by omega⟩)]
        exact old j hj
    · rw [if_neg (fun q => c q.2.1)]
      by_cases d : (0 ≤ s ∧ s ≤ 3) ∧ (0 ≤ t ∧ t ≤ 3) ∧ 0 ≤ mn ∧ 0 ≤ A ∧ 0 ≤ B ∧ (0 ≤ fr ∧ fr + mn ≤ L') ∧ (0 ≤ to ∧ to + mn ≤ K')
      · have e6 := hB2 d.2.1.1 d.2.1.2
        rw [if_pos d]
        unfold yq_pa
        rw [if_neg (by omega)]
        exact old j hj
      · rw [if_neg d]
        exact old j hj
  · rw [if_neg (fun q => cs q.1), if_neg (fun q => cs q.1)]
    exact old j hj
theorem yq_i64 {a b : Int} (h1 : -9223372036854775808 ≤ a) (h2 : a ≤ 9223372036854775807) (h3 : -9223372036854775808 ≤ b) (h4 : b ≤ 9223372036854775807) (h : Int64.ofInt a = Int64.ofInt b) : a = b := by
  have h5 := congrArg Int64.toInt h
  rw [Int64.toInt_ofInt_of_le (by omega) (by omega), Int64.toInt_ofInt_of_le (by omega) (by omega)] at h5
  exact h5
noncomputable def yq_ptr (x y c n : Int) : Int := if -300 ≤ x ∧ x ≤ 300 ∧ -300 ≤ y ∧ y ≤ 300 ∧ 0 ≤ c ∧ c ≤ 1 then (if 40 ≤ n then -5 else n + 1) else -1
noncomputable def yq_ptm (x y c n : Int) : Int := if -300 ≤ x ∧ x ≤ 300 ∧ -300 ≤ y ∧ y ≤ 300 ∧ 0 ≤ c ∧ c ≤ 1 then (if 40 ≤ n then n else n + 1) else n
noncomputable def yq_drr (i n : Int) : Int := if 0 ≤ i ∧ i < n then n - 1 else -1
noncomputable def yq_drm (i n : Int) : Int := if 0 ≤ i ∧ i < n then n - 1 else n
noncomputable def yq_par (i c w n : Int) : Int := if (0 ≤ i ∧ i < n) ∧ (0 ≤ c ∧ c ≤ 1) ∧ (1 ≤ w ∧ w ≤ 1000) then 0 else -1
noncomputable def yq_nz (f : Nat → Int) (L i : Int) : Int := if 0 ≤ i ∧ i < L then f i.toNat else 0
noncomputable def yq_nr (f : Nat → Int) (a L : Int) : Nat → Int
  | 0 => 1
  | n + 1 => if L ≤ a + (n : Int) ∨ a + (n : Int) < 0 ∨ (-300 ≤ f (a + (n : Int)).toNat ∧ f (a + (n : Int)).toNat ≤ 300) then yq_nr f a L n else 0
theorem yq_nr_0 {f : Nat → Int} {a L : Int} {n : Nat} (h : n = 0) : yq_nr f a L n = 1 := by
  subst h
  rfl
theorem yq_nr_s {f : Nat → Int} {a L k m : Int} (hk : 0 ≤ k) (hm : m = k + 1) : yq_nr f a L m.toNat = if L ≤ a + k ∨ a + k < 0 ∨ (-300 ≤ f (a + k).toNat ∧ f (a + k).toNat ≤ 300) then yq_nr f a L k.toNat else 0 := by
  rw [show m.toNat = k.toNat + 1 by omega]
  show (if L ≤ a + (k.toNat : Int) ∨ a + (k.toNat : Int) < 0 ∨ (-300 ≤ f (a + (k.toNat : Int)).toNat ∧ f (a + (k.toNat : Int)).toNat ≤ 300) then yq_nr f a L k.toNat else 0) = _
  rw [show (k.toNat : Int) = k by omega]
theorem yq_nr_z {f : Nat → Int} {a L : Int} (n : Nat) (h : yq_nr f a L n = 0) : ∀ d : Nat, yq_nr f a L (n + d) = 0
  | 0 => h
  | d + 1 => by
    show (if L ≤ a + ((n + d : Nat) : Int) ∨ a + ((n + d : Nat) : Int) < 0 ∨ (-300 ≤ f (a + ((n + d : Nat) : Int)).toNat ∧ f (a + ((n + d : Nat) : Int)).toNat ≤ 300) then yq_nr f a L (n + d) else 0) = 0
    rw [yq_nr_z n h d]
    split <;> rfl
theorem yq_nr_g {f : Nat → Int} {a L i : Int} {m k : Int} (h0 : 0 ≤ a) (ha : a ≤ i) (hk : k = i - a) (hm : m = k + 1) (h1 : -300 ≤ yq_nz f L i) (h2 : yq_nz f L i ≤ 300) : yq_nr f a L m.toNat = yq_nr f a L k.toNat := by
  rw [yq_nr_s (by omega) hm, if_pos]
  unfold yq_nz at h1 h2
  rw [show a + k = i by omega]
  by_cases q : 0 ≤ i ∧ i < L
  · rw [if_pos q] at h1 h2
    exact Or.inr (Or.inr ⟨h1, h2⟩)
  · exact Or.inl (by omega)
theorem yq_nr_b {f : Nat → Int} {a L i n : Int} (h0 : 0 ≤ a) (ha : a ≤ i) (hn : i - a < n) (h : yq_nz f L i < -300 ∨ 300 < yq_nz f L i) : yq_nr f a L n.toNat = 0 := by
  have h3 : yq_nr f a L (i - a + 1).toNat = 0 := by
    rw [yq_nr_s (k := i - a) (by omega) rfl, if_neg]
    rw [show a + (i - a) = i by omega]
    unfold yq_nz at h
    intro q
    by_cases q2 : 0 ≤ i ∧ i < L
    · rw [if_pos q2] at h
      omega
    · rw [if_neg q2] at h
      omega
  have h4 := yq_nr_z _ h3 (n.toNat - (i - a + 1).toNat)
  rw [show (i - a + 1).toNat + (n.toNat - (i - a + 1).toNat) = n.toNat by omega] at h4
  exact h4
theorem yq_nr_eq {f' f : Nat → Int} {a L' L : Int} (hL : L' = L) (h : ∀ j : Nat, (j : Int) < L → f' j = f j) : ∀ n : Nat, yq_nr f' a L' n = yq_nr f a L n
  | 0 => rfl
  | n + 1 => by
    show (if L' ≤ a + (n : Int) ∨ a + (n : Int) < 0 ∨ (-300 ≤ f' (a + (n : Int)).toNat ∧ f' (a + (n : Int)).toNat ≤ 300) then yq_nr f' a L' n else 0) = (if L ≤ a + (n : Int) ∨ a + (n : Int) < 0 ∨ (-300 ≤ f (a + (n : Int)).toNat ∧ f (a + (n : Int)).toNat ≤ 300) then yq_nr f a L n else 0)
    rw [yq_nr_eq hL h n, hL]
    by_cases q : L ≤ a + (n : Int) ∨ a + (n : Int) < 0
    · rw [if_pos (by omega), if_pos (by omega)]
    · rw [h _ (by omega)]
noncomputable def yq_ro (s : Int) (F : Nat → Int) : Nat → Int := fun j => F (100 * s + (j : Int)).toNat
noncomputable def yq_tr (s fr m c T L q n : Int) : Int := if (0 ≤ s ∧ s ≤ 3) ∧ (0 ≤ c ∧ c ≤ 1) ∧ (1 ≤ m ∧ m ≤ 40) then (if T = 0 then -2 else if 0 ≤ fr ∧ fr + 2 * m - 2 < L then (if q = 0 then -1 else if 40 < n + m then -5 else n + m) else -3) else -1
noncomputable def yq_tm (s fr m c T L q n : Int) : Int := if (0 ≤ s ∧ s ≤ 3) ∧ (0 ≤ c ∧ c ≤ 1) ∧ (1 ≤ m ∧ m ≤ 40) then (if T < 0 then -2 else if 0 ≤ fr ∧ fr + 2 * m - 2 < L then (if q = 0 then -1 else if 40 < n + m then -5 else n + m) else -3) else -1
noncomputable def yq_tn (a n : Int) : Int := if 0 < a then a else n
theorem yq_tk_eq {s fr m c T S L L' q n : Int} (h1 : (0 ≤ S ∧ T = 1) ∨ (S < 0 ∧ T = 0)) (h2 : L' = L) : yq_tm s fr m c S L' q n = yq_tr s fr m c T L q n := by
  unfold yq_tm yq_tr
  rw [h2]
  by_cases c1 : (0 ≤ s ∧ s ≤ 3) ∧ (0 ≤ c ∧ c ≤ 1) ∧ (1 ≤ m ∧ m ≤ 40)
  · rw [if_pos c1, if_pos c1]
    by_cases c2 : T = 0
    · rw [if_pos c2, if_pos (by omega)]
    · rw [if_neg c2, if_neg (by omega)]
  · rw [if_neg c1, if_neg c1]
theorem yq_tm_no {s fr m c T L q n : Int} (h : ¬ (0 ≤ s ∧ s ≤ 3)) : yq_tm s fr m c T L q n = -1 := if_neg (fun z => h z.1)
theorem yq_tr_no {s fr m c T L q n : Int} (h : ¬ (0 ≤ s ∧ s ≤ 3)) : yq_tr s fr m c T L q n = -1 := if_neg (fun z => h z.1)
theorem yq_at_n (f : Nat → Int) {s : Int} (h0 : 0 ≤ s) (h3 : s ≤ 3) : yq_at s (f 0) (f 1) (f 2) (f 3) = f s.toNat := by
  rcases (show s = 0 ∨ s = 1 ∨ s = 2 ∨ s = 3 by omega) with q | q | q | q <;> subst q <;> rfl
noncomputable def yq_ad (x y c n : Int) (f : Nat → Int) (v : Int) : Nat → Int := if (-300 ≤ x ∧ x ≤ 300 ∧ -300 ≤ y ∧ y ≤ 300 ∧ 0 ≤ c ∧ c ≤ 1) ∧ n < 40 then yq_set f n.toNat v else f
theorem yq_adW {x y c n n' v : Int} {f F : Nat → Int} (hn : 0 ≤ n) (h : ∀ j : Nat, (j : Int) < n → f j = F j) (hn' : n' = yq_ptm x y c n) : ∀ j : Nat, (j : Int) < n' → yq_ad x y c n f v j = yq_ad x y c n F v j := by
  intro j hj
  rw [hn'] at hj
  unfold yq_ptm at hj
  unfold yq_ad
  by_cases q : -300 ≤ x ∧ x ≤ 300 ∧ -300 ≤ y ∧ y ≤ 300 ∧ 0 ≤ c ∧ c ≤ 1
  · rw [if_pos q] at hj
    by_cases q2 : 40 ≤ n
    · rw [if_pos q2] at hj
      rw [if_neg (fun z => absurd z.2 (by omega)), if_neg (fun z => absurd z.2 (by omega))]
      exact h j hj
    · rw [if_neg q2] at hj
      rw [if_pos ⟨q, by omega⟩, if_pos ⟨q, by omega⟩]
      unfold yq_set
      by_cases q3 : j = n.toNat
      · rw [if_pos q3, if_pos q3]
      · rw [if_neg q3, if_neg q3]
        exact h j (by omega)
  · rw [if_neg q] at hj
    rw [if_neg (fun z => q z.1), if_neg (fun z => q z.1)]
    exact h j hj
noncomputable def yq_sf (i k : Int) (f : Nat → Int) : Nat → Int := fun j => if i ≤ (j : Int) ∧ (j : Int) < k then f (j + 1) else f j
noncomputable def yq_dp (i n : Int) (f : Nat → Int) : Nat → Int := if 0 ≤ i ∧ i < n then yq_sf i (n - 1) f else f
theorem yq_sf_0 {i : Int} {f : Nat → Int} : f = yq_sf i i f := funext fun j => (if_neg (by omega)).symm
theorem yq_sf_s {i k m : Int} {f : Nat → Int} (hi : 0 ≤ i) (h : i ≤ k) (hm : m = k + 1) : yq_set (yq_sf i k f) k.toNat (yq_sf i k f (k + 1).toNat) = yq_sf i m f := funext fun j => by
  unfold yq_set
  by_cases q : j = k.toNat
  · rw [if_pos q]
    unfold yq_sf
    rw [if_neg (by omega), if_pos (by omega), show (k + 1).toNat = j + 1 by omega]
  · rw [if_neg q]
    unfold yq_sf
    by_cases q2 : i ≤ (j : Int) ∧ (j : Int) < k
    · rw [if_pos q2, if_pos (by omega)]
    · rw [if_neg q2, if_neg (by omega)]
theorem yq_dpW {i n n' : Int} {f F : Nat → Int} (h : ∀ j : Nat, (j : Int) < n → f j = F j) (hn' : n' = yq_drm i n) : ∀ j : Nat, (j : Int) < n' → yq_dp i n f j = yq_dp i n F j := by
  intro j hj
  rw [hn'] at hj
  unfold yq_drm at hj
  unfold yq_dp
  by_cases q : 0 ≤ i ∧ i < n
  · rw [if_pos q] at hj
    rw [if_pos q, if_pos q]
    unfold yq_sf
    by_cases q2 : i ≤ (j : Int) ∧ (j : Int) < n - 1
    · rw [if_pos q2, if_pos q2]
      exact h (j + 1) (by omega)
    · rw [if_neg q2, if_neg q2]
      exact h j (by omega)
  · rw [if_neg q] at hj
    rw [if_neg q, if_neg q]
    exact h j hj
noncomputable def yq_pn (i c w n : Int) (f : Nat → Int) (v : Int) : Nat → Int := if (0 ≤ i ∧ i < n) ∧ (0 ≤ c ∧ c ≤ 1) ∧ (1 ≤ w ∧ w ≤ 1000) then yq_set f i.toNat v else f
theorem yq_pnW {i c w n v : Int} {f F : Nat → Int} (h : ∀ j : Nat, (j : Int) < n → f j = F j) : ∀ j : Nat, (j : Int) < n → yq_pn i c w n f v j = yq_pn i c w n F v j := by
  intro j hj
  unfold yq_pn
  by_cases q : (0 ≤ i ∧ i < n) ∧ (0 ≤ c ∧ c ≤ 1) ∧ (1 ≤ w ∧ w ≤ 1000)
  · rw [if_pos q, if_pos q]
    unfold yq_set
    by_cases q3 : j = i.toNat
    · rw [if_pos q3, if_pos q3]
    · rw [if_neg q3, if_neg q3]
      exact h j hj
  · rw [if_neg q, if_neg q]
    exact h j hj
/-- the places from n on below a are those of v, the others f's -/
noncomputable def yq_ap (a n : Int) (v f : Nat → Int) : Nat → Int := fun j => if n ≤ (j : Int) ∧ (j : Int) < a then v j else f j
noncomputable def yq_vx (row : Nat → Int) (L fr n o : Int) : Nat → Int := fun j => yq_nz row L (fr + 2 * ((j : Int) - n) + o)
theorem yq_ap_0 {a n : Int} {v f : Nat → Int} (h : a ≤ n) : f = yq_ap a n v f := funext fun j => (if_neg (by omega)).symm
theorem yq_ap_s {a n m z : Int} {v f : Nat → Int} (h0 : 0 ≤ n) (h : n ≤ a) (hm : m = a + 1) (hz : z = v a.toNat) : yq_set (yq_ap a n v f) a.toNat z = yq_ap m n v f := funext fun j => by
  unfold yq_set
  by_cases q : j = a.toNat
  · rw [if_pos q]
    unfold yq_ap
    rw [if_pos (by omega), hz, q]
  · rw [if_neg q]
    unfold yq_ap
    by_cases q2 : n ≤ (j : Int) ∧ (j : Int) < a
    · rw [if_pos q2, if_pos (by omega)]
    · rw [if_neg q2, if_neg (by omega)]
theorem yq_apW {a a' n n' : Int} {v v' f F : Nat → Int} (h : ∀ j : Nat, (j : Int) < n → f j = F j) (ha : a' = a) (hn : n' = n) (hv : ∀ j : Nat, n ≤ (j : Int) → (j : Int) < a → v j = v' j) : ∀ j : Nat, (j : Int) < a → yq_ap a n v f j = yq_ap a' n' v' F j := by
  intro j hj
  rw [ha, hn]
  unfold yq_ap
  by_cases q : n ≤ (j : Int) ∧ (j : Int) < a
  · rw [if_pos q, if_pos q]
    exact hv j q.1 q.2
  · rw [if_neg q, if_neg q]
    exact h j (by omega)
theorem yq_nz_eq {f' f : Nat → Int} {L' L i : Int} (hL : L' = L) (h : ∀ j : Nat, (j : Int) < L → f' j = f j) : yq_nz f' L' i = yq_nz f L i := by
  unfold yq_nz
  rw [hL]
  by_cases q : 0 ≤ i ∧ i < L
  · rw [if_pos q, if_pos q]
    exact h _ (by omega)
  · rw [if_neg q, if_neg q]
theorem yq_nr_in {f : Nat → Int} {a L : Int} (h0 : 0 ≤ a) : ∀ n : Nat, yq_nr f a L n = 1 → ∀ i : Int, a ≤ i → i < a + (n : Int) → -300 ≤ yq_nz f L i ∧ yq_nz f L i ≤ 300
  | 0, _, i, h1, h2 => absurd h2 (by omega)
  | n + 1, h, i, h1, h2 => by
    have h : (if L ≤ a + (n : Int) ∨ a + (n : Int) < 0 ∨ (-300 ≤ f (a + (n : Int)).toNat ∧ f (a + (n : Int)).toNat ≤ 300) then yq_nr f a L n else 0) = 1 := h
    by_cases q : L ≤ a + (n : Int) ∨ a + (n : Int) < 0 ∨ (-300 ≤ f (a + (n : Int)).toNat ∧ f (a + (n : Int)).toNat ≤ 300)
    · rw [if_pos q] at h
      by_cases q2 : i < a + (n : Int)
      · exact yq_nr_in h0 n h i h1 q2
      · have q3 : i = a + (n : Int) := by omega
        subst q3
        unfold yq_nz
        by_cases q4 : 0 ≤ a + (n : Int) ∧ a + (n : Int) < L
        · rw [if_pos q4]
          omega
        · rw [if_neg q4]
          omega
    · rw [if_neg q] at h
      omega
theorem yq_i32 {v : Int} (h1 : -300 ≤ v) (h2 : v ≤ 300) : (Int32.ofInt v).toInt = v := Int32.toInt_ofInt_of_le (by omega) (by omega)
noncomputable def yq_q4 (a b c d : Nat → Int) (q : Int) : Int := if q % 4 = 0 then a (q / 4).toNat else if q % 4 = 1 then b (q / 4).toNat else if q % 4 = 2 then c (q / 4).toNat else d (q / 4).toNat
theorem yq_q4_0 {a b c d : Nat → Int} {q : Int} (h : q % 4 = 0) : yq_q4 a b c d q = a (q / 4).toNat := if_pos h
theorem yq_q4_1 {a b c d : Nat → Int} {q : Int} (h : q % 4 = 1) : yq_q4 a b c d q = b (q / 4).toNat := by
  unfold yq_q4
  rw [if_neg (by omega), if_pos h]
theorem yq_q4_2 {a b c d : Nat → Int} {q : Int} (h : q % 4 = 2) : yq_q4 a b c d q = c (q / 4).toNat := by
  unfold yq_q4
  rw [if_neg (by omega), if_neg (by omega), if_pos h]
theorem yq_q4_3 {a b c d : Nat → Int} {q : Int} (h : q % 4 = 3) : yq_q4 a b c d q = d (q / 4).toNat := by
  unfold yq_q4
  rw [if_neg (by omega), if_neg (by omega), if_neg (by omega)]
noncomputable def yq_ib (k i : Int) (a b c d f : Nat → Int) : Nat → Int := fun q => if 160 * k ≤ (q : Int) ∧ (q : Int) < 160 * k + 4 * i then yq_q4 a b c d ((q : Int) - 160 * k) else f q
noncomputable def yq_im (k n : Int) (a b c d f : Nat → Int) : Nat → Int := if 0 ≤ k ∧ k ≤ 2 then yq_ib k n a b c d f else f
theorem yq_ib_0 {k : Int} {a b c d f : Nat → Int} : f = yq_ib k 0 a b c d f := funext fun q => (if_neg (by omega)).symm
theorem yq_ib_s {k i m q0 q1 q2 q3 va vb vc vd : Int} {a b c d f : Nat → Int} (hk : 0 ≤ k) (hi : 0 ≤ i) (hm : m = i + 1) (h0 : q0 = 160 * k + 4 * i) (h1 : q1 = q0 + 1) (h2 : q2 = q0 + 2) (h3 : q3 = q0 + 3) (ha : va = a i.toNat) (hb : vb = b i.toNat) (hc : vc = c i.toNat) (hd : vd = d i.toNat) : yq_set (yq_set (yq_set (yq_set (yq_ib k i a b c d f) q0.toNat va) q1.toNat vb) q2.toNat vc) q3.toNat vd = yq_ib k m a b c d f := funext fun q => by
  unfold yq_set
  by_cases c3 : q = q3.toNat
  · rw [if_pos c3]
    unfold yq_ib
    rw [if_pos (by omega), yq_q4_3 (by omega), hd]
    exact congrArg d (by omega)
  · rw [if_neg c3]
    by_cases c2 : q = q2.toNat
    · rw [if_pos c2]
      unfold yq_ib
      rw [if_pos (by omega), yq_q4_2 (by omega), hc]
      exact congrArg c (by omega)
    · rw [if_neg c2]
      by_cases c1 : q = q1.toNat
      · rw [if_pos c1]
        unfold yq_ib
        rw [if_pos (by omega), yq_q4_1 (by omega), hb]
        exact congrArg b (by omega)
      · rw [if_neg c1]
        by_cases c0 : q = q0.toNat
        · rw [if_pos c0]
          unfold yq_ib
          rw [if_pos (by omega), yq_q4_0 (by omega), ha]
          exact congrArg a (by omega)
        · rw [if_neg c0]
          unfold yq_ib
          by_cases q2 : 160 * k ≤ (q : Int) ∧ (q : Int) < 160 * k + 4 * i
          · rw [if_pos q2, if_pos (by omega)]
          · rw [if_neg q2, if_neg (by omega)]
/-- the kept points of class and reference, behind image -/
theorem yq_imW {k n Q ii o : Int} {i oo : Nat} {a b c d e x K f : Nat → Int} (hi : ii = (i : Int)) (hi2 : i ≤ 2) (ho : o = (oo : Int)) (ho3 : oo ≤ 3) (hn : n ≤ 40) (hQ : Q ≤ 40) (hs : ∀ q : Int, q % 4 = o → yq_q4 a b c d q = e (q / 4).toNat) (hx : ∀ j : Nat, (j : Int) < n → x j = e j) (hK : ∀ j : Nat, (j : Int) < Q → K j = f (160 * i + 4 * j + oo)) : ∀ j : Nat, (j : Int) < yq_kp k ii n Q → yq_kp k ii (x j) (K j) = yq_im k n a b c d f (160 * i + 4 * j + oo) := by
  intro j hj
  unfold yq_kp at hj
  unfold yq_kp yq_im
  by_cases q : k = ii
  · rw [if_pos q] at hj
    rw [if_pos q, if_pos (by omega), hx j hj]
    unfold yq_ib
    rw [if_pos (by omega), hs _ (by omega)]
    exact congrArg e (by omega)
  · rw [if_neg q] at hj
    rw [if_neg q, hK j hj]
    by_cases q2 : 0 ≤ k ∧ k ≤ 2
    · rw [if_pos q2]
      unfold yq_ib
      rw [if_neg (by omega)]
    · rw [if_neg q2]
noncomputable def yq_bb (k i o : Int) (N f : Nat → Int) : Nat → Int := fun j => if (j : Int) < i then N (160 * k + 4 * (j : Int) + o).toNat else f j
noncomputable def yq_bm (t : Nat → Int) (k n o : Int) (N f : Nat → Int) : Nat → Int := if 0 ≤ k ∧ k ≤ 2 ∧ t k.toNat ≠ 0 then yq_bb k n o N f else f
theorem yq_bb_0 {k o : Int} {N f : Nat → Int} : f = yq_bb k 0 o N f := funext fun j => (if_neg (by omega)).symm
theorem yq_bb_s {k i m o z : Int} {N f : Nat → Int} (hi : 0 ≤ i) (hm : m = i + 1) (hz : z = N (160 * k + 4 * i + o).toNat) : yq_set (yq_bb k i o N f) i.toNat z = yq_bb k m o N f := funext fun j => by
  unfold yq_set
  by_cases q : j = i.toNat
  · rw [if_pos q]
    unfold yq_bb
    rw [if_pos (by omega), hz]
    exact congrArg N (by omega)
  · rw [if_neg q]
    unfold yq_bb
    by_cases q2 : (j : Int) < i
    · rw [if_pos q2, if_pos (by omega)]
    · rw [if_neg q2, if_neg (by omega)]
/-- the points of class and reference, behind back -/
theorem yq_bkW {k n Q0 Q1 Q2 o : Int} {oo : Nat} {t x K0 K1 K2 F N : Nat → Int} (ho : o = (oo : Int)) (h : ∀ j : Nat, (j : Int) < n → x j = F j) (h0 : ∀ j : Nat, (j : Int) < Q0 → K0 j = N (160 * 0 + 4 * j + oo)) (h1 : ∀ j : Nat, (j : Int) < Q1 → K1 j = N (160 * 1 + 4 * j + oo)) (h2 : ∀ j : Nat, (j : Int) < Q2 → K2 j = N (160 * 2 + 4 * j + oo)) : ∀ j : Nat, (j : Int) < yq_pk t k n Q0 Q1 Q2 → yq_pk t k (x j) (K0 j) (K1 j) (K2 j) = yq_bm t k (yq_pk t k n Q0 Q1 Q2) o N F j := by
  intro j hj
  have hj2 := hj
  unfold yq_pk at hj2
  unfold yq_bm
  by_cases q : 0 ≤ k ∧ k ≤ 2
  · rw [if_pos q] at hj2
    by_cases q2 : t k.toNat = 0
    · rw [if_pos q2] at hj2
      rw [if_neg (fun z => z.2.2 q2)]
      unfold yq_pk
      rw [if_pos q, if_pos q2]
      exact h j hj2
    · rw [if_neg q2] at hj2
      rw [if_pos ⟨q.1, q.2, q2⟩]
      unfold yq_bb
      rw [if_pos hj]
      unfold yq_pk
      rw [if_pos q, if_neg q2]
      by_cases k0 : k = 0
      · rw [if_pos k0] at hj2
        rw [if_pos k0, h0 j hj2]
        exact congrArg N (by omega)
      · rw [if_neg k0] at hj2
        rw [if_neg k0]
        by_cases k1 : k = 1
        · rw [if_pos k1] at hj2
          rw [if_pos k1, h1 j hj2]
          exact congrArg N (by omega)
        · rw [if_neg k1] at hj2
          rw [if_neg k1, h2 j hj2]
          exact congrArg N (by omega)
  · rw [if_neg q] at hj2
    rw [if_neg (fun z => q ⟨z.1, z.2.1⟩)]
    unfold yq_pk
    rw [if_neg q]
    exact h j hj2
noncomputable def yq_of (i w n : Int) (a b c d : Nat → Int) : Int := if (0 ≤ i ∧ i < n) ∧ (0 ≤ w ∧ w ≤ 3) then (if w = 0 then a i.toNat else if w = 1 then b i.toNat else if w = 2 then c i.toNat else d i.toNat) else -1000
theorem yq_ofW {i w n : Int} {a b c d A B C D : Nat → Int} (ha : ∀ j : Nat, (j : Int) < n → a j = A j) (hb : ∀ j : Nat, (j : Int) < n → b j = B j) (hc : ∀ j : Nat, (j : Int) < n → c j = C j) (hd : ∀ j : Nat, (j : Int) < n → d j = D j) : yq_of i w n a b c d = yq_of i w n A B C D := by
  unfold yq_of
  by_cases q : (0 ≤ i ∧ i < n) ∧ (0 ≤ w ∧ w ≤ 3)
  · rw [if_pos q, if_pos q, ha _ (by omega), hb _ (by omega), hc _ (by omega), hd _ (by omega)]
  · rw [if_neg q, if_neg q]
/-- how many of the first n are c; the sum of the first n -/
noncomputable def yq_su (f : Nat → Int) : Nat → Int
  | 0 => 0
  | n + 1 => yq_su f n + f n
theorem yq_su_s {f : Nat → Int} {k m : Int} (hk : 0 ≤ k) (hm : m = k + 1) : yq_su f m.toNat = yq_su f k.toNat + f k.toNat := by
  rw [show m.toNat = k.toNat + 1 by omega]
  rfl
theorem yq_cn_eq {f F : Nat → Int} {c : Int} : ∀ n : Nat, (∀ j : Nat, j < n → f j = F j) → yq_cnt f c n = yq_cnt F c n
  | 0, _ => rfl
  | n + 1, h => by
    show (yq_cnt f c n + if f n = c then 1 else 0) = (yq_cnt F c n + if F n = c then 1 else 0)
    rw [yq_cn_eq n (fun j hj => h j (by omega)), h n (by omega)]
theorem yq_su_eq {f F : Nat → Int} : ∀ n : Nat, (∀ j : Nat, j < n → f j = F j) → yq_su f n = yq_su F n
  | 0, _ => rfl
  | n + 1, h => by
    show yq_su f n + f n = yq_su F n + F n
    rw [yq_su_eq n (fun j hj => h j (by omega)), h n (by omega)]
theorem yq_gcp_self {g : yt_G} {s d a b n : Nat} : ys_gcp g s d a b n d = va_cpy (g s) (g d) a b n := if_pos rfl
theorem yq_cp40 {f h : Nat → Int} {a b n j : Nat} (ha : a = 0) (hb : b = 0) (hn : n = 40) (hj : j < 40) : va_cpy f h a b n j = f j := by
  subst ha
  subst hb
  subst hn
  unfold va_cpy
  rw [if_pos (by omega)]
  exact congrArg f (by omega)
noncomputable def yq_ct (z : Int) : Nat → Int := fun _ => z
theorem yq_nz_v {f : Nat → Int} {L i : Int} (h0 : 0 ≤ i) (h : i < L) : yq_nz f L i = f i.toNat := if_pos ⟨h0, h⟩
theorem yq_nz_o {f : Nat → Int} {L i : Int} (h : L ≤ i) : yq_nz f L i = 0 := if_neg (by omega)
theorem yq_vx_e {row : Nat → Int} {L fr n o i : Int} {j : Nat} (h : i = fr + 2 * ((j : Int) - n) + o) : yq_vx row L fr n o j = yq_nz row L i := by
  show yq_nz row L (fr + 2 * ((j : Int) - n) + o) = _
  rw [h]
noncomputable def yq_t4 (s a b c d : Int) : Int := if s ≤ 0 then 0 else if s = 1 then a else if s = 2 then a + b else if s = 3 then a + b + c else a + b + c + d
noncomputable def yq_sc (f : Nat → Int) : Nat → Int
  | 0 => 0
  | n + 1 => yq_sc f n + if 0 ≤ f n then 1 else 0
theorem yq_sc_s {f : Nat → Int} {k m : Int} (hk : 0 ≤ k) (hm : m = k + 1) : yq_sc f m.toNat = yq_sc f k.toNat + if 0 ≤ f k.toNat then 1 else 0 := by
  rw [show m.toNat = k.toNat + 1 by omega]
  rfl
theorem yq_sc_b {f : Nat → Int} : ∀ n : Nat, 0 ≤ yq_sc f n ∧ yq_sc f n ≤ (n : Int)
  | 0 => ⟨Int.le_refl 0, Int.le_refl 0⟩
  | n + 1 => by
    have := yq_sc_b (f := f) n
    show 0 ≤ yq_sc f n + (if 0 ≤ f n then 1 else 0) ∧ yq_sc f n + (if 0 ≤ f n then 1 else 0) ≤ ((n + 1 : Nat) : Int)
    split <;> omega
noncomputable def yq_co (w a b c d e f : Int) : Int := if w = 0 then a else if w = 1 then b else if w = 2 then c else if w = 3 then d else if w = 4 then e else if w = 5 then f else -1
theorem yq_t4W {a b c d : Int} {f : Nat → Int} (h0 : (0 ≤ f 0 ∧ a = 1) ∨ (f 0 < 0 ∧ a = 0)) (h1 : (0 ≤ f 1 ∧ b = 1) ∨ (f 1 < 0 ∧ b = 0)) (h2 : (0 ≤ f 2 ∧ c = 1) ∨ (f 2 < 0 ∧ c = 0)) (h3 : (0 ≤ f 3 ∧ d = 1) ∨ (f 3 < 0 ∧ d = 0)) : a + b + c + d = yq_sc f 4 := by
  show a + b + c + d = ((((0 : Int) + if 0 ≤ f 0 then 1 else 0) + if 0 ≤ f 1 then 1 else 0) + if 0 ≤ f 2 then 1 else 0) + if 0 ≤ f 3 then 1 else 0
  repeat' split
  all_goals omega
noncomputable def yq_r1 (a b c x y k : Int) : Int := if k = 1 then (if c < a * x + b * y then 0 else 1) else (if a * x + b * y < c then 0 else 1)
noncomputable def yq_ck (a b c : Int) (x y k : Nat → Int) : Nat → Int
  | 0 => 0
  | n + 1 => yq_ck a b c x y k n + yq_r1 a b c (x n) (y n) (k n)
theorem yq_ck_s {a b c i m : Int} {x y k : Nat → Int} (hi : 0 ≤ i) (hm : m = i + 1) : yq_ck a b c x y k m.toNat = yq_ck a b c x y k i.toNat + yq_r1 a b c (x i.toNat) (y i.toNat) (k i.toNat) := by
  rw [show m.toNat = i.toNat + 1 by omega]
  rfl
noncomputable def yq_sy (a b c x y : Int) : Int := if c < a * x + b * y then 1 else if a * x + b * y < c then 0 else -1
noncomputable def yq_cq (a b c : Int) (x y k : Nat → Int) : Nat → Int
  | 0 => 0
  | n + 1 => yq_cq a b c x y k n + if yq_sy a b c (x n) (y n) = k n then 0 else 1
theorem yq_cq_s {a b c i m : Int} {x y k : Nat → Int} (hi : 0 ≤ i) (hm : m = i + 1) : yq_cq a b c x y k m.toNat = yq_cq a b c x y k i.toNat + if yq_sy a b c (x i.toNat) (y i.toNat) = k i.toNat then 0 else 1 := by
  rw [show m.toNat = i.toNat + 1 by omega]
  rfl
noncomputable def yq_ln (a b c v : Int) : Int := if (-1000000 ≤ a ∧ a ≤ 1000000 ∧ -1000000 ≤ b ∧ b ≤ 1000000 ∧ -1000000 ≤ c ∧ c ≤ 1000000) ∧ (a ≠ 0 ∨ b ≠ 0) then v else -1
theorem yq_ckW {a b c : Int} {x y k X Y K : Nat → Int} (hk : ∀ j, 0 ≤ k j ∧ k j ≤ 1) : ∀ n : Nat, (∀ j : Nat, j < n → x j = X j) → (∀ j : Nat, j < n → y j = Y j) → (∀ j : Nat, j < n → k j = K j) → yq_ck a b c x y k n = yq_cq a b c X Y K n
  | 0, _, _, _ => rfl
  | n + 1, hx, hy, hz => by
    show yq_ck a b c x y k n + yq_r1 a b c (x n) (y n) (k n) = yq_cq a b c X Y K n + if yq_sy a b c (X n) (Y n) = K n then 0 else 1
    have h := hk n
    rw [yq_ckW hk n (fun j hj => hx j (by omega)) (fun j hj => hy j (by omega)) (fun j hj => hz j (by omega)), hx n (by omega), hy n (by omega), ← hz n (by omega)]
    unfold yq_r1 yq_sy
    generalize a * X n + b * Y n = z
    repeat' split
    all_goals omega
noncomputable def yq_b6 (z : Int) : Int := z.bmod Int64.size
theorem yq_b6_e {a b c : Int} (h : a = b.bmod Int64.size) (hb : b = c) : a = yq_b6 c := by
  rw [h, hb]
  rfl
noncomputable def yq_ng (z : Int) : Int := (Int32.ofInt (-z)).toInt
noncomputable def yq_nm (z : Int) : Int := -z
theorem yq_ng_e {z : Int} (h1 : -2147483647 ≤ z) (h2 : z ≤ 2147483647) : yq_ng z = yq_nm z := Int32.toInt_ofInt_of_le (by omega) (by omega)
noncomputable def yq_hg (p q r x y : Int) : Int := yq_b6 (yq_b6 (yq_b6 (p * x) + yq_b6 (q * y)) + r)
theorem yq_hg_e {p q r x y a b c d : Int} (ha : a = (p * x).bmod Int64.size) (hb : b = (q * y).bmod Int64.size) (hc : c = (a + b).bmod Int64.size) (hd : d = (c + r).bmod Int64.size) : d = yq_hg p q r x y := by
  rw [hd, hc, ha, hb]
  rfl
noncomputable def yq_l1 (ng : Int → Int) (x y k : Int) (s : Int × Int × Int × Int) : Int × Int × Int × Int := if k = 1 then (if yq_hg s.1 s.2.1 s.2.2.1 x y ≤ 0 then (yq_b6 (s.1 + x), yq_b6 (s.2.1 + y), yq_b6 (s.2.2.1 + 1), s.2.2.2 + 1) else s) else (if 0 ≤ yq_hg s.1 s.2.1 s.2.2.1 x y then (yq_b6 (s.1 + ng x), yq_b6 (s.2.1 + ng y), yq_b6 (s.2.2.1 + -1), s.2.2.2 + 1) else s)
theorem yq_l1_y {ng : Int → Int} {x y k p q r f h p' q' r' f' : Int} (hk : k = 1) (hh : h = yq_hg p q r x y) (h0 : h ≤ 0) (hp : p' = yq_b6 (p + x)) (hq : q' = yq_b6 (q + y)) (hr : r' = yq_b6 (r + 1)) (hf : f' = f + 1) : (p', q', r', f') = yq_l1 ng x y k (p, q, r, f) := by
  rw [hh] at h0
  unfold yq_l1
  rw [if_pos hk, if_pos h0, hp, hq, hr, hf]
theorem yq_l1_n {ng : Int → Int} {x y k p q r f h p' q' r' f' : Int} (hk : k ≠ 1) (hh : h = yq_hg p q r x y) (h0 : 0 ≤ h) (hp : p' = yq_b6 (p + ng x)) (hq : q' = yq_b6 (q + ng y)) (hr : r' = yq_b6 (r + -1)) (hf : f' = f + 1) : (p', q', r', f') = yq_l1 ng x y k (p, q, r, f) := by
  rw [hh] at h0
  unfold yq_l1
  rw [if_neg hk, if_pos h0, hp, hq, hr, hf]
theorem yq_l1_a {ng : Int → Int} {x y k p q r f h : Int} (hk : k = 1) (hh : h = yq_hg p q r x y) (h0 : ¬ h ≤ 0) : (p, q, r, f) = yq_l1 ng x y k (p, q, r, f) := by
  rw [hh] at h0
  unfold yq_l1
  rw [if_pos hk, if_neg h0]
theorem yq_l1_b {ng : Int → Int} {x y k p q r f h : Int} (hk : k ≠ 1) (hh : h = yq_hg p q r x y) (h0 : ¬ 0 ≤ h) : (p, q, r, f) = yq_l1 ng x y k (p, q, r, f) := by
  rw [hh] at h0
  unfold yq_l1
  rw [if_neg hk, if_neg h0]
noncomputable def yq_lr (ng : Int → Int) (x y k : Nat → Int) (s : Int × Int × Int × Int) : Nat → Int × Int × Int × Int
  | 0 => s
  | n + 1 => yq_l1 ng (x n) (y n) (k n) (yq_lr ng x y k s n)
theorem yq_lr_s {ng : Int → Int} {x y k : Nat → Int} {s : Int × Int × Int × Int} {i m : Int} (hi : 0 ≤ i) (hm : m = i + 1) : yq_lr ng x y k s m.toNat = yq_l1 ng (x i.toNat) (y i.toNat) (k i.toNat) (yq_lr ng x y k s i.toNat) := by
  rw [show m.toNat = i.toNat + 1 by omega]
  rfl
theorem yq_lrW {x y k X Y K : Nat → Int} {s : Int × Int × Int × Int} (hX : ∀ j, -2147483647 ≤ X j ∧ X j ≤ 2147483647) (hY : ∀ j, -2147483647 ≤ Y j ∧ Y j ≤ 2147483647) : ∀ n : Nat, (∀ j : Nat, j < n → x j = X j) → (∀ j : Nat, j < n → y j = Y j) → (∀ j : Nat, j < n → k j = K j) → yq_lr yq_ng x y k s n = yq_lr yq_nm X Y K s n
  | 0, _, _, _ => rfl
  | n + 1, h1, h2, h3 => by
    show yq_l1 yq_ng (x n) (y n) (k n) (yq_lr yq_ng x y k s n) = yq_l1 yq_nm (X n) (Y n) (K n) (yq_lr yq_nm X Y K s n)
    rw [yq_lrW hX hY n (fun j hj => h1 j (by omega)) (fun j hj => h2 j (by omega)) (fun j hj => h3 j (by omega)), h1 n (by omega), h2 n (by omega), h3 n (by omega)]
    unfold yq_l1
    rw [yq_ng_e (hX n).1 (hX n).2, yq_ng_e (hY n).1 (hY n).2]
noncomputable def yq_t1 (ng : Int → Int) (x y k : Nat → Int) (n : Nat) (s : Int × Int × Int × Int × Int × Int) : Int × Int × Int × Int × Int × Int := if s.2.2.2.2.2 = 0 then s else ((yq_lr ng x y k (s.1, s.2.1, s.2.2.1, 0) n).1, (yq_lr ng x y k (s.1, s.2.1, s.2.2.1, 0) n).2.1, (yq_lr ng x y k (s.1, s.2.1, s.2.2.1, 0) n).2.2.1, s.2.2.2.1 + (yq_lr ng x y k (s.1, s.2.1, s.2.2.1, 0) n).2.2.2, yq_b6 (s.2.2.2.2.1 + 1), if (yq_lr ng x y k (s.1, s.2.1, s.2.2.1, 0) n).2.2.2 = 0 then 0 else 1)
noncomputable def yq_tt (ng : Int → Int) (x y k : Nat → Int) (n : Nat) (s : Int × Int × Int × Int × Int × Int) : Nat → Int × Int × Int × Int × Int × Int
  | 0 => s
  | m + 1 => yq_t1 ng x y k n (yq_tt ng x y k n s m)
theorem yq_tt_s {ng : Int → Int} {x y k : Nat → Int} {n : Nat} {s : Int × Int × Int × Int × Int × Int} {i m : Int} (hi : 0 ≤ i) (hm : m = i + 1) : yq_tt ng x y k n s m.toNat = yq_t1 ng x y k n (yq_tt ng x y k n s i.toNat) := by
  rw [show m.toNat = i.toNat + 1 by omega]
  rfl
theorem yq_t1_e {ng : Int → Int} {x y k : Nat → Int} {n : Nat} {p q r sm rd go p' q' r' f sm' rd' go' : Int} (h1 : go = 1) (h : (p', q', r', f) = yq_lr ng x y k (p, q, r, 0) n) (hs : sm' = sm + f) (hr : rd' = yq_b6 (rd + 1)) (hg : go' = if f = 0 then 0 else 1) : (p', q', r', sm', rd', go') = yq_t1 ng x y k n (p, q, r, sm, rd, go) := by
  unfold yq_t1
  show _ = if go = 0 then _ else _
  rw [if_neg (by omega)]
  show (p', q', r', sm', rd', go') = ((yq_lr ng x y k (p, q, r, 0) n).1, (yq_lr ng x y k (p, q, r, 0) n).2.1, (yq_lr ng x y k (p, q, r, 0) n).2.2.1, sm + (yq_lr ng x y k (p, q, r, 0) n).2.2.2, yq_b6 (rd + 1), if (yq_lr ng x y k (p, q, r, 0) n).2.2.2 = 0 then 0 else 1)
  rw [← h, hs, hr, hg]
theorem yq_tt_st {ng : Int → Int} {x y k : Nat → Int} {n : Nat} {s : Int × Int × Int × Int × Int × Int} {m : Nat} (h : (yq_tt ng x y k n s m).2.2.2.2.2 = 0) : ∀ d : Nat, yq_tt ng x y k n s (m + d) = yq_tt ng x y k n s m
  | 0 => rfl
  | d + 1 => by
    show yq_t1 ng x y k n (yq_tt ng x y k n s (m + d)) = _
    rw [yq_tt_st h d]
    exact if_pos h
theorem yq_ttW {x y k X Y K : Nat → Int} {n : Nat} {s : Int × Int × Int × Int × Int × Int} (hX : ∀ j, -2147483647 ≤ X j ∧ X j ≤ 2147483647) (hY : ∀ j, -2147483647 ≤ Y j ∧ Y j ≤ 2147483647) (h1 : ∀ j : Nat, j < n → x j = X j) (h2 : ∀ j : Nat, j < n → y j = Y j) (h3 : ∀ j : Nat, j < n → k j = K j) : ∀ m : Nat, yq_tt yq_ng x y k n s m = yq_tt yq_nm X Y K n s m
  | 0 => rfl
  | m + 1 => by
    show yq_t1 yq_ng x y k n (yq_tt yq_ng x y k n s m) = yq_t1 yq_nm X Y K n (yq_tt yq_nm X Y K n s m)
    rw [yq_ttW hX hY h1 h2 h3 m]
    unfold yq_t1
    rw [yq_lrW hX hY n h1 h2 h3]
noncomputable def yq_le (m a b : Int) : Int := if 0 ≤ m ∧ m ≤ 1000 then a else b
noncomputable def yq_lt (w p q r a b : Int) : Int := if w = 0 then p else if w = 1 then q else if w = 2 then r else if w = 3 then a else if w = 4 then b else -1000000
noncomputable def yq_il (k w p q r a b : Int) (f : Nat → Int) : Nat → Int := fun j => if 5 * k ≤ (j : Int) ∧ (j : Int) < 5 * k + w then yq_lt ((j : Int) - 5 * k) p q r a b else f j
noncomputable def yq_im5 (k p q r a b : Int) (f : Nat → Int) : Nat → Int := if 0 ≤ k ∧ k ≤ 2 then yq_il k 5 p q r a b f else f
theorem yq_il_0 {k p q r a b : Int} {f : Nat → Int} : f = yq_il k 0 p q r a b f := funext fun j => (if_neg (by omega)).symm
theorem yq_il_s {k w m p q r a b z i : Int} {f : Nat → Int} (hk : 0 ≤ k) (hw : 0 ≤ w) (hm : m = w + 1) (hi : i = 5 * k + w) (hz : z = yq_lt w p q r a b) : yq_set (yq_il k w p q r a b f) i.toNat z = yq_il k m p q r a b f := funext fun j => by
  unfold yq_set
  by_cases c : j = i.toNat
  · rw [if_pos c]
    unfold yq_il
    rw [if_pos (by omega), hz, show (j : Int) - 5 * k = w by omega]
  · rw [if_neg c]
    unfold yq_il
    by_cases c2 : 5 * k ≤ (j : Int) ∧ (j : Int) < 5 * k + w
    · rw [if_pos c2, if_pos (by omega)]
    · rw [if_neg c2, if_neg (by omega)]
theorem yq_imL {k p q r a b z o ii : Int} {i w : Nat} {f : Nat → Int} (hi : ii = (i : Int)) (hi2 : i ≤ 2) (hw : w ≤ 4) (hz : z = yq_lt (w : Int) p q r a b) (ho : o = f (5 * i + w)) : yq_kp k ii z o = yq_im5 k p q r a b f (5 * i + w) := by
  unfold yq_kp yq_im5
  by_cases c : k = ii
  · rw [if_pos c, if_pos (by omega)]
    unfold yq_il
    rw [if_pos (by omega), hz, show (((5 * i + w : Nat) : Int) - 5 * k) = (w : Int) by omega]
  · rw [if_neg c, ho]
    by_cases c2 : 0 ≤ k ∧ k ≤ 2
    · rw [if_pos c2]
      unfold yq_il
      rw [if_neg (by omega)]
    · rw [if_neg c2]
theorem yq_ltw0 {p q r a b : Int} : yq_lt ((0 : Nat) : Int) p q r a b = p := by
  unfold yq_lt
  rw [if_pos (by decide)]
theorem yq_ltw1 {p q r a b : Int} : yq_lt ((1 : Nat) : Int) p q r a b = q := by
  unfold yq_lt
  rw [if_neg (by decide), if_pos (by decide)]
theorem yq_ltw2 {p q r a b : Int} : yq_lt ((2 : Nat) : Int) p q r a b = r := by
  unfold yq_lt
  rw [if_neg (by decide), if_neg (by decide), if_pos (by decide)]
theorem yq_ltw3 {p q r a b : Int} : yq_lt ((3 : Nat) : Int) p q r a b = a := by
  unfold yq_lt
  rw [if_neg (by decide), if_neg (by decide), if_neg (by decide), if_pos (by decide)]
theorem yq_ltw4 {p q r a b : Int} : yq_lt ((4 : Nat) : Int) p q r a b = b := by
  unfold yq_lt
  rw [if_neg (by decide), if_neg (by decide), if_neg (by decide), if_neg (by decide), if_pos (by decide)]
/-! halves -/
noncomputable def yq_hl (x y c : Nat → Int) (i k : Nat) (q : Int) : Nat → Int
  | 0 => 0
  | n + 1 => yq_hl x y c i k q n + if c n = q ∧ 0 < yq_ar x y i k n then 1 else 0
noncomputable def yq_hr (x y c : Nat → Int) (i k : Nat) (q : Int) : Nat → Int
  | 0 => 0
  | n + 1 => yq_hr x y c i k q n + if c n = q ∧ yq_ar x y i k n < 0 then 1 else 0
theorem yq_hl_s {x y c : Nat → Int} {i k : Nat} {q j m : Int} (hj : 0 ≤ j) (hm : m = j + 1) : yq_hl x y c i k q m.toNat = yq_hl x y c i k q j.toNat + if c j.toNat = q ∧ 0 < yq_ar x y i k j.toNat then 1 else 0 := by
  rw [show m.toNat = j.toNat + 1 by omega]
  rfl
theorem yq_hr_s {x y c : Nat → Int} {i k : Nat} {q j m : Int} (hj : 0 ≤ j) (hm : m = j + 1) : yq_hr x y c i k q m.toNat = yq_hr x y c i k q j.toNat + if c j.toNat = q ∧ yq_ar x y i k j.toNat < 0 then 1 else 0 := by
  rw [show m.toNat = j.toNat + 1 by omega]
  rfl
theorem yq_ar_eq {x y X Y : Nat → Int} {a b c : Nat} (ha : x a = X a) (hb : x b = X b) (hc : x c = X c) (ha' : y a = Y a) (hb' : y b = Y b) (hc' : y c = Y c) : yq_ar x y a b c = yq_ar X Y a b c := by
  unfold yq_ar
  rw [ha, hb, hc, ha', hb', hc']
theorem yq_hl_eq {x y c X Y C : Nat → Int} {i k n : Nat} {q : Int} (hx : ∀ j : Nat, j < n → x j = X j) (hy : ∀ j : Nat, j < n → y j = Y j) (hc : ∀ j : Nat, j < n → c j = C j) (hi : i < n) (hk : k < n) : ∀ m : Nat, m ≤ n → yq_hl x y c i k q m = yq_hl X Y C i k q m
  | 0, _ => rfl
  | m + 1, h => by
    show (yq_hl x y c i k q m + if c m = q ∧ 0 < yq_ar x y i k m then 1 else 0) = (yq_hl X Y C i k q m + if C m = q ∧ 0 < yq_ar X Y i k m then 1 else 0)
    rw [yq_hl_eq hx hy hc hi hk m (by omega), hc m (by omega), yq_ar_eq (hx i hi) (hx k hk) (hx m (by omega)) (hy i hi) (hy k hk) (hy m (by omega))]
theorem yq_hr_eq {x y c X Y C : Nat → Int} {i k n : Nat} {q : Int} (hx : ∀ j : Nat, j < n → x j = X j) (hy : ∀ j : Nat, j < n → y j = Y j) (hc : ∀ j : Nat, j < n → c j = C j) (hi : i < n) (hk : k < n) : ∀ m : Nat, m ≤ n → yq_hr x y c i k q m = yq_hr X Y C i k q m
  | 0, _ => rfl
  | m + 1, h => by
    show (yq_hr x y c i k q m + if c m = q ∧ yq_ar x y i k m < 0 then 1 else 0) = (yq_hr X Y C i k q m + if C m = q ∧ yq_ar X Y i k m < 0 then 1 else 0)
    rw [yq_hr_eq hx hy hc hi hk m (by omega), hc m (by omega), yq_ar_eq (hx i hi) (hx k hk) (hx m (by omega)) (hy i hi) (hy k hk) (hy m (by omega))]
noncomputable def yq_hf (x y c : Nat → Int) (n i k : Nat) (q t : Int) : Prop := 2 * yq_hl x y c i k q n ≤ t ∧ 2 * yq_hr x y c i k q n ≤ t
noncomputable def yq_hP (x y c : Nat → Int) (n : Nat) (n1 n0 : Int) (i k : Nat) : Prop := ¬ (x i = x k ∧ y i = y k) ∧ yq_hf x y c n i k 1 n1 ∧ yq_hf x y c n i k 0 n0
theorem yq_hP_eq {x y c X Y C : Nat → Int} {i k n : Nat} {n1 n0 : Int} (hx : ∀ j : Nat, j < n → x j = X j) (hy : ∀ j : Nat, j < n → y j = Y j) (hc : ∀ j : Nat, j < n → c j = C j) (hi : i < n) (hk : k < n) : yq_hP x y c n n1 n0 i k ↔ yq_hP X Y C n n1 n0 i k := by
  unfold yq_hP yq_hf
  rw [hx i hi, hx k hk, hy i hi, hy k hk, yq_hl_eq hx hy hc hi hk n (Nat.le_refl n), yq_hr_eq hx hy hc hi hk n (Nat.le_refl n), yq_hl_eq hx hy hc hi hk n (Nat.le_refl n), yq_hr_eq hx hy hc hi hk n (Nat.le_refl n)]
/-- none of the pairs before a, b -/
noncomputable def yq_hN (P : Nat → Nat → Prop) (n a b : Nat) : Prop := ∀ i k : Nat, i < k → k < n → (i < a ∨ (i = a ∧ k < b)) → ¬ P i k
noncomputable def yq_hS (P : Nat → Nat → Prop) (n : Nat) (bad r : Int) : Prop := (r = bad ∧ ∀ i k : Nat, i < k → k < n → ¬ P i k) ∨ ∃ a b : Nat, a < b ∧ b < n ∧ P a b ∧ r = 100 * (a : Int) + (b : Int) ∧ yq_hN P n a b
theorem yq_hS_u {P Q : Nat → Nat → Prop} {n : Nat} {bad r s : Int} (hPQ : ∀ i k : Nat, i < k → k < n → (P i k ↔ Q i k)) (h : yq_hS P n bad r) (h' : yq_hS Q n bad s) : r = s := by
  rcases h with ⟨h1, h2⟩ | ⟨a, b, h1, h2, h3, h4, h5⟩
  · rcases h' with ⟨h6, h7⟩ | ⟨a', b', h6, h7, h8, h9, h10⟩
    · rw [h1, h6]
    · exact absurd ((hPQ a' b' h6 h7).mpr h8) (h2 a' b' h6 h7)
  · rcases h' with ⟨h6, h7⟩ | ⟨a', b', h6, h7, h8, h9, h10⟩
    · exact absurd ((hPQ a b h1 h2).mp h3) (h7 a b h1 h2)
    · have p1 : ¬ (a < a' ∨ (a = a' ∧ b < b')) := fun z => h10 a b h1 h2 z ((hPQ a b h1 h2).mp h3)
      have p2 : ¬ (a' < a ∨ (a' = a ∧ b' < b)) := fun z => h5 a' b' h6 h7 z ((hPQ a' b' h6 h7).mpr h8)
      have p3 : a = a' := by omega
      have p4 : b = b' := by omega
      rw [h4, h9, p3, p4]
theorem yq_cnt_01 {c : Nat → Int} (hc : ∀ j, 0 ≤ c j ∧ c j ≤ 1) : ∀ n : Nat, yq_cnt c 1 n + yq_cnt c 0 n = (n : Int)
  | 0 => rfl
  | n + 1 => by
    have h := yq_cnt_01 hc n
    have h2 := hc n
    show (yq_cnt c 1 n + if c n = 1 then 1 else 0) + (yq_cnt c 0 n + if c n = 0 then 1 else 0) = ((n + 1 : Nat) : Int)
    split <;> split <;> omega
/-! depth -/
noncomputable def yq_ds (x y : Nat → Int) (u v dx dy : Int) (j : Nat) : Int := dx * (y j - v) - dy * (x j - u)
noncomputable def yq_dd (x y : Nat → Int) (u v dx dy : Int) (j : Nat) : Int := dx * (x j - u) + dy * (y j - v)
noncomputable def yq_c1 (x y : Nat → Int) (u v dx dy : Int) : Nat → Int
  | 0 => 0
  | n + 1 => yq_c1 x y u v dx dy n + if 0 < yq_ds x y u v dx dy n then 1 else 0
noncomputable def yq_c2 (x y : Nat → Int) (u v dx dy : Int) : Nat → Int
  | 0 => 0
  | n + 1 => yq_c2 x y u v dx dy n + if yq_ds x y u v dx dy n < 0 then 1 else 0
noncomputable def yq_c3 (x y : Nat → Int) (u v dx dy : Int) : Nat → Int
  | 0 => 0
  | n + 1 => yq_c3 x y u v dx dy n + if yq_ds x y u v dx dy n = 0 ∧ 0 < yq_dd x y u v dx dy n then 1 else 0
noncomputable def yq_c4 (x y : Nat → Int) (u v dx dy : Int) : Nat → Int
  | 0 => 0
  | n + 1 => yq_c4 x y u v dx dy n + if yq_ds x y u v dx dy n = 0 ∧ yq_dd x y u v dx dy n < 0 then 1 else 0
theorem yq_c_s {x y : Nat → Int} {u v dx dy j m : Int} (hj : 0 ≤ j) (hm : m = j + 1) : yq_c1 x y u v dx dy m.toNat = yq_c1 x y u v dx dy j.toNat + (if 0 < yq_ds x y u v dx dy j.toNat then 1 else 0) ∧ yq_c2 x y u v dx dy m.toNat = yq_c2 x y u v dx dy j.toNat + (if yq_ds x y u v dx dy j.toNat < 0 then 1 else 0) ∧ yq_c3 x y u v dx dy m.toNat = yq_c3 x y u v dx dy j.toNat + (if yq_ds x y u v dx dy j.toNat = 0 ∧ 0 < yq_dd x y u v dx dy j.toNat then 1 else 0) ∧ yq_c4 x y u v dx dy m.toNat = yq_c4 x y u v dx dy j.toNat + (if yq_ds x y u v dx dy j.toNat = 0 ∧ yq_dd x y u v dx dy j.toNat < 0 then 1 else 0) := by
  rw [show m.toNat = j.toNat + 1 by omega]
  exact ⟨rfl, rfl, rfl, rfl⟩
theorem yq_c_b {x y : Nat → Int} {u v dx dy : Int} : ∀ n : Nat, 0 ≤ yq_c1 x y u v dx dy n ∧ 0 ≤ yq_c2 x y u v dx dy n ∧ 0 ≤ yq_c3 x y u v dx dy n ∧ 0 ≤ yq_c4 x y u v dx dy n ∧ yq_c1 x y u v dx dy n + yq_c2 x y u v dx dy n + yq_c3 x y u v dx dy n + yq_c4 x y u v dx dy n ≤ (n : Int)
  | 0 => ⟨Int.le_refl 0, Int.le_refl 0, Int.le_refl 0, Int.le_refl 0, Int.le_refl 0⟩
  | n + 1 => by
    have h := yq_c_b (x := x) (y := y) (u := u) (v := v) (dx := dx) (dy := dy) n
    show 0 ≤ yq_c1 x y u v dx dy n + (if 0 < yq_ds x y u v dx dy n then 1 else 0) ∧ 0 ≤ yq_c2 x y u v dx dy n + (if yq_ds x y u v dx dy n < 0 then 1 else 0) ∧ 0 ≤ yq_c3 x y u v dx dy n + (if yq_ds x y u v dx dy n = 0 ∧ 0 < yq_dd x y u v dx dy n then 1 else 0) ∧ 0 ≤ yq_c4 x y u v dx dy n + (if yq_ds x y u v dx dy n = 0 ∧ yq_dd x y u v dx dy n < 0 then 1 else 0) ∧ yq_c1 x y u v dx dy n + (if 0 < yq_ds x y u v dx dy n then 1 else 0) + (yq_c2 x y u v dx dy n + (if yq_ds x y u v dx dy n < 0 then 1 else 0)) + (yq_c3 x y u v dx dy n + (if yq_ds x y u v dx dy n = 0 ∧ 0 < yq_dd x y u v dx dy n then 1 else 0)) + (yq_c4 x y u v dx dy n + (if yq_ds x y u v dx dy n = 0 ∧ yq_dd x y u v dx dy n < 0 then 1 else 0)) ≤ ((n + 1 : Nat) : Int)
    split <;> split <;> split <;> split <;> omega
theorem yq_c_eq {x y X Y : Nat → Int} {u v dx dy : Int} : ∀ n : Nat, (∀ j : Nat, j < n → x j = X j) → (∀ j : Nat, j < n → y j = Y j) → yq_c1 x y u v dx dy n = yq_c1 X Y u v dx dy n ∧ yq_c2 x y u v dx dy n = yq_c2 X Y u v dx dy n ∧ yq_c3 x y u v dx dy n = yq_c3 X Y u v dx dy n ∧ yq_c4 x y u v dx dy n = yq_c4 X Y u v dx dy n
  | 0, _, _ => ⟨rfl, rfl, rfl, rfl⟩
  | n + 1, hx, hy => by
    obtain ⟨h1, h2, h3, h4⟩ := yq_c_eq (u := u) (v := v) (dx := dx) (dy := dy) n (fun j hj => hx j (by omega)) (fun j hj => hy j (by omega))
    have d1 : yq_ds x y u v dx dy n = yq_ds X Y u v dx dy n := by
      unfold yq_ds
      rw [hx n (by omega), hy n (by omega)]
    have d2 : yq_dd x y u v dx dy n = yq_dd X Y u v dx dy n := by
      unfold yq_dd
      rw [hx n (by omega), hy n (by omega)]
    show yq_c1 x y u v dx dy n + (if 0 < yq_ds x y u v dx dy n then 1 else 0) = yq_c1 X Y u v dx dy n + (if 0 < yq_ds X Y u v dx dy n then 1 else 0) ∧ yq_c2 x y u v dx dy n + (if yq_ds x y u v dx dy n < 0 then 1 else 0) = yq_c2 X Y u v dx dy n + (if yq_ds X Y u v dx dy n < 0 then 1 else 0) ∧ yq_c3 x y u v dx dy n + (if yq_ds x y u v dx dy n = 0 ∧ 0 < yq_dd x y u v dx dy n then 1 else 0) = yq_c3 X Y u v dx dy n + (if yq_ds X Y u v dx dy n = 0 ∧ 0 < yq_dd X Y u v dx dy n then 1 else 0) ∧ yq_c4 x y u v dx dy n + (if yq_ds x y u v dx dy n = 0 ∧ yq_dd x y u v dx dy n < 0 then 1 else 0) = yq_c4 X Y u v dx dy n + (if yq_ds X Y u v dx dy n = 0 ∧ yq_dd X Y u v dx dy n < 0 then 1 else 0)
    rw [d1, d2, h1, h2, h3, h4]
    exact ⟨rfl, rfl, rfl, rfl⟩
noncomputable def yq_mn (a b : Int) : Int := if a ≤ b then a else b
noncomputable def yq_lb (x y : Nat → Int) (u v dx dy : Int) (n : Nat) : Int := yq_mn (yq_c1 x y u v dx dy n) (yq_c2 x y u v dx dy n) + yq_mn (yq_c3 x y u v dx dy n) (yq_c4 x y u v dx dy n)
theorem yq_lb_b {x y : Nat → Int} {u v dx dy : Int} {n : Nat} : 0 ≤ yq_lb x y u v dx dy n ∧ 2 * yq_lb x y u v dx dy n ≤ (n : Int) := by
  have h := yq_c_b (x := x) (y := y) (u := u) (v := v) (dx := dx) (dy := dy) n
  unfold yq_lb yq_mn
  split <;> split <;> omega
theorem yq_lb_eq {x y X Y : Nat → Int} {u v dx dy : Int} {n : Nat} (hx : ∀ j : Nat, j < n → x j = X j) (hy : ∀ j : Nat, j < n → y j = Y j) : yq_lb x y u v dx dy n = yq_lb X Y u v dx dy n := by
  obtain ⟨h1, h2, h3, h4⟩ := yq_c_eq (u := u) (v := v) (dx := dx) (dy := dy) n hx hy
  unfold yq_lb
  rw [h1, h2, h3, h4]
noncomputable def yq_ch (x y : Nat → Int) (u v : Int) : Nat → Int
  | 0 => 0
  | n + 1 => yq_ch x y u v n + if x n = u ∧ y n = v then 1 else 0
noncomputable def yq_lm (x y : Nat → Int) (u v : Int) (N : Nat) (z : Int) : Nat → Int
  | 0 => z
  | m + 1 => if x m = u ∧ y m = v then yq_lm x y u v N z m else yq_mn (yq_lm x y u v N z m) (yq_lb x y u v (x m - u) (y m - v) N)
theorem yq_ch_s {x y : Nat → Int} {u v j m : Int} (hj : 0 ≤ j) (hm : m = j + 1) : yq_ch x y u v m.toNat = yq_ch x y u v j.toNat + if x j.toNat = u ∧ y j.toNat = v then 1 else 0 := by
  rw [show m.toNat = j.toNat + 1 by omega]
  rfl
theorem yq_lm_s {x y : Nat → Int} {u v z j m : Int} {N : Nat} (hj : 0 ≤ j) (hm : m = j + 1) : yq_lm x y u v N z m.toNat = if x j.toNat = u ∧ y j.toNat = v then yq_lm x y u v N z j.toNat else yq_mn (yq_lm x y u v N z j.toNat) (yq_lb x y u v (x j.toNat - u) (y j.toNat - v) N) := by
  rw [show m.toNat = j.toNat + 1 by omega]
  rfl
theorem yq_ch_b {x y : Nat → Int} {u v : Int} : ∀ n : Nat, 0 ≤ yq_ch x y u v n ∧ yq_ch x y u v n ≤ (n : Int)
  | 0 => ⟨Int.le_refl 0, Int.le_refl 0⟩
  | n + 1 => by
    have h := yq_ch_b (x := x) (y := y) (u := u) (v := v) n
    show 0 ≤ yq_ch x y u v n + (if x n = u ∧ y n = v then 1 else 0) ∧ yq_ch x y u v n + (if x n = u ∧ y n = v then 1 else 0) ≤ ((n + 1 : Nat) : Int)
    split <;> omega
theorem yq_ch_eq {x y X Y : Nat → Int} {u v : Int} : ∀ n : Nat, (∀ j : Nat, j < n → x j = X j) → (∀ j : Nat, j < n → y j = Y j) → yq_ch x y u v n = yq_ch X Y u v n
  | 0, _, _ => rfl
  | n + 1, hx, hy => by
    show (yq_ch x y u v n + if x n = u ∧ y n = v then 1 else 0) = (yq_ch X Y u v n + if X n = u ∧ Y n = v then 1 else 0)
    rw [yq_ch_eq n (fun j hj => hx j (by omega)) (fun j hj => hy j (by omega)), hx n (by omega), hy n (by omega)]
theorem yq_lm_eq {x y X Y : Nat → Int} {u v z : Int} {N : Nat} (hx : ∀ j : Nat, j < N → x j = X j) (hy : ∀ j : Nat, j < N → y j = Y j) : ∀ m : Nat, m ≤ N → yq_lm x y u v N z m = yq_lm X Y u v N z m
  | 0, _ => rfl
  | m + 1, h => by
    show (if x m = u ∧ y m = v then yq_lm x y u v N z m else yq_mn (yq_lm x y u v N z m) (yq_lb x y u v (x m - u) (y m - v) N)) = (if X m = u ∧ Y m = v then yq_lm X Y u v N z m else yq_mn (yq_lm X Y u v N z m) (yq_lb X Y u v (X m - u) (Y m - v) N))
    rw [yq_lm_eq hx hy m (by omega), hx m (by omega), hy m (by omega), yq_lb_eq hx hy]
/-- the least does not hang on where it starts, once a point lies elsewhere -/
theorem yq_lm_z {x y : Nat → Int} {u v z z' : Int} {N : Nat} (hz : (N : Int) ≤ z) (hz' : (N : Int) ≤ z') : ∀ m : Nat, (yq_ch x y u v m = (m : Int) ∧ yq_lm x y u v N z m = z ∧ yq_lm x y u v N z' m = z') ∨ (yq_ch x y u v m < (m : Int) ∧ yq_lm x y u v N z m = yq_lm x y u v N z' m ∧ 2 * yq_lm x y u v N z m ≤ (N : Int))
  | 0 => Or.inl ⟨rfl, rfl, rfl⟩
  | m + 1 => by
    have hb := yq_lb_b (x := x) (y := y) (u := u) (v := v) (dx := x m - u) (dy := y m - v) (n := N)
    have hc := yq_ch_b (x := x) (y := y) (u := u) (v := v) m
    have ih := yq_lm_z (x := x) (y := y) (u := u) (v := v) (N := N) hz hz' m
    show (yq_ch x y u v m + (if x m = u ∧ y m = v then 1 else 0) = ((m + 1 : Nat) : Int) ∧ (if x m = u ∧ y m = v then yq_lm x y u v N z m else yq_mn (yq_lm x y u v N z m) (yq_lb x y u v (x m - u) (y m - v) N)) = z ∧ (if x m = u ∧ y m = v then yq_lm x y u v N z' m else yq_mn (yq_lm x y u v N z' m) (yq_lb x y u v (x m - u) (y m - v) N)) = z') ∨ (yq_ch x y u v m + (if x m = u ∧ y m = v then 1 else 0) < ((m + 1 : Nat) : Int) ∧ (if x m = u ∧ y m = v then yq_lm x y u v N z m else yq_mn (yq_lm x y u v N z m) (yq_lb x y u v (x m - u) (y m - v) N)) = (if x m = u ∧ y m = v then yq_lm x y u v N z' m else yq_mn (yq_lm x y u v N z' m) (yq_lb x y u v (x m - u) (y m - v) N)) ∧ 2 * (if x m = u ∧ y m = v then yq_lm x y u v N z m else yq_mn (yq_lm x y u v N z m) (yq_lb x y u v (x m - u) (y m - v) N)) ≤ (N : Int))
    by_cases q : x m = u ∧ y m = v
    · rw [if_pos q, if_pos q, if_pos q]
      rcases ih with ⟨h1, h2, h3⟩ | ⟨h1, h2, h3⟩
      · exact Or.inl ⟨by omega, h2, h3⟩
      · exact Or.inr ⟨by omega, h2, h3⟩
    · rw [if_neg q, if_neg q, if_neg q]
      refine Or.inr ⟨by omega, ?_, ?_⟩
      · rcases ih with ⟨h1, h2, h3⟩ | ⟨h1, h2, h3⟩
        · rw [h2, h3]
          unfold yq_mn
          split <;> split <;> omega
        · rw [h2]
      · rcases ih with ⟨h1, h2, h3⟩ | ⟨h1, h2, h3⟩
        · rw [h2]
          unfold yq_mn
          split <;> omega
        · unfold yq_mn
          split <;> omega
noncomputable def yq_rg (x y a : Int) : Int := if (-1000 ≤ x ∧ x ≤ 1000) ∧ (-1000 ≤ y ∧ y ≤ 1000) then a else -1
noncomputable def yq_ex (c l n : Int) : Int := if c = n then c else c + l
noncomputable def yq_em (c l n : Int) : Int := if l = n then c else l + c
theorem yq_deW {x y : Nat → Int} {u v : Int} {N : Nat} (hN : N ≤ 40) : yq_ex (yq_ch x y u v N) (yq_lm x y u v N 40 N) (N : Int) = yq_em (yq_ch x y u v N) (yq_lm x y u v N (N : Int) N) (N : Int) := by
  have hc := yq_ch_b (x := x) (y := y) (u := u) (v := v) N
  unfold yq_ex yq_em
  rcases yq_lm_z (x := x) (y := y) (u := u) (v := v) (z := 40) (z' := (N : Int)) (N := N) (by omega) (by omega) N with ⟨h1, h2, h3⟩ | ⟨h1, h2, h3⟩
  · rw [if_pos h1, if_pos h3]
  · rw [if_neg (by omega), if_neg (by omega), h2]
    omega
noncomputable def yq_jd (a b c n : Int) (f : Nat → Int) (v : Int) : Nat → Int := if ((-1000000 ≤ a ∧ a ≤ 1000000 ∧ -1000000 ≤ b ∧ b ≤ 1000000 ∧ -1000000 ≤ c ∧ c ≤ 1000000) ∧ (a ≠ 0 ∨ b ≠ 0)) ∧ n < 12 then yq_set f n.toNat v else f
theorem yq_jdW {a b c n n' v : Int} {f F : Nat → Int} (hn : 0 ≤ n) (h : ∀ j : Nat, (j : Int) < n → f j = F j) (hn' : n' = yq_jm a b c n) : ∀ j : Nat, (j : Int) < n' → yq_jd a b c n f v j = yq_jd a b c n F v j := by
  intro j hj
  rw [hn'] at hj
  unfold yq_jm at hj
  unfold yq_jd
  by_cases q : (-1000000 ≤ a ∧ a ≤ 1000000 ∧ -1000000 ≤ b ∧ b ≤ 1000000 ∧ -1000000 ≤ c ∧ c ≤ 1000000) ∧ (a ≠ 0 ∨ b ≠ 0)
  · rw [if_pos q] at hj
    by_cases q2 : 12 ≤ n
    · rw [if_pos q2] at hj
      rw [if_neg (fun z => absurd z.2 (by omega)), if_neg (fun z => absurd z.2 (by omega))]
      exact h j hj
    · rw [if_neg q2] at hj
      rw [if_pos ⟨q, by omega⟩, if_pos ⟨q, by omega⟩]
      unfold yq_set
      by_cases q3 : j = n.toNat
      · rw [if_pos q3, if_pos q3]
      · rw [if_neg q3, if_neg q3]
        exact h j (by omega)
  · rw [if_neg q] at hj
    rw [if_neg (fun z => q z.1), if_neg (fun z => q z.1)]
    exact h j hj
theorem yq_cp12 {f h : Nat → Int} {a b n j : Nat} (ha : a = 0) (hb : b = 0) (hn : n = 12) (hj : j < 12) : va_cpy f h a b n j = f j := by
  subst ha
  subst hb
  subst hn
  unfold va_cpy
  rw [if_pos (by omega)]
  exact congrArg f (by omega)
noncomputable def yq_q3 (a b c : Nat → Int) (q : Int) : Int := if q % 3 = 0 then a (q / 3).toNat else if q % 3 = 1 then b (q / 3).toNat else c (q / 3).toNat
theorem yq_q3_0 {a b c : Nat → Int} {q : Int} (h : q % 3 = 0) : yq_q3 a b c q = a (q / 3).toNat := if_pos h
theorem yq_q3_1 {a b c : Nat → Int} {q : Int} (h : q % 3 = 1) : yq_q3 a b c q = b (q / 3).toNat := by
  unfold yq_q3
  rw [if_neg (by omega), if_pos h]
theorem yq_q3_2 {a b c : Nat → Int} {q : Int} (h : q % 3 = 2) : yq_q3 a b c q = c (q / 3).toNat := by
  unfold yq_q3
  rw [if_neg (by omega), if_neg (by omega)]
noncomputable def yq_i3 (k i : Int) (a b c f : Nat → Int) : Nat → Int := fun q => if 36 * k ≤ (q : Int) ∧ (q : Int) < 36 * k + 3 * i then yq_q3 a b c ((q : Int) - 36 * k) else f q
noncomputable def yq_j3 (k n : Int) (a b c f : Nat → Int) : Nat → Int := if 0 ≤ k ∧ k ≤ 2 then yq_i3 k n a b c f else f
theorem yq_i3_0 {k : Int} {a b c f : Nat → Int} : f = yq_i3 k 0 a b c f := funext fun q => (if_neg (by omega)).symm
theorem yq_i3_s {k i m q0 q1 q2 va vb vc : Int} {a b c f : Nat → Int} (hk : 0 ≤ k) (hi : 0 ≤ i) (hm : m = i + 1) (h0 : q0 = 36 * k + 3 * i) (h1 : q1 = q0 + 1) (h2 : q2 = q0 + 2) (ha : va = a i.toNat) (hb : vb = b i.toNat) (hc : vc = c i.toNat) : yq_set (yq_set (yq_set (yq_i3 k i a b c f) q0.toNat va) q1.toNat vb) q2.toNat vc = yq_i3 k m a b c f := funext fun q => by
  unfold yq_set
  by_cases c2 : q = q2.toNat
  · rw [if_pos c2]
    unfold yq_i3
    rw [if_pos (by omega), yq_q3_2 (by omega), hc]
    exact congrArg c (by omega)
  · rw [if_neg c2]
    by_cases c1 : q = q1.toNat
    · rw [if_pos c1]
      unfold yq_i3
      rw [if_pos (by omega), yq_q3_1 (by omega), hb]
      exact congrArg b (by omega)
    · rw [if_neg c1]
      by_cases c0 : q = q0.toNat
      · rw [if_pos c0]
        unfold yq_i3
        rw [if_pos (by omega), yq_q3_0 (by omega), ha]
        exact congrArg a (by omega)
      · rw [if_neg c0]
        unfold yq_i3
        by_cases q2 : 36 * k ≤ (q : Int) ∧ (q : Int) < 36 * k + 3 * i
        · rw [if_pos q2, if_pos (by omega)]
        · rw [if_neg q2, if_neg (by omega)]
theorem yq_i3W {k n Q ii o : Int} {i oo : Nat} {a b c e x K f : Nat → Int} (hi : ii = (i : Int)) (hi2 : i ≤ 2) (ho : o = (oo : Int)) (ho3 : oo ≤ 2) (hn : n ≤ 12) (hQ : Q ≤ 12) (hs : ∀ q : Int, q % 3 = o → yq_q3 a b c q = e (q / 3).toNat) (hx : ∀ j : Nat, (j : Int) < n → x j = e j) (hK : ∀ j : Nat, (j : Int) < Q → K j = f (36 * i + 3 * j + oo)) : ∀ j : Nat, (j : Int) < yq_kp k ii n Q → yq_kp k ii (x j) (K j) = yq_j3 k n a b c f (36 * i + 3 * j + oo) := by
  intro j hj
  unfold yq_kp at hj
  unfold yq_kp yq_j3
  by_cases q : k = ii
  · rw [if_pos q] at hj
    rw [if_pos q, if_pos (by omega), hx j hj]
    unfold yq_i3
    rw [if_pos (by omega), hs _ (by omega)]
    exact congrArg e (by omega)
  · rw [if_neg q] at hj
    rw [if_neg q, hK j hj]
    by_cases q2 : 0 ≤ k ∧ k ≤ 2
    · rw [if_pos q2]
      unfold yq_i3
      rw [if_neg (by omega)]
    · rw [if_neg q2]
noncomputable def yq_b3 (k i o : Int) (N f : Nat → Int) : Nat → Int := fun j => if (j : Int) < i then N (36 * k + 3 * (j : Int) + o).toNat else f j
noncomputable def yq_m3 (t : Nat → Int) (k n o : Int) (N f : Nat → Int) : Nat → Int := if 0 ≤ k ∧ k ≤ 2 ∧ t k.toNat ≠ 0 then yq_b3 k n o N f else f
theorem yq_b3_0 {k o : Int} {N f : Nat → Int} : f = yq_b3 k 0 o N f := funext fun j => (if_neg (by omega)).symm
theorem yq_b3_s {k i m o z : Int} {N f : Nat → Int} (hi : 0 ≤ i) (hm : m = i + 1) (hz : z = N (36 * k + 3 * i + o).toNat) : yq_set (yq_b3 k i o N f) i.toNat z = yq_b3 k m o N f := funext fun j => by
  unfold yq_set
  by_cases q : j = i.toNat
  · rw [if_pos q]
    unfold yq_b3
    rw [if_pos (by omega), hz]
    exact congrArg N (by omega)
  · rw [if_neg q]
    unfold yq_b3
    by_cases q2 : (j : Int) < i
    · rw [if_pos q2, if_pos (by omega)]
    · rw [if_neg q2, if_neg (by omega)]
theorem yq_b3W {k n Q0 Q1 Q2 o : Int} {oo : Nat} {t x K0 K1 K2 F N : Nat → Int} (ho : o = (oo : Int)) (h : ∀ j : Nat, (j : Int) < n → x j = F j) (h0 : ∀ j : Nat, (j : Int) < Q0 → K0 j = N (36 * 0 + 3 * j + oo)) (h1 : ∀ j : Nat, (j : Int) < Q1 → K1 j = N (36 * 1 + 3 * j + oo)) (h2 : ∀ j : Nat, (j : Int) < Q2 → K2 j = N (36 * 2 + 3 * j + oo)) : ∀ j : Nat, (j : Int) < yq_pk t k n Q0 Q1 Q2 → yq_pk t k (x j) (K0 j) (K1 j) (K2 j) = yq_m3 t k (yq_pk t k n Q0 Q1 Q2) o N F j := by
  intro j hj
  have hj2 := hj
  unfold yq_pk at hj2
  unfold yq_m3
  by_cases q : 0 ≤ k ∧ k ≤ 2
  · rw [if_pos q] at hj2
    by_cases q2 : t k.toNat = 0
    · rw [if_pos q2] at hj2
      rw [if_neg (fun z => z.2.2 q2)]
      unfold yq_pk
      rw [if_pos q, if_pos q2]
      exact h j hj2
    · rw [if_neg q2] at hj2
      rw [if_pos ⟨q.1, q.2, q2⟩]
      unfold yq_b3
      rw [if_pos hj]
      unfold yq_pk
      rw [if_pos q, if_neg q2]
      by_cases k0 : k = 0
      · rw [if_pos k0] at hj2
        rw [if_pos k0, h0 j hj2]
        exact congrArg N (by omega)
      · rw [if_neg k0] at hj2
        rw [if_neg k0]
        by_cases k1 : k = 1
        · rw [if_pos k1] at hj2
          rw [if_pos k1, h1 j hj2]
          exact congrArg N (by omega)
        · rw [if_neg k1] at hj2
          rw [if_neg k1, h2 j hj2]
          exact congrArg N (by omega)
  · rw [if_neg q] at hj2
    rw [if_neg (fun z => q ⟨z.1, z.2.1⟩)]
    unfold yq_pk
    rw [if_neg q]
    exact h j hj2
/-! sets of judges as bits -/
noncomputable def yb_st (p : Nat → Bool) : Nat → Nat
  | 0 => 0
  | n + 1 => yb_st p n + if p n = true then 2 ^ n else 0
noncomputable def yb_ct (p : Nat → Bool) : Nat → Int
  | 0 => 0
  | n + 1 => yb_ct p n + if p n = true then 1 else 0
theorem yb_st_lt (p : Nat → Bool) : ∀ n, yb_st p n < 2 ^ n
  | 0 => Nat.one_pos
  | n + 1 => by
    have h := yb_st_lt p n
    have h2 : 2 ^ (n + 1) = 2 ^ n + 2 ^ n := by rw [Nat.pow_succ]; omega
    show yb_st p n + (if p n = true then 2 ^ n else 0) < 2 ^ (n + 1)
    split <;> omega
theorem yb_tb (p : Nat → Bool) : ∀ n j, (yb_st p n).testBit j = (decide (j < n) && p j)
  | 0, j => by
    show (0 : Nat).testBit j = _
    rw [Nat.zero_testBit]
    rfl
  | n + 1, j => by
    show (yb_st p n + (if p n = true then 2 ^ n else 0)).testBit j = _
    have h := yb_tb p n j
    have hl := yb_st_lt p n
    by_cases hj : j = n
    · subst hj
      rw [show (decide (j < j + 1) : Bool) = true from decide_eq_true (by omega)]
      by_cases hp : p j = true
      · rw [if_pos hp, Nat.add_comm, Nat.testBit_two_pow_add_eq, Nat.testBit_lt_two_pow hl, hp]
        rfl
      · rw [if_neg hp, Nat.add_zero, Nat.testBit_lt_two_pow hl]
        cases hq : p j
        · rfl
        · exact absurd hq hp
    · by_cases hj2 : j < n
      · rw [show (decide (j < n + 1) : Bool) = decide (j < n) by rw [decide_eq_true hj2, decide_eq_true (by omega)], ← h]
        split
        · rw [Nat.add_comm, Nat.testBit_two_pow_add_gt hj2]
        · rw [Nat.add_zero]
      · rw [show (decide (j < n + 1) : Bool) = false from decide_eq_false (by omega)]
        have h3 := yb_st_lt p (n + 1)
        have h4 : yb_st p (n + 1) < 2 ^ j := Nat.lt_of_lt_of_le h3 (Nat.pow_le_pow_right (by decide) (by omega))
        have h5 := Nat.testBit_lt_two_pow h4
        rw [show yb_st p n + (if p n = true then 2 ^ n else 0) = yb_st p (n + 1) from rfl, h5]
        rfl
theorem yb_and (p q : Nat → Bool) (n : Nat) : yb_st p n &&& yb_st q n = yb_st (fun j => p j && q j) n := Nat.eq_of_testBit_eq fun i => by
  rw [Nat.testBit_and, yb_tb, yb_tb, yb_tb]
  cases decide (i < n) <;> cases p i <;> cases q i <;> rfl
theorem yb_or (p : Nat → Bool) (n : Nat) : yb_st p n ||| 2 ^ n = yb_st p n + 2 ^ n := Nat.eq_of_testBit_eq fun i => by
  have hl := yb_st_lt p n
  rw [Nat.testBit_or, Nat.testBit_two_pow]
  by_cases h : n = i
  · subst h
    rw [Nat.add_comm, Nat.testBit_two_pow_add_eq, Nat.testBit_lt_two_pow hl, decide_eq_true rfl]
    rfl
  · rw [decide_eq_false h, Bool.or_false]
    by_cases h2 : i < n
    · rw [Nat.add_comm, Nat.testBit_two_pow_add_gt h2]
    · have h4 : 2 ^ (n + 1) ≤ 2 ^ i := Nat.pow_le_pow_right (by decide) (by omega)
      have h5 : 2 ^ (n + 1) = 2 ^ n + 2 ^ n := by rw [Nat.pow_succ]; omega
      rw [Nat.testBit_lt_two_pow (show yb_st p n < 2 ^ i by omega), Nat.testBit_lt_two_pow (show yb_st p n + 2 ^ n < 2 ^ i by omega)]
theorem yb_all : ∀ n, yb_st (fun _ => true) n + 1 = 2 ^ n
  | 0 => rfl
  | n + 1 => by
    have h := yb_all n
    show yb_st (fun _ => true) n + (if true = true then 2 ^ n else 0) + 1 = 2 ^ (n + 1)
    rw [if_pos rfl, Nat.pow_succ]
    omega
theorem yb_st_eq {p q : Nat → Bool} : ∀ n, (∀ j, j < n → p j = q j) → yb_st p n = yb_st q n
  | 0, _ => rfl
  | n + 1, h => by
    show yb_st p n + (if p n = true then 2 ^ n else 0) = yb_st q n + (if q n = true then 2 ^ n else 0)
    rw [yb_st_eq n (fun j hj => h j (by omega)), h n (by omega)]
theorem yb_ct_eq {p q : Nat → Bool} : ∀ n, (∀ j, j < n → p j = q j) → yb_ct p n = yb_ct q n
  | 0, _ => rfl
  | n + 1, h => by
    show yb_ct p n + (if p n = true then 1 else 0) = yb_ct q n + (if q n = true then 1 else 0)
    rw [yb_ct_eq n (fun j hj => h j (by omega)), h n (by omega)]
theorem yb_ct_b {p : Nat → Bool} : ∀ n : Nat, 0 ≤ yb_ct p n ∧ yb_ct p n ≤ (n : Int)
  | 0 => ⟨Int.le_refl 0, Int.le_refl 0⟩
  | n + 1 => by
    have h := yb_ct_b (p := p) n
    show 0 ≤ yb_ct p n + (if p n = true then 1 else 0) ∧ yb_ct p n + (if p n = true then 1 else 0) ≤ ((n + 1 : Nat) : Int)
    split <;> omega
theorem yb_ct_sp (p q : Nat → Bool) : ∀ n, yb_ct p n = yb_ct (fun j => p j && q j) n + yb_ct (fun j => p j && !q j) n
  | 0 => rfl
  | n + 1 => by
    have h := yb_ct_sp p q n
    show yb_ct p n + (if p n = true then 1 else 0) = (yb_ct (fun j => p j && q j) n + (if (p n && q n) = true then 1 else 0)) + (yb_ct (fun j => p j && !q j) n + (if (p n && !q n) = true then 1 else 0))
    cases p n <;> cases q n <;> simp <;> omega
noncomputable def yb_pc (a : Nat) : Nat → Int
  | 0 => 0
  | n + 1 => yb_pc a n + if a.testBit n = true then 1 else 0
theorem yb_pc_st (p : Nat → Bool) (n : Nat) : ∀ m, yb_pc (yb_st p n) m = yb_ct (fun j => decide (j < n) && p j) m
  | 0 => rfl
  | m + 1 => by
    show yb_pc (yb_st p n) m + (if (yb_st p n).testBit m = true then 1 else 0) = yb_ct (fun j => decide (j < n) && p j) m + (if (decide (m < n) && p m) = true then 1 else 0)
    rw [yb_pc_st p n m, yb_tb]
theorem yb_ct_cut (p : Nat → Bool) (n : Nat) : ∀ d, yb_ct (fun j => decide (j < n) && p j) (n + d) = yb_ct p n
  | 0 => yb_ct_eq n fun j hj => by
    show (decide (j < n) && p j) = p j
    rw [decide_eq_true hj]
    rfl
  | d + 1 => by
    show yb_ct (fun j => decide (j < n) && p j) (n + d) + (if (decide (n + d < n) && p (n + d)) = true then 1 else 0) = yb_ct p n
    rw [yb_ct_cut p n d, decide_eq_false (by omega)]
    exact Int.add_zero _
theorem yb_pc12 (p : Nat → Bool) {n : Nat} (h : n ≤ 12) : yb_pc (yb_st p n) 12 = yb_ct p n := by
  rw [yb_pc_st]
  have h2 := yb_ct_cut p n (12 - n)
  rw [show n + (12 - n) = 12 by omega] at h2
  exact h2
/-! ints of 32 bits -/
theorem yb_i32 {a b : Int} (h1 : -2147483648 ≤ a) (h2 : a ≤ 2147483647) (h3 : -2147483648 ≤ b) (h4 : b ≤ 2147483647) (h : Int32.ofInt a = Int32.ofInt b) : a = b := by
  have h5 := congrArg Int32.toInt h
  rw [Int32.toInt_ofInt_of_le (by omega) (by omega), Int32.toInt_ofInt_of_le (by omega) (by omega)] at h5
  exact h5
theorem yb_andi (a b : Nat) : Int32.ofInt (a : Int) &&& Int32.ofInt (b : Int) = Int32.ofInt ((a &&& b : Nat) : Int) := by
  apply Int32.toBitVec_inj.mp
  rw [Int32.toBitVec_and, Int32.toBitVec_ofInt, Int32.toBitVec_ofInt, Int32.toBitVec_ofInt, BitVec.ofInt_natCast, BitVec.ofInt_natCast, BitVec.ofInt_natCast, BitVec.ofNat_and]
theorem yb_ori (a b : Nat) : Int32.ofInt (a : Int) ||| Int32.ofInt (b : Int) = Int32.ofInt ((a ||| b : Nat) : Int) := by
  apply Int32.toBitVec_inj.mp
  rw [Int32.toBitVec_or, Int32.toBitVec_ofInt, Int32.toBitVec_ofInt, Int32.toBitVec_ofInt, BitVec.ofInt_natCast, BitVec.ofInt_natCast, BitVec.ofInt_natCast, BitVec.ofNat_or]
theorem yb_ande {x y z : Int} {a b : Nat} (ha : x = (a : Int)) (hb : y = (b : Int)) (ha2 : a < 4096) (hz0 : 0 ≤ z) (hz : z ≤ 4095) (h : Int32.ofInt z = Int32.ofInt x &&& Int32.ofInt y) : z = ((a &&& b : Nat) : Int) := by
  rw [ha, hb, yb_andi] at h
  have h2 : a &&& b ≤ a := Nat.and_le_left
  exact yb_i32 (by omega) (by omega) (by omega) (by omega) h
theorem yb_ore {x y z : Int} {a b : Nat} (ha : x = (a : Int)) (hb : y = (b : Int)) (ha2 : a < 4096) (hb2 : b < 4096) (hz0 : 0 ≤ z) (hz : z ≤ 4095) (h : Int32.ofInt z = Int32.ofInt x ||| Int32.ofInt y) : z = ((a ||| b : Nat) : Int) := by
  rw [ha, hb, yb_ori] at h
  have h2 : a ||| b < 2 ^ 12 := Nat.or_lt_two_pow ha2 hb2
  exact yb_i32 (by omega) (by omega) (by omega) (by omega) h
noncomputable def yb_ck1 : Bool := (List.range 13).all fun j => decide (Int32.ofInt 1 <<< (Int32.ofInt (j : Int) &&& 31) = Int32.ofInt ((2 ^ j : Nat) : Int))
theorem yb_ck1_ok : yb_ck1 = true := by decide +kernel
theorem yb_p12 {j : Nat} (h : j ≤ 12) : 2 ^ j ≤ 4096 := Nat.pow_le_pow_right (n := 2) (by decide) h
theorem yb_shl {z j : Int} (h0 : 0 ≤ j) (h1 : j ≤ 12) (hz0 : 0 ≤ z) (hz : z ≤ 4096) (h : Int32.ofInt z = Int32.ofInt 1 <<< (Int32.ofInt j &&& 31)) : z = ((2 ^ j.toNat : Nat) : Int) := by
  have h2 := List.all_eq_true.mp yb_ck1_ok j.toNat (List.mem_range.mpr (by omega))
  have h3 := of_decide_eq_true h2
  rw [show ((j.toNat : Nat) : Int) = j by omega] at h3
  have h4 := yb_p12 (j := j.toNat) (by omega)
  have hn : 0 ≤ ((2 ^ j.toNat : Nat) : Int) := Int.natCast_nonneg _
  exact yb_i32 (by omega) (by omega) (by omega) (by omega) (h.trans h3)
theorem yb_shr {s : Int} {z j : Int} (hs0 : 0 ≤ s) (hs : s ≤ 4095) (h0 : 0 ≤ j) (h1 : j ≤ 11) (hz0 : -2147483648 ≤ z) (hz : z ≤ 2147483647) (h : Int32.ofInt z = Int32.ofInt s >>> (Int32.ofInt j &&& 31)) : z = s / ((2 ^ j.toNat : Nat) : Int) := by
  have h5 := congrArg Int32.toInt h
  rw [Int32.toInt_ofInt_of_le (by omega) (by omega)] at h5
  rw [h5]
  show (BitVec.sshiftRight' (Int32.ofInt s).toBitVec ((Int32.ofInt j &&& 31).toBitVec.smod 32)).toInt = _
  rw [BitVec.toInt_sshiftRight', show (Int32.ofInt s).toBitVec.toInt = s from Int32.toInt_ofInt_of_le (by omega) (by omega), Int.shiftRight_eq_div_pow]
  have h6 : ((Int32.ofInt j &&& 31).toBitVec.smod 32).toNat = j.toNat := by
    rcases (show j = 0 ∨ j = 1 ∨ j = 2 ∨ j = 3 ∨ j = 4 ∨ j = 5 ∨ j = 6 ∨ j = 7 ∨ j = 8 ∨ j = 9 ∨ j = 10 ∨ j = 11 by omega) with q | q | q | q | q | q | q | q | q | q | q | q <;> subst q <;> decide
  rw [h6]
theorem yb_bit {s z w j : Int} {a : Nat} (ha : s = (a : Int)) (ha2 : a < 4096) (h0 : 0 ≤ j) (h1 : j ≤ 11) (hz0 : -2147483648 ≤ z) (hz : z ≤ 2147483647) (hw0 : 0 ≤ w) (hw : w ≤ 1) (h : Int32.ofInt z = Int32.ofInt s >>> (Int32.ofInt j &&& 31)) (h2 : Int32.ofInt w = Int32.ofInt z &&& Int32.ofInt 1) : w = if a.testBit j.toNat = true then 1 else 0 := by
  have h3 := yb_shr (by omega) (by omega) h0 h1 hz0 hz h
  rw [ha] at h3
  have h4 : z = ((a / 2 ^ j.toNat : Nat) : Int) := by rw [h3]; exact (Int.natCast_ediv _ _).symm
  have h7 := yb_andi (a / 2 ^ j.toNat) 1
  rw [show ((1 : Nat) : Int) = 1 from rfl, Nat.and_one_is_mod] at h7
  rw [h4, h7] at h2
  have h5 := yb_i32 (by omega) (by omega) (by omega) (by omega) h2
  rw [h5, Nat.testBit_eq_decide_div_mod_eq]
  by_cases q : a / 2 ^ j.toNat % 2 = 1
  · rw [if_pos (decide_eq_true q)]
    omega
  · rw [if_neg (by rw [decide_eq_false q]; decide)]
    omega
noncomputable def yb_us (x y : Int32) : Int32 := ((x).toUInt32 >>> ((y).toUInt32 &&& Int32.toUInt32 31)).toInt32
noncomputable def yb_b1 (i : Int32) : Int32 := i - (yb_us i (Int32.ofInt 1) &&& Int32.ofInt 1431655765)
noncomputable def yb_b2 (i : Int32) : Int32 := (i &&& Int32.ofInt 858993459) + (yb_us i (Int32.ofInt 2) &&& Int32.ofInt 858993459)
noncomputable def yb_b3 (i : Int32) : Int32 := (i + yb_us i (Int32.ofInt 4)) &&& Int32.ofInt 252645135
noncomputable def yb_b4 (i : Int32) : Int32 := i + yb_us i (Int32.ofInt 8)
noncomputable def yb_b5 (i : Int32) : Int32 := i + yb_us i (Int32.ofInt 16)
noncomputable def yb_bc (i : Int32) : Int32 := yb_b5 (yb_b4 (yb_b3 (yb_b2 (yb_b1 i)))) &&& Int32.ofInt 63
noncomputable def yb_ck2 : Bool := (List.range 4096).all fun a => decide (yb_bc (Int32.ofInt (a : Int)) = Int32.ofInt (yb_pc a 12))
theorem yb_ck2_ok : yb_ck2 = true := by decide +kernel
theorem yb_pc_b (a : Nat) : ∀ n : Nat, 0 ≤ yb_pc a n ∧ yb_pc a n ≤ (n : Int)
  | 0 => ⟨Int.le_refl 0, Int.le_refl 0⟩
  | n + 1 => by
    have h := yb_pc_b a n
    show 0 ≤ yb_pc a n + (if a.testBit n = true then 1 else 0) ∧ yb_pc a n + (if a.testBit n = true then 1 else 0) ≤ ((n + 1 : Nat) : Int)
    split <;> omega
theorem yb_bce {x a1 a2 s1 a3 a4 a5 s2 a6 a7 a8 a9 a10 a11 a12 a13 : Int} (hx0 : 0 ≤ x) (hx : x ≤ 4095) (h0 : 0 ≤ a13) (h63 : a13 ≤ 63) (h1 : Int32.ofInt a1 = yb_us (Int32.ofInt x) (Int32.ofInt 1)) (h2 : Int32.ofInt a2 = Int32.ofInt a1 &&& Int32.ofInt 1431655765) (hs1 : s1 = x - a2) (h3 : Int32.ofInt a3 = Int32.ofInt s1 &&& Int32.ofInt 858993459) (h4 : Int32.ofInt a4 = yb_us (Int32.ofInt s1) (Int32.ofInt 2)) (h5 : Int32.ofInt a5 = Int32.ofInt a4 &&& Int32.ofInt 858993459) (hs2 : s2 = a3 + a5) (h6 : Int32.ofInt a6 = yb_us (Int32.ofInt s2) (Int32.ofInt 4)) (h7 : Int32.ofInt a7 = Int32.ofInt s2 + Int32.ofInt a6) (h8 : Int32.ofInt a8 = Int32.ofInt a7 &&& Int32.ofInt 252645135) (h9 : Int32.ofInt a9 = yb_us (Int32.ofInt a8) (Int32.ofInt 8)) (h10 : Int32.ofInt a10 = Int32.ofInt a8 + Int32.ofInt a9) (h11 : Int32.ofInt a11 = yb_us (Int32.ofInt a10) (Int32.ofInt 16)) (h12 : Int32.ofInt a12 = Int32.ofInt a10 + Int32.ofInt a11) (h13 : Int32.ofInt a13 = Int32.ofInt a12 &&& Int32.ofInt 63) : a13 = yb_pc x.toNat 12 := by
  have q1 : Int32.ofInt s1 = yb_b1 (Int32.ofInt x) := by rw [hs1, Int32.ofInt_sub, h2, h1]; rfl
  have q2 : Int32.ofInt s2 = yb_b2 (Int32.ofInt s1) := by rw [hs2, Int32.ofInt_add, h3, h5, h4]; rfl
  have q3 : Int32.ofInt a8 = yb_b3 (Int32.ofInt s2) := by rw [h8, h7, h6]; rfl
  have q4 : Int32.ofInt a10 = yb_b4 (Int32.ofInt a8) := by rw [h10, h9]; rfl
  have q5 : Int32.ofInt a12 = yb_b5 (Int32.ofInt a10) := by rw [h12, h11]; rfl
  have q6 : Int32.ofInt a13 = yb_bc (Int32.ofInt x) := by rw [h13, q5, q4, q3, q2, q1]; rfl
  have h := of_decide_eq_true (List.all_eq_true.mp yb_ck2_ok x.toNat (List.mem_range.mpr (by omega)))
  rw [show ((x.toNat : Nat) : Int) = x by omega] at h
  have hb := yb_pc_b x.toNat 12
  exact yb_i32 (by omega) (by omega) (by omega) (by omega) (q6.trans h)
/-! what judges say of a point; halving -/
noncomputable def yb_sy (a b c : Nat → Int) (x y k : Int) : Nat → Bool := fun j => decide (yq_sy (a j) (b j) (c j) x y = k)
noncomputable def yb_in (a b c : Nat → Int) (x y k : Nat → Int) : Nat → Nat → Bool
  | 0 => fun _ => true
  | i + 1 => fun j => yb_in a b c x y k i j && yb_sy a b c (x i) (y i) (k i) j
noncomputable def yb_v1 (a b c : Nat → Int) (x y k : Nat → Int) (n i : Nat) : Int := if yb_ct (fun j => yb_in a b c x y k i j && !yb_sy a b c (x i) (y i) 1 j) n < yb_ct (fun j => yb_in a b c x y k i j && yb_sy a b c (x i) (y i) 1 j) n then 1 else 0
noncomputable def yb_ms (a b c : Nat → Int) (x y k : Nat → Int) (n : Nat) : Nat → Int
  | 0 => 0
  | i + 1 => yb_ms a b c x y k n i + if yb_v1 a b c x y k n i = k i then 0 else 1
theorem yb_ms_s {a b c x y k : Nat → Int} {n : Nat} {i m : Int} (hi : 0 ≤ i) (hm : m = i + 1) : yb_ms a b c x y k n m.toNat = yb_ms a b c x y k n i.toNat + if yb_v1 a b c x y k n i.toNat = k i.toNat then 0 else 1 := by
  rw [show m.toNat = i.toNat + 1 by omega]
  rfl
theorem yb_in_s {a b c x y k : Nat → Int} {i m : Int} (hi : 0 ≤ i) (hm : m = i + 1) : yb_in a b c x y k m.toNat = fun j => yb_in a b c x y k i.toNat j && yb_sy a b c (x i.toNat) (y i.toNat) (k i.toNat) j := by
  rw [show m.toNat = i.toNat + 1 by omega]
  rfl
theorem yb_st_s {p : Nat → Bool} {i m : Int} (hi : 0 ≤ i) (hm : m = i + 1) : yb_st p m.toNat = yb_st p i.toNat + if p i.toNat = true then 2 ^ i.toNat else 0 := by
  rw [show m.toNat = i.toNat + 1 by omega]
  rfl
theorem yb_ct_s {p : Nat → Bool} {i m : Int} (hi : 0 ≤ i) (hm : m = i + 1) : yb_ct p m.toNat = yb_ct p i.toNat + if p i.toNat = true then 1 else 0 := by
  rw [show m.toNat = i.toNat + 1 by omega]
  rfl
theorem yb_ms_b {a b c x y k : Nat → Int} {n : Nat} : ∀ i : Nat, 0 ≤ yb_ms a b c x y k n i ∧ yb_ms a b c x y k n i ≤ (i : Int)
  | 0 => ⟨Int.le_refl 0, Int.le_refl 0⟩
  | i + 1 => by
    have h := yb_ms_b (a := a) (b := b) (c := c) (x := x) (y := y) (k := k) (n := n) i
    show 0 ≤ yb_ms a b c x y k n i + (if yb_v1 a b c x y k n i = k i then 0 else 1) ∧ yb_ms a b c x y k n i + (if yb_v1 a b c x y k n i = k i then 0 else 1) ≤ ((i + 1 : Nat) : Int)
    split <;> omega
theorem yb_sy_eq {a b c A B C : Nat → Int} {x y k X Y K : Int} {j : Nat} (ha : a j = A j) (hb : b j = B j) (hc : c j = C j) (hx : x = X) (hy : y = Y) (hk : k = K) : yb_sy a b c x y k j = yb_sy A B C X Y K j := by
  unfold yb_sy
  rw [ha, hb, hc, hx, hy, hk]
theorem yb_in_eq {a b c A B C x y k X Y K : Nat → Int} {j : Nat} (ha : a j = A j) (hb : b j = B j) (hc : c j = C j) : ∀ i : Nat, (∀ q : Nat, q < i → x q = X q) → (∀ q : Nat, q < i → y q = Y q) → (∀ q : Nat, q < i → k q = K q) → yb_in a b c x y k i j = yb_in A B C X Y K i j
  | 0, _, _, _ => rfl
  | i + 1, hx, hy, hk => by
    show (yb_in a b c x y k i j && yb_sy a b c (x i) (y i) (k i) j) = (yb_in A B C X Y K i j && yb_sy A B C (X i) (Y i) (K i) j)
    rw [yb_in_eq ha hb hc i (fun q h => hx q (by omega)) (fun q h => hy q (by omega)) (fun q h => hk q (by omega)), yb_sy_eq ha hb hc (hx i (by omega)) (hy i (by omega)) (hk i (by omega))]
theorem yb_ms_eq {a b c A B C x y k X Y K : Nat → Int} {n : Nat} (ha : ∀ j : Nat, j < n → a j = A j) (hb : ∀ j : Nat, j < n → b j = B j) (hc : ∀ j : Nat, j < n → c j = C j) : ∀ i : Nat, (∀ q : Nat, q < i → x q = X q) → (∀ q : Nat, q < i → y q = Y q) → (∀ q : Nat, q < i → k q = K q) → yb_ms a b c x y k n i = yb_ms A B C X Y K n i
  | 0, _, _, _ => rfl
  | i + 1, hx, hy, hk => by
    show yb_ms a b c x y k n i + (if yb_v1 a b c x y k n i = k i then 0 else 1) = yb_ms A B C X Y K n i + (if yb_v1 A B C X Y K n i = K i then 0 else 1)
    have hv : yb_v1 a b c x y k n i = yb_v1 A B C X Y K n i := by
      unfold yb_v1
      rw [yb_ct_eq n (fun j hj => show (yb_in a b c x y k i j && !yb_sy a b c (x i) (y i) 1 j) = (yb_in A B C X Y K i j && !yb_sy A B C (X i) (Y i) 1 j) by rw [yb_in_eq (ha j hj) (hb j hj) (hc j hj) i (fun q h => hx q (by omega)) (fun q h => hy q (by omega)) (fun q h => hk q (by omega)), yb_sy_eq (ha j hj) (hb j hj) (hc j hj) (hx i (by omega)) (hy i (by omega)) rfl])]
      rw [yb_ct_eq n (fun j hj => show (yb_in a b c x y k i j && yb_sy a b c (x i) (y i) 1 j) = (yb_in A B C X Y K i j && yb_sy A B C (X i) (Y i) 1 j) by rw [yb_in_eq (ha j hj) (hb j hj) (hc j hj) i (fun q h => hx q (by omega)) (fun q h => hy q (by omega)) (fun q h => hk q (by omega)), yb_sy_eq (ha j hj) (hb j hj) (hc j hj) (hx i (by omega)) (hy i (by omega)) rfl])]
    rw [hv, yb_ms_eq ha hb hc i (fun q h => hx q (by omega)) (fun q h => hy q (by omega)) (fun q h => hk q (by omega)), hk i (by omega)]
theorem yb_stin_eq {a b c A B C x y k X Y K : Nat → Int} {n i : Nat} (ha : ∀ j : Nat, j < n → a j = A j) (hb : ∀ j : Nat, j < n → b j = B j) (hc : ∀ j : Nat, j < n → c j = C j) (hx : ∀ q : Nat, q < i → x q = X q) (hy : ∀ q : Nat, q < i → y q = Y q) (hk : ∀ q : Nat, q < i → k q = K q) : yb_st (yb_in a b c x y k i) n = yb_st (yb_in A B C X Y K i) n :=
  yb_st_eq n fun j hj => yb_in_eq (ha j hj) (hb j hj) (hc j hj) i hx hy hk
/-- more than half of those that are in, the class's way -/
theorem yb_v1_x {a b c x y k : Nat → Int} {n i : Nat} : yb_v1 a b c x y k n i = if yb_ct (yb_in a b c x y k i) n < 2 * yb_ct (fun j => yb_in a b c x y k i j && yb_sy a b c (x i) (y i) 1 j) n then 1 else 0 := by
  have h := yb_ct_sp (yb_in a b c x y k i) (yb_sy a b c (x i) (y i) 1) n
  unfold yb_v1
  split <;> split <;> omega
theorem yb_lt {p : Nat → Bool} {n : Nat} (h : n ≤ 12) : yb_st p n < 4096 := Nat.lt_of_lt_of_le (yb_st_lt p n) (yb_p12 h)
theorem yb_pw {j : Nat} (h : j ≤ 11) : 2 ^ j < 4096 := Nat.lt_of_le_of_lt (Nat.pow_le_pow_right (n := 2) (by decide) h) (by decide)
theorem yb_bitp {p : Nat → Bool} {n : Nat} {s z w j : Int} (ha : s = ((yb_st p n : Nat) : Int)) (hn : n ≤ 12) (h0 : 0 ≤ j) (h1 : j < (n : Int)) (hz0 : -2147483648 ≤ z) (hz : z ≤ 2147483647) (hw0 : 0 ≤ w) (hw : w ≤ 1) (h : Int32.ofInt z = Int32.ofInt s >>> (Int32.ofInt j &&& 31)) (h2 : Int32.ofInt w = Int32.ofInt z &&& Int32.ofInt 1) : w = if p j.toNat = true then 1 else 0 := by
  have h3 := yb_bit ha (yb_lt hn) h0 (by omega) hz0 hz hw0 hw h h2
  rw [yb_tb, decide_eq_true (show j.toNat < n by omega), Bool.true_and] at h3
  exact h3
theorem yb_andst {p q : Nat → Bool} {n : Nat} {x y z : Int} (hn : n ≤ 12) (ha : x = ((yb_st p n : Nat) : Int)) (hb : y = ((yb_st q n : Nat) : Int)) (hz0 : 0 ≤ z) (hz : z ≤ 4095) (h : Int32.ofInt z = Int32.ofInt x &&& Int32.ofInt y) : z = ((yb_st (fun j => p j && q j) n : Nat) : Int) := by
  have h2 := yb_ande ha hb (yb_lt hn) hz0 hz h
  rw [yb_and] at h2
  exact h2
theorem yb_orst {p : Nat → Bool} {x y z j m : Int} (h0 : 0 ≤ j) (h11 : j ≤ 11) (hm : m = j + 1) (ha : x = ((yb_st p j.toNat : Nat) : Int)) (hp : p j.toNat = true) (hy0 : 0 ≤ y) (hy1 : y ≤ 4096) (hy : Int32.ofInt y = Int32.ofInt 1 <<< (Int32.ofInt j &&& 31)) (hz0 : 0 ≤ z) (hz : z ≤ 4095) (h : Int32.ofInt z = Int32.ofInt x ||| Int32.ofInt y) : z = ((yb_st p m.toNat : Nat) : Int) := by
  have h1 := yb_shl h0 (by omega) hy0 hy1 hy
  have h2 := yb_ore ha h1 (yb_lt (by omega)) (yb_pw (by omega)) hz0 hz h
  rw [yb_or] at h2
  rw [yb_st_s h0 hm, if_pos hp]
  exact h2
theorem yb_or0 {p : Nat → Bool} {x z j m : Int} (h0 : 0 ≤ j) (h11 : j ≤ 11) (hm : m = j + 1) (ha : x = ((yb_st p j.toNat : Nat) : Int)) (hp : ¬ p j.toNat = true) (hz0 : 0 ≤ z) (hz : z ≤ 4095) (h : Int32.ofInt z = Int32.ofInt x ||| Int32.ofInt 0) : z = ((yb_st p m.toNat : Nat) : Int) := by
  have h2 := yb_ore (b := 0) ha rfl (yb_lt (by omega)) (by decide) hz0 hz h
  rw [Nat.or_zero] at h2
  rw [yb_st_s h0 hm, if_neg hp, Nat.add_zero]
  exact h2
theorem yb_no {p : Nat → Bool} {x j m : Int} (h0 : 0 ≤ j) (hm : m = j + 1) (ha : x = ((yb_st p j.toNat : Nat) : Int)) (hp : ¬ p j.toNat = true) : x = ((yb_st p m.toNat : Nat) : Int) := by
  rw [yb_st_s h0 hm, if_neg hp, Nat.add_zero]
  exact ha
theorem yb_full {z y n : Int} (h0 : 0 ≤ n) (h12 : n ≤ 12) (hy0 : 0 ≤ y) (hy1 : y ≤ 4096) (hy : Int32.ofInt y = Int32.ofInt 1 <<< (Int32.ofInt n &&& 31)) (hz : z = y - 1) : z = ((yb_st (fun _ => true) n.toNat : Nat) : Int) := by
  have h1 := yb_shl h0 h12 hy0 hy1 hy
  have h2 := yb_all n.toNat
  omega
theorem yb_ctp {p : Nat → Bool} {x z j m d : Int} (h0 : 0 ≤ j) (hm : m = j + 1) (ha : x = yb_ct p j.toNat) (hz : z = x + d) (hp : (p j.toNat = true ∧ d = 1) ∨ (¬ p j.toNat = true ∧ d = 0)) : z = yb_ct p m.toNat := by
  rw [yb_ct_s h0 hm, ← ha, hz]
  rcases hp with ⟨q, e⟩ | ⟨q, e⟩
  · rw [if_pos q, e]
  · rw [if_neg q, e]
theorem yb_bcp {p : Nat → Bool} {n : Nat} {x z : Int} (hn : n ≤ 12) (ha : x = ((yb_st p n : Nat) : Int)) (hz : z = yb_pc x.toNat 12) : z = yb_ct p n := by
  rw [hz, ha, show (((yb_st p n : Nat) : Int)).toNat = yb_st p n from rfl, yb_pc12 p hn]
theorem yb_ap {p q : Nat → Bool} {j : Nat} (h : p j = true) (h2 : q j = true) : (fun j => p j && q j) j = true := by
  show (p j && q j) = true
  rw [h, h2]
  rfl
theorem yb_an1 {p q : Nat → Bool} {j : Nat} (h : ¬ p j = true) : ¬ (fun j => p j && q j) j = true := by
  show ¬ (p j && q j) = true
  intro z
  exact h (Bool.and_eq_true_iff.mp z).1
theorem yb_an2 {p q : Nat → Bool} {j : Nat} (h : ¬ q j = true) : ¬ (fun j => p j && q j) j = true := by
  show ¬ (p j && q j) = true
  intro z
  exact h (Bool.and_eq_true_iff.mp z).2
theorem yb_nt {q : Nat → Bool} {j : Nat} (h : ¬ q j = true) : (fun j => !q j) j = true := by
  show (!q j) = true
  cases hq : q j
  · rfl
  · exact absurd hq h
theorem yb_nf {q : Nat → Bool} {j : Nat} (h : q j = true) : ¬ (fun j => !q j) j = true := by
  show ¬ (!q j) = true
  rw [h]
  decide
noncomputable def yb_hv (n a : Int) : Int := if n = 0 then -6 else a
noncomputable def yb_hl (n a o : Int) : Int := if n = 0 then o else a
/-! sums of masses, and what fits -/
noncomputable def yq_ws (px py pc m : Nat → Int) (ax at_ sg : Int) : Nat → Int
  | 0 => 0
  | n + 1 => yq_ws px py pc m ax at_ sg n + if yq_says ax at_ sg (px n) (py n) = pc n then 0 else m n
noncomputable def yq_rs (px py pc m : Nat → Int) (ax at_ sg : Int) : Nat → Int
  | 0 => 0
  | n + 1 => yq_rs px py pc m ax at_ sg n + if yq_says ax at_ sg (px n) (py n) = pc n then m n else 0
noncomputable def yq_tot (m : Nat → Int) : Nat → Int
  | 0 => 0
  | n + 1 => yq_tot m n + m n
theorem yq_ws_s (px py pc m : Nat → Int) (ax at_ sg : Int) {x : Int} (hx : 0 ≤ x) {y : Int} (hy : y = x + 1) : yq_ws px py pc m ax at_ sg y.toNat = yq_ws px py pc m ax at_ sg x.toNat + if yq_says ax at_ sg (px x.toNat) (py x.toNat) = pc x.toNat then 0 else m x.toNat := by
  have : y.toNat = x.toNat + 1 := by omega
  rw [this]
  rfl
theorem yq_rs_s (px py pc m : Nat → Int) (ax at_ sg : Int) {x : Int} (hx : 0 ≤ x) {y : Int} (hy : y = x + 1) : yq_rs px py pc m ax at_ sg y.toNat = yq_rs px py pc m ax at_ sg x.toNat + if yq_says ax at_ sg (px x.toNat) (py x.toNat) = pc x.toNat then m x.toNat else 0 := by
  have : y.toNat = x.toNat + 1 := by omega
  rw [this]
  rfl
theorem yq_tot_s (m : Nat → Int) {x : Int} (hx : 0 ≤ x) {y : Int} (hy : y = x + 1) : yq_tot m y.toNat = yq_tot m x.toNat + m x.toNat := by
  have : y.toNat = x.toNat + 1 := by omega
  rw [this]
  rfl
theorem yq_tws (px py pc m : Nat → Int) (ax at_ sg : Int) : ∀ n, yq_tot m n = yq_ws px py pc m ax at_ sg n + yq_rs px py pc m ax at_ sg n
  | 0 => rfl
  | n + 1 => by
    have := yq_tws px py pc m ax at_ sg n
    show yq_tot m n + m n = (yq_ws px py pc m ax at_ sg n + if yq_says ax at_ sg (px n) (py n) = pc n then 0 else m n) + (yq_rs px py pc m ax at_ sg n + if yq_says ax at_ sg (px n) (py n) = pc n then m n else 0)
    split <;> omega
theorem yq_tot_b (m : Nat → Int) (hm : ∀ k, 0 ≤ m k ∧ m k ≤ 1099511627776) : ∀ n : Nat, 0 ≤ yq_tot m n ∧ yq_tot m n ≤ (n : Int) * 1099511627776
  | 0 => ⟨Int.le_refl 0, Int.le_refl 0⟩
  | n + 1 => by
    have := yq_tot_b m hm n
    have h := hm n
    show 0 ≤ yq_tot m n + m n ∧ yq_tot m n + m n ≤ ((n + 1 : Nat) : Int) * 1099511627776
    omega
theorem yq_rs_n (px py pc m : Nat → Int) (ax at_ sg : Int) (hm : ∀ k, 0 ≤ m k ∧ m k ≤ 1099511627776) : ∀ n : Nat, 0 ≤ yq_rs px py pc m ax at_ sg n
  | 0 => Int.le_refl 0
  | n + 1 => by
    have := yq_rs_n px py pc m ax at_ sg hm n
    have h := hm n
    show 0 ≤ yq_rs px py pc m ax at_ sg n + if yq_says ax at_ sg (px n) (py n) = pc n then m n else 0
    split <;> omega
theorem yq_ws_t (px py pc m : Nat → Int) (ax at_ sg : Int) (hm : ∀ k, 0 ≤ m k ∧ m k ≤ 1099511627776) (n : Nat) : yq_ws px py pc m ax at_ sg n ≤ yq_tot m n := by
  have h1 := yq_tws px py pc m ax at_ sg n
  have h2 := yq_rs_n px py pc m ax at_ sg hm n
  omega
theorem yq_ws_n (px py pc m : Nat → Int) (ax at_ sg : Int) (hm : ∀ k, 0 ≤ m k ∧ m k ≤ 1099511627776) : ∀ n : Nat, 0 ≤ yq_ws px py pc m ax at_ sg n
  | 0 => Int.le_refl 0
  | n + 1 => by
    have := yq_ws_n px py pc m ax at_ sg hm n
    have h := hm n
    show 0 ≤ yq_ws px py pc m ax at_ sg n + if yq_says ax at_ sg (px n) (py n) = pc n then 0 else m n
    split <;> omega
theorem yq_ws_b (px py pc m : Nat → Int) (ax at_ sg : Int) (hm : ∀ k, 0 ≤ m k ∧ m k ≤ 1099511627776) (n : Nat) : 0 ≤ yq_ws px py pc m ax at_ sg n ∧ yq_ws px py pc m ax at_ sg n ≤ (n : Int) * 1099511627776 := by
  have h1 := yq_ws_t px py pc m ax at_ sg hm n
  have h2 := yq_ws_n px py pc m ax at_ sg hm n
  have h3 := yq_tot_b m hm n
  omega
noncomputable def yq_fit (px py pc m : Nat → Int) (ax at_ sg d1 d2 b1 b2 : Int) (j : Nat) : Prop := (yq_says ax at_ sg (px j) (py j) ≠ pc j → (m j).tdiv d1 ≤ (1099511627776 : Int).tdiv b1) ∧ (yq_says ax at_ sg (px j) (py j) = pc j → (m j).tdiv d2 ≤ (1099511627776 : Int).tdiv b2)
theorem yq_fit_c {px py pc m m' : Nat → Int} {ax at_ sg d1 d2 b1 b2 : Int} {j : Nat} (h : m' j = m j) (hf : yq_fit px py pc m ax at_ sg d1 d2 b1 b2 j) : yq_fit px py pc m' ax at_ sg d1 d2 b1 b2 j := by
  unfold yq_fit
  rw [h]
  exact hf
theorem yq_dm {x d b : Int} (hx : 0 ≤ x) (hd : 1 ≤ d) (hb : b ≤ x.tdiv d) : d * b ≤ x := by
  rw [Int.tdiv_eq_ediv_of_nonneg hx] at hb
  have h1 := Int.mul_le_mul_of_nonneg_left hb (show 0 ≤ d by omega)
  have h2 := Int.mul_ediv_self_le (x := x) (k := d) (by omega)
  omega
theorem yq_self {x : Int} (h0 : 0 ≤ x) (h : x ≤ 1099511627776) : x.bmod Int64.size = x := Int.bmod_eq_of_le (by show -((Int64.size : Int) / 2) ≤ x; rw [show ((Int64.size : Nat) : Int) = 18446744073709551616 from rfl]; omega) (by show x < ((Int64.size : Int) + 1) / 2; rw [show ((Int64.size : Nat) : Int) = 18446744073709551616 from rfl]; omega)
theorem yq_bm2 {a b : Int} (ha : 1 ≤ a) (hb : 1 ≤ b) (h : a * b ≤ 1099511627776) : (a * b).bmod Int64.size = a * b ∧ 1 ≤ a * b := by
  have h1 : 0 < a * b := Int.mul_pos (by omega) (by omega)
  exact ⟨yq_self (by omega) h, by omega⟩
theorem yq_fm {m b : Int} (hm : 0 ≤ m) (hb : 1 ≤ b) (h : m ≤ (1099511627776 : Int).tdiv b) : 0 ≤ m * b ∧ m * b ≤ 1099511627776 ∧ (m * b).bmod Int64.size = m * b := by
  have h1 := yq_dm (x := 1099511627776) (by omega) hb h
  have h2 : 0 ≤ m * b := Int.mul_nonneg hm (by omega)
  rw [Int.mul_comm] at h1
  exact ⟨h2, h1, yq_self h2 h1⟩
