/-! contracts with words -/
theorem yt_dcut {K : ys_K} {cuts : List (Nat × yt_T)} {Ga : Nat → yt_G → (Nat → Int) → yt_G → Prop} {Ph : yt_Ph} {pt : Nat → yt_Ps} {g0 : yt_G} {v : yt_VC} {r : Nat → Int} {g : yt_G} {q : Nat × yt_T} (h1 : v.1 < 1000) (h2 : cuts[v.1]? = some q) (h3 : ys_fk (ys_val r K.2.1.2.1.1.length v.2.2.1) q.2.2.1) (h4 : Ga v.1 g0 (ys_val r K.2.1.2.1.1.length v.2.2.1) g) : yt_dd K cuts Ga Ph pt g0 v r g := sorry
theorem yt_dalt {K : ys_K} {cuts : List (Nat × yt_T)} {Ga : Nat → yt_G → (Nat → Int) → yt_G → Prop} {Ph : yt_Ph} {pt : Nat → yt_Ps} {g0 : yt_G} {v : yt_VC} {r : Nat → Int} {g : yt_G} (h1 : ¬ v.1 < 1000) (h2 : v.1 < 2000) (h3 : Ph (v.1 - 1000) (ys_val r K.2.1.2.1.1.length v.2.2.1) g0 g) : yt_dd K cuts Ga Ph pt g0 v r g := sorry
theorem yt_dpre {K : ys_K} {cuts : List (Nat × yt_T)} {Ga : Nat → yt_G → (Nat → Int) → yt_G → Prop} {Ph : yt_Ph} {pt : Nat → yt_Ps} {g0 : yt_G} {v : yt_VC} {r : Nat → Int} {g : yt_G} (h1 : ¬ v.1 < 1000) (h2 : ¬ v.1 < 2000) (h3 : pt (v.1 - 2000) (ys_val r 0 v.2.2.1) (yt_sub v.2.2.2.1 g)) : yt_dd K cuts Ga Ph pt g0 v r g := sorry
def yx_fkp (r : Nat → Int) : List ys_L → Prop
  | [] => True
  | f :: t => 0 ≤ ys_ev r f ∧ yx_fkp r t
theorem yx_fks (r : Nat → Int) : ∀ (l : List ys_L), yx_fkp r l → ys_fk r l := sorry
def yx_hv (tb : yt_Tb) (K : ys_K) (cuts : List (Nat × yt_T)) (Ga : Nat → yt_G → (Nat → Int) → yt_G → Prop) (Ph : yt_Ph) (pt : Nat → yt_Ps) : Nat → List (Nat × yt_T) → List (List yt_VC) → Prop
  | j, q :: x, v :: y => (∀ w ∈ v, yt_hold tb K cuts Ga Ph pt (K.2.1.2.1.1.length + q.2.1.1.length) q.2.1.2.2.1.2 (Ga j) w) ∧ yx_hv tb K cuts Ga Ph pt (j + 1) x y
  | _, _, _ => True
theorem yx_hv_ok {tb : yt_Tb} {K : ys_K} {cuts : List (Nat × yt_T)} {Ga : Nat → yt_G → (Nat → Int) → yt_G → Prop} {Ph : yt_Ph} {pt : Nat → yt_Ps} : ∀ (x : List (Nat × yt_T)) (y : List (List yt_VC)) (i : Nat), yx_hv tb K cuts Ga Ph pt i x y → ∀ (j : Nat) (q : Nat × yt_T), x[j]? = some q → ∀ v ∈ y.getD j [], yt_hold tb K cuts Ga Ph pt (K.2.1.2.1.1.length + q.2.1.1.length) q.2.1.2.2.1.2 (Ga (i + j)) v := sorry
def yx_chs (sh : List ys_C) (calls : List yt_CE) (K : ys_K) (Z : yt_Q) (n : Nat) (vs : List (List yt_VC)) : Bool := yx_kinds sh && (calls.all (fun C => yt_shok C.1.2.2.2 C.2.1 sh) && yt_chk sh calls K Z n vs)
theorem yx_sem {l : Launch} {D : va_G} {cT : Nat → ClassId} {tys : List (ClassId × FieldType)} {sh : List ys_C} {K : ys_K} {calls : List yt_CE} {Z : yt_Q} {tb : yt_Tb} {pt : Nat → yt_Ps} {Ps : yt_Ps} {Ph : yt_Ph} {Ga : Nat → yt_G → (Nat → Int) → yt_G → Prop} {vs : List (List yt_VC)} (hw : yt_Hw tb) (n : Nat) (hy : plainName K.1.1.1.cls = true) (hcode : ∀ q ∈ Z.1, decode K.1.1.2.1 q.1 = .ok q.2) (hty : yx_Ty tys cT) (hLk : ys_Lk K.1.1.1.cls (ys_ws yG K) vwCl Z.2.1.1 Z.2.1.2.1 Z.2.1.2.2.1 Z.2.1.2.2.2.1) (hCq : ∀ v, v ∈ Z.2.1.2.2.2.2 → yt_Cq K.1.1.1.cls (ys_ws yG K) v) (hcalls : ∀ C ∈ calls, yt_Con l D vwCl cT tys yG C.2.1 C.2.2 (pt C.1.2.1) (tb C.1.2.1) ∧ ys_CL K.1.1.1.cls (ys_ws yG K) vwCl C.2.1 yG (if C.1.1.2 = true then .invokestatic C.1.1.1 else .invokevirtual C.1.1.1) C.2.2 ∧ (C.1.2.2.1 = false → ∀ r g, pt C.1.2.1 r g)) (hns : ∀ (j : Nat) (q : Nat × yt_T), Z.2.2.1[j]? = some q → q.2.2.2 = false → ∀ g0 r g, Ga j g0 r g) (hsa : ∀ i, Z.2.2.2.getD i false = false → ∀ r g g', Ph i r g g') (hchk : yx_chs sh calls K Z n vs = true) (hv0 : ∀ v ∈ vs.getD 0 [], yt_hold tb K Z.2.2.1 Ga Ph pt K.2.1.2.1.1.length K.2.1.2.2.2 (fun g0 r g => Ps r g0 ∧ g = g0) v) (hv : yx_hv tb K Z.2.2.1 Ga Ph pt 0 Z.2.2.1 vs.tail) : yt_Con l D vwCl cT tys yG sh K Ps Ph := sorry
theorem yx_methodT {l : Launch} {D : va_G} {cT : Nat → ClassId} {tys : List (ClassId × FieldType)} {sh : List ys_C} {K : ys_K} {calls : List yt_CE} {Z : yt_Q} {tb : yt_Tb} (hw : yt_Hw tb) (n : Nat) (hy : plainName K.1.1.1.cls = true) (hcode : ∀ q ∈ Z.1, decode K.1.1.2.1 q.1 = .ok q.2) (hty : yx_Ty tys cT) (hLk : ys_Lk K.1.1.1.cls (ys_ws yG K) vwCl Z.2.1.1 Z.2.1.2.1 Z.2.1.2.2.1 Z.2.1.2.2.2.1) (hCq : ∀ v, v ∈ Z.2.1.2.2.2.2 → yt_Cq K.1.1.1.cls (ys_ws yG K) v) (hcalls : ∀ C ∈ calls, yt_Con l D vwCl cT tys yG C.2.1 C.2.2 (fun _ _ => True) (tb C.1.2.1) ∧ ys_CL K.1.1.1.cls (ys_ws yG K) vwCl C.2.1 yG (if C.1.1.2 = true then .invokestatic C.1.1.1 else .invokevirtual C.1.1.1) C.2.2) (hchk : yx_chk sh calls K Z n = true) : yx_C l D cT tys sh K := sorry
/-- how many of the first n are c -/
def yq_cnt (f : Nat → Int) (c : Int) : Nat → Int
  | 0 => 0
  | n + 1 => yq_cnt f c n + if f n = c then 1 else 0
theorem yq_cnt_nn (f : Nat → Int) (c : Int) : ∀ n, 0 ≤ yq_cnt f c n := sorry
theorem yq_cnt_le (f : Nat → Int) (c : Int) {m : Nat} : ∀ {n : Nat}, m ≤ n → yq_cnt f c m ≤ yq_cnt f c n := sorry
theorem yq_cnt_s (f : Nat → Int) (c : Int) {x : Int} (hx : 0 ≤ x) {y : Int} (hy : y = x + 1) : yq_cnt f c y.toNat = yq_cnt f c x.toNat + if f x.toNat = c then 1 else 0 := sorry
/-- the numbers of a sheet from a place on, n of them, as far as there are any, are near -/
def yq_near (sh sl : Nat → Int) (s fr n : Int) : Prop := ∀ j : Int, 0 ≤ j → j < n → fr + j < sl s.toNat → -300 ≤ sh (100 * s + fr + j).toNat ∧ sh (100 * s + fr + j).toNat ≤ 300
theorem yq_near_0 {sh sl : Nat → Int} {s fr : Int} : yq_near sh sl s fr 0 := sorry
theorem yq_near_m {sh sl : Nat → Int} {s fr n k : Int} (h : yq_near sh sl s fr n) (hk : k ≤ n) : yq_near sh sl s fr k := sorry
theorem yq_near_s {sh sl : Nat → Int} {s fr n k : Int} (h : yq_near sh sl s fr k) (hk : n = k + 1) (hv : fr + k < sl s.toNat → -300 ≤ sh (100 * s + fr + k).toNat ∧ sh (100 * s + fr + k).toNat ≤ 300) : yq_near sh sl s fr n := sorry
/-- twice the area, with its sign -/
def yq_ar (x y : Nat → Int) (a b c : Nat) : Int := (x b - x a) * (y c - y a) - (y b - y a) * (x c - x a)
theorem yq_ar_sum (x y : Nat → Int) (a b c p : Nat) : yq_ar x y a b c = yq_ar x y a b p + yq_ar x y b c p + yq_ar x y c a p := sorry
def yq_abs (z : Int) : Int := if z < 0 then -z else z
def yq_set (f : Nat → Int) (k : Nat) (z : Int) : Nat → Int := fun j => if j = k then z else f j
def yq_sh (f : Nat → Int) (n : Int) : Prop := ∀ j : Nat, (j : Int) < n → 1 ≤ f j
theorem yq_gup_self {g : yt_G} {k n : Nat} {z : Int} : ys_gup g k n z k = yq_set (g k) n z := sorry
theorem yq_gup_ne {g : yt_G} {k n i : Nat} {z : Int} (h : i ≠ k) : ys_gup g k n z i = g i := sorry
/-- what a step says -/
def yq_ss (at_ sg z : Int) : Int := if at_ < z then (if sg = 0 then 1 else 0) else (if sg = 0 then 0 else 1)
def yq_says (ax at_ sg x y : Int) : Int := if ax = 0 then yq_ss at_ sg x else yq_ss at_ sg y
def yq_shr (s k n : Int) : Int := if 0 ≤ s ∧ s ≤ 3 ∧ 0 ≤ k ∧ k ≤ 3 ∧ n ≤ 100 then (if n < 0 then -4 else n) else -1
def yq_imr (k : Int) : Int := if 0 ≤ k ∧ k ≤ 2 then 0 else -1
def yq_imt (f : Nat → Int) (k : Int) : Nat → Int := if 0 ≤ k ∧ k ≤ 2 then yq_set f k.toNat 1 else f
def yq_bkr (f : Nat → Int) (k : Int) : Int := if 0 ≤ k ∧ k ≤ 2 then (if f k.toNat = 0 then -6 else 0) else -1
theorem yq_gcp_ne {g : yt_G} {s d a b n i : Nat} (h : i ≠ d) : ys_gcp g s d a b n i = g i := sorry
/-- every fourth number is no less than 0 -/
def yq_num (f : Nat → Int) : Prop := ∀ j : Nat, 0 ≤ f (4 * j + 3)
theorem yq_num_set {f : Nat → Int} {n : Nat} {z : Int} (h : yq_num f) (hz : n % 4 = 3 → 0 ≤ z) : yq_num (yq_set f n z) := sorry
theorem yq_cnt_ub (f : Nat → Int) (c : Int) : ∀ n, yq_cnt f c n ≤ (n : Int) := sorry
def yq_jr (a b c n : Int) : Int := if (-1000000 ≤ a ∧ a ≤ 1000000 ∧ -1000000 ≤ b ∧ b ≤ 1000000 ∧ -1000000 ≤ c ∧ c ≤ 1000000) ∧ (a ≠ 0 ∨ b ≠ 0) then (if 12 ≤ n then -5 else n + 1) else -1
def yq_jm (a b c n : Int) : Int := if (-1000000 ≤ a ∧ a ≤ 1000000 ∧ -1000000 ≤ b ∧ b ≤ 1000000 ∧ -1000000 ≤ c ∧ c ≤ 1000000) ∧ (a ≠ 0 ∨ b ≠ 0) then (if 12 ≤ n then n else n + 1) else n
def yq_kp (k i n o : Int) : Int := if k = i then n else o
def yq_pk (f : Nat → Int) (k J a b c : Int) : Int := if 0 ≤ k ∧ k ≤ 2 then (if f k.toNat = 0 then J else (if k = 0 then a else if k = 1 then b else c)) else J
def yq_sg (s k n i o a b : Int) : Int := if (0 ≤ k ∧ k ≤ 3 ∧ n ≤ 100) ∧ s = i then (if n < 0 then a else b) else o
theorem yq_sgT {s k n i S T : Int} (h : (0 ≤ S ∧ T = 1) ∨ (S < 0 ∧ T = 0)) : (0 ≤ yq_sg s k n i S (-1) k ∧ yq_sg s k n i T 0 1 = 1) ∨ (yq_sg s k n i S (-1) k < 0 ∧ yq_sg s k n i T 0 1 = 0) := sorry
theorem yq_sgD {s k n i S K : Int} (h : S < 0 ∨ K = S) : yq_sg s k n i S (-1) k < 0 ∨ yq_sg s k n i K K k = yq_sg s k n i S (-1) k := sorry
theorem yq_sgE {s k n i S L : Int} (h : 0 ≤ S ∨ L = 0) : 0 ≤ yq_sg s k n i S (-1) k ∨ yq_sg s k n i L 0 n = 0 := sorry
def yq_at (s a b c d : Int) : Int := if s = 0 then a else if s = 1 then b else if s = 2 then c else d
theorem yq_at0 (a b c d : Int) : yq_at 0 a b c d = a := sorry
theorem yq_at1 (a b c d : Int) : yq_at 1 a b c d = b := sorry
theorem yq_at2 (a b c d : Int) : yq_at 2 a b c d = c := sorry
theorem yq_at3 (a b c d : Int) : yq_at 3 a b c d = d := sorry
def yq_wr (s i T L : Int) : Int := if 0 ≤ s ∧ s ≤ 3 then (if T = 0 then -2 else if 0 ≤ i ∧ i < L then 0 else -3) else -1
def yq_wm (s i T L : Int) : Int := if 0 ≤ s ∧ s ≤ 3 then (if T < 0 then -2 else if 0 ≤ i ∧ i < L then 0 else -3) else -1
def yq_cr (s f t o m T U L K : Int) : Int := if (0 ≤ s ∧ s ≤ 3) ∧ (0 ≤ t ∧ t ≤ 3) ∧ 0 ≤ m then (if T = 0 ∨ U = 0 then -2 else if (0 ≤ f ∧ f + m ≤ L) ∧ (0 ≤ o ∧ o + m ≤ K) then m else -3) else -1
def yq_cm (s f t o m T U L K : Int) : Int := if (0 ≤ s ∧ s ≤ 3) ∧ (0 ≤ t ∧ t ≤ 3) ∧ 0 ≤ m then (if T < 0 ∨ U < 0 then -2 else if (0 ≤ f ∧ f + m ≤ L) ∧ (0 ≤ o ∧ o + m ≤ K) then m else -3) else -1
def yq_fl (n : Nat) (v : Int) (f : Nat → Int) : Nat → Int := fun j => if j < n then v else f j
theorem yq_fl_z {n : Nat} {v : Int} {f : Nat → Int} (h : n = 0) : yq_fl n v f = f := sorry
theorem yq_fl_s {n m : Nat} {v : Int} {f : Nat → Int} (h : m = n + 1) : yq_set (yq_fl n v f) n v = yq_fl m v f := sorry
def yq_cut (k v : Int) : Int := if k = 0 then (Int32.ofInt (Int32.ofInt v).toInt).toInt8.toInt else if k = 1 then (Int32.ofInt (Int32.ofInt v).toInt).toInt16.toInt else if k = 2 then (Int32.ofInt v).toInt else v
/-- the places from to on, mn of them, are those of f from fr on, cut to k as far as place i; the others are h's -/
def yq_pb (to fr mn i k : Int) (f h : Nat → Int) : Nat → Int := fun j => if to ≤ (j : Int) ∧ (j : Int) < to + mn then (if (j : Int) < i then yq_cut k (f (fr + ((j : Int) - to)).toNat) else f (fr + ((j : Int) - to)).toNat) else h j
def yq_pa (to fr mn k : Int) (f h : Nat → Int) : Nat → Int := fun j => if to ≤ (j : Int) ∧ (j : Int) < to + mn then yq_cut k (f (fr + ((j : Int) - to)).toNat) else h j
theorem yq_pb_0 {to fr mn k : Int} {f h : Nat → Int} (h1 : 0 ≤ to) (h2 : 0 ≤ fr) (h3 : 0 ≤ mn) : va_cpy f h fr.toNat to.toNat mn.toNat = yq_pb to fr mn to k f h := sorry
theorem yq_pb_s {to fr mn i m k : Int} {f h : Nat → Int} (h1 : 0 ≤ to) (h2 : to ≤ i) (h3 : i < to + mn) (h4 : m = i + 1) : yq_set (yq_pb to fr mn i k f h) i.toNat (yq_cut k (yq_pb to fr mn i k f h i.toNat)) = yq_pb to fr mn m k f h := sorry
theorem yq_pb_e {to fr mn i k : Int} {f h : Nat → Int} (h1 : to + mn ≤ i) : yq_pb to fr mn i k f h = yq_pa to fr mn k f h := sorry
def yq_sr (s k n i : Int) (f : Nat → Int) : Nat → Int := if (0 ≤ k ∧ k ≤ 3 ∧ n ≤ 100) ∧ s = i ∧ 0 ≤ n then yq_fl 100 0 f else f
def yq_ml (s n : Int) (f : Nat → Int) : Nat → Int := fun j => if 100 * s ≤ (j : Int) ∧ (j : Int) < 100 * s + n then 0 else f j
theorem yq_ml_0 {s n : Int} {f : Nat → Int} (h : n = 0) : yq_ml s n f = f := sorry
theorem yq_ml_s {s n m x : Int} {f : Nat → Int} (h0 : 0 ≤ s) (h1 : 0 ≤ n) (h2 : m = n + 1) (hx : x = 100 * s + n) : yq_set (yq_ml s n f) x.toNat 0 = yq_ml s m f := sorry
def yq_ms (s k n : Int) (f : Nat → Int) : Nat → Int := if (0 ≤ s ∧ s ≤ 3) ∧ (0 ≤ k ∧ k ≤ 3 ∧ n ≤ 100) then yq_ml s 100 f else f
def yq_mw (s i v T L : Int) (f : Nat → Int) : Nat → Int := if (0 ≤ s ∧ s ≤ 3) ∧ 0 ≤ T ∧ (0 ≤ i ∧ i < L) then yq_set f (100 * s + i).toNat (yq_cut T v) else f
def yq_xw (s i v n T L K : Int) (f : Nat → Int) : Nat → Int := if s = n ∧ T ≠ 0 ∧ (0 ≤ i ∧ i < L) then yq_set f i.toNat (yq_cut K v) else f
def yq_rx (s i L V : Int) : Int := if (0 ≤ s ∧ s ≤ 3) ∧ (0 ≤ i ∧ i < L) then V else -9223372036854775808
def yq_rm (s i T L V : Int) : Int := if (0 ≤ s ∧ s ≤ 3) ∧ 0 ≤ T ∧ (0 ≤ i ∧ i < L) then V else -9223372036854775808
def yq_fat (s : Int) (a b c d : Nat → Int) : Nat → Int := if s = 0 then a else if s = 1 then b else if s = 2 then c else d
def yq_xc (s fr t to mn n T U L K kd : Int) (f h : Nat → Int) : Nat → Int := if (0 ≤ s ∧ s ≤ 3) ∧ t = n ∧ 0 ≤ mn ∧ T ≠ 0 ∧ U ≠ 0 ∧ (0 ≤ fr ∧ fr + mn ≤ L) ∧ (0 ≤ to ∧ to + mn ≤ K) then yq_pa to fr mn kd f h else h
def yq_mc (s fr t to mn T U L K : Int) (f : Nat → Int) : Nat → Int := if (0 ≤ s ∧ s ≤ 3) ∧ (0 ≤ t ∧ t ≤ 3) ∧ 0 ≤ mn ∧ 0 ≤ T ∧ 0 ≤ U ∧ (0 ≤ fr ∧ fr + mn ≤ L) ∧ (0 ≤ to ∧ to + mn ≤ K) then yq_pa (100 * t + to) (100 * s + fr) mn U f f else f
theorem yq_fat0 (a b c d : Nat → Int) : yq_fat 0 a b c d = a := sorry
theorem yq_fat1 (a b c d : Nat → Int) : yq_fat 1 a b c d = b := sorry
theorem yq_fat2 (a b c d : Nat → Int) : yq_fat 2 a b c d = c := sorry
theorem yq_fat3 (a b c d : Nat → Int) : yq_fat 3 a b c d = d := sorry
theorem yq_pa_0 {A B n k : Int} {f : Nat → Int} (h : n = 0) : yq_pa A B n k f f = f := sorry
theorem yq_pa_s {A B n m k x y : Int} {f : Nat → Int} (h0 : 0 ≤ A) (h1 : 0 ≤ n) (h2 : m = n + 1) (hx : x = A + n) (hy : y = B + n) : yq_set (yq_pa A B n k f f) x.toNat (yq_cut k (f y.toNat)) = yq_pa A B m k f f := sorry
theorem yq_shW {s k n L : Int} {i : Nat} {ii : Int} {f F : Nat → Int} (hi : ii = (i : Int)) (hi3 : i ≤ 3) (hL : L ≤ 100) (old : ∀ j : Nat, (j : Int) < L → f j = F (100 * i + j)) : ∀ j : Nat, (j : Int) < yq_sg s k n ii L 0 n → yq_sr s k n ii f j = yq_ms s k n F (100 * i + j) := sorry
theorem yq_wrW {s a v T L K A B S : Int} {i : Nat} {ii : Int} {f F : Nat → Int} (hi : ii = (i : Int)) (hi3 : i ≤ 3) (hL : L ≤ 100) (hT : (0 ≤ S ∧ T = 1) ∨ (S < 0 ∧ T = 0)) (hK : S < 0 ∨ K = S) (hA : s = ii → A = S) (hB : s = ii → B = L) (hB2 : 0 ≤ s → s ≤ 3 → B ≤ 100) (old : ∀ j : Nat, (j : Int) < L → f j = F (100 * i + j)) : ∀ j : Nat, (j : Int) < L → yq_xw s a v ii T L K f j = yq_mw s a v A B F (100 * i + j) := sorry
theorem yq_cpW {s fr t to mn T U L K kd A B L' K' S : Int} {i : Nat} {ii : Int} {f h F : Nat → Int} (hi : ii = (i : Int)) (hi3 : i ≤ 3) (hK : K ≤ 100) (hU : (0 ≤ S ∧ U = 1) ∨ (S < 0 ∧ U = 0)) (hkd : S < 0 ∨ kd = S) (hA : 0 ≤ s → s ≤ 3 → ((0 ≤ A ∧ T = 1) ∨ (A < 0 ∧ T = 0)) ∧ L' = L ∧ L ≤ 100) (hB : t = ii → B = S ∧ K' = K) (hB2 : 0 ≤ t → t ≤ 3 → K' ≤ 100) (hf : 0 ≤ s → s ≤ 3 → ∀ j : Nat, (j : Int) < L → f j = F (100 * s + (j : Int)).toNat) (old : ∀ j : Nat, (j : Int) < K → h j = F (100 * i + j)) : ∀ j : Nat, (j : Int) < K → yq_xc s fr t to mn ii T U L K kd f h j = yq_mc s fr t to mn A B L' K' F (100 * i + j) := sorry
theorem yq_i64 {a b : Int} (h1 : -9223372036854775808 ≤ a) (h2 : a ≤ 9223372036854775807) (h3 : -9223372036854775808 ≤ b) (h4 : b ≤ 9223372036854775807) (h : Int64.ofInt a = Int64.ofInt b) : a = b := sorry
def yq_ptr (x y c n : Int) : Int := if -300 ≤ x ∧ x ≤ 300 ∧ -300 ≤ y ∧ y ≤ 300 ∧ 0 ≤ c ∧ c ≤ 1 then (if 40 ≤ n then -5 else n + 1) else -1
def yq_ptm (x y c n : Int) : Int := if -300 ≤ x ∧ x ≤ 300 ∧ -300 ≤ y ∧ y ≤ 300 ∧ 0 ≤ c ∧ c ≤ 1 then (if 40 ≤ n then n else n + 1) else n
def yq_drr (i n : Int) : Int := if 0 ≤ i ∧ i < n then n - 1 else -1
def yq_drm (i n : Int) : Int := if 0 ≤ i ∧ i < n then n - 1 else n
def yq_par (i c w n : Int) : Int := if (0 ≤ i ∧ i < n) ∧ (0 ≤ c ∧ c ≤ 1) ∧ (1 ≤ w ∧ w ≤ 1000) then 0 else -1
def yq_nz (f : Nat → Int) (L i : Int) : Int := if 0 ≤ i ∧ i < L then f i.toNat else 0
def yq_nr (f : Nat → Int) (a L : Int) : Nat → Int
  | 0 => 1
  | n + 1 => if L ≤ a + (n : Int) ∨ a + (n : Int) < 0 ∨ (-300 ≤ f (a + (n : Int)).toNat ∧ f (a + (n : Int)).toNat ≤ 300) then yq_nr f a L n else 0
theorem yq_nr_0 {f : Nat → Int} {a L : Int} {n : Nat} (h : n = 0) : yq_nr f a L n = 1 := sorry
theorem yq_nr_s {f : Nat → Int} {a L k m : Int} (hk : 0 ≤ k) (hm : m = k + 1) : yq_nr f a L m.toNat = if L ≤ a + k ∨ a + k < 0 ∨ (-300 ≤ f (a + k).toNat ∧ f (a + k).toNat ≤ 300) then yq_nr f a L k.toNat else 0 := sorry
theorem yq_nr_z {f : Nat → Int} {a L : Int} (n : Nat) (h : yq_nr f a L n = 0) : ∀ d : Nat, yq_nr f a L (n + d) = 0 := sorry
theorem yq_nr_g {f : Nat → Int} {a L i : Int} {m k : Int} (h0 : 0 ≤ a) (ha : a ≤ i) (hk : k = i - a) (hm : m = k + 1) (h1 : -300 ≤ yq_nz f L i) (h2 : yq_nz f L i ≤ 300) : yq_nr f a L m.toNat = yq_nr f a L k.toNat := sorry
theorem yq_nr_b {f : Nat → Int} {a L i n : Int} (h0 : 0 ≤ a) (ha : a ≤ i) (hn : i - a < n) (h : yq_nz f L i < -300 ∨ 300 < yq_nz f L i) : yq_nr f a L n.toNat = 0 := sorry
theorem yq_nr_eq {f' f : Nat → Int} {a L' L : Int} (hL : L' = L) (h : ∀ j : Nat, (j : Int) < L → f' j = f j) : ∀ n : Nat, yq_nr f' a L' n = yq_nr f a L n := sorry
def yq_ro (s : Int) (F : Nat → Int) : Nat → Int := fun j => F (100 * s + (j : Int)).toNat
def yq_tr (s fr m c T L q n : Int) : Int := if (0 ≤ s ∧ s ≤ 3) ∧ (0 ≤ c ∧ c ≤ 1) ∧ (1 ≤ m ∧ m ≤ 40) then (if T = 0 then -2 else if 0 ≤ fr ∧ fr + 2 * m - 2 < L then (if q = 0 then -1 else if 40 < n + m then -5 else n + m) else -3) else -1
def yq_tm (s fr m c T L q n : Int) : Int := if (0 ≤ s ∧ s ≤ 3) ∧ (0 ≤ c ∧ c ≤ 1) ∧ (1 ≤ m ∧ m ≤ 40) then (if T < 0 then -2 else if 0 ≤ fr ∧ fr + 2 * m - 2 < L then (if q = 0 then -1 else if 40 < n + m then -5 else n + m) else -3) else -1
def yq_tn (a n : Int) : Int := if 0 < a then a else n
theorem yq_tk_eq {s fr m c T S L L' q n : Int} (h1 : (0 ≤ S ∧ T = 1) ∨ (S < 0 ∧ T = 0)) (h2 : L' = L) : yq_tm s fr m c S L' q n = yq_tr s fr m c T L q n := sorry
theorem yq_tm_no {s fr m c T L q n : Int} (h : ¬ (0 ≤ s ∧ s ≤ 3)) : yq_tm s fr m c T L q n = -1 := sorry
theorem yq_tr_no {s fr m c T L q n : Int} (h : ¬ (0 ≤ s ∧ s ≤ 3)) : yq_tr s fr m c T L q n = -1 := sorry
theorem yq_at_n (f : Nat → Int) {s : Int} (h0 : 0 ≤ s) (h3 : s ≤ 3) : yq_at s (f 0) (f 1) (f 2) (f 3) = f s.toNat := sorry
def yq_ad (x y c n : Int) (f : Nat → Int) (v : Int) : Nat → Int := if (-300 ≤ x ∧ x ≤ 300 ∧ -300 ≤ y ∧ y ≤ 300 ∧ 0 ≤ c ∧ c ≤ 1) ∧ n < 40 then yq_set f n.toNat v else f
theorem yq_adW {x y c n n' v : Int} {f F : Nat → Int} (hn : 0 ≤ n) (h : ∀ j : Nat, (j : Int) < n → f j = F j) (hn' : n' = yq_ptm x y c n) : ∀ j : Nat, (j : Int) < n' → yq_ad x y c n f v j = yq_ad x y c n F v j := sorry
def yq_sf (i k : Int) (f : Nat → Int) : Nat → Int := fun j => if i ≤ (j : Int) ∧ (j : Int) < k then f (j + 1) else f j
def yq_dp (i n : Int) (f : Nat → Int) : Nat → Int := if 0 ≤ i ∧ i < n then yq_sf i (n - 1) f else f
theorem yq_sf_0 {i : Int} {f : Nat → Int} : f = yq_sf i i f := sorry
theorem yq_sf_s {i k m : Int} {f : Nat → Int} (hi : 0 ≤ i) (h : i ≤ k) (hm : m = k + 1) : yq_set (yq_sf i k f) k.toNat (yq_sf i k f (k + 1).toNat) = yq_sf i m f := sorry
theorem yq_dpW {i n n' : Int} {f F : Nat → Int} (h : ∀ j : Nat, (j : Int) < n → f j = F j) (hn' : n' = yq_drm i n) : ∀ j : Nat, (j : Int) < n' → yq_dp i n f j = yq_dp i n F j := sorry
def yq_pn (i c w n : Int) (f : Nat → Int) (v : Int) : Nat → Int := if (0 ≤ i ∧ i < n) ∧ (0 ≤ c ∧ c ≤ 1) ∧ (1 ≤ w ∧ w ≤ 1000) then yq_set f i.toNat v else f
theorem yq_pnW {i c w n v : Int} {f F : Nat → Int} (h : ∀ j : Nat, (j : Int) < n → f j = F j) : ∀ j : Nat, (j : Int) < n → yq_pn i c w n f v j = yq_pn i c w n F v j := sorry
/-- the places from n on below a are those of v, the others f's -/
def yq_ap (a n : Int) (v f : Nat → Int) : Nat → Int := fun j => if n ≤ (j : Int) ∧ (j : Int) < a then v j else f j
def yq_vx (row : Nat → Int) (L fr n o : Int) : Nat → Int := fun j => yq_nz row L (fr + 2 * ((j : Int) - n) + o)
theorem yq_ap_0 {a n : Int} {v f : Nat → Int} (h : a ≤ n) : f = yq_ap a n v f := sorry
theorem yq_ap_s {a n m z : Int} {v f : Nat → Int} (h0 : 0 ≤ n) (h : n ≤ a) (hm : m = a + 1) (hz : z = v a.toNat) : yq_set (yq_ap a n v f) a.toNat z = yq_ap m n v f := sorry
theorem yq_apW {a a' n n' : Int} {v v' f F : Nat → Int} (h : ∀ j : Nat, (j : Int) < n → f j = F j) (ha : a' = a) (hn : n' = n) (hv : ∀ j : Nat, n ≤ (j : Int) → (j : Int) < a → v j = v' j) : ∀ j : Nat, (j : Int) < a → yq_ap a n v f j = yq_ap a' n' v' F j := sorry
theorem yq_nz_eq {f' f : Nat → Int} {L' L i : Int} (hL : L' = L) (h : ∀ j : Nat, (j : Int) < L → f' j = f j) : yq_nz f' L' i = yq_nz f L i := sorry
theorem yq_nr_in {f : Nat → Int} {a L : Int} (h0 : 0 ≤ a) : ∀ n : Nat, yq_nr f a L n = 1 → ∀ i : Int, a ≤ i → i < a + (n : Int) → -300 ≤ yq_nz f L i ∧ yq_nz f L i ≤ 300 := sorry
theorem yq_i32 {v : Int} (h1 : -300 ≤ v) (h2 : v ≤ 300) : (Int32.ofInt v).toInt = v := sorry
def yq_q4 (a b c d : Nat → Int) (q : Int) : Int := if q % 4 = 0 then a (q / 4).toNat else if q % 4 = 1 then b (q / 4).toNat else if q % 4 = 2 then c (q / 4).toNat else d (q / 4).toNat
theorem yq_q4_0 {a b c d : Nat → Int} {q : Int} (h : q % 4 = 0) : yq_q4 a b c d q = a (q / 4).toNat := sorry
theorem yq_q4_1 {a b c d : Nat → Int} {q : Int} (h : q % 4 = 1) : yq_q4 a b c d q = b (q / 4).toNat := sorry
theorem yq_q4_2 {a b c d : Nat → Int} {q : Int} (h : q % 4 = 2) : yq_q4 a b c d q = c (q / 4).toNat := sorry
theorem yq_q4_3 {a b c d : Nat → Int} {q : Int} (h : q % 4 = 3) : yq_q4 a b c d q = d (q / 4).toNat := sorry
def yq_ib (k i : Int) (a b c d f : Nat → Int) : Nat → Int := fun q => if 160 * k ≤ (q : Int) ∧ (q : Int) < 160 * k + 4 * i then yq_q4 a b c d ((q : Int) - 160 * k) else f q
def yq_im (k n : Int) (a b c d f : Nat → Int) : Nat → Int := if 0 ≤ k ∧ k ≤ 2 then yq_ib k n a b c d f else f
theorem yq_ib_0 {k : Int} {a b c d f : Nat → Int} : f = yq_ib k 0 a b c d f := sorry
theorem yq_ib_s {k i m q0 q1 q2 q3 va vb vc vd : Int} {a b c d f : Nat → Int} (hk : 0 ≤ k) (hi : 0 ≤ i) (hm : m = i + 1) (h0 : q0 = 160 * k + 4 * i) (h1 : q1 = q0 + 1) (h2 : q2 = q0 + 2) (h3 : q3 = q0 + 3) (ha : va = a i.toNat) (hb : vb = b i.toNat) (hc : vc = c i.toNat) (hd : vd = d i.toNat) : yq_set (yq_set (yq_set (yq_set (yq_ib k i a b c d f) q0.toNat va) q1.toNat vb) q2.toNat vc) q3.toNat vd = yq_ib k m a b c d f := sorry
/-- the kept points of class and reference, behind image -/
theorem yq_imW {k n Q ii o : Int} {i oo : Nat} {a b c d e x K f : Nat → Int} (hi : ii = (i : Int)) (hi2 : i ≤ 2) (ho : o = (oo : Int)) (ho3 : oo ≤ 3) (hn : n ≤ 40) (hQ : Q ≤ 40) (hs : ∀ q : Int, q % 4 = o → yq_q4 a b c d q = e (q / 4).toNat) (hx : ∀ j : Nat, (j : Int) < n → x j = e j) (hK : ∀ j : Nat, (j : Int) < Q → K j = f (160 * i + 4 * j + oo)) : ∀ j : Nat, (j : Int) < yq_kp k ii n Q → yq_kp k ii (x j) (K j) = yq_im k n a b c d f (160 * i + 4 * j + oo) := sorry
def yq_bb (k i o : Int) (N f : Nat → Int) : Nat → Int := fun j => if (j : Int) < i then N (160 * k + 4 * (j : Int) + o).toNat else f j
def yq_bm (t : Nat → Int) (k n o : Int) (N f : Nat → Int) : Nat → Int := if 0 ≤ k ∧ k ≤ 2 ∧ t k.toNat ≠ 0 then yq_bb k n o N f else f
theorem yq_bb_0 {k o : Int} {N f : Nat → Int} : f = yq_bb k 0 o N f := sorry
theorem yq_bb_s {k i m o z : Int} {N f : Nat → Int} (hi : 0 ≤ i) (hm : m = i + 1) (hz : z = N (160 * k + 4 * i + o).toNat) : yq_set (yq_bb k i o N f) i.toNat z = yq_bb k m o N f := sorry
/-- the points of class and reference, behind back -/
theorem yq_bkW {k n Q0 Q1 Q2 o : Int} {oo : Nat} {t x K0 K1 K2 F N : Nat → Int} (ho : o = (oo : Int)) (h : ∀ j : Nat, (j : Int) < n → x j = F j) (h0 : ∀ j : Nat, (j : Int) < Q0 → K0 j = N (160 * 0 + 4 * j + oo)) (h1 : ∀ j : Nat, (j : Int) < Q1 → K1 j = N (160 * 1 + 4 * j + oo)) (h2 : ∀ j : Nat, (j : Int) < Q2 → K2 j = N (160 * 2 + 4 * j + oo)) : ∀ j : Nat, (j : Int) < yq_pk t k n Q0 Q1 Q2 → yq_pk t k (x j) (K0 j) (K1 j) (K2 j) = yq_bm t k (yq_pk t k n Q0 Q1 Q2) o N F j := sorry
def yq_of (i w n : Int) (a b c d : Nat → Int) : Int := if (0 ≤ i ∧ i < n) ∧ (0 ≤ w ∧ w ≤ 3) then (if w = 0 then a i.toNat else if w = 1 then b i.toNat else if w = 2 then c i.toNat else d i.toNat) else -1000
theorem yq_ofW {i w n : Int} {a b c d A B C D : Nat → Int} (ha : ∀ j : Nat, (j : Int) < n → a j = A j) (hb : ∀ j : Nat, (j : Int) < n → b j = B j) (hc : ∀ j : Nat, (j : Int) < n → c j = C j) (hd : ∀ j : Nat, (j : Int) < n → d j = D j) : yq_of i w n a b c d = yq_of i w n A B C D := sorry
/-- how many of the first n are c; the sum of the first n -/
def yq_su (f : Nat → Int) : Nat → Int
  | 0 => 0
  | n + 1 => yq_su f n + f n
theorem yq_su_s {f : Nat → Int} {k m : Int} (hk : 0 ≤ k) (hm : m = k + 1) : yq_su f m.toNat = yq_su f k.toNat + f k.toNat := sorry
theorem yq_cn_eq {f F : Nat → Int} {c : Int} : ∀ n : Nat, (∀ j : Nat, j < n → f j = F j) → yq_cnt f c n = yq_cnt F c n := sorry
theorem yq_su_eq {f F : Nat → Int} : ∀ n : Nat, (∀ j : Nat, j < n → f j = F j) → yq_su f n = yq_su F n := sorry
theorem yq_gcp_self {g : yt_G} {s d a b n : Nat} : ys_gcp g s d a b n d = va_cpy (g s) (g d) a b n := sorry
theorem yq_cp40 {f h : Nat → Int} {a b n j : Nat} (ha : a = 0) (hb : b = 0) (hn : n = 40) (hj : j < 40) : va_cpy f h a b n j = f j := sorry
def yq_ct (z : Int) : Nat → Int := fun _ => z
theorem yq_nz_v {f : Nat → Int} {L i : Int} (h0 : 0 ≤ i) (h : i < L) : yq_nz f L i = f i.toNat := sorry
theorem yq_nz_o {f : Nat → Int} {L i : Int} (h : L ≤ i) : yq_nz f L i = 0 := sorry
theorem yq_vx_e {row : Nat → Int} {L fr n o i : Int} {j : Nat} (h : i = fr + 2 * ((j : Int) - n) + o) : yq_vx row L fr n o j = yq_nz row L i := sorry
def yq_t4 (s a b c d : Int) : Int := if s ≤ 0 then 0 else if s = 1 then a else if s = 2 then a + b else if s = 3 then a + b + c else a + b + c + d
def yq_sc (f : Nat → Int) : Nat → Int
  | 0 => 0
  | n + 1 => yq_sc f n + if 0 ≤ f n then 1 else 0
theorem yq_sc_s {f : Nat → Int} {k m : Int} (hk : 0 ≤ k) (hm : m = k + 1) : yq_sc f m.toNat = yq_sc f k.toNat + if 0 ≤ f k.toNat then 1 else 0 := sorry
theorem yq_sc_b {f : Nat → Int} : ∀ n : Nat, 0 ≤ yq_sc f n ∧ yq_sc f n ≤ (n : Int) := sorry
def yq_co (w a b c d e f : Int) : Int := if w = 0 then a else if w = 1 then b else if w = 2 then c else if w = 3 then d else if w = 4 then e else if w = 5 then f else -1
theorem yq_t4W {a b c d : Int} {f : Nat → Int} (h0 : (0 ≤ f 0 ∧ a = 1) ∨ (f 0 < 0 ∧ a = 0)) (h1 : (0 ≤ f 1 ∧ b = 1) ∨ (f 1 < 0 ∧ b = 0)) (h2 : (0 ≤ f 2 ∧ c = 1) ∨ (f 2 < 0 ∧ c = 0)) (h3 : (0 ≤ f 3 ∧ d = 1) ∨ (f 3 < 0 ∧ d = 0)) : a + b + c + d = yq_sc f 4 := sorry
def yq_r1 (a b c x y k : Int) : Int := if k = 1 then (if c < a * x + b * y then 0 else 1) else (if a * x + b * y < c then 0 else 1)
def yq_ck (a b c : Int) (x y k : Nat → Int) : Nat → Int
  | 0 => 0
  | n + 1 => yq_ck a b c x y k n + yq_r1 a b c (x n) (y n) (k n)
theorem yq_ck_s {a b c i m : Int} {x y k : Nat → Int} (hi : 0 ≤ i) (hm : m = i + 1) : yq_ck a b c x y k m.toNat = yq_ck a b c x y k i.toNat + yq_r1 a b c (x i.toNat) (y i.toNat) (k i.toNat) := sorry
def yq_sy (a b c x y : Int) : Int := if c < a * x + b * y then 1 else if a * x + b * y < c then 0 else -1
def yq_cq (a b c : Int) (x y k : Nat → Int) : Nat → Int
  | 0 => 0
  | n + 1 => yq_cq a b c x y k n + if yq_sy a b c (x n) (y n) = k n then 0 else 1
theorem yq_cq_s {a b c i m : Int} {x y k : Nat → Int} (hi : 0 ≤ i) (hm : m = i + 1) : yq_cq a b c x y k m.toNat = yq_cq a b c x y k i.toNat + if yq_sy a b c (x i.toNat) (y i.toNat) = k i.toNat then 0 else 1 := sorry
def yq_ln (a b c v : Int) : Int := if (-1000000 ≤ a ∧ a ≤ 1000000 ∧ -1000000 ≤ b ∧ b ≤ 1000000 ∧ -1000000 ≤ c ∧ c ≤ 1000000) ∧ (a ≠ 0 ∨ b ≠ 0) then v else -1
theorem yq_ckW {a b c : Int} {x y k X Y K : Nat → Int} (hk : ∀ j, 0 ≤ k j ∧ k j ≤ 1) : ∀ n : Nat, (∀ j : Nat, j < n → x j = X j) → (∀ j : Nat, j < n → y j = Y j) → (∀ j : Nat, j < n → k j = K j) → yq_ck a b c x y k n = yq_cq a b c X Y K n := sorry
def yq_b6 (z : Int) : Int := z.bmod Int64.size
theorem yq_b6_e {a b c : Int} (h : a = b.bmod Int64.size) (hb : b = c) : a = yq_b6 c := sorry
def yq_ng (z : Int) : Int := (Int32.ofInt (-z)).toInt
def yq_nm (z : Int) : Int := -z
theorem yq_ng_e {z : Int} (h1 : -2147483647 ≤ z) (h2 : z ≤ 2147483647) : yq_ng z = yq_nm z := sorry
def yq_hg (p q r x y : Int) : Int := yq_b6 (yq_b6 (yq_b6 (p * x) + yq_b6 (q * y)) + r)
theorem yq_hg_e {p q r x y a b c d : Int} (ha : a = (p * x).bmod Int64.size) (hb : b = (q * y).bmod Int64.size) (hc : c = (a + b).bmod Int64.size) (hd : d = (c + r).bmod Int64.size) : d = yq_hg p q r x y := sorry
def yq_l1 (ng : Int → Int) (x y k : Int) (s : Int × Int × Int × Int) : Int × Int × Int × Int := if k = 1 then (if yq_hg s.1 s.2.1 s.2.2.1 x y ≤ 0 then (yq_b6 (s.1 + x), yq_b6 (s.2.1 + y), yq_b6 (s.2.2.1 + 1), s.2.2.2 + 1) else s) else (if 0 ≤ yq_hg s.1 s.2.1 s.2.2.1 x y then (yq_b6 (s.1 + ng x), yq_b6 (s.2.1 + ng y), yq_b6 (s.2.2.1 + -1), s.2.2.2 + 1) else s)
theorem yq_l1_y {ng : Int → Int} {x y k p q r f h p' q' r' f' : Int} (hk : k = 1) (hh : h = yq_hg p q r x y) (h0 : h ≤ 0) (hp : p' = yq_b6 (p + x)) (hq : q' = yq_b6 (q + y)) (hr : r' = yq_b6 (r + 1)) (hf : f' = f + 1) : (p', q', r', f') = yq_l1 ng x y k (p, q, r, f) := sorry
theorem yq_l1_n {ng : Int → Int} {x y k p q r f h p' q' r' f' : Int} (hk : k ≠ 1) (hh : h = yq_hg p q r x y) (h0 : 0 ≤ h) (hp : p' = yq_b6 (p + ng x)) (hq : q' = yq_b6 (q + ng y)) (hr : r' = yq_b6 (r + -1)) (hf : f' = f + 1) : (p', q', r', f') = yq_l1 ng x y k (p, q, r, f) := sorry
theorem yq_l1_a {ng : Int → Int} {x y k p q r f h : Int} (hk : k = 1) (hh : h = yq_hg p q r x y) (h0 : ¬ h ≤ 0) : (p, q, r, f) = yq_l1 ng x y k (p, q, r, f) := sorry
theorem yq_l1_b {ng : Int → Int} {x y k p q r f h : Int} (hk : k ≠ 1) (hh : h = yq_hg p q r x y) (h0 : ¬ 0 ≤ h) : (p, q, r, f) = yq_l1 ng x y k (p, q, r, f) := sorry
def yq_lr (ng : Int → Int) (x y k : Nat → Int) (s : Int × Int × Int × Int) : Nat → Int × Int × Int × Int
  | 0 => s
  | n + 1 => yq_l1 ng (x n) (y n) (k n) (yq_lr ng x y k s n)
theorem yq_lr_s {ng : Int → Int} {x y k : Nat → Int} {s : Int × Int × Int × Int} {i m : Int} (hi : 0 ≤ i) (hm : m = i + 1) : yq_lr ng x y k s m.toNat = yq_l1 ng (x i.toNat) (y i.toNat) (k i.toNat) (yq_lr ng x y k s i.toNat) := sorry
theorem yq_lrW {x y k X Y K : Nat → Int} {s : Int × Int × Int × Int} (hX : ∀ j, -2147483647 ≤ X j ∧ X j ≤ 2147483647) (hY : ∀ j, -2147483647 ≤ Y j ∧ Y j ≤ 2147483647) : ∀ n : Nat, (∀ j : Nat, j < n → x j = X j) → (∀ j : Nat, j < n → y j = Y j) → (∀ j : Nat, j < n → k j = K j) → yq_lr yq_ng x y k s n = yq_lr yq_nm X Y K s n := sorry
def yq_t1 (ng : Int → Int) (x y k : Nat → Int) (n : Nat) (s : Int × Int × Int × Int × Int × Int) : Int × Int × Int × Int × Int × Int := if s.2.2.2.2.2 = 0 then s else ((yq_lr ng x y k (s.1, s.2.1, s.2.2.1, 0) n).1, (yq_lr ng x y k (s.1, s.2.1, s.2.2.1, 0) n).2.1, (yq_lr ng x y k (s.1, s.2.1, s.2.2.1, 0) n).2.2.1, s.2.2.2.1 + (yq_lr ng x y k (s.1, s.2.1, s.2.2.1, 0) n).2.2.2, yq_b6 (s.2.2.2.2.1 + 1), if (yq_lr ng x y k (s.1, s.2.1, s.2.2.1, 0) n).2.2.2 = 0 then 0 else 1)
def yq_tt (ng : Int → Int) (x y k : Nat → Int) (n : Nat) (s : Int × Int × Int × Int × Int × Int) : Nat → Int × Int × Int × Int × Int × Int
  | 0 => s
  | m + 1 => yq_t1 ng x y k n (yq_tt ng x y k n s m)
theorem yq_tt_s {ng : Int → Int} {x y k : Nat → Int} {n : Nat} {s : Int × Int × Int × Int × Int × Int} {i m : Int} (hi : 0 ≤ i) (hm : m = i + 1) : yq_tt ng x y k n s m.toNat = yq_t1 ng x y k n (yq_tt ng x y k n s i.toNat) := sorry
theorem yq_t1_e {ng : Int → Int} {x y k : Nat → Int} {n : Nat} {p q r sm rd go p' q' r' f sm' rd' go' : Int} (h1 : go = 1) (h : (p', q', r', f) = yq_lr ng x y k (p, q, r, 0) n) (hs : sm' = sm + f) (hr : rd' = yq_b6 (rd + 1)) (hg : go' = if f = 0 then 0 else 1) : (p', q', r', sm', rd', go') = yq_t1 ng x y k n (p, q, r, sm, rd, go) := sorry
theorem yq_tt_st {ng : Int → Int} {x y k : Nat → Int} {n : Nat} {s : Int × Int × Int × Int × Int × Int} {m : Nat} (h : (yq_tt ng x y k n s m).2.2.2.2.2 = 0) : ∀ d : Nat, yq_tt ng x y k n s (m + d) = yq_tt ng x y k n s m := sorry
theorem yq_ttW {x y k X Y K : Nat → Int} {n : Nat} {s : Int × Int × Int × Int × Int × Int} (hX : ∀ j, -2147483647 ≤ X j ∧ X j ≤ 2147483647) (hY : ∀ j, -2147483647 ≤ Y j ∧ Y j ≤ 2147483647) (h1 : ∀ j : Nat, j < n → x j = X j) (h2 : ∀ j : Nat, j < n → y j = Y j) (h3 : ∀ j : Nat, j < n → k j = K j) : ∀ m : Nat, yq_tt yq_ng x y k n s m = yq_tt yq_nm X Y K n s m := sorry
def yq_le (m a b : Int) : Int := if 0 ≤ m ∧ m ≤ 1000 then a else b
def yq_lt (w p q r a b : Int) : Int := if w = 0 then p else if w = 1 then q else if w = 2 then r else if w = 3 then a else if w = 4 then b else -1000000
def yq_il (k w p q r a b : Int) (f : Nat → Int) : Nat → Int := fun j => if 5 * k ≤ (j : Int) ∧ (j : Int) < 5 * k + w then yq_lt ((j : Int) - 5 * k) p q r a b else f j
def yq_im5 (k p q r a b : Int) (f : Nat → Int) : Nat → Int := if 0 ≤ k ∧ k ≤ 2 then yq_il k 5 p q r a b f else f
theorem yq_il_0 {k p q r a b : Int} {f : Nat → Int} : f = yq_il k 0 p q r a b f := sorry
theorem yq_il_s {k w m p q r a b z i : Int} {f : Nat → Int} (hk : 0 ≤ k) (hw : 0 ≤ w) (hm : m = w + 1) (hi : i = 5 * k + w) (hz : z = yq_lt w p q r a b) : yq_set (yq_il k w p q r a b f) i.toNat z = yq_il k m p q r a b f := sorry
theorem yq_imL {k p q r a b z o ii : Int} {i w : Nat} {f : Nat → Int} (hi : ii = (i : Int)) (hi2 : i ≤ 2) (hw : w ≤ 4) (hz : z = yq_lt (w : Int) p q r a b) (ho : o = f (5 * i + w)) : yq_kp k ii z o = yq_im5 k p q r a b f (5 * i + w) := sorry
theorem yq_ltw0 {p q r a b : Int} : yq_lt ((0 : Nat) : Int) p q r a b = p := sorry
theorem yq_ltw1 {p q r a b : Int} : yq_lt ((1 : Nat) : Int) p q r a b = q := sorry
theorem yq_ltw2 {p q r a b : Int} : yq_lt ((2 : Nat) : Int) p q r a b = r := sorry
theorem yq_ltw3 {p q r a b : Int} : yq_lt ((3 : Nat) : Int) p q r a b = a := sorry
theorem yq_ltw4 {p q r a b : Int} : yq_lt ((4 : Nat) : Int) p q r a b = b := sorry
/-! halves -/
def yq_hl (x y c : Nat → Int) (i k : Nat) (q : Int) : Nat → Int
  | 0 => 0
  | n + 1 => yq_hl x y c i k q n + if c n = q ∧ 0 < yq_ar x y i k n then 1 else 0
def yq_hr (x y c : Nat → Int) (i k : Nat) (q : Int) : Nat → Int
  | 0 => 0
  | n + 1 => yq_hr x y c i k q n + if c n = q ∧ yq_ar x y i k n < 0 then 1 else 0
theorem yq_hl_s {x y c : Nat → Int} {i k : Nat} {q j m : Int} (hj : 0 ≤ j) (hm : m = j + 1) : yq_hl x y c i k q m.toNat = yq_hl x y c i k q j.toNat + if c j.toNat = q ∧ 0 < yq_ar x y i k j.toNat then 1 else 0 := sorry
theorem yq_hr_s {x y c : Nat → Int} {i k : Nat} {q j m : Int} (hj : 0 ≤ j) (hm : m = j + 1) : yq_hr x y c i k q m.toNat = yq_hr x y c i k q j.toNat + if c j.toNat = q ∧ yq_ar x y i k j.toNat < 0 then 1 else 0 := sorry
theorem yq_ar_eq {x y X Y : Nat → Int} {a b c : Nat} (ha : x a = X a) (hb : x b = X b) (hc : x c = X c) (ha' : y a = Y a) (hb' : y b = Y b) (hc' : y c = Y c) : yq_ar x y a b c = yq_ar X Y a b c := sorry
theorem yq_hl_eq {x y c X Y C : Nat → Int} {i k n : Nat} {q : Int} (hx : ∀ j : Nat, j < n → x j = X j) (hy : ∀ j : Nat, j < n → y j = Y j) (hc : ∀ j : Nat, j < n → c j = C j) (hi : i < n) (hk : k < n) : ∀ m : Nat, m ≤ n → yq_hl x y c i k q m = yq_hl X Y C i k q m := sorry
theorem yq_hr_eq {x y c X Y C : Nat → Int} {i k n : Nat} {q : Int} (hx : ∀ j : Nat, j < n → x j = X j) (hy : ∀ j : Nat, j < n → y j = Y j) (hc : ∀ j : Nat, j < n → c j = C j) (hi : i < n) (hk : k < n) : ∀ m : Nat, m ≤ n → yq_hr x y c i k q m = yq_hr X Y C i k q m := sorry
def yq_hf (x y c : Nat → Int) (n i k : Nat) (q t : Int) : Prop := 2 * yq_hl x y c i k q n ≤ t ∧ 2 * yq_hr x y c i k q n ≤ t
def yq_hP (x y c : Nat → Int) (n : Nat) (n1 n0 : Int) (i k : Nat) : Prop := ¬ (x i = x k ∧ y i = y k) ∧ yq_hf x y c n i k 1 n1 ∧ yq_hf x y c n i k 0 n0
theorem yq_hP_eq {x y c X Y C : Nat → Int} {i k n : Nat} {n1 n0 : Int} (hx : ∀ j : Nat, j < n → x j = X j) (hy : ∀ j : Nat, j < n → y j = Y j) (hc : ∀ j : Nat, j < n → c j = C j) (hi : i < n) (hk : k < n) : yq_hP x y c n n1 n0 i k ↔ yq_hP X Y C n n1 n0 i k := sorry
/-- none of the pairs before a, b -/
def yq_hN (P : Nat → Nat → Prop) (n a b : Nat) : Prop := ∀ i k : Nat, i < k → k < n → (i < a ∨ (i = a ∧ k < b)) → ¬ P i k
def yq_hS (P : Nat → Nat → Prop) (n : Nat) (bad r : Int) : Prop := (r = bad ∧ ∀ i k : Nat, i < k → k < n → ¬ P i k) ∨ ∃ a b : Nat, a < b ∧ b < n ∧ P a b ∧ r = 100 * (a : Int) + (b : Int) ∧ yq_hN P n a b
theorem yq_hS_u {P Q : Nat → Nat → Prop} {n : Nat} {bad r s : Int} (hPQ : ∀ i k : Nat, i < k → k < n → (P i k ↔ Q i k)) (h : yq_hS P n bad r) (h' : yq_hS Q n bad s) : r = s := sorry
theorem yq_cnt_01 {c : Nat → Int} (hc : ∀ j, 0 ≤ c j ∧ c j ≤ 1) : ∀ n : Nat, yq_cnt c 1 n + yq_cnt c 0 n = (n : Int) := sorry
/-! depth -/
def yq_ds (x y : Nat → Int) (u v dx dy : Int) (j : Nat) : Int := dx * (y j - v) - dy * (x j - u)
def yq_dd (x y : Nat → Int) (u v dx dy : Int) (j : Nat) : Int := dx * (x j - u) + dy * (y j - v)
def yq_c1 (x y : Nat → Int) (u v dx dy : Int) : Nat → Int
  | 0 => 0
  | n + 1 => yq_c1 x y u v dx dy n + if 0 < yq_ds x y u v dx dy n then 1 else 0
def yq_c2 (x y : Nat → Int) (u v dx dy : Int) : Nat → Int
  | 0 => 0
  | n + 1 => yq_c2 x y u v dx dy n + if yq_ds x y u v dx dy n < 0 then 1 else 0
def yq_c3 (x y : Nat → Int) (u v dx dy : Int) : Nat → Int
  | 0 => 0
  | n + 1 => yq_c3 x y u v dx dy n + if yq_ds x y u v dx dy n = 0 ∧ 0 < yq_dd x y u v dx dy n then 1 else 0
def yq_c4 (x y : Nat → Int) (u v dx dy : Int) : Nat → Int
  | 0 => 0
  | n + 1 => yq_c4 x y u v dx dy n + if yq_ds x y u v dx dy n = 0 ∧ yq_dd x y u v dx dy n < 0 then 1 else 0
theorem yq_c_s {x y : Nat → Int} {u v dx dy j m : Int} (hj : 0 ≤ j) (hm : m = j + 1) : yq_c1 x y u v dx dy m.toNat = yq_c1 x y u v dx dy j.toNat + (if 0 < yq_ds x y u v dx dy j.toNat then 1 else 0) ∧ yq_c2 x y u v dx dy m.toNat = yq_c2 x y u v dx dy j.toNat + (if yq_ds x y u v dx dy j.toNat < 0 then 1 else 0) ∧ yq_c3 x y u v dx dy m.toNat = yq_c3 x y u v dx dy j.toNat + (if yq_ds x y u v dx dy j.toNat = 0 ∧ 0 < yq_dd x y u v dx dy j.toNat then 1 else 0) ∧ yq_c4 x y u v dx dy m.toNat = yq_c4 x y u v dx dy j.toNat + (if yq_ds x y u v dx dy j.toNat = 0 ∧ yq_dd x y u v dx dy j.toNat < 0 then 1 else 0) := sorry
theorem yq_c_b {x y : Nat → Int} {u v dx dy : Int} : ∀ n : Nat, 0 ≤ yq_c1 x y u v dx dy n ∧ 0 ≤ yq_c2 x y u v dx dy n ∧ 0 ≤ yq_c3 x y u v dx dy n ∧ 0 ≤ yq_c4 x y u v dx dy n ∧ yq_c1 x y u v dx dy n + yq_c2 x y u v dx dy n + yq_c3 x y u v dx dy n + yq_c4 x y u v dx dy n ≤ (n : Int) := sorry
theorem yq_c_eq {x y X Y : Nat → Int} {u v dx dy : Int} : ∀ n : Nat, (∀ j : Nat, j < n → x j = X j) → (∀ j : Nat, j < n → y j = Y j) → yq_c1 x y u v dx dy n = yq_c1 X Y u v dx dy n ∧ yq_c2 x y u v dx dy n = yq_c2 X Y u v dx dy n ∧ yq_c3 x y u v dx dy n = yq_c3 X Y u v dx dy n ∧ yq_c4 x y u v dx dy n = yq_c4 X Y u v dx dy n := sorry
def yq_mn (a b : Int) : Int := if a ≤ b then a else b
def yq_lb (x y : Nat → Int) (u v dx dy : Int) (n : Nat) : Int := yq_mn (yq_c1 x y u v dx dy n) (yq_c2 x y u v dx dy n) + yq_mn (yq_c3 x y u v dx dy n) (yq_c4 x y u v dx dy n)
theorem yq_lb_b {x y : Nat → Int} {u v dx dy : Int} {n : Nat} : 0 ≤ yq_lb x y u v dx dy n ∧ 2 * yq_lb x y u v dx dy n ≤ (n : Int) := sorry
theorem yq_lb_eq {x y X Y : Nat → Int} {u v dx dy : Int} {n : Nat} (hx : ∀ j : Nat, j < n → x j = X j) (hy : ∀ j : Nat, j < n → y j = Y j) : yq_lb x y u v dx dy n = yq_lb X Y u v dx dy n := sorry
def yq_ch (x y : Nat → Int) (u v : Int) : Nat → Int
  | 0 => 0
  | n + 1 => yq_ch x y u v n + if x n = u ∧ y n = v then 1 else 0
def yq_lm (x y : Nat → Int) (u v : Int) (N : Nat) (z : Int) : Nat → Int
  | 0 => z
  | m + 1 => if x m = u ∧ y m = v then yq_lm x y u v N z m else yq_mn (yq_lm x y u v N z m) (yq_lb x y u v (x m - u) (y m - v) N)
theorem yq_ch_s {x y : Nat → Int} {u v j m : Int} (hj : 0 ≤ j) (hm : m = j + 1) : yq_ch x y u v m.toNat = yq_ch x y u v j.toNat + if x j.toNat = u ∧ y j.toNat = v then 1 else 0 := sorry
theorem yq_lm_s {x y : Nat → Int} {u v z j m : Int} {N : Nat} (hj : 0 ≤ j) (hm : m = j + 1) : yq_lm x y u v N z m.toNat = if x j.toNat = u ∧ y j.toNat = v then yq_lm x y u v N z j.toNat else yq_mn (yq_lm x y u v N z j.toNat) (yq_lb x y u v (x j.toNat - u) (y j.toNat - v) N) := sorry
theorem yq_ch_b {x y : Nat → Int} {u v : Int} : ∀ n : Nat, 0 ≤ yq_ch x y u v n ∧ yq_ch x y u v n ≤ (n : Int) := sorry
theorem yq_ch_eq {x y X Y : Nat → Int} {u v : Int} : ∀ n : Nat, (∀ j : Nat, j < n → x j = X j) → (∀ j : Nat, j < n → y j = Y j) → yq_ch x y u v n = yq_ch X Y u v n := sorry
theorem yq_lm_eq {x y X Y : Nat → Int} {u v z : Int} {N : Nat} (hx : ∀ j : Nat, j < N → x j = X j) (hy : ∀ j : Nat, j < N → y j = Y j) : ∀ m : Nat, m ≤ N → yq_lm x y u v N z m = yq_lm X Y u v N z m := sorry
/-- the least does not hang on where it starts, once a point lies elsewhere -/
theorem yq_lm_z {x y : Nat → Int} {u v z z' : Int} {N : Nat} (hz : (N : Int) ≤ z) (hz' : (N : Int) ≤ z') : ∀ m : Nat, (yq_ch x y u v m = (m : Int) ∧ yq_lm x y u v N z m = z ∧ yq_lm x y u v N z' m = z') ∨ (yq_ch x y u v m < (m : Int) ∧ yq_lm x y u v N z m = yq_lm x y u v N z' m ∧ 2 * yq_lm x y u v N z m ≤ (N : Int)) := sorry
def yq_rg (x y a : Int) : Int := if (-1000 ≤ x ∧ x ≤ 1000) ∧ (-1000 ≤ y ∧ y ≤ 1000) then a else -1
def yq_ex (c l n : Int) : Int := if c = n then c else c + l
def yq_em (c l n : Int) : Int := if l = n then c else l + c
theorem yq_deW {x y : Nat → Int} {u v : Int} {N : Nat} (hN : N ≤ 40) : yq_ex (yq_ch x y u v N) (yq_lm x y u v N 40 N) (N : Int) = yq_em (yq_ch x y u v N) (yq_lm x y u v N (N : Int) N) (N : Int) := sorry
def yq_jd (a b c n : Int) (f : Nat → Int) (v : Int) : Nat → Int := if ((-1000000 ≤ a ∧ a ≤ 1000000 ∧ -1000000 ≤ b ∧ b ≤ 1000000 ∧ -1000000 ≤ c ∧ c ≤ 1000000) ∧ (a ≠ 0 ∨ b ≠ 0)) ∧ n < 12 then yq_set f n.toNat v else f
theorem yq_jdW {a b c n n' v : Int} {f F : Nat → Int} (hn : 0 ≤ n) (h : ∀ j : Nat, (j : Int) < n → f j = F j) (hn' : n' = yq_jm a b c n) : ∀ j : Nat, (j : Int) < n' → yq_jd a b c n f v j = yq_jd a b c n F v j := sorry
theorem yq_cp12 {f h : Nat → Int} {a b n j : Nat} (ha : a = 0) (hb : b = 0) (hn : n = 12) (hj : j < 12) : va_cpy f h a b n j = f j := sorry
def yq_q3 (a b c : Nat → Int) (q : Int) : Int := if q % 3 = 0 then a (q / 3).toNat else if q % 3 = 1 then b (q / 3).toNat else c (q / 3).toNat
theorem yq_q3_0 {a b c : Nat → Int} {q : Int} (h : q % 3 = 0) : yq_q3 a b c q = a (q / 3).toNat := sorry
theorem yq_q3_1 {a b c : Nat → Int} {q : Int} (h : q % 3 = 1) : yq_q3 a b c q = b (q / 3).toNat := sorry
theorem yq_q3_2 {a b c : Nat → Int} {q : Int} (h : q % 3 = 2) : yq_q3 a b c q = c (q / 3).toNat := sorry
def yq_i3 (k i : Int) (a b c f : Nat → Int) : Nat → Int := fun q => if 36 * k ≤ (q : Int) ∧ (q : Int) < 36 * k + 3 * i then yq_q3 a b c ((q : Int) - 36 * k) else f q
def yq_j3 (k n : Int) (a b c f : Nat → Int) : Nat → Int := if 0 ≤ k ∧ k ≤ 2 then yq_i3 k n a b c f else f
theorem yq_i3_0 {k : Int} {a b c f : Nat → Int} : f = yq_i3 k 0 a b c f := sorry
theorem yq_i3_s {k i m q0 q1 q2 va vb vc : Int} {a b c f : Nat → Int} (hk : 0 ≤ k) (hi : 0 ≤ i) (hm : m = i + 1) (h0 : q0 = 36 * k + 3 * i) (h1 : q1 = q0 + 1) (h2 : q2 = q0 + 2) (ha : va = a i.toNat) (hb : vb = b i.toNat) (hc : vc = c i.toNat) : yq_set (yq_set (yq_set (yq_i3 k i a b c f) q0.toNat va) q1.toNat vb) q2.toNat vc = yq_i3 k m a b c f := sorry
theorem yq_i3W {k n Q ii o : Int} {i oo : Nat} {a b c e x K f : Nat → Int} (hi : ii = (i : Int)) (hi2 : i ≤ 2) (ho : o = (oo : Int)) (ho3 : oo ≤ 2) (hn : n ≤ 12) (hQ : Q ≤ 12) (hs : ∀ q : Int, q % 3 = o → yq_q3 a b c q = e (q / 3).toNat) (hx : ∀ j : Nat, (j : Int) < n → x j = e j) (hK : ∀ j : Nat, (j : Int) < Q → K j = f (36 * i + 3 * j + oo)) : ∀ j : Nat, (j : Int) < yq_kp k ii n Q → yq_kp k ii (x j) (K j) = yq_j3 k n a b c f (36 * i + 3 * j + oo) := sorry
def yq_b3 (k i o : Int) (N f : Nat → Int) : Nat → Int := fun j => if (j : Int) < i then N (36 * k + 3 * (j : Int) + o).toNat else f j
def yq_m3 (t : Nat → Int) (k n o : Int) (N f : Nat → Int) : Nat → Int := if 0 ≤ k ∧ k ≤ 2 ∧ t k.toNat ≠ 0 then yq_b3 k n o N f else f
theorem yq_b3_0 {k o : Int} {N f : Nat → Int} : f = yq_b3 k 0 o N f := sorry
theorem yq_b3_s {k i m o z : Int} {N f : Nat → Int} (hi : 0 ≤ i) (hm : m = i + 1) (hz : z = N (36 * k + 3 * i + o).toNat) : yq_set (yq_b3 k i o N f) i.toNat z = yq_b3 k m o N f := sorry
theorem yq_b3W {k n Q0 Q1 Q2 o : Int} {oo : Nat} {t x K0 K1 K2 F N : Nat → Int} (ho : o = (oo : Int)) (h : ∀ j : Nat, (j : Int) < n → x j = F j) (h0 : ∀ j : Nat, (j : Int) < Q0 → K0 j = N (36 * 0 + 3 * j + oo)) (h1 : ∀ j : Nat, (j : Int) < Q1 → K1 j = N (36 * 1 + 3 * j + oo)) (h2 : ∀ j : Nat, (j : Int) < Q2 → K2 j = N (36 * 2 + 3 * j + oo)) : ∀ j : Nat, (j : Int) < yq_pk t k n Q0 Q1 Q2 → yq_pk t k (x j) (K0 j) (K1 j) (K2 j) = yq_m3 t k (yq_pk t k n Q0 Q1 Q2) o N F j := sorry
/-! sets of judges as bits -/
def yb_st (p : Nat → Bool) : Nat → Nat
  | 0 => 0
  | n + 1 => yb_st p n + if p n = true then 2 ^ n else 0
def yb_ct (p : Nat → Bool) : Nat → Int
  | 0 => 0
  | n + 1 => yb_ct p n + if p n = true then 1 else 0
theorem yb_st_lt (p : Nat → Bool) : ∀ n, yb_st p n < 2 ^ n := sorry
theorem yb_tb (p : Nat → Bool) : ∀ n j, (yb_st p n).testBit j = (decide (j < n) && p j) := sorry
theorem yb_and (p q : Nat → Bool) (n : Nat) : yb_st p n &&& yb_st q n = yb_st (fun j => p j && q j) n := sorry
theorem yb_or (p : Nat → Bool) (n : Nat) : yb_st p n ||| 2 ^ n = yb_st p n + 2 ^ n := sorry
theorem yb_all : ∀ n, yb_st (fun _ => true) n + 1 = 2 ^ n := sorry
theorem yb_st_eq {p q : Nat → Bool} : ∀ n, (∀ j, j < n → p j = q j) → yb_st p n = yb_st q n := sorry
theorem yb_ct_eq {p q : Nat → Bool} : ∀ n, (∀ j, j < n → p j = q j) → yb_ct p n = yb_ct q n := sorry
theorem yb_ct_b {p : Nat → Bool} : ∀ n : Nat, 0 ≤ yb_ct p n ∧ yb_ct p n ≤ (n : Int) := sorry
theorem yb_ct_sp (p q : Nat → Bool) : ∀ n, yb_ct p n = yb_ct (fun j => p j && q j) n + yb_ct (fun j => p j && !q j) n := sorry
def yb_pc (a : Nat) : Nat → Int
  | 0 => 0
  | n + 1 => yb_pc a n + if a.testBit n = true then 1 else 0
theorem yb_pc_st (p : Nat → Bool) (n : Nat) : ∀ m, yb_pc (yb_st p n) m = yb_ct (fun j => decide (j < n) && p j) m := sorry
theorem yb_ct_cut (p : Nat → Bool) (n : Nat) : ∀ d, yb_ct (fun j => decide (j < n) && p j) (n + d) = yb_ct p n := sorry
theorem yb_pc12 (p : Nat → Bool) {n : Nat} (h : n ≤ 12) : yb_pc (yb_st p n) 12 = yb_ct p n := sorry
/-! ints of 32 bits -/
theorem yb_i32 {a b : Int} (h1 : -2147483648 ≤ a) (h2 : a ≤ 2147483647) (h3 : -2147483648 ≤ b) (h4 : b ≤ 2147483647) (h : Int32.ofInt a = Int32.ofInt b) : a = b := sorry
theorem yb_andi (a b : Nat) : Int32.ofInt (a : Int) &&& Int32.ofInt (b : Int) = Int32.ofInt ((a &&& b : Nat) : Int) := sorry
theorem yb_ori (a b : Nat) : Int32.ofInt (a : Int) ||| Int32.ofInt (b : Int) = Int32.ofInt ((a ||| b : Nat) : Int) := sorry
theorem yb_ande {x y z : Int} {a b : Nat} (ha : x = (a : Int)) (hb : y = (b : Int)) (ha2 : a < 4096) (hz0 : 0 ≤ z) (hz : z ≤ 4095) (h : Int32.ofInt z = Int32.ofInt x &&& Int32.ofInt y) : z = ((a &&& b : Nat) : Int) := sorry
theorem yb_ore {x y z : Int} {a b : Nat} (ha : x = (a : Int)) (hb : y = (b : Int)) (ha2 : a < 4096) (hb2 : b < 4096) (hz0 : 0 ≤ z) (hz : z ≤ 4095) (h : Int32.ofInt z = Int32.ofInt x ||| Int32.ofInt y) : z = ((a ||| b : Nat) : Int) := sorry
def yb_ck1 : Bool := (List.range 13).all fun j => decide (Int32.ofInt 1 <<< (Int32.ofInt (j : Int) &&& 31) = Int32.ofInt ((2 ^ j : Nat) : Int))
theorem yb_ck1_ok : yb_ck1 = true := sorry
theorem yb_p12 {j : Nat} (h : j ≤ 12) : 2 ^ j ≤ 4096 := sorry
theorem yb_shl {z j : Int} (h0 : 0 ≤ j) (h1 : j ≤ 12) (hz0 : 0 ≤ z) (hz : z ≤ 4096) (h : Int32.ofInt z = Int32.ofInt 1 <<< (Int32.ofInt j &&& 31)) : z = ((2 ^ j.toNat : Nat) : Int) := sorry
theorem yb_shr {s : Int} {z j : Int} (hs0 : 0 ≤ s) (hs : s ≤ 4095) (h0 : 0 ≤ j) (h1 : j ≤ 11) (hz0 : -2147483648 ≤ z) (hz : z ≤ 2147483647) (h : Int32.ofInt z = Int32.ofInt s >>> (Int32.ofInt j &&& 31)) : z = s / ((2 ^ j.toNat : Nat) : Int) := sorry
theorem yb_bit {s z w j : Int} {a : Nat} (ha : s = (a : Int)) (ha2 : a < 4096) (h0 : 0 ≤ j) (h1 : j ≤ 11) (hz0 : -2147483648 ≤ z) (hz : z ≤ 2147483647) (hw0 : 0 ≤ w) (hw : w ≤ 1) (h : Int32.ofInt z = Int32.ofInt s >>> (Int32.ofInt j &&& 31)) (h2 : Int32.ofInt w = Int32.ofInt z &&& Int32.ofInt 1) : w = if a.testBit j.toNat = true then 1 else 0 := sorry
def yb_us (x y : Int32) : Int32 := ((x).toUInt32 >>> ((y).toUInt32 &&& Int32.toUInt32 31)).toInt32
def yb_b1 (i : Int32) : Int32 := i - (yb_us i (Int32.ofInt 1) &&& Int32.ofInt 1431655765)
def yb_b2 (i : Int32) : Int32 := (i &&& Int32.ofInt 858993459) + (yb_us i (Int32.ofInt 2) &&& Int32.ofInt 858993459)
def yb_b3 (i : Int32) : Int32 := (i + yb_us i (Int32.ofInt 4)) &&& Int32.ofInt 252645135
def yb_b4 (i : Int32) : Int32 := i + yb_us i (Int32.ofInt 8)
def yb_b5 (i : Int32) : Int32 := i + yb_us i (Int32.ofInt 16)
def yb_bc (i : Int32) : Int32 := yb_b5 (yb_b4 (yb_b3 (yb_b2 (yb_b1 i)))) &&& Int32.ofInt 63
def yb_ck2 : Bool := (List.range 4096).all fun a => decide (yb_bc (Int32.ofInt (a : Int)) = Int32.ofInt (yb_pc a 12))
theorem yb_ck2_ok : yb_ck2 = true := sorry
theorem yb_pc_b (a : Nat) : ∀ n : Nat, 0 ≤ yb_pc a n ∧ yb_pc a n ≤ (n : Int) := sorry
theorem yb_bce {x a1 a2 s1 a3 a4 a5 s2 a6 a7 a8 a9 a10 a11 a12 a13 : Int} (hx0 : 0 ≤ x) (hx : x ≤ 4095) (h0 : 0 ≤ a13) (h63 : a13 ≤ 63) (h1 : Int32.ofInt a1 = yb_us (Int32.ofInt x) (Int32.ofInt 1)) (h2 : Int32.ofInt a2 = Int32.ofInt a1 &&& Int32.ofInt 1431655765) (hs1 : s1 = x - a2) (h3 : Int32.ofInt a3 = Int32.ofInt s1 &&& Int32.ofInt 858993459) (h4 : Int32.ofInt a4 = yb_us (Int32.ofInt s1) (Int32.ofInt 2)) (h5 : Int32.ofInt a5 = Int32.ofInt a4 &&& Int32.ofInt 858993459) (hs2 : s2 = a3 + a5) (h6 : Int32.ofInt a6 = yb_us (Int32.ofInt s2) (Int32.ofInt 4)) (h7 : Int32.ofInt a7 = Int32.ofInt s2 + Int32.ofInt a6) (h8 : Int32.ofInt a8 = Int32.ofInt a7 &&& Int32.ofInt 252645135) (h9 : Int32.ofInt a9 = yb_us (Int32.ofInt a8) (Int32.ofInt 8)) (h10 : Int32.ofInt a10 = Int32.ofInt a8 + Int32.ofInt a9) (h11 : Int32.ofInt a11 = yb_us (Int32.ofInt a10) (Int32.ofInt 16)) (h12 : Int32.ofInt a12 = Int32.ofInt a10 + Int32.ofInt a11) (h13 : Int32.ofInt a13 = Int32.ofInt a12 &&& Int32.ofInt 63) : a13 = yb_pc x.toNat 12 := sorry
/-! what judges say of a point; halving -/
def yb_sy (a b c : Nat → Int) (x y k : Int) : Nat → Bool := fun j => decide (yq_sy (a j) (b j) (c j) x y = k)
def yb_in (a b c : Nat → Int) (x y k : Nat → Int) : Nat → Nat → Bool
  | 0 => fun _ => true
  | i + 1 => fun j => yb_in a b c x y k i j && yb_sy a b c (x i) (y i) (k i) j
def yb_v1 (a b c : Nat → Int) (x y k : Nat → Int) (n i : Nat) : Int := if yb_ct (fun j => yb_in a b c x y k i j && !yb_sy a b c (x i) (y i) 1 j) n < yb_ct (fun j => yb_in a b c x y k i j && yb_sy a b c (x i) (y i) 1 j) n then 1 else 0
def yb_ms (a b c : Nat → Int) (x y k : Nat → Int) (n : Nat) : Nat → Int
  | 0 => 0
  | i + 1 => yb_ms a b c x y k n i + if yb_v1 a b c x y k n i = k i then 0 else 1
theorem yb_ms_s {a b c x y k : Nat → Int} {n : Nat} {i m : Int} (hi : 0 ≤ i) (hm : m = i + 1) : yb_ms a b c x y k n m.toNat = yb_ms a b c x y k n i.toNat + if yb_v1 a b c x y k n i.toNat = k i.toNat then 0 else 1 := sorry
theorem yb_in_s {a b c x y k : Nat → Int} {i m : Int} (hi : 0 ≤ i) (hm : m = i + 1) : yb_in a b c x y k m.toNat = fun j => yb_in a b c x y k i.toNat j && yb_sy a b c (x i.toNat) (y i.toNat) (k i.toNat) j := sorry
theorem yb_st_s {p : Nat → Bool} {i m : Int} (hi : 0 ≤ i) (hm : m = i + 1) : yb_st p m.toNat = yb_st p i.toNat + if p i.toNat = true then 2 ^ i.toNat else 0 := sorry
theorem yb_ct_s {p : Nat → Bool} {i m : Int} (hi : 0 ≤ i) (hm : m = i + 1) : yb_ct p m.toNat = yb_ct p i.toNat + if p i.toNat = true then 1 else 0 := sorry
theorem yb_ms_b {a b c x y k : Nat → Int} {n : Nat} : ∀ i : Nat, 0 ≤ yb_ms a b c x y k n i ∧ yb_ms a b c x y k n i ≤ (i : Int) := sorry
theorem yb_sy_eq {a b c A B C : Nat → Int} {x y k X Y K : Int} {j : Nat} (ha : a j = A j) (hb : b j = B j) (hc : c j = C j) (hx : x = X) (hy : y = Y) (hk : k = K) : yb_sy a b c x y k j = yb_sy A B C X Y K j := sorry
theorem yb_in_eq {a b c A B C x y k X Y K : Nat → Int} {j : Nat} (ha : a j = A j) (hb : b j = B j) (hc : c j = C j) : ∀ i : Nat, (∀ q : Nat, q < i → x q = X q) → (∀ q : Nat, q < i → y q = Y q) → (∀ q : Nat, q < i → k q = K q) → yb_in a b c x y k i j = yb_in A B C X Y K i j := sorry
theorem yb_ms_eq {a b c A B C x y k X Y K : Nat → Int} {n : Nat} (ha : ∀ j : Nat, j < n → a j = A j) (hb : ∀ j : Nat, j < n → b j = B j) (hc : ∀ j : Nat, j < n → c j = C j) : ∀ i : Nat, (∀ q : Nat, q < i → x q = X q) → (∀ q : Nat, q < i → y q = Y q) → (∀ q : Nat, q < i → k q = K q) → yb_ms a b c x y k n i = yb_ms A B C X Y K n i := sorry
theorem yb_stin_eq {a b c A B C x y k X Y K : Nat → Int} {n i : Nat} (ha : ∀ j : Nat, j < n → a j = A j) (hb : ∀ j : Nat, j < n → b j = B j) (hc : ∀ j : Nat, j < n → c j = C j) (hx : ∀ q : Nat, q < i → x q = X q) (hy : ∀ q : Nat, q < i → y q = Y q) (hk : ∀ q : Nat, q < i → k q = K q) : yb_st (yb_in a b c x y k i) n = yb_st (yb_in A B C X Y K i) n := sorry
/-- more than half of those that are in, the class's way -/
theorem yb_v1_x {a b c x y k : Nat → Int} {n i : Nat} : yb_v1 a b c x y k n i = if yb_ct (yb_in a b c x y k i) n < 2 * yb_ct (fun j => yb_in a b c x y k i j && yb_sy a b c (x i) (y i) 1 j) n then 1 else 0 := sorry
theorem yb_lt {p : Nat → Bool} {n : Nat} (h : n ≤ 12) : yb_st p n < 4096 := sorry
theorem yb_pw {j : Nat} (h : j ≤ 11) : 2 ^ j < 4096 := sorry
theorem yb_bitp {p : Nat → Bool} {n : Nat} {s z w j : Int} (ha : s = ((yb_st p n : Nat) : Int)) (hn : n ≤ 12) (h0 : 0 ≤ j) (h1 : j < (n : Int)) (hz0 : -2147483648 ≤ z) (hz : z ≤ 2147483647) (hw0 : 0 ≤ w) (hw : w ≤ 1) (h : Int32.ofInt z = Int32.ofInt s >>> (Int32.ofInt j &&& 31)) (h2 : Int32.ofInt w = Int32.ofInt z &&& Int32.ofInt 1) : w = if p j.toNat = true then 1 else 0 := sorry
theorem yb_andst {p q : Nat → Bool} {n : Nat} {x y z : Int} (hn : n ≤ 12) (ha : x = ((yb_st p n : Nat) : Int)) (hb : y = ((yb_st q n : Nat) : Int)) (hz0 : 0 ≤ z) (hz : z ≤ 4095) (h : Int32.ofInt z = Int32.ofInt x &&& Int32.ofInt y) : z = ((yb_st (fun j => p j && q j) n : Nat) : Int) := sorry
theorem yb_orst {p : Nat → Bool} {x y z j m : Int} (h0 : 0 ≤ j) (h11 : j ≤ 11) (hm : m = j + 1) (ha : x = ((yb_st p j.toNat : Nat) : Int)) (hp : p j.toNat = true) (hy0 : 0 ≤ y) (hy1 : y ≤ 4096) (hy : Int32.ofInt y = Int32.ofInt 1 <<< (Int32.ofInt j &&& 31)) (hz0 : 0 ≤ z) (hz : z ≤ 4095) (h : Int32.ofInt z = Int32.ofInt x ||| Int32.ofInt y) : z = ((yb_st p m.toNat : Nat) : Int) := sorry
theorem yb_or0 {p : Nat → Bool} {x z j m : Int} (h0 : 0 ≤ j) (h11 : j ≤ 11) (hm : m = j + 1) (ha : x = ((yb_st p j.toNat : Nat) : Int)) (hp : ¬ p j.toNat = true) (hz0 : 0 ≤ z) (hz : z ≤ 4095) (h : Int32.ofInt z = Int32.ofInt x ||| Int32.ofInt 0) : z = ((yb_st p m.toNat : Nat) : Int) := sorry
theorem yb_no {p : Nat → Bool} {x j m : Int} (h0 : 0 ≤ j) (hm : m = j + 1) (ha : x = ((yb_st p j.toNat : Nat) : Int)) (hp : ¬ p j.toNat = true) : x = ((yb_st p m.toNat : Nat) : Int) := sorry
theorem yb_full {z y n : Int} (h0 : 0 ≤ n) (h12 : n ≤ 12) (hy0 : 0 ≤ y) (hy1 : y ≤ 4096) (hy : Int32.ofInt y = Int32.ofInt 1 <<< (Int32.ofInt n &&& 31)) (hz : z = y - 1) : z = ((yb_st (fun _ => true) n.toNat : Nat) : Int) := sorry
theorem yb_ctp {p : Nat → Bool} {x z j m d : Int} (h0 : 0 ≤ j) (hm : m = j + 1) (ha : x = yb_ct p j.toNat) (hz : z = x + d) (hp : (p j.toNat = true ∧ d = 1) ∨ (¬ p j.toNat = true ∧ d = 0)) : z = yb_ct p m.toNat := sorry
theorem yb_bcp {p : Nat → Bool} {n : Nat} {x z : Int} (hn : n ≤ 12) (ha : x = ((yb_st p n : Nat) : Int)) (hz : z = yb_pc x.toNat 12) : z = yb_ct p n := sorry
theorem yb_ap {p q : Nat → Bool} {j : Nat} (h : p j = true) (h2 : q j = true) : (fun j => p j && q j) j = true := sorry
theorem yb_an1 {p q : Nat → Bool} {j : Nat} (h : ¬ p j = true) : ¬ (fun j => p j && q j) j = true := sorry
theorem yb_an2 {p q : Nat → Bool} {j : Nat} (h : ¬ q j = true) : ¬ (fun j => p j && q j) j = true := sorry
theorem yb_nt {q : Nat → Bool} {j : Nat} (h : ¬ q j = true) : (fun j => !q j) j = true := sorry
theorem yb_nf {q : Nat → Bool} {j : Nat} (h : q j = true) : ¬ (fun j => !q j) j = true := sorry
def yb_hv (n a : Int) : Int := if n = 0 then -6 else a
def yb_hl (n a o : Int) : Int := if n = 0 then o else a

