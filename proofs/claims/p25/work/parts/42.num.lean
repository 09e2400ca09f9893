/-! numbers by cases: a new symbol, facts, what the number is, whether it is the product -/
abbrev yt_Br : Type := (Int × Int) × List ys_L × ys_L × Bool
def yt_num (w : Bool) (pc : Nat) (b : ys_B) (fds : ys_F) (lv : List (Nat × ys_V)) (t : List ys_V) (h : List yt_Ev) (x y : ys_L) (brs : List yt_Br) : List yt_U := brs.flatMap fun br => match ys_ass (b.1 ++ [br.1], b.2) br.2.1 with
  | some b' => [(pc, (b', fds, lv, yt_mk w br.2.2.1 :: t), if br.2.2.2 = true then .inl (.inr (b.1.length, x, y)) :: h else h)]
  | none => []
def yt_bst (n : Nat) (br : yt_Br) : Prop := (∀ f ∈ br.2.1, ys_stb (n + 1) f) ∧ ys_stb (n + 1) br.2.2.1
def yt_sel (w : Bool) (n : Nat) (r : Nat → Int) (x y : ys_L) (V : Value) (br : yt_Br) (z : Int) : Prop := (br.1.1 ≤ z ∧ z ≤ br.1.2) ∧ ys_fk (ys_up r n z) br.2.1 ∧ yt_vl w (ys_ev (ys_up r n z) br.2.2.1) = V ∧ (br.2.2.2 = true → z = ys_ev r x * ys_ev r y)
section YTN
variable {p : Program} {l : Launch} {e : Env} {R : Room} {s : State} {m : MethodId} {args : Array Value} {below : List Frame} {meth : Method} {c : Code} {Q : State → Prop} {kc kz : Nat} {D : va_G} {cl : List vw_C} {ad : Nat → Nat} {cT : Nat → ClassId} {sh : List ys_C} {A : Nat → Prop} {H0 : Heap} {nL : Nat} {mods : List Nat} {g0 : yt_G} {r0 : Nat → Int} {E : Nat} {tb : yt_Tb} {gi : yt_G} {h : List yt_Ev} {pc : Nat} {b : ys_B} {fds : ys_F} {lv : List (Nat × ys_V)} {sv : List ys_V} {succ : List yt_U} {cc : ByteArray} {own : String} {Ts : List Cond} {tys : List (ClassId × FieldType)}
theorem yt_knum {w : Bool} {pc' : Nat} {x y : ys_L} {brs : List yt_Br} {t : List ys_V} {r : Nat → Int} {g : yt_G} {H : Heap} {locs : List Loc} {ls : Array Slot} {st : List Value} {V : Value} (hrep : ys_rep D cl ad cT sh A H0 nL [] g r0 r E (b, fds, lv, t) H locs ls st) (hh : yt_h tb r gi h g) (hsc : ∀ v ∈ h, yt_sc b.1.length v) (hm : ∀ k, k ∉ mods → g k = g0 k) (hx : ys_stb b.1.length x) (hy : ys_stb b.1.length y) (hst : ∀ br ∈ brs, yt_bst b.1.length br) (hsel : ∃ br ∈ brs, ∃ z, yt_sel w b.1.length r x y V br z) (k : ∀ q ∈ yt_num w pc' b fds lv t h x y brs, yt_X p l e R s m args below meth c Q kc kz D cl ad cT sh A H0 nL mods g0 r0 E tb gi q.2.2 q.1 q.2.1) : W p l e R s m args below meth c H locs kc kz Q (F0 m pc' ls (V :: st)) := sorry
end YTN
/-- facts in short -/
def yt_ge0 (n : Nat) (fs : List ys_L) : Prop := ∀ f ∈ fs, ys_stb (n + 1) f
theorem yt_fk2 {r : Nat → Int} {f g : ys_L} (h1 : 0 ≤ ys_ev r f) (h2 : 0 ≤ ys_ev r g) : ys_fk r [f, g] := sorry
theorem yt_fk3 {r : Nat → Int} {f g k : ys_L} (h1 : 0 ≤ ys_ev r f) (h2 : 0 ≤ ys_ev r g) (h3 : 0 ≤ ys_ev r k) : ys_fk r [f, g, k] := sorry
theorem yt_all1 {n : Nat} {f : ys_L} (h1 : ys_stb n f) : ∀ q ∈ [f], ys_stb n q := sorry
theorem yt_all2 {n : Nat} {f g : ys_L} (h1 : ys_stb n f) (h2 : ys_stb n g) : ∀ q ∈ [f, g], ys_stb n q := sorry
theorem yt_all3 {n : Nat} {f g k : ys_L} (h1 : ys_stb n f) (h2 : ys_stb n g) (h3 : ys_stb n k) : ∀ q ∈ [f, g, k], ys_stb n q := sorry
def yt_m1 (f : ys_L) : ys_L := ys_add f ([], -1)
theorem yt_m1_ev {r : Nat → Int} {f : ys_L} : ys_ev r (yt_m1 f) = ys_ev r f - 1 := sorry
def yt_ng (f : ys_L) : ys_L := ys_scale (-1) f
theorem yt_ng_ev {r : Nat → Int} {f : ys_L} : ys_ev r (yt_ng f) = -ys_ev r f := sorry
theorem yt_up_ev {r : Nat → Int} {n : Nat} {z : Int} {x : ys_L} (hx : ys_stb n x) : ys_ev (ys_up r n z) x = ys_ev r x := sorry
theorem yt_up_sym {r : Nat → Int} {n : Nat} {z : Int} : ys_ev (ys_up r n z) (ys_sym n) = z := sorry
/-- what is left of a division, by the signs -/
def yt_brem (b : ys_B) (x y : ys_L) : Option (List yt_Br) := match ys_low b.1 y, ys_high b.1 y with
  | some ly, some hy => if ys_inr true b.1 x && ys_inr true b.1 y then
      (if 1 ≤ ly then some [((0, 0), [x, yt_m1 (ys_sub y x)], x, false), ((0, hy), [ys_sub x y, yt_m1 (ys_sub y (ys_sym b.1.length)), ys_sub (ys_sub x y) (ys_sym b.1.length)], ys_sym b.1.length, false), ((-hy, 0), [yt_m1 (yt_ng x), yt_m1 (ys_add (ys_sym b.1.length) y), ys_sub (ys_sym b.1.length) x], ys_sym b.1.length, false)]
      else if hy ≤ -1 then some [((0, -ly), [x, yt_m1 (ys_sub (yt_ng y) (ys_sym b.1.length)), ys_sub x (ys_sym b.1.length)], ys_sym b.1.length, false), ((ly, 0), [yt_m1 (yt_ng x), yt_m1 (ys_sub (ys_sym b.1.length) y), ys_sub (ys_sym b.1.length) x], ys_sym b.1.length, false)]
      else none) else none
  | _, _ => none
theorem yt_rem64 {x y : Int} (hx : -9223372036854775808 ≤ x ∧ x ≤ 9223372036854775807) (hy : -9223372036854775808 ≤ y ∧ y ≤ 9223372036854775807) : Int64.ofInt x - Int64.ofInt x / Int64.ofInt y * Int64.ofInt y = Int64.ofInt (x.tmod y) := sorry
theorem yt_emod_big {x y : Int} (hy : 1 ≤ y) (hxy : y ≤ x) : x % y ≤ x - y := sorry
theorem yt_brem_ok {b : ys_B} {x y : ys_L} {brs : List yt_Br} (hs : yt_brem b x y = some brs) (hx : ys_stb b.1.length x) (hy : ys_stb b.1.length y) {r : Nat → Int} (hb : ys_okB r b) : ys_ev r y ≠ 0 ∧ (ys_mn true ≤ ys_ev r y ∧ ys_ev r y ≤ ys_mx true) ∧ (∀ br ∈ brs, yt_bst b.1.length br) ∧ ∃ br ∈ brs, ∃ z, yt_sel true b.1.length r x y (.long (Int64.ofInt (ys_ev r x) - Int64.ofInt (ys_ev r x) / Int64.ofInt (ys_ev r y) * Int64.ofInt (ys_ev r y))) br z := sorry
/-- a quotient by what is above 0 -/
def yt_bdiv (b : ys_B) (x y : ys_L) : Option (List yt_Br) := match ys_low b.1 y, ys_low b.1 x, ys_high b.1 x with
  | some ly, some lx, some hx => if ys_inr true b.1 x && (ys_inr true b.1 y && decide (1 ≤ ly)) then some [((0, 0), [x, yt_m1 (ys_sub y x)], ([], 0), false), ((1, hx), [ys_sub x y, ys_sub x (ys_sym b.1.length)], ys_sym b.1.length, false), ((lx, 0), [yt_m1 (yt_ng x), ys_sub (ys_sym b.1.length) x], ys_sym b.1.length, false)] else none
  | _, _, _ => none
theorem yt_div64 {x y : Int} (hx : -9223372036854775808 ≤ x ∧ x ≤ 9223372036854775807) (hy : -9223372036854775808 ≤ y ∧ y ≤ 9223372036854775807) : Int64.ofInt x / Int64.ofInt y = Int64.ofInt (x.tdiv y) := sorry
theorem yt_bdiv_ok {b : ys_B} {x y : ys_L} {brs : List yt_Br} (hs : yt_bdiv b x y = some brs) (hx : ys_stb b.1.length x) (hy : ys_stb b.1.length y) {r : Nat → Int} (hb : ys_okB r b) : ys_ev r y ≠ 0 ∧ (ys_mn true ≤ ys_ev r y ∧ ys_ev r y ≤ ys_mx true) ∧ (∀ br ∈ brs, yt_bst b.1.length br) ∧ ∃ br ∈ brs, ∃ z, yt_sel true b.1.length r x y (.long (Int64.ofInt (ys_ev r x) / Int64.ofInt (ys_ev r y))) br z := sorry
/-- a product, by the bounds of both -/
def yt_mi (a b : Int) : Int := if a ≤ b then a else b
def yt_ma (a b : Int) : Int := if a ≤ b then b else a
def yt_pr (lx hx ly hy : Int) : Int × Int := (yt_mi (yt_mi (lx * ly) (lx * hy)) (yt_mi (hx * ly) (hx * hy)), yt_ma (yt_ma (lx * ly) (lx * hy)) (yt_ma (hx * ly) (hx * hy)))
def yt_sq (lx hx : Int) : Int × Int := (if 0 ≤ lx then lx * lx else if hx ≤ 0 then hx * hx else 0, yt_ma (lx * lx) (hx * hx))
theorem yt_mul1 {l h x y : Int} (h1 : l ≤ x) (h2 : x ≤ h) : yt_mi (l * y) (h * y) ≤ x * y ∧ x * y ≤ yt_ma (l * y) (h * y) := sorry
theorem yt_pr_ok {lx hx ly hy x y : Int} (h1 : lx ≤ x) (h2 : x ≤ hx) (h3 : ly ≤ y) (h4 : y ≤ hy) : (yt_pr lx hx ly hy).1 ≤ x * y ∧ x * y ≤ (yt_pr lx hx ly hy).2 := sorry
theorem yt_sq_ok {lx hx x : Int} (h1 : lx ≤ x) (h2 : x ≤ hx) : (yt_sq lx hx).1 ≤ x * x ∧ x * x ≤ (yt_sq lx hx).2 := sorry
def yt_pb (x y : ys_L) (q t : Int × Int) : Int × Int := if x = y then yt_sq q.1 q.2 else yt_pr q.1 q.2 t.1 t.2
def yt_bmul (w : Bool) (b : ys_B) (x y : ys_L) : Option (List yt_Br) := match ys_ivl b.1 x, ys_ivl b.1 y with
  | some q, some t => if ys_mn w ≤ (yt_pb x y q t).1 ∧ (yt_pb x y q t).2 ≤ ys_mx w then some [(yt_pb x y q t, [], ys_sym b.1.length, true)] else none
  | _, _ => none
theorem yt_bmul_ok {w : Bool} {b : ys_B} {x y : ys_L} {brs : List yt_Br} (hs : yt_bmul w b x y = some brs) {r : Nat → Int} (hb : ys_okB r b) : (∀ br ∈ brs, yt_bst b.1.length br) ∧ ∃ br ∈ brs, ∃ z, yt_sel w b.1.length r x y (yt_vl w (ys_ev r x * ys_ev r y)) br z := sorry
/-- bits of two that are not below 0 -/
def yt_band (b : ys_B) (x y : ys_L) : Option (List yt_Br) := match ys_nnb false b.1 y with
  | some u => if ys_geb b.1 x 0 && ys_inr false b.1 x then some [((0, u), [ys_sub y (ys_sym b.1.length), ys_sub x (ys_sym b.1.length)], ys_sym b.1.length, false)] else some [((0, u), [ys_sub y (ys_sym b.1.length)], ys_sym b.1.length, false)]
  | none => none
theorem yt_and_comm32 (x y : Int32) : x &&& y = y &&& x := sorry
theorem yt_band_ok {b : ys_B} {x y : ys_L} {brs : List yt_Br} (hs : yt_band b x y = some brs) (hx : ys_stb b.1.length x) (hy : ys_stb b.1.length y) {r : Nat → Int} (hb : ys_okB r b) : (∀ br ∈ brs, yt_bst b.1.length br) ∧ ∃ br ∈ brs, ∃ z, yt_sel false b.1.length r x y (.int (Int32.ofInt (ys_ev r x) &&& Int32.ofInt (ys_ev r y))) br z := sorry
/-- how far from 0 -/
def yt_babs (w : Bool) (b : ys_B) (x : ys_L) : Option (List yt_Br) := if ys_inr w b.1 x then (if ys_geb b.1 x (ys_mn w + 1) then some [((0, 0), [x], x, false), ((0, 0), [yt_m1 (yt_ng x)], yt_ng x, false)] else some [((0, 0), [x], x, false), ((0, 0), [yt_m1 (yt_ng x), ys_sub x ([], ys_mn w + 1)], yt_ng x, false), ((0, 0), [ys_sub ([], ys_mn w) x], ([], ys_mn w), false)]) else none
theorem yt_babs_ok {w : Bool} {b : ys_B} {x : ys_L} {brs : List yt_Br} (hs : yt_babs w b x = some brs) (hx : ys_stb b.1.length x) {r : Nat → Int} (hb : ys_okB r b) {V : Value} (hV1 : 0 ≤ ys_ev r x → V = yt_vl w (ys_ev r x)) (hV2 : ys_ev r x < 0 → V = yt_vl w (-ys_ev r x)) (hV3 : ys_ev r x = ys_mn w → V = yt_vl w (ys_mn w)) : (ys_mn w ≤ ys_ev r x ∧ ys_ev r x ≤ ys_mx w) ∧ (∀ br ∈ brs, yt_bst b.1.length br) ∧ ∃ br ∈ brs, ∃ z, yt_sel w b.1.length r x x V br z := sorry
