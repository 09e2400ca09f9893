/-! numbers by cases: a new symbol, facts, what the number is, whether it is the product -/
abbrev yt_Br : Type := (Int × Int) × List ys_L × ys_L × Bool
noncomputable def yt_num (w : Bool) (pc : Nat) (b : ys_B) (fds : ys_F) (lv : List (Nat × ys_V)) (t : List ys_V) (h : List yt_Ev) (x y : ys_L) (brs : List yt_Br) : List yt_U := brs.flatMap fun br => match ys_ass (b.1 ++ [br.1], b.2) br.2.1 with
  | some b' => [(pc, (b', fds, lv, yt_mk w br.2.2.1 :: t), if br.2.2.2 = true then .inl (.inr (b.1.length, x, y)) :: h else h)]
  | none => []
noncomputable def yt_bst (n : Nat) (br : yt_Br) : Prop := (∀ f ∈ br.2.1, ys_stb (n + 1) f) ∧ ys_stb (n + 1) br.2.2.1
noncomputable def yt_sel (w : Bool) (n : Nat) (r : Nat → Int) (x y : ys_L) (V : Value) (br : yt_Br) (z : Int) : Prop := (br.1.1 ≤ z ∧ z ≤ br.1.2) ∧ ys_fk (ys_up r n z) br.2.1 ∧ yt_vl w (ys_ev (ys_up r n z) br.2.2.1) = V ∧ (br.2.2.2 = true → z = ys_ev r x * ys_ev r y)
section YTN
variable {p : Program} {l : Launch} {e : Env} {R : Room} {s : State} {m : MethodId} {args : Array Value} {below : List Frame} {meth : Method} {c : Code} {Q : State → Prop} {kc kz : Nat} {D : va_G} {cl : List vw_C} {ad : Nat → Nat} {cT : Nat → ClassId} {sh : List ys_C} {A : Nat → Prop} {H0 : Heap} {nL : Nat} {mods : List Nat} {g0 : yt_G} {r0 : Nat → Int} {E : Nat} {tb : yt_Tb} {gi : yt_G} {h : List yt_Ev} {pc : Nat} {b : ys_B} {fds : ys_F} {lv : List (Nat × ys_V)} {sv : List ys_V} {succ : List yt_U} {cc : ByteArray} {own : String} {Ts : List Cond} {tys : List (ClassId × FieldType)}
theorem yt_knum {w : Bool} {pc' : Nat} {x y : ys_L} {brs : List yt_Br} {t : List ys_V} {r : Nat → Int} {g : yt_G} {H : Heap} {locs : List Loc} {ls : Array Slot} {st : List Value} {V : Value} (hrep : ys_rep D cl ad cT sh A H0 nL [] g r0 r E (b, fds, lv, t) H locs ls st) (hh : yt_h tb r gi h g) (hsc : ∀ v ∈ h, yt_sc b.1.length v) (hm : ∀ k, k ∉ mods → g k = g0 k) (hx : ys_stb b.1.length x) (hy : ys_stb b.1.length y) (hst : ∀ br ∈ brs, yt_bst b.1.length br) (hsel : ∃ br ∈ brs, ∃ z, yt_sel w b.1.length r x y V br z) (k : ∀ q ∈ yt_num w pc' b fds lv t h x y brs, yt_X p l e R s m args below meth c Q kc kz D cl ad cT sh A H0 nL mods g0 r0 E tb gi q.2.2 q.1 q.2.1) : W p l e R s m args below meth c H locs kc kz Q (F0 m pc' ls (V :: st)) := by
  obtain ⟨br, hbr, z, hz, hf, hV, hev⟩ := hsel
  obtain ⟨hs1, hs2⟩ := hst br hbr
  have hok := ys_new_ok hrep.1 hrep.2.1.1 hz
  have hl0 : (b.1 ++ [br.1]).length = b.1.length + 1 := by rw [List.length_append, List.length_singleton]
  obtain ⟨b', eb, hb'⟩ := ys_ass_ok br.2.1 hok hf
  have hl : b'.1.length = b.1.length + 1 := (ys_ass_len _ eb).trans hl0
  have hsc' := ys_ass_sc (n := b.1.length + 1) br.2.1 hl0 (ys_scB_new hrep.2.1.1) hs1 eb
  have g3 := ys_rep_ext hrep (r' := ys_up r b.1.length z) (b' := b') ys_up_lt hb' (by rw [hl]; omega) hsc'
  have hmem : ((pc', (b', fds, lv, yt_mk w br.2.2.1 :: t), if br.2.2.2 = true then .inl (.inr (b.1.length, x, y)) :: h else h) : yt_U) ∈ yt_num w pc' b fds lv t h x y brs := by
    refine List.mem_flatMap.mpr ⟨br, hbr, ?_⟩
    rw [eb]
    exact List.mem_cons_self
  have hcg : ∀ i, i < b.1.length → r i = ys_up r b.1.length z i := fun i hi => (ys_up_lt i hi).symm
  have hle : b.1.length ≤ b'.1.length := by rw [hl]; omega
  have k1 := k _ hmem (ys_up r b.1.length z) g H locs ls _ (ys_rep_push g3 (yt_mk w br.2.2.1) (yt_mk_st (by rw [hl]; exact hs2))) (by
    dsimp only
    split
    · rename_i he
      refine ⟨g, yt_h_cong hcg hsc hh, rfl, ?_⟩
      show ys_up r b.1.length z b.1.length = ys_ev (ys_up r b.1.length z) x * ys_ev (ys_up r b.1.length z) y
      rw [ys_up_at, ← hx r _ hcg, ← hy r _ hcg]
      exact hev he
    · exact yt_h_cong hcg hsc hh) (fun v hv => by
      dsimp only at hv
      split at hv
      · rcases List.mem_cons.mp hv with q | q
        · rw [q]
          exact ⟨by show b.1.length < b'.1.length; omega, ys_stb_mono hx hle, ys_stb_mono hy hle⟩
        · exact yt_sc_mono hle (hsc v q)
      · exact yt_sc_mono hle (hsc v hv)) hm
  rw [yt_mk_den, hV] at k1
  exact k1
end YTN
/-- facts in short -/
noncomputable def yt_ge0 (n : Nat) (fs : List ys_L) : Prop := ∀ f ∈ fs, ys_stb (n + 1) f
theorem yt_fk2 {r : Nat → Int} {f g : ys_L} (h1 : 0 ≤ ys_ev r f) (h2 : 0 ≤ ys_ev r g) : ys_fk r [f, g] := fun q hq => by
  rcases List.mem_cons.mp hq with e | e
  · rw [e]; exact h1
  · rw [List.mem_singleton.mp e]; exact h2
theorem yt_fk3 {r : Nat → Int} {f g k : ys_L} (h1 : 0 ≤ ys_ev r f) (h2 : 0 ≤ ys_ev r g) (h3 : 0 ≤ ys_ev r k) : ys_fk r [f, g, k] := fun q hq => by
  rcases List.mem_cons.mp hq with e | e
  · rw [e]; exact h1
  · exact yt_fk2 h2 h3 q e
theorem yt_all1 {n : Nat} {f : ys_L} (h1 : ys_stb n f) : ∀ q ∈ [f], ys_stb n q := fun q hq => by rw [List.mem_singleton.mp hq]; exact h1
theorem yt_all2 {n : Nat} {f g : ys_L} (h1 : ys_stb n f) (h2 : ys_stb n g) : ∀ q ∈ [f, g], ys_stb n q := fun q hq => by
  rcases List.mem_cons.mp hq with e | e
  · rw [e]; exact h1
  · exact yt_all1 h2 q e
theorem yt_all3 {n : Nat} {f g k : ys_L} (h1 : ys_stb n f) (h2 : ys_stb n g) (h3 : ys_stb n k) : ∀ q ∈ [f, g, k], ys_stb n q := fun q hq => by
  rcases List.mem_cons.mp hq with e | e
  · rw [e]; exact h1
  · exact yt_all2 h2 h3 q e
noncomputable def yt_m1 (f : ys_L) : ys_L := ys_add f ([], -1)
theorem yt_m1_ev {r : Nat → Int} {f : ys_L} : ys_ev r (yt_m1 f) = ys_ev r f - 1 := ys_m1 r f
noncomputable def yt_ng (f : ys_L) : ys_L := ys_scale (-1) f
theorem yt_ng_ev {r : Nat → Int} {f : ys_L} : ys_ev r (yt_ng f) = -ys_ev r f := by
  unfold yt_ng
  rw [ys_scale_ev]
  omega
theorem yt_up_ev {r : Nat → Int} {n : Nat} {z : Int} {x : ys_L} (hx : ys_stb n x) : ys_ev (ys_up r n z) x = ys_ev r x := hx _ _ fun i hi => ys_up_lt i hi
theorem yt_up_sym {r : Nat → Int} {n : Nat} {z : Int} : ys_ev (ys_up r n z) (ys_sym n) = z := by rw [ys_sym_ev, ys_up_at]
/-- what is left of a division, by the signs -/
noncomputable def yt_brem (b : ys_B) (x y : ys_L) : Option (List yt_Br) := match ys_low b.1 y, ys_high b.1 y with
  | some ly, some hy => if ys_inr true b.1 x && ys_inr true b.1 y then
      (if 1 ≤ ly then some [((0, 0), [x, yt_m1 (ys_sub y x)], x, false), ((0, hy), [ys_sub x y, yt_m1 (ys_sub y (ys_sym b.1.length)), ys_sub (ys_sub x y) (ys_sym b.1.length)], ys_sym b.1.length, false), ((-hy, 0), [yt_m1 (yt_ng x), yt_m1 (ys_add (ys_sym b.1.length) y), ys_sub (ys_sym b.1.length) x], ys_sym b.1.length, false)]
      else if hy ≤ -1 then some [((0, -ly), [x, yt_m1 (ys_sub (yt_ng y) (ys_sym b.1.length)), ys_sub x (ys_sym b.1.length)], ys_sym b.1.length, false), ((ly, 0), [yt_m1 (yt_ng x), yt_m1 (ys_sub (ys_sym b.1.length) y), ys_sub (ys_sym b.1.length) x], ys_sym b.1.length, false)]
      else none) else none
  | _, _ => none
theorem yt_rem64 {x y : Int} (hx : -9223372036854775808 ≤ x ∧ x ≤ 9223372036854775807) (hy : -9223372036854775808 ≤ y ∧ y ≤ 9223372036854775807) : Int64.ofInt x - Int64.ofInt x / Int64.ofInt y * Int64.ofInt y = Int64.ofInt (x.tmod y) := by
  have hd : Int64.ofInt x / Int64.ofInt y = Int64.ofInt (x.tdiv y) := by
    apply Int64.toInt_inj.mp
    rw [Int64.toInt_div, Int64.toInt_ofInt_of_le (by omega) (by omega), Int64.toInt_ofInt_of_le (by omega) (by omega), Int64.toInt_ofInt]
  rw [hd, ← Int64.ofInt_mul, ← Int64.ofInt_sub, Int.tmod_def, Int.mul_comm y]
theorem yt_emod_big {x y : Int} (hy : 1 ≤ y) (hxy : y ≤ x) : x % y ≤ x - y := by
  have h1 := Int.emod_add_mul_ediv x y
  have h2 : 1 ≤ x / y := Int.le_ediv_of_mul_le (by omega) (by omega)
  have h3 := Int.mul_le_mul_of_nonneg_left h2 (show (0 : Int) ≤ y by omega)
  omega
theorem yt_brem_ok {b : ys_B} {x y : ys_L} {brs : List yt_Br} (hs : yt_brem b x y = some brs) (hx : ys_stb b.1.length x) (hy : ys_stb b.1.length y) {r : Nat → Int} (hb : ys_okB r b) : ys_ev r y ≠ 0 ∧ (ys_mn true ≤ ys_ev r y ∧ ys_ev r y ≤ ys_mx true) ∧ (∀ br ∈ brs, yt_bst b.1.length br) ∧ ∃ br ∈ brs, ∃ z, yt_sel true b.1.length r x y (.long (Int64.ofInt (ys_ev r x) - Int64.ofInt (ys_ev r x) / Int64.ofInt (ys_ev r y) * Int64.ofInt (ys_ev r y))) br z := by
  have sx := ys_stb_mono hx (Nat.le_succ _)
  have sy := ys_stb_mono hy (Nat.le_succ _)
  have sn : ys_stb (b.1.length + 1) (ys_sym b.1.length) := ys_stb_sym (Nat.lt_succ_self _)
  unfold yt_brem at hs
  split at hs
  · rename_i ly hyy hl hu
    split at hs
    · rename_i hc
      rw [Bool.and_eq_true] at hc
      have rx := ys_inr_ok hb.1 hc.1
      have ry := ys_inr_ok hb.1 hc.2
      rw [ys_mn_t, ys_mx_t] at rx ry
      have l1 := ys_low_le hb.1 hl
      have l2 := ys_high_le hb.1 hu
      have hrem := yt_rem64 rx ry
      rw [hrem]
      split at hs
      · rename_i hp
        cases Option.some.inj hs
        refine ⟨by omega, ys_inr_ok hb.1 hc.2, ?_, ?_⟩
        · intro br hbr
          rcases List.mem_cons.mp hbr with q | hbr
          · rw [q]
            exact ⟨yt_all2 sx (ys_stb_m1 (ys_stb_sub sy sx)), sx⟩
          rcases List.mem_cons.mp hbr with q | hbr
          · rw [q]
            exact ⟨yt_all3 (ys_stb_sub sx sy) (ys_stb_m1 (ys_stb_sub sy sn)) (ys_stb_sub (ys_stb_sub sx sy) sn), sn⟩
          · rw [List.mem_singleton.mp hbr]
            exact ⟨yt_all3 (ys_stb_m1 (ys_stb_scale _ sx)) (ys_stb_m1 (ys_stb_add sn sy)) (ys_stb_sub sn sx), sn⟩
        · by_cases h0 : 0 ≤ ys_ev r x
          · have e1 : (ys_ev r x).tmod (ys_ev r y) = ys_ev r x % ys_ev r y := Int.tmod_eq_emod_of_nonneg h0
            have e2 := Int.emod_nonneg (ys_ev r x) (b := ys_ev r y) (by omega)
            have e3 := Int.emod_lt_of_pos (ys_ev r x) (b := ys_ev r y) (by omega)
            by_cases hlt : ys_ev r x < ys_ev r y
            · refine ⟨_, List.mem_cons_self, 0, ⟨Int.le_refl 0, Int.le_refl 0⟩, yt_fk2 ?_ ?_, ?_, fun z => by cases z⟩
              · rw [yt_up_ev hx]; exact h0
              · rw [yt_m1_ev, ys_sub_ev, yt_up_ev hx, yt_up_ev hy]; omega
              · show Value.long (Int64.ofInt (ys_ev _ x)) = _
                rw [yt_up_ev hx, e1, Int.emod_eq_of_lt h0 hlt]
            · have e4 := yt_emod_big (x := ys_ev r x) (y := ys_ev r y) (by omega) (by omega)
              refine ⟨_, List.mem_cons_of_mem _ List.mem_cons_self, ys_ev r x % ys_ev r y, ⟨e2, by show _ ≤ hyy; omega⟩, yt_fk3 ?_ ?_ ?_, ?_, fun z => by cases z⟩
              · rw [ys_sub_ev, yt_up_ev hx, yt_up_ev hy]; omega
              · rw [yt_m1_ev, ys_sub_ev, yt_up_ev hy, yt_up_sym]; omega
              · rw [ys_sub_ev, ys_sub_ev, yt_up_ev hx, yt_up_ev hy, yt_up_sym]; omega
              · show Value.long (Int64.ofInt (ys_ev _ (ys_sym b.1.length))) = _
                rw [yt_up_sym, e1]
          · have e1 : (ys_ev r x).tmod (ys_ev r y) = -((-ys_ev r x) % ys_ev r y) := by
              have := Int.neg_tmod (-ys_ev r x) (ys_ev r y)
              rw [Int.neg_neg, Int.tmod_eq_emod_of_nonneg (show 0 ≤ -ys_ev r x by omega)] at this
              exact this
            have e2 := Int.emod_nonneg (-ys_ev r x) (b := ys_ev r y) (by omega)
            have e3 := Int.emod_lt_of_pos (-ys_ev r x) (b := ys_ev r y) (by omega)
            have e4 : (-ys_ev r x) % ys_ev r y ≤ -ys_ev r x := by
              by_cases hlt : -ys_ev r x < ys_ev r y
              · rw [Int.emod_eq_of_lt (by omega) hlt]
                omega
              · have := yt_emod_big (x := -ys_ev r x) (y := ys_ev r y) (by omega) (by omega)
                omega
            refine ⟨_, List.mem_cons_of_mem _ (List.mem_cons_of_mem _ List.mem_cons_self), -((-ys_ev r x) % ys_ev r y), ⟨by show -hyy ≤ _; omega, by show _ ≤ (0 : Int); omega⟩, yt_fk3 ?_ ?_ ?_, ?_, fun z => by cases z⟩
            · rw [yt_m1_ev, yt_ng_ev, yt_up_ev hx]; omega
            · rw [yt_m1_ev, ys_add_ev, yt_up_ev hy, yt_up_sym]; omega
            · rw [ys_sub_ev, yt_up_ev hx, yt_up_sym]; omega
            · show Value.long (Int64.ofInt (ys_ev _ (ys_sym b.1.length))) = _
              rw [yt_up_sym, e1]
      · split at hs
        · rename_i hp
          cases Option.some.inj hs
          refine ⟨by omega, ys_inr_ok hb.1 hc.2, ?_, ?_⟩
          · intro br hbr
            rcases List.mem_cons.mp hbr with q | hbr
            · rw [q]
              exact ⟨yt_all3 sx (ys_stb_m1 (ys_stb_sub (ys_stb_scale _ sy) sn)) (ys_stb_sub sx sn), sn⟩
            · rw [List.mem_singleton.mp hbr]
              exact ⟨yt_all3 (ys_stb_m1 (ys_stb_scale _ sx)) (ys_stb_m1 (ys_stb_sub sn sy)) (ys_stb_sub sn sx), sn⟩
          · have e0 : (ys_ev r x).tmod (ys_ev r y) = (ys_ev r x).tmod (-ys_ev r y) := (Int.tmod_neg _ _).symm
            rw [e0]
            by_cases h0 : 0 ≤ ys_ev r x
            · have e1 : (ys_ev r x).tmod (-ys_ev r y) = ys_ev r x % (-ys_ev r y) := Int.tmod_eq_emod_of_nonneg h0
              have e2 := Int.emod_nonneg (ys_ev r x) (b := -ys_ev r y) (by omega)
              have e3 := Int.emod_lt_of_pos (ys_ev r x) (b := -ys_ev r y) (by omega)
              have e4 : ys_ev r x % (-ys_ev r y) ≤ ys_ev r x := by
                by_cases hlt : ys_ev r x < -ys_ev r y
                · rw [Int.emod_eq_of_lt h0 hlt]
                  omega
                · have := yt_emod_big (x := ys_ev r x) (y := -ys_ev r y) (by omega) (by omega)
                  omega
              refine ⟨_, List.mem_cons_self, ys_ev r x % (-ys_ev r y), ⟨e2, by show _ ≤ -ly; omega⟩, yt_fk3 ?_ ?_ ?_, ?_, fun z => by cases z⟩
              · rw [yt_up_ev hx]; exact h0
              · rw [yt_m1_ev, ys_sub_ev, yt_ng_ev, yt_up_ev hy, yt_up_sym]; omega
              · rw [ys_sub_ev, yt_up_ev hx, yt_up_sym]; omega
              · show Value.long (Int64.ofInt (ys_ev _ (ys_sym b.1.length))) = _
                rw [yt_up_sym, e1]
            · have e1 : (ys_ev r x).tmod (-ys_ev r y) = -((-ys_ev r x) % (-ys_ev r y)) := by
                have := Int.neg_tmod (-ys_ev r x) (-ys_ev r y)
                rw [Int.neg_neg, Int.tmod_eq_emod_of_nonneg (show 0 ≤ -ys_ev r x by omega)] at this
                exact this
              have e2 := Int.emod_nonneg (-ys_ev r x) (b := -ys_ev r y) (by omega)
              have e3 := Int.emod_lt_of_pos (-ys_ev r x) (b := -ys_ev r y) (by omega)
              have e4 : (-ys_ev r x) % (-ys_ev r y) ≤ -ys_ev r x := by
                by_cases hlt : -ys_ev r x < -ys_ev r y
                · rw [Int.emod_eq_of_lt (by omega) hlt]
                  omega
                · have := yt_emod_big (x := -ys_ev r x) (y := -ys_ev r y) (by omega) (by omega)
                  omega
              refine ⟨_, List.mem_cons_of_mem _ List.mem_cons_self, -((-ys_ev r x) % (-ys_ev r y)), ⟨by show ly ≤ _; omega, by show _ ≤ (0 : Int); omega⟩, yt_fk3 ?_ ?_ ?_, ?_, fun z => by cases z⟩
              · rw [yt_m1_ev, yt_ng_ev, yt_up_ev hx]; omega
              · rw [yt_m1_ev, ys_sub_ev, yt_up_ev hy, yt_up_sym]; omega
              · rw [ys_sub_ev, yt_up_ev hx, yt_up_sym]; omega
              · show Value.long (Int64.ofInt (ys_ev _ (ys_sym b.1.length))) = _
                rw [yt_up_sym, e1]
        · cases hs
    · cases hs
  · cases hs
/-- a quotient by what is above 0 -/
noncomputable def yt_bdiv (b : ys_B) (x y : ys_L) : Option (List yt_Br) := match ys_low b.1 y, ys_low b.1 x, ys_high b.1 x with
  | some ly, some lx, some hx => if ys_inr true b.1 x && (ys_inr true b.1 y && decide (1 ≤ ly)) then some [((0, 0), [x, yt_m1 (ys_sub y x)], ([], 0), false), ((1, hx), [ys_sub x y, ys_sub x (ys_sym b.1.length)], ys_sym b.1.length, false), ((lx, 0), [yt_m1 (yt_ng x), ys_sub (ys_sym b.1.length) x], ys_sym b.1.length, false)] else none
  | _, _, _ => none
theorem yt_div64 {x y : Int} (hx : -9223372036854775808 ≤ x ∧ x ≤ 9223372036854775807) (hy : -9223372036854775808 ≤ y ∧ y ≤ 9223372036854775807) : Int64.ofInt x / Int64.ofInt y = Int64.ofInt (x.tdiv y) := by
  apply Int64.toInt_inj.mp
  rw [Int64.toInt_div, Int64.toInt_ofInt_of_le (by omega) (by omega), Int64.toInt_ofInt_of_le (by omega) (by omega), Int64.toInt_ofInt]
theorem yt_bdiv_ok {b : ys_B} {x y : ys_L} {brs : List yt_Br} (hs : yt_bdiv b x y = some brs) (hx : ys_stb b.1.length x) (hy : ys_stb b.1.length y) {r : Nat → Int} (hb : ys_okB r b) : ys_ev r y ≠ 0 ∧ (ys_mn true ≤ ys_ev r y ∧ ys_ev r y ≤ ys_mx true) ∧ (∀ br ∈ brs, yt_bst b.1.length br) ∧ ∃ br ∈ brs, ∃ z, yt_sel true b.1.length r x y (.long (Int64.ofInt (ys_ev r x) / Int64.ofInt (ys_ev r y))) br z := by
  have sx := ys_stb_mono hx (Nat.le_succ _)
  have sy := ys_stb_mono hy (Nat.le_succ _)
  have sn : ys_stb (b.1.length + 1) (ys_sym b.1.length) := ys_stb_sym (Nat.lt_succ_self _)
  unfold yt_bdiv at hs
  split at hs
  · rename_i ly lx hxx hl hlx hu
    split at hs
    · rename_i hc
      rw [Bool.and_eq_true, Bool.and_eq_true, decide_eq_true_eq] at hc
      obtain ⟨c1, c2, hp⟩ := hc
      have rx := ys_inr_ok hb.1 c1
      have ry := ys_inr_ok hb.1 c2
      rw [ys_mn_t, ys_mx_t] at rx ry
      have l1 := ys_low_le hb.1 hl
      have l2 := ys_high_le hb.1 hu
      have l3 := ys_low_le hb.1 hlx
      rw [yt_div64 rx ry]
      cases Option.some.inj hs
      refine ⟨by omega, ys_inr_ok hb.1 c2, ?_, ?_⟩
      · intro br hbr
        rcases List.mem_cons.mp hbr with q | hbr
        · rw [q]
          exact ⟨yt_all2 sx (ys_stb_m1 (ys_stb_sub sy sx)), ys_stb_cst 0⟩
        rcases List.mem_cons.mp hbr with q | hbr
        · rw [q]
          exact ⟨yt_all2 (ys_stb_sub sx sy) (ys_stb_sub sx sn), sn⟩
        · rw [List.mem_singleton.mp hbr]
          exact ⟨yt_all2 (ys_stb_m1 (ys_stb_scale _ sx)) (ys_stb_sub sn sx), sn⟩
      · by_cases h0 : 0 ≤ ys_ev r x
        · have e1 : (ys_ev r x).tdiv (ys_ev r y) = ys_ev r x / ys_ev r y := Int.tdiv_eq_ediv_of_nonneg h0
          by_cases hlt : ys_ev r x < ys_ev r y
          · refine ⟨_, List.mem_cons_self, 0, ⟨Int.le_refl 0, Int.le_refl 0⟩, yt_fk2 ?_ ?_, ?_, fun z => by cases z⟩
            · rw [yt_up_ev hx]; exact h0
            · rw [yt_m1_ev, ys_sub_ev, yt_up_ev hx, yt_up_ev hy]; omega
            · show Value.long (Int64.ofInt (ys_ev _ (([], 0) : ys_L))) = _
              rw [ys_ev0, e1, Int.ediv_eq_zero_of_lt h0 hlt]
          · have e2 : 1 ≤ ys_ev r x / ys_ev r y := Int.le_ediv_of_mul_le (by omega) (by omega)
            have e3 := Int.ediv_le_self (ys_ev r y) h0
            refine ⟨_, List.mem_cons_of_mem _ List.mem_cons_self, ys_ev r x / ys_ev r y, ⟨e2, by show _ ≤ hxx; omega⟩, yt_fk2 ?_ ?_, ?_, fun z => by cases z⟩
            · rw [ys_sub_ev, yt_up_ev hx, yt_up_ev hy]; omega
            · rw [ys_sub_ev, yt_up_ev hx, yt_up_sym]; omega
            · show Value.long (Int64.ofInt (ys_ev _ (ys_sym b.1.length))) = _
              rw [yt_up_sym, e1]
        · have e1 : (ys_ev r x).tdiv (ys_ev r y) = -((-ys_ev r x) / ys_ev r y) := by
            have := Int.neg_tdiv (-ys_ev r x) (ys_ev r y)
            rw [Int.neg_neg, Int.tdiv_eq_ediv_of_nonneg (show 0 ≤ -ys_ev r x by omega)] at this
            exact this
          have e2 := Int.ediv_nonneg (a := -ys_ev r x) (b := ys_ev r y) (by omega) (by omega)
          have e3 := Int.ediv_le_self (a := -ys_ev r x) (ys_ev r y) (by omega)
          refine ⟨_, List.mem_cons_of_mem _ (List.mem_cons_of_mem _ List.mem_cons_self), -((-ys_ev r x) / ys_ev r y), ⟨by show lx ≤ _; omega, by show _ ≤ (0 : Int); omega⟩, yt_fk2 ?_ ?_, ?_, fun z => by cases z⟩
          · rw [yt_m1_ev, yt_ng_ev, yt_up_ev hx]; omega
          · rw [ys_sub_ev, yt_up_ev hx, yt_up_sym]; omega
          · show Value.long (Int64.ofInt (ys_ev _ (ys_sym b.1.length))) = _
            rw [yt_up_sym, e1]
    · cases hs
  · cases hs
/-- a product, by the bounds of both -/
noncomputable def yt_mi (a b : Int) : Int := if a ≤ b then a else b
noncomputable def yt_ma (a b : Int) : Int := if a ≤ b then b else a
noncomputable def yt_pr (lx hx ly hy : Int) : Int × Int := (yt_mi (yt_mi (lx * ly) (lx * hy)) (yt_mi (hx * ly) (hx * hy)), yt_ma (yt_ma (lx * ly) (lx * hy)) (yt_ma (hx * ly) (hx * hy)))
noncomputable def yt_sq (lx hx : Int) : Int × Int := (if 0 ≤ lx then lx * lx else if hx ≤ 0 then hx * hx else 0, yt_ma (lx * lx) (hx * hx))
theorem yt_mul1 {l h x y : Int} (h1 : l ≤ x) (h2 : x ≤ h) : yt_mi (l * y) (h * y) ≤ x * y ∧ x * y ≤ yt_ma (l * y) (h * y) := by
  unfold yt_mi yt_ma
  by_cases hy : 0 ≤ y
  · have a1 := Int.mul_le_mul_of_nonneg_right h1 hy
    have a2 := Int.mul_le_mul_of_nonneg_right h2 hy
    split <;> omega
  · have a1 := Int.mul_le_mul_of_nonpos_right h1 (show y ≤ 0 by omega)
    have a2 := Int.mul_le_mul_of_nonpos_right h2 (show y ≤ 0 by omega)
    split <;> omega
theorem yt_pr_ok {lx hx ly hy x y : Int} (h1 : lx ≤ x) (h2 : x ≤ hx) (h3 : ly ≤ y) (h4 : y ≤ hy) : (yt_pr lx hx ly hy).1 ≤ x * y ∧ x * y ≤ (yt_pr lx hx ly hy).2 := by
  have a := yt_mul1 (y := y) h1 h2
  have b := yt_mul1 (y := lx) h3 h4
  have c := yt_mul1 (y := hx) h3 h4
  rw [Int.mul_comm ly lx, Int.mul_comm hy lx, Int.mul_comm y lx] at b
  rw [Int.mul_comm ly hx, Int.mul_comm hy hx, Int.mul_comm y hx] at c
  unfold yt_pr
  dsimp only
  generalize yt_mi (lx * ly) (lx * hy) = m1 at *
  generalize yt_mi (hx * ly) (hx * hy) = m2 at *
  generalize yt_ma (lx * ly) (lx * hy) = m3 at *
  generalize yt_ma (hx * ly) (hx * hy) = m4 at *
  unfold yt_mi yt_ma at *
  split at a <;> split <;> split <;> omega
theorem yt_sq_ok {lx hx x : Int} (h1 : lx ≤ x) (h2 : x ≤ hx) : (yt_sq lx hx).1 ≤ x * x ∧ x * x ≤ (yt_sq lx hx).2 := by
  unfold yt_sq yt_ma
  dsimp only
  by_cases h0 : 0 ≤ x
  · have a1 := Int.mul_le_mul h2 h2 h0 (show 0 ≤ hx by omega)
    have a2 := Int.mul_nonneg h0 h0
    refine ⟨?_, by split <;> omega⟩
    split
    · rename_i hl
      exact Int.mul_le_mul h1 h1 hl h0
    · split
      · rename_i hh
        have : hx = 0 := by omega
        rw [this]
        omega
      · exact a2
  · have a0 : x * x = (-x) * (-x) := (Int.neg_mul_neg x x).symm
    have b0 : lx * lx = (-lx) * (-lx) := (Int.neg_mul_neg lx lx).symm
    have a1 := Int.mul_le_mul (show -x ≤ -lx by omega) (show -x ≤ -lx by omega) (show 0 ≤ -x by omega) (show 0 ≤ -lx by omega)
    rw [← a0, ← b0] at a1
    have a2 := Int.mul_nonneg (show 0 ≤ -x by omega) (show 0 ≤ -x by omega)
    rw [← a0] at a2
    refine ⟨?_, by split <;> omega⟩
    split
    · omega
    · split
      · rename_i hh
        have c0 : hx * hx = (-hx) * (-hx) := (Int.neg_mul_neg hx hx).symm
        rw [a0, c0]
        exact Int.mul_le_mul (show -hx ≤ -x by omega) (show -hx ≤ -x by omega) (show 0 ≤ -hx by omega) (show 0 ≤ -x by omega)
      · exact a2
noncomputable def yt_pb (x y : ys_L) (q t : Int × Int) : Int × Int := if x = y then yt_sq q.1 q.2 else yt_pr q.1 q.2 t.1 t.2
noncomputable def yt_bmul (w : Bool) (b : ys_B) (x y : ys_L) : Option (List yt_Br) := match ys_ivl b.1 x, ys_ivl b.1 y with
  | some q, some t => if ys_mn w ≤ (yt_pb x y q t).1 ∧ (yt_pb x y q t).2 ≤ ys_mx w then some [(yt_pb x y q t, [], ys_sym b.1.length, true)] else none
  | _, _ => none
theorem yt_bmul_ok {w : Bool} {b : ys_B} {x y : ys_L} {brs : List yt_Br} (hs : yt_bmul w b x y = some brs) {r : Nat → Int} (hb : ys_okB r b) : (∀ br ∈ brs, yt_bst b.1.length br) ∧ ∃ br ∈ brs, ∃ z, yt_sel w b.1.length r x y (yt_vl w (ys_ev r x * ys_ev r y)) br z := by
  have sn : ys_stb (b.1.length + 1) (ys_sym b.1.length) := ys_stb_sym (Nat.lt_succ_self _)
  unfold yt_bmul at hs
  split at hs
  · rename_i q t hq ht
    have h1 := ys_ivl_ok hb.1 hq
    have h2 := ys_ivl_ok hb.1 ht
    split at hs
    · have hs := (Option.some.inj hs).symm
      subst hs
      refine ⟨fun br hbr => ?_, _, List.mem_cons_self, ys_ev r x * ys_ev r y, ?_, fun f hf => absurd hf List.not_mem_nil, ?_, fun _ => rfl⟩
      · rw [List.mem_singleton.mp hbr]
        exact ⟨fun f hf => absurd hf List.not_mem_nil, sn⟩
      · show (yt_pb x y q t).1 ≤ _ ∧ _ ≤ (yt_pb x y q t).2
        unfold yt_pb
        split
        · rename_i e
          rw [← e]
          exact yt_sq_ok h1.1 h1.2
        · exact yt_pr_ok h1.1 h1.2 h2.1 h2.2
      · show yt_vl w (ys_ev _ (ys_sym b.1.length)) = _
        rw [yt_up_sym]
    · cases hs
  · cases hs
/-- bits of two that are not below 0 -/
noncomputable def yt_band (b : ys_B) (x y : ys_L) : Option (List yt_Br) := match ys_nnb false b.1 y with
  | some u => if ys_geb b.1 x 0 && ys_inr false b.1 x then some [((0, u), [ys_sub y (ys_sym b.1.length), ys_sub x (ys_sym b.1.length)], ys_sym b.1.length, false)] else some [((0, u), [ys_sub y (ys_sym b.1.length)], ys_sym b.1.length, false)]
  | none => none
theorem yt_and_comm32 (x y : Int32) : x &&& y = y &&& x := by
  apply Int32.toBitVec_inj.mp
  rw [Int32.toBitVec_and, Int32.toBitVec_and, BitVec.and_comm]
theorem yt_band_ok {b : ys_B} {x y : ys_L} {brs : List yt_Br} (hs : yt_band b x y = some brs) (hx : ys_stb b.1.length x) (hy : ys_stb b.1.length y) {r : Nat → Int} (hb : ys_okB r b) : (∀ br ∈ brs, yt_bst b.1.length br) ∧ ∃ br ∈ brs, ∃ z, yt_sel false b.1.length r x y (.int (Int32.ofInt (ys_ev r x) &&& Int32.ofInt (ys_ev r y))) br z := by
  have sx := ys_stb_mono hx (Nat.le_succ _)
  have sy := ys_stb_mono hy (Nat.le_succ _)
  have sn : ys_stb (b.1.length + 1) (ys_sym b.1.length) := ys_stb_sym (Nat.lt_succ_self _)
  unfold yt_band at hs
  split at hs
  · rename_i u hu
    obtain ⟨e1, e2, e3⟩ := ys_nnb32 hb.1 hu
    obtain ⟨a1, a2⟩ := ys_and32 (Int32.ofInt (ys_ev r x)) (y := Int32.ofInt (ys_ev r y)) (by rw [e1]; exact e2)
    rw [e1] at a2
    split at hs
    · rename_i hc
      rw [Bool.and_eq_true] at hc
      have ex := ys_inr32 hb.1 hc.2
      have e4 := ys_geb_le hb.1 hc.1
      obtain ⟨-, a3⟩ := ys_and32 (Int32.ofInt (ys_ev r y)) (y := Int32.ofInt (ys_ev r x)) (by rw [ex]; exact e4)
      rw [ex, yt_and_comm32] at a3
      cases Option.some.inj hs
      refine ⟨fun br hbr => ?_, _, List.mem_cons_self, (Int32.ofInt (ys_ev r x) &&& Int32.ofInt (ys_ev r y)).toInt, ⟨a1, by show _ ≤ u; omega⟩, yt_fk2 ?_ ?_, ?_, fun z => by cases z⟩
      · rw [List.mem_singleton.mp hbr]
        exact ⟨yt_all2 (ys_stb_sub sy sn) (ys_stb_sub sx sn), sn⟩
      · rw [ys_sub_ev, yt_up_ev hy, yt_up_sym]; omega
      · rw [ys_sub_ev, yt_up_ev hx, yt_up_sym]; omega
      · show Value.int (Int32.ofInt (ys_ev _ (ys_sym b.1.length))) = _
        rw [yt_up_sym, Int32.ofInt_toInt]
    · cases Option.some.inj hs
      refine ⟨fun br hbr => ?_, _, List.mem_cons_self, (Int32.ofInt (ys_ev r x) &&& Int32.ofInt (ys_ev r y)).toInt, ⟨a1, by show _ ≤ u; omega⟩, ys_fk1 ?_, ?_, fun z => by cases z⟩
      · rw [List.mem_singleton.mp hbr]
        exact ⟨yt_all1 (ys_stb_sub sy sn), sn⟩
      · rw [ys_sub_ev, yt_up_ev hy, yt_up_sym]; omega
      · show Value.int (Int32.ofInt (ys_ev _ (ys_sym b.1.length))) = _
        rw [yt_up_sym, Int32.ofInt_toInt]
  · cases hs
/-- how far from 0 -/
noncomputable def yt_babs (w : Bool) (b : ys_B) (x : ys_L) : Option (List yt_Br) := if ys_inr w b.1 x then (if ys_geb b.1 x (ys_mn w + 1) then some [((0, 0), [x], x, false), ((0, 0), [yt_m1 (yt_ng x)], yt_ng x, false)] else some [((0, 0), [x], x, false), ((0, 0), [yt_m1 (yt_ng x), ys_sub x ([], ys_mn w + 1)], yt_ng x, false), ((0, 0), [ys_sub ([], ys_mn w) x], ([], ys_mn w), false)]) else none
theorem yt_babs_ok {w : Bool} {b : ys_B} {x : ys_L} {brs : List yt_Br} (hs : yt_babs w b x = some brs) (hx : ys_stb b.1.length x) {r : Nat → Int} (hb : ys_okB r b) {V : Value} (hV1 : 0 ≤ ys_ev r x → V = yt_vl w (ys_ev r x)) (hV2 : ys_ev r x < 0 → V = yt_vl w (-ys_ev r x)) (hV3 : ys_ev r x = ys_mn w → V = yt_vl w (ys_mn w)) : (ys_mn w ≤ ys_ev r x ∧ ys_ev r x ≤ ys_mx w) ∧ (∀ br ∈ brs, yt_bst b.1.length br) ∧ ∃ br ∈ brs, ∃ z, yt_sel w b.1.length r x x V br z := by
  have sx := ys_stb_mono hx (Nat.le_succ _)
  unfold yt_babs at hs
  split at hs
  · rename_i hc
    have rx := ys_inr_ok hb.1 hc
    refine ⟨rx, ?_⟩
    split at hs
    · cases Option.some.inj hs
      refine ⟨fun br hbr => ?_, ?_⟩
      · rcases List.mem_cons.mp hbr with q | hbr
        · rw [q]
          exact ⟨yt_all1 sx, sx⟩
        · rw [List.mem_singleton.mp hbr]
          exact ⟨yt_all1 (ys_stb_m1 (ys_stb_scale _ sx)), ys_stb_scale _ sx⟩
      · by_cases h0 : 0 ≤ ys_ev r x
        · refine ⟨_, List.mem_cons_self, 0, ⟨Int.le_refl 0, Int.le_refl 0⟩, ys_fk1 ?_, ?_, fun z => by cases z⟩
          · rw [yt_up_ev hx]; exact h0
          · dsimp only
            rw [yt_up_ev hx, hV1 h0]
        · refine ⟨_, List.mem_cons_of_mem _ List.mem_cons_self, 0, ⟨Int.le_refl 0, Int.le_refl 0⟩, ys_fk1 ?_, ?_, fun z => by cases z⟩
          · rw [yt_m1_ev, yt_ng_ev, yt_up_ev hx]; omega
          · dsimp only
            rw [yt_ng_ev, yt_up_ev hx, hV2 (by omega)]
    · cases Option.some.inj hs
      refine ⟨fun br hbr => ?_, ?_⟩
      · rcases List.mem_cons.mp hbr with q | hbr
        · rw [q]
          exact ⟨yt_all1 sx, sx⟩
        rcases List.mem_cons.mp hbr with q | hbr
        · rw [q]
          exact ⟨yt_all2 (ys_stb_m1 (ys_stb_scale _ sx)) (ys_stb_sub sx (ys_stb_cst _)), ys_stb_scale _ sx⟩
        · rw [List.mem_singleton.mp hbr]
          exact ⟨yt_all1 (ys_stb_sub (ys_stb_cst _) sx), ys_stb_cst _⟩
      · by_cases h0 : 0 ≤ ys_ev r x
        · refine ⟨_, List.mem_cons_self, 0, ⟨Int.le_refl 0, Int.le_refl 0⟩, ys_fk1 ?_, ?_, fun z => by cases z⟩
          · rw [yt_up_ev hx]; exact h0
          · dsimp only
            rw [yt_up_ev hx, hV1 h0]
        · by_cases h1 : ys_ev r x = ys_mn w
          · refine ⟨_, List.mem_cons_of_mem _ (List.mem_cons_of_mem _ List.mem_cons_self), 0, ⟨Int.le_refl 0, Int.le_refl 0⟩, ys_fk1 ?_, ?_, fun z => by cases z⟩
            · rw [ys_sub_ev, yt_up_ev hx, ys_ev0]; omega
            · dsimp only
              rw [ys_ev0, hV3 h1]
          · refine ⟨_, List.mem_cons_of_mem _ List.mem_cons_self, 0, ⟨Int.le_refl 0, Int.le_refl 0⟩, yt_fk2 ?_ ?_, ?_, fun z => by cases z⟩
            · rw [yt_m1_ev, yt_ng_ev, yt_up_ev hx]; omega
            · rw [ys_sub_ev, yt_up_ev hx, ys_ev0]; omega
            · dsimp only
              rw [yt_ng_ev, yt_up_ev hx, hV2 (by omega)]
  · cases hs
