/-! values, states, what they stand for -/
abbrev ys_V : Type := (ys_L ⊕ ys_L) ⊕ Option Nat
/-- what an array holds: bounds of all, others at some places -/
abbrev ys_R : Type := (Int × Int) × List (Nat × (Int × Int))
abbrev ys_F : Type := List (List ys_V) × List ys_R
abbrev ys_S : Type := ys_B × ys_F × List (Nat × ys_V) × List ys_V
noncomputable def ys_rat (a : ys_R) (j : Nat) : Int × Int := (a.2.lookup j).getD a.1
noncomputable def ys_rok (a : ys_R) (f : Nat → Int) : Prop := ∀ j, (ys_rat a j).1 ≤ f j ∧ f j ≤ (ys_rat a j).2
noncomputable def ys_den (ad : Nat → Nat) (r : Nat → Int) : ys_V → Value
  | .inl (.inl e) => .int (Int32.ofInt (ys_ev r e))
  | .inl (.inr e) => .long (Int64.ofInt (ys_ev r e))
  | .inr none => .null
  | .inr (some k) => .ref (ad k)
/-- what the symbols below n settle -/
noncomputable def ys_stb (n : Nat) (e : ys_L) : Prop := ∀ r r' : Nat → Int, (∀ i, i < n → r i = r' i) → ys_ev r e = ys_ev r' e
noncomputable def ys_stV (n : Nat) : ys_V → Prop
  | .inl (.inl e) => ys_stb n e
  | .inl (.inr e) => ys_stb n e
  | .inr _ => True
theorem ys_stb_mono {n m : Nat} {e : ys_L} (h : ys_stb n e) (hm : n ≤ m) : ys_stb m e := fun r r' hr => h r r' fun i hi => hr i (Nat.lt_of_lt_of_le hi hm)
theorem ys_stV_mono {n m : Nat} {v : ys_V} (h : ys_stV n v) (hm : n ≤ m) : ys_stV m v := by
  rcases v with (e | e) | o
  · exact ys_stb_mono (e := e) h hm
  · exact ys_stb_mono (e := e) h hm
  · trivial
theorem ys_stb_add {n : Nat} {a b : ys_L} (ha : ys_stb n a) (hb : ys_stb n b) : ys_stb n (ys_add a b) := fun r r' hr => by
  rw [ys_add_ev, ys_add_ev, ha r r' hr, hb r r' hr]
theorem ys_stb_scale {n : Nat} {a : ys_L} (k : Int) (ha : ys_stb n a) : ys_stb n (ys_scale k a) := fun r r' hr => by
  rw [ys_scale_ev, ys_scale_ev, ha r r' hr]
theorem ys_stb_sub {n : Nat} {a b : ys_L} (ha : ys_stb n a) (hb : ys_stb n b) : ys_stb n (ys_sub a b) := ys_stb_add ha (ys_stb_scale (-1) hb)
theorem ys_stb_cst {n : Nat} (k : Int) : ys_stb n (ys_cst k) := fun r r' _ => by rw [ys_cst_ev, ys_cst_ev]
theorem ys_stb_sym {n i : Nat} (h : i < n) : ys_stb n (ys_sym i) := fun r r' hr => by rw [ys_sym_ev, ys_sym_ev, hr i h]
theorem ys_stb_bel {n : Nat} {e : ys_L} (h : ys_bel n e = true) : ys_stb n e := fun _ _ hr => ys_ev_cong hr h
theorem ys_stb_at {n E : Nat} {t : List ys_L} (hE : E ≤ n) (ht : ∀ e ∈ t, ys_stb n e) (i : Nat) : ys_stb n (ys_at E t i) := by
  unfold ys_at
  by_cases h : i < E
  · rw [if_pos h]
    exact ys_stb_sym (Nat.lt_of_lt_of_le h hE)
  · rw [if_neg h, List.getD_eq_getElem?_getD]
    cases hc : t[i - E]? with
    | none => exact fun _ _ _ => rfl
    | some e => exact ht e (List.mem_of_getElem? hc)
theorem ys_stb_put {n E : Nat} {t : List ys_L} (hE : E ≤ n) (ht : ∀ e ∈ t, ys_stb n e) (e : ys_L) : ys_stb n (ys_put E t e) := fun r r' hr => by
  have hv : ys_val r E t = ys_val r' E t := funext fun i => ys_stb_at hE ht i r r' hr
  rw [ys_put_ev, ys_put_ev, hv]
theorem ys_den_cong {ad : Nat → Nat} {n : Nat} {r r' : Nat → Int} (h : ∀ i, i < n → r i = r' i) {v : ys_V} (hv : ys_stV n v) : ys_den ad r v = ys_den ad r' v := by
  rcases v with (e | e) | o
  · show Value.int _ = Value.int _
    rw [show ys_ev r e = ys_ev r' e from hv r r' h]
  · show Value.long _ = Value.long _
    rw [show ys_ev r e = ys_ev r' e from hv r r' h]
  · cases o <;> rfl
noncomputable def ys_scB (b : ys_B) : Prop := ∀ f ∈ b.2, ys_stb b.1.length f
noncomputable def ys_sc (S : ys_S) : Prop := ys_scB S.1 ∧ (∀ w ∈ S.2.1.1, ∀ v ∈ w, ys_stV S.1.1.length v) ∧ (∀ q ∈ S.2.2.1, ys_stV S.1.1.length q.2) ∧ ∀ v ∈ S.2.2.2, ys_stV S.1.1.length v
/-! cells: an object (its number among the kinds of objects); an array: its kind (0 int, 1 long, 2 byte, 3 boolean, 4 on references), length, the cells that it holds -/
abbrev ys_C : Type := Nat ⊕ (Nat × Nat × List Nat)
noncomputable def ys_con (ad : Nat → Nat) (g : Nat → Int) (a : Nat × Nat × List Nat) : vp_A := (a.2.1, if a.1 = 1 then .inr (.inl fun j => Int64.ofInt (g j)) else if 4 ≤ a.1 then .inr (.inr (.inr (.inr fun j => (a.2.2[j]?).map ad))) else .inl fun j => Int32.ofInt (g j))
noncomputable def ys_cel (ad : Nat → Nat) (cT : Nat → ClassId) (r : Nat → Int) (g : Nat → Nat → Int) (k : Nat) (c : ys_C) (fs : List ys_V) : Nat × va_E := (ad k, match c with
  | .inl ci => .inr (ci, fs.map (ys_den ad r))
  | .inr a => .inl (cT a.1, ys_con ad (g k) a))
noncomputable def ys_wld (ad : Nat → Nat) (cT : Nat → ClassId) (sh : List ys_C) (r : Nat → Int) (g : Nat → Nat → Int) (fds : List (List ys_V)) : va_W := (List.range sh.length).map fun k => ys_cel ad cT r g k (sh.getD k (.inl 0)) (fds.getD k [])
theorem ys_wld_get {ad : Nat → Nat} {cT : Nat → ClassId} {sh : List ys_C} {r : Nat → Int} {g : Nat → Nat → Int} {fds : List (List ys_V)} {k : Nat} {c : ys_C} (h : sh[k]? = some c) : (ys_wld ad cT sh r g fds)[k]? = some (ys_cel ad cT r g k c (fds.getD k [])) := by
  have hk := (List.getElem?_eq_some_iff.mp h).1
  unfold ys_wld
  rw [List.getElem?_map, List.getElem?_range hk]
  show some (ys_cel ad cT r g k (sh.getD k (.inl 0)) _) = _
  rw [List.getD_eq_getElem?_getD, h]
  rfl
theorem ys_wld_len {ad : Nat → Nat} {cT : Nat → ClassId} {sh : List ys_C} {r : Nat → Int} {g : Nat → Nat → Int} {fds : List (List ys_V)} : (ys_wld ad cT sh r g fds).length = sh.length := by
  unfold ys_wld
  rw [List.length_map, List.length_range]
/-- a list of cells, changed at one place -/
theorem ys_wld_set {ad : Nat → Nat} {cT : Nat → ClassId} {sh : List ys_C} {r : Nat → Int} {g g' : Nat → Nat → Int} {fds fds' : List (List ys_V)} {k : Nat} {c : ys_C} (h : sh[k]? = some c) (ho : ∀ j, j ≠ k → g' j = g j ∧ fds'.getD j [] = fds.getD j []) : ys_wld ad cT sh r g' fds' = (ys_wld ad cT sh r g fds).set k (ys_cel ad cT r g' k c (fds'.getD k [])) := by
  have hk := (List.getElem?_eq_some_iff.mp h).1
  apply List.ext_getElem?
  intro j
  by_cases hj : k = j
  · subst hj
    rw [List.getElem?_set_self (by rw [ys_wld_len]; exact hk), ys_wld_get h]
  · rw [List.getElem?_set_ne hj]
    obtain ⟨h1, h2⟩ := ho j (fun q => hj q.symm)
    cases hc : sh[j]? with
    | none =>
      have hl : sh.length ≤ j := by simpa using hc
      rw [List.getElem?_eq_none (by rw [ys_wld_len]; exact hl), List.getElem?_eq_none (by rw [ys_wld_len]; exact hl)]
    | some c' =>
      rw [ys_wld_get hc, ys_wld_get hc, h2]
      unfold ys_cel
      rw [h1]
theorem ys_wld_cong {ad : Nat → Nat} {cT : Nat → ClassId} {sh : List ys_C} {r r' : Nat → Int} {g : Nat → Nat → Int} {fds : List (List ys_V)} {n : Nat} (h : ∀ i, i < n → r i = r' i) (hf : ∀ w ∈ fds, ∀ v ∈ w, ys_stV n v) : ys_wld ad cT sh r g fds = ys_wld ad cT sh r' g fds := by
  unfold ys_wld
  apply List.map_congr_left
  intro k _
  have hrow : ∀ v ∈ fds.getD k [], ys_stV n v := by
    rw [List.getD_eq_getElem?_getD]
    cases hc : fds[k]? with
    | none => intro v hv; cases hv
    | some w => exact hf w (List.mem_of_getElem? hc)
  unfold ys_cel
  cases sh.getD k (.inl 0) with
  | inl ci =>
    have e : (fds.getD k []).map (ys_den ad r) = (fds.getD k []).map (ys_den ad r') := List.map_congr_left fun v hv => ys_den_cong h (hrow v hv)
    show (ad k, Sum.inr (ci, _)) = (ad k, Sum.inr (ci, _))
    rw [e]
  | inr a => rfl
/-- what the arrays hold keeps to its bounds; those that may not change are as they were -/
noncomputable def ys_gok (mods : List Nat) (ars : List ys_R) (g0 g : Nat → Nat → Int) : Prop := (∀ (k : Nat) (a : ys_R), ars[k]? = some a → ys_rok a (g k)) ∧ ∀ k, k ∉ mods → g k = g0 k
section YSR
variable (D : va_G) (cl : List vw_C) (ad : Nat → Nat) (cT : Nat → ClassId) (sh : List ys_C) (A : Nat → Prop) (H0 : Heap) (nL : Nat) (mods : List Nat) (g0 : Nat → Nat → Int)
noncomputable def ys_Wd (r : Nat → Int) (fds : ys_F) (H : Heap) (locs : List Loc) : Prop := ∃ g, ys_gok mods fds.2 g0 g ∧ va_P D cl (ys_wld ad cT sh r g fds.1) H ∧ va_D A (ys_wld ad cT sh r g fds.1) ∧ va_S A H0 H locs
noncomputable def ys_lvs (r : Nat → Int) (l : List (Nat × ys_V)) : List (Nat × Value) := l.map fun q => (q.1, ys_den ad r q.2)
noncomputable def ys_rep (r0 r : Nat → Int) (E : Nat) (S : ys_S) (H : Heap) (locs : List Loc) (ls : Array Slot) (st : List Value) : Prop := ys_okB r S.1 ∧ ys_sc S ∧ (E ≤ S.1.1.length ∧ ∀ i, i < E → r i = r0 i) ∧ ys_Wd D cl ad cT sh A H0 mods g0 r S.2.1 H locs ∧ lv_has ls nL (ys_lvs ad r S.2.2.1) ∧ st = S.2.2.2.map (ys_den ad r)
end YSR
section YSQ
variable {D : va_G} {cl : List vw_C} {ad : Nat → Nat} {cT : Nat → ClassId} {sh : List ys_C} {A : Nat → Prop} {H0 : Heap} {nL : Nat} {mods : List Nat} {g0 : Nat → Nat → Int} {r0 r r' : Nat → Int} {E : Nat} {b b' : ys_B} {fds : ys_F} {lv : List (Nat × ys_V)} {sv : List ys_V} {H : Heap} {locs : List Loc} {ls : Array Slot} {st : List Value}
/-- more symbols, more facts -/
theorem ys_rep_ext (h : ys_rep D cl ad cT sh A H0 nL mods g0 r0 r E (b, fds, lv, sv) H locs ls st) (hag : ∀ i, i < b.1.length → r' i = r i) (hb : ys_okB r' b') (hl : b.1.length ≤ b'.1.length) (hs : ys_scB b') : ys_rep D cl ad cT sh A H0 nL mods g0 r0 r' E (b', fds, lv, sv) H locs ls st := by
  obtain ⟨-, ⟨-, s1, s2, s3⟩, ⟨hE, hr⟩, ⟨g, hg, hP, hD, hS⟩, hlv, hst⟩ := h
  have hag' : ∀ i, i < b.1.length → r i = r' i := fun i hi => (hag i hi).symm
  have ew := ys_wld_cong (ad := ad) (cT := cT) (sh := sh) (g := g) hag' s1
  refine ⟨hb, ⟨hs, fun w hw v hv => ys_stV_mono (s1 w hw v hv) hl, fun q hq => ys_stV_mono (s2 q hq) hl, fun v hv => ys_stV_mono (s3 v hv) hl⟩, ⟨Nat.le_trans hE hl, fun i hi => (hag i (Nat.lt_of_lt_of_le hi hE)).trans (hr i hi)⟩, ⟨g, hg, ?_, ?_, hS⟩, ?_, ?_⟩
  · exact ew ▸ hP
  · exact ew ▸ hD
  · have e : ys_lvs ad r lv = ys_lvs ad r' lv := List.map_congr_left fun q hq => by rw [ys_den_cong hag' (s2 q hq)]
    exact e ▸ hlv
  · rw [hst]
    exact List.map_congr_left fun v hv => ys_den_cong hag' (s3 v hv)
theorem ys_rep_push (h : ys_rep D cl ad cT sh A H0 nL mods g0 r0 r E (b, fds, lv, sv) H locs ls st) (v : ys_V) (hv : ys_stV b.1.length v) : ys_rep D cl ad cT sh A H0 nL mods g0 r0 r E (b, fds, lv, v :: sv) H locs ls (ys_den ad r v :: st) := by
  obtain ⟨h1, ⟨s0, s1, s2, s3⟩, h2, h3, h4, h5⟩ := h
  refine ⟨h1, ⟨s0, s1, s2, fun w hw => ?_⟩, h2, h3, h4, by rw [h5]; rfl⟩
  rcases List.mem_cons.mp hw with e | e
  · rw [e]; exact hv
  · exact s3 w e
theorem ys_rep_pop {v : ys_V} (h : ys_rep D cl ad cT sh A H0 nL mods g0 r0 r E (b, fds, lv, v :: sv) H locs ls st) : ∃ st', st = ys_den ad r v :: st' ∧ ys_rep D cl ad cT sh A H0 nL mods g0 r0 r E (b, fds, lv, sv) H locs ls st' ∧ ys_stV b.1.length v := by
  obtain ⟨h1, ⟨s0, s1, s2, s3⟩, h2, h3, h4, h5⟩ := h
  exact ⟨sv.map (ys_den ad r), h5, ⟨h1, ⟨s0, s1, s2, fun w hw => s3 w (List.mem_cons_of_mem _ hw)⟩, h2, h3, h4, rfl⟩, s3 v List.mem_cons_self⟩
/-- a place of the frame is read -/
theorem ys_find_mem : ∀ (l : List (Nat × ys_V)) (i : Nat) (v : ys_V), l.lookup i = some v → (i, v) ∈ l
  | [], i, v, h => by cases h
  | (j, w) :: t, i, v, h => by
    unfold List.lookup at h
    cases hc : i == j with
    | true =>
      rw [hc] at h
      cases h
      rw [beq_iff_eq] at hc
      rw [hc]
      exact List.mem_cons_self
    | false =>
      rw [hc] at h
      exact List.mem_cons_of_mem _ (ys_find_mem t i v h)
theorem ys_rep_loc {i : Nat} {v : ys_V} (h : ys_rep D cl ad cT sh A H0 nL mods g0 r0 r E (b, fds, lv, sv) H locs ls st) (hi : lv.lookup i = some v) : ls[i]? = some (.val (ys_den ad r v)) ∧ ys_stV b.1.length v := by
  obtain ⟨h1, ⟨s0, s1, s2, s3⟩, h2, h3, h4, h5⟩ := h
  have hm := ys_find_mem lv i v hi
  exact ⟨h4.2.2 (i, ys_den ad r v) (List.mem_map.mpr ⟨(i, v), hm, rfl⟩), s2 _ hm⟩
end YSQ
noncomputable def ys_cat (v : ys_V) : Nat := match v with
  | .inl (.inr _) => 2
  | _ => 1
theorem ys_cat_den (ad : Nat → Nat) (r : Nat → Int) (v : ys_V) : (ys_den ad r v).category = ys_cat v := by
  rcases v with (e | e) | o
  · rfl
  · rfl
  · cases o <;> rfl
noncomputable def ys_st1 (l : List (Nat × ys_V)) (i : Nat) (v : ys_V) : List (Nat × ys_V) := (i, v) :: l.filter fun q => !(q.1 == i) && !(q.1 + 1 == i && ys_cat q.2 == 2)
noncomputable def ys_st2 (l : List (Nat × ys_V)) (i : Nat) (v : ys_V) : List (Nat × ys_V) := (i, v) :: l.filter fun q => !(q.1 == i) && (!(q.1 == i + 1) && !(q.1 + 1 == i && ys_cat q.2 == 2))
theorem ys_st1_lvs (ad : Nat → Nat) (r : Nat → Int) (l : List (Nat × ys_V)) (i : Nat) (v : ys_V) : ys_lvs ad r (ys_st1 l i v) = (i, ys_den ad r v) :: (ys_lvs ad r l).filter (fun q => !(q.1 == i) && !(q.1 + 1 == i && q.2.category == 2)) := by
  unfold ys_st1 ys_lvs
  rw [List.map_cons, List.filter_map]
  congr 2
  apply List.filter_congr
  intro q _
  show _ = (!(q.1 == i) && !(q.1 + 1 == i && (ys_den ad r q.2).category == 2))
  rw [ys_cat_den]
theorem ys_st2_lvs (ad : Nat → Nat) (r : Nat → Int) (l : List (Nat × ys_V)) (i : Nat) (v : ys_V) : ys_lvs ad r (ys_st2 l i v) = (i, ys_den ad r v) :: (ys_lvs ad r l).filter (fun q => !(q.1 == i) && (!(q.1 == i + 1) && !(q.1 + 1 == i && q.2.category == 2))) := by
  unfold ys_st2 ys_lvs
  rw [List.map_cons, List.filter_map]
  congr 2
  apply List.filter_congr
  intro q _
  show _ = (!(q.1 == i) && (!(q.1 == i + 1) && !(q.1 + 1 == i && (ys_den ad r q.2).category == 2)))
  rw [ys_cat_den]
