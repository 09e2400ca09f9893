/-! what is done on a way with arrays and products: reads and products name a symbol, writes change what an array holds -/
abbrev yt_G : Type := Nat → Nat → Int
abbrev yt_Ev : Type := ((Nat × ys_L × Nat) ⊕ (Nat × ys_L × ys_L)) ⊕ ((Nat × ys_L × ys_L) ⊕ ((Nat × Nat × List ys_L × List Nat × List Nat) ⊕ (Nat × Nat × ys_L × ys_L × ys_L)))
abbrev yt_Tb : Type := Nat → Nat → (Nat → Int) → yt_G → yt_G → Prop
noncomputable def yt_e (em : List Nat) (k : Nat) : Nat := em.getD k 100000
noncomputable def yt_sub (em : List Nat) (g : yt_G) : yt_G := fun k => g (yt_e em k)
noncomputable def yt_ok (tb : yt_Tb) (r : Nat → Int) (v : yt_Ev) (g g' : yt_G) : Prop := match v with
  | .inl (.inl q) => g' = g ∧ r q.2.2 = g q.1 (ys_ev r q.2.1).toNat
  | .inl (.inr q) => g' = g ∧ r q.1 = ys_ev r q.2.1 * ys_ev r q.2.2
  | .inr (.inl q) => g' = ys_gup g q.1 (ys_ev r q.2.1).toNat (ys_ev r q.2.2)
  | .inr (.inr (.inl q)) => tb q.1 q.2.1 (ys_val r 0 q.2.2.1) (yt_sub q.2.2.2.1 g) (yt_sub q.2.2.2.1 g') ∧ ∀ j, j ∉ q.2.2.2.2 → g' j = g j
  | .inr (.inr (.inr q)) => g' = ys_gcp g q.1 q.2.1 (ys_ev r q.2.2.1).toNat (ys_ev r q.2.2.2.1).toNat (ys_ev r q.2.2.2.2).toNat
noncomputable def yt_h (tb : yt_Tb) (r : Nat → Int) (gi : yt_G) : List yt_Ev → yt_G → Prop
  | [], g => g = gi
  | v :: h, g => ∃ g', yt_h tb r gi h g' ∧ yt_ok tb r v g' g
/-- what the symbols below n settle -/
noncomputable def yt_sc (n : Nat) (v : yt_Ev) : Prop := match v with
  | .inl (.inl q) => ys_stb n q.2.1 ∧ q.2.2 < n
  | .inl (.inr q) => q.1 < n ∧ ys_stb n q.2.1 ∧ ys_stb n q.2.2
  | .inr (.inl q) => ys_stb n q.2.1 ∧ ys_stb n q.2.2
  | .inr (.inr (.inl q)) => ∀ x ∈ q.2.2.1, ys_stb n x
  | .inr (.inr (.inr q)) => ys_stb n q.2.2.1 ∧ ys_stb n q.2.2.2.1 ∧ ys_stb n q.2.2.2.2
theorem yt_sc_mono {n m : Nat} (hm : n ≤ m) : ∀ {v : yt_Ev}, yt_sc n v → yt_sc m v
  | .inl (.inl _), h => ⟨ys_stb_mono h.1 hm, Nat.lt_of_lt_of_le h.2 hm⟩
  | .inl (.inr _), h => ⟨Nat.lt_of_lt_of_le h.1 hm, ys_stb_mono h.2.1 hm, ys_stb_mono h.2.2 hm⟩
  | .inr (.inl _), h => ⟨ys_stb_mono h.1 hm, ys_stb_mono h.2 hm⟩
  | .inr (.inr (.inl _)), h => fun x hx => ys_stb_mono (h x hx) hm
  | .inr (.inr (.inr _)), h => ⟨ys_stb_mono h.1 hm, ys_stb_mono h.2.1 hm, ys_stb_mono h.2.2 hm⟩
theorem yt_val_cong {r r' : Nat → Int} {n : Nat} (hr : ∀ i, i < n → r i = r' i) {t : List ys_L} (ht : ∀ x ∈ t, ys_stb n x) : ys_val r 0 t = ys_val r' 0 t := funext fun i => ys_stb_at (Nat.zero_le _) ht i r r' hr
theorem yt_ok_cong {tb : yt_Tb} {r r' : Nat → Int} {n : Nat} (hr : ∀ i, i < n → r i = r' i) {g g' : yt_G} : ∀ {v : yt_Ev}, yt_sc n v → yt_ok tb r v g g' → yt_ok tb r' v g g'
  | .inl (.inl q), h, k => ⟨k.1, by rw [← hr _ h.2, ← h.1 r r' hr]; exact k.2⟩
  | .inl (.inr q), h, k => ⟨k.1, by rw [← hr _ h.1, ← h.2.1 r r' hr, ← h.2.2 r r' hr]; exact k.2⟩
  | .inr (.inl q), h, k => by
    have k : g' = ys_gup g q.1 (ys_ev r q.2.1).toNat (ys_ev r q.2.2) := k
    show g' = ys_gup g q.1 (ys_ev r' q.2.1).toNat (ys_ev r' q.2.2)
    rw [← h.1 r r' hr, ← h.2 r r' hr]
    exact k
  | .inr (.inr (.inl q)), h, k => ⟨by rw [← yt_val_cong hr h]; exact k.1, k.2⟩
  | .inr (.inr (.inr q)), h, k => by
    have k : g' = ys_gcp g q.1 q.2.1 (ys_ev r q.2.2.1).toNat (ys_ev r q.2.2.2.1).toNat (ys_ev r q.2.2.2.2).toNat := k
    show g' = ys_gcp g q.1 q.2.1 (ys_ev r' q.2.2.1).toNat (ys_ev r' q.2.2.2.1).toNat (ys_ev r' q.2.2.2.2).toNat
    rw [← h.1 r r' hr, ← h.2.1 r r' hr, ← h.2.2 r r' hr]
    exact k
theorem yt_h_cong {tb : yt_Tb} {r r' : Nat → Int} {n : Nat} (hr : ∀ i, i < n → r i = r' i) {gi : yt_G} : ∀ {h : List yt_Ev} {g : yt_G}, (∀ v ∈ h, yt_sc n v) → yt_h tb r gi h g → yt_h tb r' gi h g
  | [], _, _, k => k
  | v :: h, g, hs, k => by
    obtain ⟨g', k1, k2⟩ := k
    exact ⟨g', yt_h_cong hr (fun w hw => hs w (List.mem_cons_of_mem _ hw)) k1, yt_ok_cong hr (hs v List.mem_cons_self) k2⟩
/-- an element that was read, and not written since -/
noncomputable def yt_mem (k : Nat) (x : ys_L) : List yt_Ev → Option Nat
  | [] => none
  | .inl (.inl q) :: h => if q.1 = k ∧ q.2.1 = x then some q.2.2 else yt_mem k x h
  | .inl (.inr _) :: h => yt_mem k x h
  | .inr (.inl q) :: h => if q.1 = k then none else yt_mem k x h
  | .inr (.inr (.inl q)) :: h => if q.2.2.2.2.contains k then none else yt_mem k x h
  | .inr (.inr (.inr q)) :: h => if q.2.1 = k then none else yt_mem k x h
theorem yt_mem_ok {tb : yt_Tb} {r : Nat → Int} {gi : yt_G} {k : Nat} {x : ys_L} {n : Nat} : ∀ (h : List yt_Ev) (g : yt_G), yt_mem k x h = some n → yt_h tb r gi h g → r n = g k (ys_ev r x).toNat
  | [], g, e, _ => by cases e
  | .inl (.inl q) :: h, g, e, k2 => by
    obtain ⟨g', k1, k3, k4⟩ := k2
    unfold yt_mem at e
    rw [k3]
    split at e
    · rename_i hq
      cases Option.some.inj e
      rw [← hq.1, ← hq.2]
      exact k4
    · exact yt_mem_ok h g' e k1
  | .inl (.inr q) :: h, g, e, k2 => by
    obtain ⟨g', k1, k3, k4⟩ := k2
    unfold yt_mem at e
    rw [k3]
    exact yt_mem_ok h g' e k1
  | .inr (.inl q) :: h, g, e, k2 => by
    obtain ⟨g', k1, k3⟩ := k2
    have k3 : g = ys_gup g' q.1 (ys_ev r q.2.1).toNat (ys_ev r q.2.2) := k3
    unfold yt_mem at e
    split at e
    · cases e
    · rename_i hq
      rw [yt_mem_ok h g' e k1, k3]
      unfold ys_gup
      rw [if_neg (fun z => hq z.symm)]
  | .inr (.inr (.inl q)) :: h, g, e, k2 => by
    obtain ⟨g', k1, k3⟩ := k2
    unfold yt_mem at e
    split at e
    · cases e
    · rename_i hq
      rw [yt_mem_ok h g' e k1, k3.2 k (fun z => hq (List.contains_iff_mem.mpr z))]
  | .inr (.inr (.inr q)) :: h, g, e, k2 => by
    obtain ⟨g', k1, k3⟩ := k2
    have k3 : g = ys_gcp g' q.1 q.2.1 (ys_ev r q.2.2.1).toNat (ys_ev r q.2.2.2.1).toNat (ys_ev r q.2.2.2.2).toNat := k3
    unfold yt_mem at e
    split at e
    · cases e
    · rename_i hq
      rw [yt_mem_ok h g' e k1, k3]
      unfold ys_gcp
      rw [if_neg (fun z => hq z.symm)]
section YTX
variable (p : Program) (l : Launch) (e : Env) (R : Room) (s : State) (m : MethodId) (args : Array Value) (below : List Frame) (meth : Method) (c : Code) (Q : State → Prop) (kc kz : Nat) (D : va_G) (cl : List vw_C) (ad : Nat → Nat) (cT : Nat → ClassId) (sh : List ys_C) (A : Nat → Prop) (H0 : Heap) (nL : Nat) (mods : List Nat) (g0 : yt_G) (r0 : Nat → Int) (E : Nat) (tb : yt_Tb) (gi : yt_G)
/-- from here on all goes well, for whatever the words so far may stand for -/
noncomputable def yt_X (h : List yt_Ev) (pc : Nat) (S : ys_S) : Prop := ∀ (r : Nat → Int) (g : yt_G) (H : Heap) (locs : List Loc) (ls : Array Slot) (st : List Value), ys_rep D cl ad cT sh A H0 nL [] g r0 r E S H locs ls st → yt_h tb r gi h g → (∀ v ∈ h, yt_sc S.1.1.length v) → (∀ k, k ∉ mods → g k = g0 k) → W p l e R s m args below meth c H locs kc kz Q (F0 m pc ls st)
end YTX
section YTY
variable {p : Program} {l : Launch} {e : Env} {R : Room} {s : State} {m : MethodId} {args : Array Value} {below : List Frame} {meth : Method} {c : Code} {Q : State → Prop} {kc kz : Nat} {D : va_G} {cl : List vw_C} {ad : Nat → Nat} {cT : Nat → ClassId} {sh : List ys_C} {A : Nat → Prop} {H0 : Heap} {nL : Nat} {mods : List Nat} {g0 : yt_G} {r0 : Nat → Int} {E : Nat} {tb : yt_Tb} {gi : yt_G} {h : List yt_Ev} {pc : Nat} {b : ys_B} {fds : ys_F} {lv : List (Nat × ys_V)} {sv : List ys_V} {succ : List (Nat × ys_S)} {cc : ByteArray} {own : String} {Ts : List Cond} {tys : List (ClassId × FieldType)}
variable {K : ys_K} {fl : ys_FL} {ci cj : List (Nat × Int)} {cps : List Nat} {nx : Nat → Option (Instr × Nat)}
/-- the same contents, and other symbols behind those that were -/
theorem yt_next {r r' : Nat → Int} {g : yt_G} {H H' : Heap} {locs locs' : List Loc} {ls ls' : Array Slot} {st st' : List Value} {S : ys_S} {pc' : Nat} (hrep : ys_rep D cl ad cT sh A H0 nL [] g r0 r E (b, fds, lv, sv) H locs ls st) (hh : yt_h tb r gi h g) (hsc : ∀ v ∈ h, yt_sc b.1.length v) (hm : ∀ k, k ∉ mods → g k = g0 k) (k : yt_X p l e R s m args below meth c Q kc kz D cl ad cT sh A H0 nL mods g0 r0 E tb gi h pc' S) (hrep' : ys_rep D cl ad cT sh A H0 nL [] g r r' b.1.length S H' locs' ls' st') : W p l e R s m args below meth c H' locs' kc kz Q (F0 m pc' ls' st') := by
  obtain ⟨h1, h2, ⟨hE, hr⟩, h3⟩ := hrep'
  have hE0 : E ≤ b.1.length := hrep.2.2.1.1
  refine k r' g H' locs' ls' st' ⟨h1, h2, ⟨Nat.le_trans hE0 hE, fun i hi => (hr i (Nat.lt_of_lt_of_le hi hE0)).trans (hrep.2.2.1.2 i hi)⟩, h3⟩ (yt_h_cong (fun i hi => (hr i hi).symm) hsc hh) (fun v hv => yt_sc_mono hE (hsc v hv)) hm
theorem yt_self {r : Nat → Int} {g : yt_G} {H : Heap} {locs : List Loc} {ls : Array Slot} {st : List Value} (hrep : ys_rep D cl ad cT sh A H0 nL [] g r0 r E (b, fds, lv, sv) H locs ls st) : ys_rep D cl ad cT sh A H0 nL [] g r r b.1.length (b, fds, lv, sv) H locs ls st := ⟨hrep.1, hrep.2.1, ⟨Nat.le_refl _, fun _ _ => rfl⟩, hrep.2.2.2⟩
/-- a step that the first engine knows, and that writes no array -/
theorem yt_plain {i : Instr} {n : Nat} (S : CallFix p m c cc nL s args Ts own) (hnL : K.1.1.2.2.1 = nL) (hmods : K.2.2.2 = []) (hfr : K.1.2.1 ≤ R.frames) (hlo : K.1.2.2 ≤ R.locals) (hkk : kc ≤ R.cells ∧ kz ≤ R.slots) (hA0 : ∀ q, H0.size ≤ q → A q) (hK : va_K D cl tys s) (hty : ys_Ty tys cT sh) (hLk : ys_Lk own Ts cl fl ci cj cps) (hnx : ∀ pc i, nx pc = some i → decode cc pc = .ok i) (hd : decode cc pc = .ok (i, n)) (hs : ys_stp sh fl ci cj [] cps K nx pc b fds lv sv i n = some succ) (hni : ys_isr i = false)
    (k : ∀ q ∈ succ, yt_X p l e R s m args below meth c Q kc kz D cl ad cT sh A H0 nL mods g0 r0 E tb gi h q.1 q.2) : yt_X p l e R s m args below meth c Q kc kz D cl ad cT sh A H0 nL mods g0 r0 E tb gi h pc (b, fds, lv, sv) := by
  intro r g H locs ls st hrep hh hsc hm
  exact ys_stp_gen (l := l) (e := e) (below := below) (meth := meth) (Q := Q) (ad := ad) (mods := []) (g0 := g) (r0 := r) (E := b.1.length) (G := []) (calls := []) S hnL hmods hfr hlo hkk hA0 hK hty hLk (fun q hq => absurd hq List.not_mem_nil) hnx hd hs (fun z => by rw [hni] at z; cases z) (fun q hq r' H' locs' ls' st' hrep' => yt_next hrep hh hsc hm (k q hq) hrep') r H locs ls st (yt_self hrep)
end YTY
