/-! THE CLAIM OUT OF ONE WALK OF THE LAW'S BODY. Your part is whole_start (and what it stands on); all else here is the same for every law, but numbers. -/
def R_law : String := "YesPlanesLaw"
def lw_P (b : Addr) (xs : List Int32) (args : Array Value) (s : State) : Prop := args = #[.ref b] ∧ s.IntsAt b xs ∧ xs.length ≤ 3072 ∧ (Jvm.Cond.and given_1 narrow_1).before args s = true
def lw_Q (_ : Array Value) (s : State) (o : Outcome) (t : State) : Prop := o = .returned (some (.int 1)) ∧ Framed s o t [] 600000 7302250
def lw_Z (below : List Frame) (a : Array Value) (s : State) : State → Prop := fun t => ∃ o, t.status = .running ∧ Ended t below o ∧ lw_Q a s o t
/-- the law's own end, with 1 on the stack, nothing written that was there before, its room as the claim has it -/
theorem lw_ret {p : Program} {l : Launch} {e : Env} {s : State} {m : MethodId} {below : List Frame} {meth : Method} {c : Code} {b : Nat} (hx : p.tables.exec = Jvm.exec) (hb : c.code = code) (hr : meth.sig.returnType = ret) (hlocks : meth.locks = false) {pc : Nat} {H : Heap} {ls : Array Slot} (hdg : decode code pc = .ok (.ireturn, 1)) : W p l e room_1 s m #[Value.ref b] below meth c H [] 600000 7302250 (lw_Z below #[Value.ref b] s) (F0 m pc ls [.int 1]) := sorry
/-- what holds at the law's entry: the machine, the code, the tables' words (any of lw_tbl by 'hts w (by decide +kernel)'), the script of L ints xs at the cell b, what the Statement gives of the start (any of its parts by flat_of_before) -/
def lw_At (p : Program) (s : State) (m : MethodId) (meth : Method) (c : Code) (b L : Nat) (xs : Nat → Int32) : Prop :=
  p.tables.exec = Jvm.exec ∧ c.code = code ∧ meth.sig.returnType = ret ∧ c.maxLocals = 4 ∧ s.vm.findClass R_law = some m.cls ∧ (∀ w ∈ lw_tbl, w.before #[Value.ref b] s = true) ∧ va_X b L xs s s.heap ∧ b < s.heap.size ∧ meth.locks = false ∧ (Jvm.Cond.and given_1 narrow_1).before #[Value.ref b] s = true
def ys_oap {β : Type} (a b : Option (List β)) : Option (List β) := match a, b with
  | some x, some y => some (x ++ y)
  | _, _ => none
theorem ys_exp_mem {α β : Type} {f : α → Option (List β)} : ∀ (l : List α) (r : List β), l.foldr (fun q acc => ys_oap (f q) acc) (some []) = some r → ∀ q ∈ l, ∃ x, f q = some x ∧ ∀ z ∈ x, z ∈ r := sorry
/-! the law's loop, over scripts of every length -/
/-- an event that leaves the numbers of the images alone, or leaves every fourth no less than 0 -/
def yu_ev (ci c1 : Nat) (v : yt_Ev) : Bool := match v with
  | .inl _ => true
  | .inr (.inl q) => !(q.1 == ci)
  | .inr (.inr (.inl q)) => ((q.1 == 50) && ((q.2.1 == 0) && (yt_e q.2.2.2.1 c1 == ci))) || !(q.2.2.2.2.contains ci)
  | .inr (.inr (.inr q)) => !(q.2.1 == ci)
theorem yu_evs {tb : yt_Tb} {ci c1 : Nat} {r : Nat → Int} {gi : yt_G} (h50 : ∀ (r : Nat → Int) (g g' : yt_G), tb 50 0 r g g' → yq_num (g' c1)) : ∀ (h : List yt_Ev) (g : yt_G), h.all (yu_ev ci c1) = true → yt_h tb r gi h g → yq_num (gi ci) → yq_num (g ci) := sorry
/-- what the calls of image and back ask -/
def yu_ob (ci c1 c2 : Nat) (q : yt_O) : Bool := ((q.1 == 50) && (yt_e q.2.2 c1 == ci)) || ((q.1 == 51) && (yt_e q.2.2 c2 == ci))
def yu_st (cj : List (Nat × Int)) (calls : List yt_CE) (K : ys_K) (nx : Nat → Option (Instr × Nat)) (h : List yt_Ev) (pc : Nat) (b : ys_B) (fds : ys_F) (lv : List (Nat × ys_V)) (sv : List ys_V) (i : Instr) (len : Nat) : Option (List yt_U × List yt_O) := match i with
  | .iaload => (match sv with
    | .inl (.inl x) :: .inr (some k) :: t => if k = 1000 ∧ len = 1 ∧ ys_ge b.1 b.2 2 x = true ∧ ys_ge b.1 b.2 2 (ys_add (ys_sub (ys_sym 0) x) ([], -1)) = true then (match yt_mem 1000 x h with
      | some n => if n < b.1.length then some ([(pc + 1, (b, fds, lv, .inl (.inl (ys_sym n)) :: t), h)], []) else none
      | none => some ([(pc + 1, ((b.1 ++ [(ys_mn false, ys_mx false)], b.2), fds, lv, .inl (.inl (ys_sym b.1.length)) :: t), .inl (.inl (1000, x, b.1.length)) :: h)], [])) else none
    | _ => none)
  | .arraylength => (match sv with
    | .inr (some k) :: t => if k = 1000 ∧ len = 1 then some ([(pc + 1, (b, fds, lv, .inl (.inl (ys_sym 0)) :: t), h)], []) else none
    | _ => none)
  | .ireturn => (match sv with
    | [.inl (.inl x)] => if len = 1 ∧ x.1 = [] ∧ x.2 = 1 then some ([], []) else none
    | _ => none)
  | i => if ys_isr i = true then none else yt_step yk_sh [] [] cj calls [] [] K nx h pc b fds lv sv i len
def yu_exp (stop : Nat → Bool) (cj : List (Nat × Int)) (calls : List yt_CE) (K : ys_K) (nx : Nat → Option (Instr × Nat)) : Nat → Nat → ys_S → List yt_Ev → Option (List yt_U)
  | 0, _, _, _ => none
  | f + 1, pc, S, h => if stop pc = true then some [(pc, S, h)] else (match nx pc with
    | none => none
    | some i => (match yu_st cj calls K nx h pc S.1 S.2.1 S.2.2.1 S.2.2.2 i.1 i.2 with
      | none => none
      | some o => if o.2.isEmpty = true then o.1.foldr (fun q acc => ys_oap (yu_exp stop cj calls K nx f q.1 q.2.1 q.2.2) acc) (some []) else none))
section YUL
variable {p : Program} {l : Launch} {e : Env} {s : State} {m : MethodId} {below : List Frame} {meth : Method} {c : Code} {kc kz : Nat} {D : va_G} {ad : Nat → Nat} {cT : Nat → ClassId} {g0 gi : yt_G} {r0 rr : Nat → Int} {E : Nat} {Ts : List Cond} {tys : List (ClassId × FieldType)} {cj : List (Nat × Int)} {calls : List yt_CE} {K : ys_K} {nx : Nat → Option (Instr × Nat)} {b L : Nat} {xs : Nat → Int32} {tb : yt_Tb} {pt : Nat → yt_Ps} {T : ys_T} {ci c1 c2 : Nat}
set_option maxHeartbeats 4000000 in
theorem yu_st_ok {h : List yt_Ev} {pc : Nat} {B : ys_B} {fds : ys_F} {lv : List (Nat × ys_V)} {sv : List ys_V} {i : Instr} {len : Nat} {o : List yt_U × List yt_O} (hw : yt_Hw tb) (S : CallFix p m c code 4 s #[Value.ref b] Ts RL) (hr : meth.sig.returnType = ret) (hlocks : meth.locks = false) (hnL : K.1.1.2.2.1 = 4) (hfr : K.1.2.1 ≤ room_1.frames) (hlo : K.1.2.2 ≤ room_1.locals) (hkk : kc ≤ 600000 ∧ kz ≤ 7302250) (hK : va_K D vwCl tys s) (hty : ys_Ty tys cT yk_sh) (hLk : ys_Lk RL Ts vwCl [] [] cj []) (hcalls : ∀ C ∈ calls, yt_Con l D vwCl cT tys yG C.2.1 C.2.2 (pt C.1.2.1) (tb C.1.2.1) ∧ ys_CL RL Ts vwCl C.2.1 yG (if C.1.1.2 = true then .invokestatic C.1.1.1 else .invokevirtual C.1.1.1) C.2.2 ∧ yt_shok C.1.2.2.2 C.2.1 yk_sh = true ∧ (C.1.2.2.1 = false → ∀ r g, pt C.1.2.1 r g)) (hnx : ∀ pc i, nx pc = some i → decode code pc = .ok i) (hX : va_X b L xs s s.heap) (hbl : b < s.heap.size) (hb1 : ad 1000 = b) (hL : L ≤ 3072) (hE : 0 < E) (hr0 : r0 0 = (L : Int)) (hM : 1000 ∉ K.2.2.2) (hxs : ∀ j, g0 1000 j = (xs j).toInt) (hd : decode code pc = .ok (i, len)) (hs : yu_st cj calls K nx h pc B fds lv sv i len = some o) (hob : ∀ q ∈ o.2, ∀ (r : Nat → Int) (g : yt_G), ys_okB r B → (∀ i, i < E → r i = r0 i) → yt_h tb r gi h g → pt q.1 (ys_val r 0 q.2.1) (yt_sub q.2.2 g))
    (k : ∀ q ∈ o.1, yt_X p l e room_1 s m #[Value.ref b] below meth c (lw_Z below #[Value.ref b] s) kc kz D vwCl ad cT yk_sh (fun q => s.heap.size ≤ q) s.heap 4 K.2.2.2 g0 r0 E tb gi q.2.2 q.1 q.2.1) : yt_X p l e room_1 s m #[Value.ref b] below meth c (lw_Z below #[Value.ref b] s) kc kz D vwCl ad cT yk_sh (fun q => s.heap.size ≤ q) s.heap 4 K.2.2.2 g0 r0 E tb gi h pc (B, fds, lv, sv) := sorry
theorem yu_exp_ok {stop : Nat → Bool} (hw : yt_Hw tb) (S : CallFix p m c code 4 s #[Value.ref b] Ts RL) (hr : meth.sig.returnType = ret) (hlocks : meth.locks = false) (hnL : K.1.1.2.2.1 = 4) (hfr : K.1.2.1 ≤ room_1.frames) (hlo : K.1.2.2 ≤ room_1.locals) (hkk : kc ≤ 600000 ∧ kz ≤ 7302250) (hK : va_K D vwCl tys s) (hty : ys_Ty tys cT yk_sh) (hLk : ys_Lk RL Ts vwCl [] [] cj []) (hcalls : ∀ C ∈ calls, yt_Con l D vwCl cT tys yG C.2.1 C.2.2 (pt C.1.2.1) (tb C.1.2.1) ∧ ys_CL RL Ts vwCl C.2.1 yG (if C.1.1.2 = true then .invokestatic C.1.1.1 else .invokevirtual C.1.1.1) C.2.2 ∧ yt_shok C.1.2.2.2 C.2.1 yk_sh = true ∧ (C.1.2.2.1 = false → ∀ r g, pt C.1.2.1 r g)) (hnx : ∀ pc i, nx pc = some i → decode code pc = .ok i) (hX : va_X b L xs s s.heap) (hbl : b < s.heap.size) (hb1 : ad 1000 = b) (hL : L ≤ 3072) (hE : 0 < E) (hr0 : r0 0 = (L : Int)) (hM : 1000 ∉ K.2.2.2) (hxs : ∀ j, g0 1000 j = (xs j).toInt) : ∀ (f pc : Nat) (x : ys_S) (h : List yt_Ev) (Ls : List yt_U), yu_exp stop cj calls K nx f pc x h = some Ls → (∀ q ∈ Ls, yt_X p l e room_1 s m #[Value.ref b] below meth c (lw_Z below #[Value.ref b] s) kc kz D vwCl ad cT yk_sh (fun q => s.heap.size ≤ q) s.heap 4 K.2.2.2 g0 r0 E tb gi q.2.2 q.1 q.2.1) → yt_X p l e room_1 s m #[Value.ref b] below meth c (lw_Z below #[Value.ref b] s) kc kz D vwCl ad cT yk_sh (fun q => s.heap.size ≤ q) s.heap 4 K.2.2.2 g0 r0 E tb gi h pc x := sorry
end YUL
theorem yv_wldg {ad : Nat → Nat} {cT : Nat → ClassId} {sh : List ys_C} {r : Nat → Int} {g g' : yt_G} {fds : List (List ys_V)} (h : ∀ k, k < sh.length → g' k = g k) : ys_wld ad cT sh r g' fds = ys_wld ad cT sh r g fds := sorry
/-! the law's loop with a word that ties class and reference -/
def yv_al (c : Nat) (v : yt_Ev) : Bool := match v with
  | .inl _ => true
  | .inr (.inl q) => !(q.1 == c)
  | .inr (.inr (.inl q)) => !(q.2.2.2.2.contains c)
  | .inr (.inr (.inr q)) => !(q.2.1 == c)
theorem yv_als {tb : yt_Tb} {c : Nat} {r : Nat → Int} {gi : yt_G} : ∀ (h : List yt_Ev) (g : yt_G), h.all (yv_al c) = true → yt_h tb r gi h g → g c = gi c := sorry
def yv_un (E0 : Nat) (ks cs : List Nat) (t : List ys_L) (h : List yt_Ev) : Bool := ks.all (fun i => decide (E0 ≤ i) && decide (t[i - E0]? = some (ys_sym i))) && cs.all (fun c => h.all (yv_al c))
def yv_r0 (i : Instr × Nat) (sv : List ys_V) : Bool := match i.1, sv with
  | .ireturn, [.inl (.inl x)] => decide (x.1 = []) && decide (x.2 = 0)
  | _, _ => false
def yv_run (ci c1 c2 : Nat) (ks cs : List Nat) (cj : List (Nat × Int)) (calls : List yt_CE) (K : ys_K) (nx : Nat → Option (Instr × Nat)) (T : ys_T) : Nat → Bool → Nat → ys_S → List yt_Ev → Option (List yt_VC)
  | 0, _, _, _, _ => none
  | n + 1, f, pc, S, h => if (!f && pc == 18) = true then (match yt_cck K.2.1.2.1.1.length (some T.2.2.2.2.2) S.1 S.2.1 S.2.2.1 S.2.2.2 T with
      | some t => if h.all (yu_ev ci c1) = true then (if yv_un K.2.1.2.1.1.length ks cs t h = true then some [] else some [(0, S.1, t, [], h)]) else none
      | none => none) else (match nx pc with
    | none => none
    | some i => if yv_r0 i S.2.2.2 = true then some [(1, S.1, [], [], h)] else (match yu_st cj calls K nx h pc S.1 S.2.1 S.2.2.1 S.2.2.2 i.1 i.2 with
      | none => none
      | some o => if (o.2.all (yu_ob ci c1 c2) && (o.2.isEmpty || h.all (yu_ev ci c1))) = true then yt_all (fun q => yv_run ci c1 c2 ks cs cj calls K nx T n false q.1 q.2.1 q.2.2) o.1 else none))
/-- a condition: at the head the word holds again; a false answer does not come -/
def yv_hold (tb : yt_Tb) (E0 : Nat) (ars : List ys_R) (Rel : (Nat → Int) → yt_G → Prop) (v : yt_VC) : Prop := ∀ (r : Nat → Int) (gi g : yt_G), ys_okB r v.2.1 → yt_h tb r gi v.2.2.2.2 g → (∀ (k : Nat) (a : ys_R), ars[k]? = some a → ys_rok a (gi k)) → Rel r gi → if v.1 = 0 then Rel (ys_val r E0 v.2.2.1) g else False
theorem yv_hp {A B : Prop} (h : if (0 : Nat) = 0 then A else B) : A := sorry
theorem yv_hq {A B : Prop} (h : if (1 : Nat) = 0 then A else B) : B := sorry
theorem yv_sy {r : Nat → Int} {t : List ys_L} {i : Nat} (h : t[i]? = some (ys_sym (i + 1))) : ys_val r 1 t (i + 1) = r (i + 1) := sorry
theorem yv_h0 {tb : yt_Tb} {E0 : Nat} {ars : List ys_R} {Rel : (Nat → Int) → yt_G → Prop} {b : ys_B} {t : List ys_L} {em : List Nat} {h : List yt_Ev} (H : ∀ (r : Nat → Int) (gi g : yt_G), ys_okB r b → yt_h tb r gi h g → (∀ (k : Nat) (a : ys_R), ars[k]? = some a → ys_rok a (gi k)) → Rel r gi → Rel (ys_val r E0 t) g) : yv_hold tb E0 ars Rel (0, b, t, em, h) := sorry
theorem yv_h1 {tb : yt_Tb} {E0 : Nat} {ars : List ys_R} {Rel : (Nat → Int) → yt_G → Prop} {b : ys_B} {t : List ys_L} {em : List Nat} {h : List yt_Ev} (H : ∀ (r : Nat → Int) (gi g : yt_G), ys_okB r b → yt_h tb r gi h g → (∀ (k : Nat) (a : ys_R), ars[k]? = some a → ys_rok a (gi k)) → Rel r gi → False) : yv_hold tb E0 ars Rel (1, b, t, em, h) := sorry
section YVL
variable {p : Program} {l : Launch} {e : Env} {s : State} {m : MethodId} {below : List Frame} {meth : Method} {c : Code} {kc kz : Nat} {D : va_G} {ad : Nat → Nat} {cT : Nat → ClassId} {g0 gi : yt_G} {r0 rr : Nat → Int} {E : Nat} {Ts : List Cond} {tys : List (ClassId × FieldType)} {cj : List (Nat × Int)} {calls : List yt_CE} {K : ys_K} {nx : Nat → Option (Instr × Nat)} {b L : Nat} {xs : Nat → Int32} {tb : yt_Tb} {pt : Nat → yt_Ps} {T : ys_T} {ci c1 c2 : Nat} {ks cs : List Nat} {Rel : (Nat → Int) → yt_G → Prop} {ars : List ys_R}
theorem yv_run_ok (hw : yt_Hw tb) (S : CallFix p m c code 4 s #[Value.ref b] Ts RL) (hr : meth.sig.returnType = ret) (hlocks : meth.locks = false) (hnL : K.1.1.2.2.1 = 4) (hfr : K.1.2.1 ≤ room_1.frames) (hlo : K.1.2.2 ≤ room_1.locals) (hkk : kc ≤ 600000 ∧ kz ≤ 7302250) (hK : va_K D vwCl tys s) (hty : ys_Ty tys cT yk_sh) (hLk : ys_Lk RL Ts vwCl [] [] cj []) (hcalls : ∀ C ∈ calls, yt_Con l D vwCl cT tys yG C.2.1 C.2.2 (pt C.1.2.1) (tb C.1.2.1) ∧ ys_CL RL Ts vwCl C.2.1 yG (if C.1.1.2 = true then .invokestatic C.1.1.1 else .invokevirtual C.1.1.1) C.2.2 ∧ yt_shok C.1.2.2.2 C.2.1 yk_sh = true ∧ (C.1.2.2.1 = false → ∀ r g, pt C.1.2.1 r g)) (hnx : ∀ pc i, nx pc = some i → decode code pc = .ok i) (hX : va_X b L xs s s.heap) (hbl : b < s.heap.size) (hb1 : ad 1000 = b) (hL : L ≤ 3072) (hE : 0 < E) (hr0 : r0 0 = (L : Int)) (hM : 1000 ∉ K.2.2.2) (hxs : ∀ j, g0 1000 j = (xs j).toInt) (hE1 : K.2.1.2.1.1.length ≤ E) (hrr : ∀ i, i < K.2.1.2.1.1.length → r0 i = rr i) (hB : ys_okB rr K.2.1.2.1) (hBs : ys_scB K.2.1.2.1) (hT : ys_scb (ys_sT K.2.1.2.1 T) = true) (hmo : ys_stb E T.2.2.2.2.2) (hnum : yq_num (gi ci)) (h50 : ∀ (r : Nat → Int) (g g' : yt_G), tb 50 0 r g g' → yq_num (g' c1)) (hp50 : ∀ (r : Nat → Int) (g : yt_G), yq_num (g c1) → pt 50 r g) (hp51 : ∀ (r : Nat → Int) (g : yt_G), yq_num (g c2) → pt 51 r g)
    (hks : ∀ i ∈ ks, i < E) (hRel : ∀ (r r' : Nat → Int) (g g' : yt_G), (∀ i ∈ ks, r' i = r i) → (∀ c ∈ cs, g' c = g c) → Rel r g → Rel r' g') (hRel0 : Rel r0 gi) (hars : ∀ (k : Nat) (a : ys_R), ars[k]? = some a → ys_rok a (gi k))
    (hcut : ∀ (r2 : Nat → Int) (g : yt_G) (H : Heap) (locs : List Loc) (ls : Array Slot) (st : List Value), ys_rep D vwCl ad cT yk_sh (fun q => s.heap.size ≤ q) s.heap 4 [] g rr r2 K.2.1.2.1.1.length (ys_sT K.2.1.2.1 T) H locs ls st → yq_num (g ci) → Rel r2 g → (∀ k, k ∉ K.2.2.2 → g k = g0 k) → ys_ev r2 T.2.2.2.2.2 < ys_ev r0 T.2.2.2.2.2 → W p l e room_1 s m #[Value.ref b] below meth c H locs kc kz (lw_Z below #[Value.ref b] s) (F0 m 18 ls st)) : ∀ (n : Nat) (f : Bool) (pc : Nat) (x : ys_S) (h : List yt_Ev) (vs : List yt_VC), yv_run ci c1 c2 ks cs cj calls K nx T n f pc x h = some vs → (∀ v ∈ vs, yv_hold tb K.2.1.2.1.1.length ars Rel v) → yt_X p l e room_1 s m #[Value.ref b] below meth c (lw_Z below #[Value.ref b] s) kc kz D vwCl ad cT yk_sh (fun q => s.heap.size ≤ q) s.heap 4 K.2.2.2 g0 r0 E tb gi h pc x := sorry
end YVL

