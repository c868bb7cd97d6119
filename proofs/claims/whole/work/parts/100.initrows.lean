/-! Constructors: calls that make cells. gXc: the call's data with so many cells and slots made; its ends are told apart. -/
def gXc (X : gX) (n w : Nat) : gX := match X with
  | (p, e, R, s, m, args, below, meth, c, _, _, Q, A, _) => (p, e, R, s, m, args, below, meth, c, n, w, Q, A, fun _ _ => False)
def gOkI (B : gB) (X : gX) (own : String) (cc : ByteArray) (nL d mc ms : Nat) : Prop := match X with
  | (p, e, R, s, m, args, below, meth, c, _, _, Q, A, _) =>
    p.tables.exec = Jvm.exec ∧ c.code = cc ∧ c.maxLocals = nL ∧ s.vm.findClass own = some m.cls ∧ (∀ w ∈ gT, w.before args s = true) ∧ va_K B.2.1 vwCl (gTys B) s ∧ (∀ q, s.heap.size ≤ q → A q) ∧ (d ≤ R.frames ∧ 64 * d ≤ R.locals ∧ mc ≤ R.cells ∧ ms ≤ R.slots) ∧ gSt B A s s.heap
def gName (X : gX) : String := match X with
  | (_, _, _, _, _, _, _, meth, _, _, _, _, _, _) => meth.name
theorem gOkI.ok {B : gB} {X : gX} {own : String} {cc : ByteArray} {nL d mc ms n w : Nat} {rt : Option FieldType} (h : gOkI B X own cc nL d mc ms) (hn : n ≤ mc) (hw : w ≤ ms) : gOk B (gXc X n w) own cc nL d rt := by
  obtain ⟨p, ev, R, s, m, args, below, meth, c, cells, slots, Q, A, Fin⟩ := X
  obtain ⟨hx, hb, hml, hown, hts, hK, hA, ⟨hf1, hf2, hf3, hf4⟩, hSt⟩ := h
  exact ⟨hx, hb, hml, hown, hts, hK, hA, ⟨hf1, hf2, Nat.le_trans hn hf3, Nat.le_trans hw hf4⟩, hSt, fun _ _ h => h.elim⟩
theorem gG.toH {B : gB} {X : gX} {pc : Nat} {lv : List (Nat × Value)} {st : List Value} {ws : va_W} (h : gG B X pc lv st ws) : gH B X (fun _ : Unit => True) pc lv st ws (some ()) := fun _ _ _ => h
theorem gH.toG {B : gB} {X : gX} {pc : Nat} {lv : List (Nat × Value)} {st : List Value} {ws : va_W} (h : gH B X (fun _ : Unit => True) pc lv st ws (some ())) : gG B X pc lv st ws := h () rfl trivial
/-- a constructor's contract -/
def gMetI (B : gB) (d : Nat) (y : MethodName) (cc : ByteArray) (nL mc ms : Nat) (av : List Value) (ws : va_W) (P : va_W → Prop) : Prop :=
  ∀ sz : Nat, Met B.1 y (.code y cc nL none :: gT) { frames := d, cells := mc, slots := ms, locals := 64 * d } (gPc B av ws sz) (fun _ st oc t => oc = .returned none ∧ ∃ w, P w ∧ va_P B.2.1 vwCl w t.heap ∧ va_D (va_A ws sz) w ∧ va_F (va_A ws sz) st t) mc ms (va_A ws sz)
theorem va_P.perm {D : va_G} {cl : List vw_C} {w1 w2 : va_W} {H : Heap} (h : w1.Perm w2) (hP : va_P D cl w1 H) : va_P D cl w2 H := by
  intro k q hk
  obtain ⟨i, hi⟩ := List.getElem?_of_mem (h.mem_iff.mpr (List.mem_of_getElem? hk))
  exact hP i q hi
theorem va_D.pw {A : Nat → Prop} {ws : va_W} : va_D A ws ↔ ws.Pairwise (fun p q => p.1 ≠ q.1) ∧ ∀ q ∈ ws, A q.1 := by
  constructor
  · intro h
    refine ⟨?_, fun q hq => ?_⟩
    · rw [List.pairwise_iff_getElem]
      intro i j hi hj hij e
      have := h.1 i j _ _ (List.getElem?_eq_getElem hi) (List.getElem?_eq_getElem hj) e
      omega
    · obtain ⟨i, hi⟩ := List.getElem?_of_mem hq
      exact h.2 i q hi
  · rintro ⟨h1, h2⟩
    rw [List.pairwise_iff_getElem] at h1
    refine ⟨fun i j p q hi hj e => ?_, fun k q hk => h2 q (List.mem_of_getElem? hk)⟩
    obtain ⟨hi', ei⟩ := List.getElem?_eq_some_iff.mp hi
    obtain ⟨hj', ej⟩ := List.getElem?_eq_some_iff.mp hj
    subst ei
    subst ej
    rcases Nat.lt_trichotomy i j with h | h | h
    · exact absurd e (h1 i j hi' hj' h)
    · exact h
    · exact absurd e.symm (h1 j i hj' hi' h)
theorem va_D.perm {A : Nat → Prop} {w1 w2 : va_W} (h : w1.Perm w2) (hD : va_D A w1) : va_D A w2 := by
  rw [va_D.pw] at hD ⊢
  exact ⟨(h.pairwise_iff (fun h e => h e.symm)).mp hD.1, fun q hq => hD.2 q (h.mem_iff.mpr hq)⟩
section INIT
variable {B : gB} {X : gX} {own : String} {cc : ByteArray} {nL d mc ms n w : Nat} {rt : Option FieldType} {pc : Nat} {lv : List (Nat × Value)} {st : List Value} {ws : va_W}
theorem gG.perm {w1 w2 : va_W} (h : w1.Perm w2) (k : gG B X pc lv st w2) : gG B X pc lv st w1 := by
  obtain ⟨p, ev, R, s, m, args, below, meth, c, cells, slots, Q, A, Fin⟩ := X
  intro H locs ls hP hD hS hl
  exact k H locs ls (hP.perm h) (hD.perm h) hS hl
theorem i_new (hX : gOkI B X own cc nL d mc ms) {ix ci N : Nat} {C : String} {T : u_T} (ty : Nat → FieldType) {fs : List Value} (hin : ∀ w ∈ u_ws C T N, w ∈ gT) (hty : ∀ k, k < N → parseFieldDescriptor (T k).2.2.1 = some (ty k)) (hw : Cond.classLink own ix C ∈ gT ∧ Cond.instantiable C N ∈ gT ∧ Cond.initialized C ∈ gT) (hc : vwCl[ci]? = some (C, T, N)) (hfs : ∀ j, j < N → defaultValue (ty j) = vp_V fs j) (hn : n + 1 ≤ mc) (hs : w + N ≤ ms) (hd : decode cc pc = .ok (.new ix, 3))
    (k : ∀ q : Nat, gG B (gXc X (n + 1) (w + N)) (pc + 3) lv (.ref q :: st) ((q, .inr (ci, fs)) :: ws)) : gG B (gXc X n w) pc lv st ws := by
  obtain ⟨p, ev, R, s, m, args, below, meth, c, cells, slots, Q, A, Fin⟩ := X
  obtain ⟨hx, hb, hml, hown, hts, hK, hA, ⟨hf1, hf2, hf3, hf4⟩, hSt⟩ := hX
  intro H locs ls hP hD hS hl
  refine va_new (D := B.2.1) (tys := gTys B) hx hb hts hin ty hty hown (hts _ hw.1) (hts _ hw.2.1) (hts _ hw.2.2) hK hP hD hS hA hc hfs (Nat.le_trans hn hf3) (Nat.le_trans hs hf4) hd (fun q H1 hP hD hS => ?_)
  have hp : (ws ++ [((q, Sum.inr (ci, fs)) : Nat × va_E)]).Perm ((q, Sum.inr (ci, fs)) :: ws) := List.perm_append_comm
  exact k q H1 locs ls (hP.perm hp) (hD.perm hp) hS hl
theorem i_newai (hX : gOkI B X own cc nL d mc ms) {N : Nat} {k0 : Int32} (hw : Cond.arrayClass .int ∈ gT) (hk0 : ¬ k0 < 0) (hN : k0.toNatClampNeg = N) (hb8 : N * 8 ≤ 536870912) (hn : n + 1 ≤ mc) (hs : w + N ≤ ms) (hd : decode cc pc = .ok (.newarray .int, 2))
    (k : ∀ q : Nat, gG B (gXc X (n + 1) (w + N)) (pc + 2) lv (.ref q :: st) ((q, .inl (B.2.2.1.1, (N, .inl (fun _ => 0)))) :: ws)) : gG B (gXc X n w) pc lv (.int k0 :: st) ws := by
  obtain ⟨p, ev, R, s, m, args, below, meth, c, cells, slots, Q, A, Fin⟩ := X
  obtain ⟨hx, hb, hml, hown, hts, hK, hA, ⟨hf1, hf2, hf3, hf4⟩, hSt⟩ := hX
  intro H locs ls hP hD hS hl
  refine va_newa (D := B.2.1) (tys := gTys B) (atype := .int) (ty := .int) (a0 := (N, .inl (fun _ => 0))) hx hb (hts _ hw) rfl hK hP hD hS hA (fun _ => rfl) hk0 hN (Nat.le_trans (Nat.mul_le_mul_left N (by decide)) hb8) (Nat.le_trans hn hf3) (Nat.le_trans hs hf4) hd (fun q cA H1 hK1 hP hD hS => ?_)
  have e1 : s.vm.findClass _ = some B.2.2.1.1 := (hK.2 0 _ rfl).2
  have e2 : s.vm.findClass _ = some cA := (hK1.2 3 _ rfl).2
  have e3 : cA = B.2.2.1.1 := Option.some.inj (e2.symm.trans e1)
  subst e3
  have hp : (ws ++ [((q, Sum.inl (B.2.2.1.1, (N, .inl (fun _ => 0)))) : Nat × va_E)]).Perm ((q, Sum.inl (B.2.2.1.1, (N, .inl (fun _ => 0)))) :: ws) := List.perm_append_comm
  exact k q H1 locs ls (hP.perm hp) (hD.perm hp) hS hl
theorem i_newal (hX : gOkI B X own cc nL d mc ms) {N : Nat} {k0 : Int32} (hw : Cond.arrayClass .long ∈ gT) (hk0 : ¬ k0 < 0) (hN : k0.toNatClampNeg = N) (hb8 : N * 8 ≤ 536870912) (hn : n + 1 ≤ mc) (hs : w + N ≤ ms) (hd : decode cc pc = .ok (.newarray .long, 2))
    (k : ∀ q : Nat, gG B (gXc X (n + 1) (w + N)) (pc + 2) lv (.ref q :: st) ((q, .inl (B.2.2.1.2.1, (N, .inr (.inl (fun _ => 0))))) :: ws)) : gG B (gXc X n w) pc lv (.int k0 :: st) ws := by
  obtain ⟨p, ev, R, s, m, args, below, meth, c, cells, slots, Q, A, Fin⟩ := X
  obtain ⟨hx, hb, hml, hown, hts, hK, hA, ⟨hf1, hf2, hf3, hf4⟩, hSt⟩ := hX
  intro H locs ls hP hD hS hl
  refine va_newa (D := B.2.1) (tys := gTys B) (atype := .long) (ty := .long) (a0 := (N, .inr (.inl (fun _ => 0)))) hx hb (hts _ hw) rfl hK hP hD hS hA (fun _ => rfl) hk0 hN (Nat.le_trans (Nat.mul_le_mul_left N (by decide)) hb8) (Nat.le_trans hn hf3) (Nat.le_trans hs hf4) hd (fun q cA H1 hK1 hP hD hS => ?_)
  have e1 : s.vm.findClass _ = some B.2.2.1.2.1 := (hK.2 1 _ rfl).2
  have e2 : s.vm.findClass _ = some cA := (hK1.2 3 _ rfl).2
  have e3 : cA = B.2.2.1.2.1 := Option.some.inj (e2.symm.trans e1)
  subst e3
  have hp : (ws ++ [((q, Sum.inl (B.2.2.1.2.1, (N, .inr (.inl (fun _ => 0))))) : Nat × va_E)]).Perm ((q, Sum.inl (B.2.2.1.2.1, (N, .inr (.inl (fun _ => 0))))) :: ws) := List.perm_append_comm
  exact k q H1 locs ls (hP.perm hp) (hD.perm hp) hS hl
theorem i_newaz (hX : gOkI B X own cc nL d mc ms) {N : Nat} {k0 : Int32} (hw : Cond.arrayClass .boolean ∈ gT) (hk0 : ¬ k0 < 0) (hN : k0.toNatClampNeg = N) (hb8 : N * 8 ≤ 536870912) (hn : n + 1 ≤ mc) (hs : w + N ≤ ms) (hd : decode cc pc = .ok (.newarray .boolean, 2))
    (k : ∀ q : Nat, gG B (gXc X (n + 1) (w + N)) (pc + 2) lv (.ref q :: st) ((q, .inl (B.2.2.1.2.2, (N, .inl (fun _ => 0)))) :: ws)) : gG B (gXc X n w) pc lv (.int k0 :: st) ws := by
  obtain ⟨p, ev, R, s, m, args, below, meth, c, cells, slots, Q, A, Fin⟩ := X
  obtain ⟨hx, hb, hml, hown, hts, hK, hA, ⟨hf1, hf2, hf3, hf4⟩, hSt⟩ := hX
  intro H locs ls hP hD hS hl
  refine va_newa (D := B.2.1) (tys := gTys B) (atype := .boolean) (ty := .boolean) (a0 := (N, .inl (fun _ => 0))) hx hb (hts _ hw) rfl hK hP hD hS hA (fun _ => rfl) hk0 hN (Nat.le_trans (Nat.mul_le_mul_left N (by decide)) hb8) (Nat.le_trans hn hf3) (Nat.le_trans hs hf4) hd (fun q cA H1 hK1 hP hD hS => ?_)
  have e1 : s.vm.findClass _ = some B.2.2.1.2.2 := (hK.2 2 _ rfl).2
  have e2 : s.vm.findClass _ = some cA := (hK1.2 3 _ rfl).2
  have e3 : cA = B.2.2.1.2.2 := Option.some.inj (e2.symm.trans e1)
  subst e3
  have hp : (ws ++ [((q, Sum.inl (B.2.2.1.2.2, (N, .inl (fun _ => 0)))) : Nat × va_E)]).Perm ((q, Sum.inl (B.2.2.1.2.2, (N, .inl (fun _ => 0)))) :: ws) := List.perm_append_comm
  exact k q H1 locs ls (hP.perm hp) (hD.perm hp) hS hl
theorem i_putF (hX : gOkI B X own cc nL d mc ms) (hin2 : gName X = "<init>") {ref C : String} {T : u_T} {N ci ix a : Nat} {v : Value} {ty : FieldType} {ws' : va_W} (hin : ∀ w ∈ u_ws C T N, w ∈ gT) (ty0 : Nat → FieldType) (hty : ∀ k, k < N → parseFieldDescriptor (T k).2.2.1 = some (ty0 k)) (hnm : ∀ a, a < N → ∀ b, b < N → a ≠ b → (T a).2.1 ≠ (T b).2.1) (q0 : Nat) {fs : List Value} (he : ws[q0]? = some (a, .inr (ci, fs))) (hc : vwCl[ci]? = some (C, T, N)) (f : Nat) (hf : f < N) (hw : Cond.fieldLink own ix ref (T f).2.1 (T f).2.2.1 ∈ gT) (hr : (T f).1 = ref) (hfin : (T f).2.2.2 = true) (hdecl : (T f).1 = own) (hpd : parseFieldDescriptor (T f).2.2.1 = some ty) (hn : narrow ty v = v) (hfit : fits ty v = true) (hlen : f < fs.length) (hset : ws.set q0 (a, .inr (ci, fs.set f v)) = ws') (hd : decode cc pc = .ok (.putfield ix, 3)) (k : gG B (gXc X n w) (pc + 3) lv st ws') : gG B (gXc X n w) pc lv (v :: .ref a :: st) ws := by
  obtain ⟨p, ev, R, s, m, args, below, meth, c, cells, slots, Q, A, Fin⟩ := X
  obtain ⟨hx, hb, hml, hown, hts, hK, hA, ⟨hf1, hf2, hf3, hf4⟩, hSt⟩ := hX
  intro H locs ls hP hD hS hl
  subst hset
  exact va_putF (D := B.2.1) (tys := gTys B) hx hb hts hin ty0 hty hnm hown hK hP hD hS q0 he hc f hf (hts _ hw) (by rw [hr]; exact fun _ h => h) hfin hin2 hdecl hpd hn hfit hlen hd (fun H locs hP hD hS => k H locs ls hP hD hS hl)
theorem i_obj (hX : gOkI B X own cc nL d mc ms) {ix a : Nat} (hw : Cond.methodLink own ix Lib.objectInit ∈ gT ∧ Cond.instanceMethod Lib.objectInit ∈ gT ∧ Cond.code Lib.objectInit ⟨#[0xb1]⟩ 1 none ∈ gT) (hd1 : 1 ≤ d) (hst : (st.map fun v => v.category).sum ≤ 8) (hd : decode cc pc = .ok (.invokespecial ix, 3)) (k : gG B (gXc X n w) (pc + 3) lv st ws) : gG B (gXc X n w) pc lv (.ref a :: st) ws := by
  obtain ⟨p, ev, R, s, m, args, below, meth, c, cells, slots, Q, A, Fin⟩ := X
  obtain ⟨hx, hb, hml, hown, hts, hK, hA, ⟨hf1, hf2, hf3, hf4⟩, hSt⟩ := hX
  intro H locs ls hP hD hS hl
  have h8 := lv_room (m := m) (pc := pc) (ls := ls) (rest := .ref a :: st) hst
  exact W.objInit hx hb hown (hts _ hw.1) (hts _ hw.2.1) (hts _ hw.2.2) rfl hl.1 rfl hd (Nat.le_trans hd1 hf1) (by omega) (k H locs ls hP hD hS hl)
theorem gRunI {p : Program} {e : Env} {R : Room} {s : State} {m : MethodId} {args : Array Value} {below : List Frame} {meth : Method} {c : Code} {cells slots mc' ms' : Nat} {Q : State → Prop} {A : Nat → Prop} {H : Heap} {locs : List Loc} {ls : Array Slot} {st0 : List Value} {a : Array Value} {PP : va_W → Prop}
    (hr : va_Run p B.1 e R s m args below meth c H locs cells slots mc' ms' (F0 m pc ls st0) st ((fun _ st oc t => oc = .returned none ∧ ∃ w, PP w ∧ va_P B.2.1 vwCl w t.heap ∧ va_D (va_A ws H.size) w ∧ va_F (va_A ws H.size) st t : Array Value → State → Outcome → State → Prop) a) (va_A ws H.size)) (hD : va_D A ws) (hS : va_S A s.heap H locs) (hA : ∀ q, s.heap.size ≤ q → A q) (hl : lv_has ls c.maxLocals lv)
    (k : ∀ (w : va_W), PP w → ∀ (H : Heap) (locs : List Loc) (ls : Array Slot), va_P B.2.1 vwCl w H → va_D A w → va_S A s.heap H locs → lv_has ls c.maxLocals lv → W p B.1 e R s m args below meth c H locs (cells + mc') (slots + ms') Q (F0 m (pc + 3) ls st)) : W p B.1 e R s m args below meth c H locs cells slots Q (F0 m pc ls st0) := by
  have hF : ∀ q, va_A ws H.size q → A q := by
    rintro q (⟨i, x, hi⟩ | h)
    · exact hD.2 i _ hi
    · exact hA q (Nat.le_trans hS.1 h)
  intro T hT Xs
  obtain ⟨v, st₀, t, T', L, h0, X', hL, e1, e2, ⟨hv, w2, hPP, hP', hD', hz, hk⟩, stp⟩ := hr T hT Xs
  cases hv
  rw [h0] at hz hk
  obtain ⟨t2, a1, b1⟩ := k w2 hPP T'.heap (locs ++ L) ls (by rw [e1]; exact hP') (hD'.weaken (fun _ q _ h => hF q.1 h))
    ⟨Nat.le_trans hS.1 (by rw [e1]; exact hz), fun q h1 h2 => by rw [e1, hk q (Nat.lt_of_lt_of_le h1 hS.1) (fun z => h2 (hF q z))]; exact hS.2.1 q h1 h2, fun q hq => by
      rcases List.mem_append.mp hq with h | h
      · exact hS.2.2 q h
      · exact hF _ (hL q h)⟩ hl T' rfl X'
  exact ⟨t2, stp t2 a1, b1⟩
theorem i_call (hX : gOkI B X own cc nL d mc ms) {ix d' nL' mc' ms' b na : Nat} {y : MethodName} {cc' : ByteArray} {As : List Value} {PP : va_W → Prop} (hw : Cond.methodLink own ix y ∈ gT ∧ Cond.instanceMethod y ∈ gT ∧ Cond.initialized y.cls ∈ gT ∧ Cond.code y cc' nL' none ∈ gT ∧ gNm y na = true ∧ y.name = "<init>") (hm : gMetI B d' y cc' nL' mc' ms' (.ref b :: As) ws PP) (hna : As.length = na) (hr : d' + 1 ≤ d ∧ 8 + (nL' + 11) + 64 * d' ≤ 64 * d) (hst : (st.map fun v => v.category).sum ≤ 8) (hn : n + mc' ≤ mc) (hs : w + ms' ≤ ms) (hd : decode cc pc = .ok (.invokespecial ix, 3))
    (k : ∀ ws', PP ws' → gG B (gXc X (n + mc') (w + ms')) (pc + 3) lv st ws') : gG B (gXc X n w) pc lv (As.reverse ++ .ref b :: st) ws := by
  obtain ⟨p, ev, R, s, m, args, below, meth, c, cells, slots, Q, A, Fin⟩ := X
  obtain ⟨hx, hb, hml, hown, hts, hK, hA, ⟨hf1, hf2, hf3, hf4⟩, hSt⟩ := hX
  obtain ⟨w1, w2, w3, w4, w5, w6⟩ := hw
  intro H locs ls hP hD hS hl
  have hnm := gNm_spec w5
  exact gRunI (a := (Value.ref b :: As).toArray) (va_runI (index := ix) (bytes := cc') (maxL := nL') (n := na) ⟨hx, hb, hml, hown, hts⟩ (hm H.size) ⟨callB_of na hts (gIn w4) rfl rfl rfl (hts _ w3) (hts _ w1) hnm ⟨Nat.le_trans hr.1 hf1, Nat.le_trans hr.2 hf2⟩, w6, hts _ w2⟩ ⟨gPc_blind, gPre hP hK hD hS hA hSt⟩ rfl hna (by rw [← hml]; exact hl.1) rfl (lv_room hst) hd ⟨Nat.le_trans hn hf3, Nat.le_trans hs hf4⟩) hD hS hA hl k
theorem i_callN (hX : gOkI B X own cc nL d mc ms) {ix d' nL' mc' ms' b na : Nat} {y : MethodName} {cc' : ByteArray} {As : List Value} {PP : va_W → Prop} (hw : (own, ix, y) ∈ gNestM ∧ Cond.instanceMethod y ∈ gT ∧ Cond.initialized y.cls ∈ gT ∧ Cond.code y cc' nL' none ∈ gT ∧ gNm y na = true ∧ y.name = "<init>") (hm : gMetI B d' y cc' nL' mc' ms' (.ref b :: As) ws PP) (hna : As.length = na) (hr : d' + 1 ≤ d ∧ 8 + (nL' + 11) + 64 * d' ≤ 64 * d) (hst : (st.map fun v => v.category).sum ≤ 8) (hn : n + mc' ≤ mc) (hs : w + ms' ≤ ms) (hd : decode cc pc = .ok (.invokespecial ix, 3))
    (k : ∀ ws', PP ws' → gG B (gXc X (n + mc') (w + ms')) (pc + 3) lv st ws') : gG B (gXc X n w) pc lv (As.reverse ++ .ref b :: st) ws := by
  obtain ⟨p, ev, R, s, m, args, below, meth, c, cells, slots, Q, A, Fin⟩ := X
  obtain ⟨hx, hb, hml, hown, hts, hK, hA, ⟨hf1, hf2, hf3, hf4⟩, hSt⟩ := hX
  obtain ⟨w1, w2, w3, w4, w5, w6⟩ := hw
  intro H locs ls hP hD hS hl
  have hnm := gNm_spec w5
  exact gRunI (a := (Value.ref b :: As).toArray) (va_runIN (index := ix) (bytes := cc') (maxL := nL') (n := na) ⟨hx, hb, hml, hown, hts⟩ (hm H.size) ⟨va_cnB na hts (gIn w4) rfl rfl rfl (hSt.2.2 _ w1) (hts _ w3) hnm ⟨Nat.le_trans hr.1 hf1, Nat.le_trans hr.2 hf2⟩, w6, hts _ w2⟩ ⟨gPc_blind, gPre hP hK hD hS hA hSt⟩ rfl hna (by rw [← hml]; exact hl.1) rfl (lv_room hst) hd ⟨Nat.le_trans hn hf3, Nat.le_trans hs hf4⟩) hD hS hA hl k
end INIT
/-- a constructor's contract begun: 'out' is what its return owes -/
theorem gMetI.of {B : gB} {d : Nat} {y : MethodName} {cc : ByteArray} {nL mc ms : Nat} {av : List Value} {ws : va_W} {PP : va_W → Prop} (hy : plainName y.cls = true) (hyi : y.name = "<init>") (hn : (lg_sl av).length ≤ nL)
    (h : ∀ X : gX, gOkI B X y.cls cc nL d mc ms → gName X = "<init>" → (∀ (pc : Nat) (lv : List (Nat × Value)) (w : va_W), PP w → decode cc pc = .ok (.return_, 1) → gG B (gXc X mc ms) pc lv [] w) → gG B (gXc X 0 0) 0 (lv_args 0 av) [] ws) : gMetI B d y cc nL mc ms av ws PP := by
  intro sz
  refine Met.ofW (cc := cc) (maxL := nL) (ret := none) hy rfl ?_
  intro p e s m args below meth c s₁ Bd hml hv
  obtain ⟨rfl, hsz, hP, hK, hD0, hSt⟩ := hv
  subst hsz
  have hD := hD0.self (sz := s.heap.size)
  have hl := lv_entry av (n := nL) hn
  rw [lg_entry_eq]
  generalize (lg_sl av ++ List.replicate (nL - (lg_sl av).length) Slot.unset).toArray = ls at hl ⊢
  have hts := atoms_spec (ws := .code y cc nL none :: gT) Bd.pre
  have hlocks := Bd.notSynchronized
  have hr := Bd.returns
  have hx := Bd.exec
  have hb := Bd.bytes
  refine h (p, e, (headSpec (.code y cc nL none :: gT) { frames := d, cells := mc, slots := ms, locals := 64 * d }).room, s, m, av.toArray, below, meth, c, 0, 0, MQ below (fun _ st oc t => oc = .returned none ∧ ∃ w, PP w ∧ va_P B.2.1 vwCl w t.heap ∧ va_D (va_A ws s.heap.size) w ∧ va_F (va_A ws s.heap.size) st t) av.toArray s mc ms (va_A ws s.heap.size), va_A ws s.heap.size, fun _ _ => False) ?_ ?_ ?_ s.heap [] ls hP hD va_S.rf (by rw [hml]; exact hl)
  · exact ⟨hx, hb, hml, findClass_of_methodNamed Bd.named, fun w hw => hts w (List.mem_cons_of_mem _ hw), hK, fun q hq => Or.inr hq, ⟨Nat.le_refl _, Nat.le_refl _, Nat.le_refl _, Nat.le_refl _⟩, hSt⟩
  · exact (name_of_methodNamed Bd.named Bd.method).1.trans hyi
  · intro pc lv w2 hPP hd H locs ls hP hD hS hl
    exact W.vret hx hb hr (fun t ht _ => ⟨rfl, w2, hPP, by rw [ht]; exact hP, hD, hS.F ht⟩) hS.2.2 hd
