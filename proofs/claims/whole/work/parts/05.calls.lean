theorem gT_good {w : Cond} (h : w ∈ gT) : (w.onTables && w.keeps) = true ∨ ∃ ty, w = .arrayClass ty := good_of_word (List.mem_filter.mp h).2
def gNm (y : MethodName) (n : Nat) : Bool := decide (y.cls ≠ "java/lang/invoke/MethodHandle") && decide (y.cls ≠ "java/lang/invoke/VarHandle") && decide ((parseMethodDescriptor y.desc).map (fun d => d.parameters.length) = some n)
/-- the words of a virtual call -/
def gCV (own : String) (ix : Nat) (C : String) (y : MethodName) (cc : ByteArray) (nL : Nat) (rt : Option FieldType) (n : Nat) : Prop :=
  Cond.methodLink own ix y ∈ gT ∧ Cond.instanceMethod y ∈ gT ∧ Cond.selects C y y ∈ gT ∧ Cond.initialized C ∈ gT ∧ Cond.code y cc nL rt ∈ gT ∧ y.cls = C ∧ gNm y n = true
def gCS (own : String) (ix : Nat) (y : MethodName) (cc : ByteArray) (nL : Nat) (rt : Option FieldType) (n : Nat) : Prop :=
  Cond.methodLink own ix y ∈ gT ∧ Cond.static y ∈ gT ∧ Cond.initialized y.cls ∈ gT ∧ Cond.code y cc nL rt ∈ gT ∧ gNm y n = true
def gRv (ws : va_W) (b : Nat) (C : String) : Prop := ∃ (q0 ci : Nat) (fs : List Value) (r : vw_C), ws[q0]? = some (b, .inr (ci, fs)) ∧ vwCl[ci]? = some r ∧ r.1 = C
theorem gNm_spec {y : MethodName} {n : Nat} (h : gNm y n = true) : y.cls ≠ "java/lang/invoke/MethodHandle" ∧ y.cls ≠ "java/lang/invoke/VarHandle" ∧ (parseMethodDescriptor y.desc).map (fun d => d.parameters.length) = some n := by
  simp only [gNm, Bool.and_eq_true, decide_eq_true_eq] at h
  exact ⟨h.1.1, h.1.2, h.2⟩
theorem gIn {y : MethodName} {cc : ByteArray} {nL : Nat} {rt : Option FieldType} (h : Cond.code y cc nL rt ∈ gT) : GoodIn gT (.code y cc nL rt :: gT) := by
  intro w hw
  rcases List.mem_cons.mp hw with e | hw
  · subst e; exact ⟨h, gT_good h⟩
  · exact ⟨hw, gT_good hw⟩
theorem gSt.warm {B : gB} {A : Nat → Prop} {u U : State} {H : Heap} (hW : u.WarmedH U.vm) (h : gSt B A u H) : gSt B A U H := ⟨fun k q hq => ⟨(h.1 k q hq).1.moved hW.alike, (h.1 k q hq).2.moved hW.alike⟩, fun q hq => (h.2.1 q hq).warmF hW, fun q hq => (h.2.2 q hq).warmM hW⟩
theorem gSt.same {B : gB} {A : Nat → Prop} {u U : State} {H : Heap} (hv : u.vm = U.vm) (h : gSt B A u H) : gSt B A U H := ⟨fun k q hq => ⟨(h.1 k q hq).1.moved (by rw [hv]; exact Vm.Alike.refl U.vm), (h.1 k q hq).2.moved (by rw [hv]; exact Vm.Alike.refl U.vm)⟩, fun q hq => (h.2.1 q hq).same rfl hv, fun q hq => (h.2.2 q hq).same rfl hv⟩
theorem gSt.kept {B : gB} {A : Nat → Prop} {U : State} {H H1 : Heap} (h : gSt B A U H) (hq : ∀ a : Nat, a < H.size → ¬ A a → H1[a]? = H[a]?) : gSt B A U H1 := ⟨fun k q h1 => ⟨(h.1 k q h1).1.kept hq, (h.1 k q h1).2.kept hq⟩, h.2⟩
theorem gSt.narrow {B : gB} {A A2 : Nat → Prop} {U : State} {H : Heap} (h : gSt B A U H) (hA : ∀ q, A2 q → A q) : gSt B A2 U H := ⟨fun k q h1 => ⟨(h.1 k q h1).1.narrow hA, (h.1 k q h1).2.narrow hA⟩, h.2⟩
theorem gPc_blind {B : gB} {av : List Value} {ws : va_W} {sz : Nat} : FrameBlind (gPc B av ws sz) := by
  intro a U g mk q
  obtain ⟨q0, q1, qP, qK, qD, qS⟩ := q
  exact ⟨q0, q1, qP, va_K.moved (u := U) (U := U.calling g mk a) (Vm.Alike.refl U.vm) qK, qD, gSt.same (u := U) (U := U.calling g mk a) rfl qS⟩
theorem gMet.of {B : gB} {d : Nat} {y : MethodName} {cc : ByteArray} {nL : Nat} {rt : Option FieldType} {av : List Value} {ws : va_W} {rv : Option Value} {ws' : va_W} (hy : plainName y.cls = true) (hn : (lg_sl av).length ≤ nL)
    (h : ∀ X : gX, gOk B X y.cls cc nL d rt → gFin X rv ws' → gG B X 0 (lv_args 0 av) [] ws) : gMet B d y cc nL rt av ws rv ws' := by
  intro sz
  refine Met.ofW (cc := cc) (maxL := nL) (ret := rt) hy rfl ?_
  intro p e s m args below meth c s₁ Bd hml hv
  obtain ⟨rfl, hsz, hP, hK, hD0, hSt⟩ := hv
  subst hsz
  have hD := hD0.self (sz := s.heap.size)
  have hl := lv_entry av (n := nL) hn
  rw [lg_entry_eq]
  generalize (lg_sl av ++ List.replicate (nL - (lg_sl av).length) Slot.unset).toArray = ls at hl ⊢
  have hts := atoms_spec (ws := .code y cc nL rt :: gT) Bd.pre
  have hlocks := Bd.notSynchronized
  have hr := Bd.returns
  have hx := Bd.exec
  have hb := Bd.bytes
  refine h (p, e, (headSpec (.code y cc nL rt :: gT) (gR d)).room, s, m, av.toArray, below, meth, c, 0, 0, MQ below (gQ B ws s.heap.size rv ws') av.toArray s 0 0 (va_A ws s.heap.size), va_A ws s.heap.size, fun rv2 w2 => rv2 = rv ∧ w2 = ws') ?_ ⟨rfl, rfl⟩ s.heap [] ls hP hD va_S.rf (by rw [hml]; exact hl)
  refine ⟨hx, hb, hml, findClass_of_methodNamed Bd.named, fun w hw => hts w (List.mem_cons_of_mem _ hw), hK, fun q hq => Or.inr hq, ⟨Nat.le_refl _, Nat.le_refl _, Nat.zero_le _, Nat.zero_le _⟩, hSt, ?_⟩
  rintro rv2 ws2 ⟨rfl, rfl⟩ hrn H locs ls pc hP hD hS hd
  have hq : ∀ t : State, t.heap = H → s.WarmedH t.vm → gQ B ws s.heap.size rv2 ws2 av.toArray s (.returned rv2) t := fun t ht _ => ⟨rfl, by rw [ht]; exact hP, hD, hS.F ht⟩
  cases rv2 with
  | none =>
    cases rt with
    | none => exact W.vret hx hb hr hq hS.2.2 hd
    | some ty => exact absurd hrn (by cases ty <;> exact fun h => h)
  | some v =>
    cases rt with
    | none => exact absurd hrn (by cases v <;> exact fun h => h)
    | some ty =>
      cases v with
      | int x =>
        cases ty with
        | int => exact W.iret hx hb hr hq hS.2.2 hd
        | boolean => exact W.zret hx hb hr hrn hq hS.2.2 hd
        | _ => exact absurd hrn (fun h => h)
      | long x =>
        cases ty with
        | long => exact W.lret hx hb hr hq hS.2.2 hd
        | _ => exact absurd hrn (fun h => h)
      | ref x =>
        cases ty with
        | object nm => exact W.aret hx hb hr (Or.inl ⟨_, rfl⟩) (Or.inr ⟨_, rfl⟩) hq hS.2.2 hd
        | _ => exact absurd hrn (fun h => h)
      | _ => cases ty <;> exact absurd hrn (fun h => h)
section CALLS
variable {ρ : Type} {B : gB} {X : gX} {K : ρ → Prop} {own : String} {cc : ByteArray} {nL d : Nat} {rt : Option FieldType} {pc : Nat} {lv : List (Nat × Value)} {st : List Value} {ws ws' : va_W}
/-- behind a call -/
theorem gRun {p : Program} {e : Env} {R : Room} {s : State} {m : MethodId} {args : Array Value} {below : List Frame} {meth : Method} {c : Code} {cells slots : Nat} {Q : State → Prop} {A : Nat → Prop} {H : Heap} {locs : List Loc} {ls : Array Slot} {st0 : List Value} {a : Array Value} {rv : Option Value}
    (hr : va_Run p B.1 e R s m args below meth c H locs cells slots 0 0 (F0 m pc ls st0) st (gQ B ws H.size rv ws' a) (va_A ws H.size)) (hD : va_D A ws) (hS : va_S A s.heap H locs) (hA : ∀ q, s.heap.size ≤ q → A q) (hl : lv_has ls c.maxLocals lv)
    (k : ∀ (H : Heap) (locs : List Loc) (ls : Array Slot), va_P B.2.1 vwCl ws' H → va_D A ws' → va_S A s.heap H locs → lv_has ls c.maxLocals lv → W p B.1 e R s m args below meth c H locs cells slots Q (F0 m (pc + 3) ls (rv.toList ++ st))) : W p B.1 e R s m args below meth c H locs cells slots Q (F0 m pc ls st0) := by
  have hF : ∀ q, va_A ws H.size q → A q := by
    rintro q (⟨i, x, hi⟩ | h)
    · exact hD.2 i _ hi
    · exact hA q (Nat.le_trans hS.1 h)
  intro T hT Xs
  obtain ⟨v, st₀, t, T', L, h0, X', hL, e1, e2, ⟨hv, hP', hD', hz, hk⟩, stp⟩ := hr T hT Xs
  cases hv
  rw [h0] at hz hk
  obtain ⟨t2, a1, b1⟩ := k T'.heap (locs ++ L) ls (by rw [e1]; exact hP') (hD'.weaken (fun _ q _ h => hF q.1 h))
    ⟨Nat.le_trans hS.1 (by rw [e1]; exact hz), fun q h1 h2 => by rw [e1, hk q (Nat.lt_of_lt_of_le h1 hS.1) (fun z => h2 (hF q z))]; exact hS.2.1 q h1 h2, fun q hq => by
      rcases List.mem_append.mp hq with h | h
      · exact hS.2.2 q h
      · exact hF _ (hL q h)⟩ hl T' rfl X'
  exact ⟨t2, stp t2 a1, b1⟩
theorem gPre {s : State} {A : Nat → Prop} {H : Heap} {locs : List Loc} {av : List Value} (hP : va_P B.2.1 vwCl ws H) (hK : va_K B.2.1 vwCl (gTys B) s) (hD : va_D A ws) (hS : va_S A s.heap H locs) (hA : ∀ q, s.heap.size ≤ q → A q) (hSt : gSt B A s s.heap) : ∀ U : State, U.heap = H → s.WarmedH U.vm → gPc B av ws H.size av.toArray U := by
  intro U hU hW
  subst hU
  refine ⟨rfl, rfl, hP, va_K.moved hW.alike hK, hD.weaken (fun _ _ _ _ => trivial), ?_⟩
  refine gSt.narrow (A := A) ((hSt.kept (fun a h1 h2 => hS.2.1 a h1 h2)).warm hW) ?_
  rintro q (⟨i, x, hi⟩ | h)
  · exact hD.2 i _ hi
  · exact hA q (Nat.le_trans hS.1 h)
theorem gG.callV (hX : gOk B X own cc nL d rt) {ix d' nL' n b : Nat} {C : String} {y : MethodName} {cc' : ByteArray} {rt' : Option FieldType} {As : List Value} {rv : Option Value} (hd : decode cc pc = .ok (.invokevirtual ix, 3)) (hw : gCV own ix C y cc' nL' rt' n) (hm : gMet B d' y cc' nL' rt' (.ref b :: As) ws rv ws') (hrv : gRv ws b C) (hn : As.length = n) (hr : d' + 1 ≤ d ∧ 8 + (nL' + 11) + 64 * d' ≤ 64 * d) (hst : (st.map fun v => v.category).sum ≤ 8)
    (k : gG B X (pc + 3) lv (rv.toList ++ st) ws') : gG B X pc lv (As.reverse ++ .ref b :: st) ws := by
  obtain ⟨p, ev, R, s, m, args, below, meth, c, cells, slots, Q, A, Fin⟩ := X
  obtain ⟨hx, hb, hml, hown, hts, hK, hA, ⟨hf1, hf2, hf3, hf4⟩, hSt, hret⟩ := hX
  obtain ⟨w1, w2, w3, w4, w5, w6, w7⟩ := hw
  obtain ⟨q0, ci, fs, rc, r1, r2, r3⟩ := hrv
  intro H locs ls hP hD hS hl
  subst r3
  have hnm := gNm_spec w7
  refine gRun (va_runV (C := rc.1) (index := ix) (bytes := cc') (maxL := nL') (ret := rt') (n := n) ⟨hx, hb, hml, hown, hts⟩ (hm H.size) ⟨callB_of n hts (gIn w5) rfl rfl rfl (by rw [w6]; exact hts _ w4) (hts _ w1) hnm ⟨Nat.le_trans hr.1 hf1, Nat.le_trans hr.2 hf2⟩, hts _ w2, hts _ w3⟩ ⟨gPc_blind, va_recv hK hP r2 r1, gPre hP hK hD hS hA hSt⟩ rfl hn (by rw [← hml]; exact hl.1) rfl (lv_room hst) hd ⟨hf3, hf4⟩) hD hS hA hl k
theorem gG.callS (hX : gOk B X own cc nL d rt) {ix d' nL' n : Nat} {y : MethodName} {cc' : ByteArray} {rt' : Option FieldType} {As : List Value} {rv : Option Value} (hd : decode cc pc = .ok (.invokestatic ix, 3)) (hw : gCS own ix y cc' nL' rt' n) (hm : gMet B d' y cc' nL' rt' As ws rv ws') (hn : As.length = n) (hr : d' + 1 ≤ d ∧ 8 + (nL' + 11) + 64 * d' ≤ 64 * d) (hst : (st.map fun v => v.category).sum ≤ 8)
    (k : gG B X (pc + 3) lv (rv.toList ++ st) ws') : gG B X pc lv (As.reverse ++ st) ws := by
  obtain ⟨p, ev, R, s, m, args, below, meth, c, cells, slots, Q, A, Fin⟩ := X
  obtain ⟨hx, hb, hml, hown, hts, hK, hA, ⟨hf1, hf2, hf3, hf4⟩, hSt, hret⟩ := hX
  obtain ⟨w1, w2, w4, w5, w7⟩ := hw
  intro H locs ls hP hD hS hl
  have hnm := gNm_spec w7
  refine gRun (va_runS (index := ix) (bytes := cc') (maxL := nL') (ret := rt') (n := n) ⟨hx, hb, hml, hown, hts⟩ (hm H.size) ⟨callB_of n hts (gIn w5) rfl rfl rfl (hts _ w4) (hts _ w1) hnm ⟨Nat.le_trans hr.1 hf1, Nat.le_trans hr.2 hf2⟩, hts _ w2⟩ ⟨gPc_blind, gPre hP hK hD hS hA hSt⟩ rfl hn (by rw [← hml]; exact hl.1) rfl (lv_room hst) hd ⟨hf3, hf4⟩) hD hS hA hl k
/-- a call whose plain value is o; what comes behind it is F of what o gives -/
theorem h_callVi (hX : gOk B X own cc nL d rt) {α : Type} {ix d' nL' n : Nat} {b : Nat} {C : String} {y : MethodName} {cc' : ByteArray} {rt' : Option FieldType} {As : List Value} {st0 : List Value} {rv : α → Int32} {o : Option α} {F : α → Option ρ} {w2 : α → va_W} (hd : decode cc pc = .ok (.invokevirtual ix, 3)) (hw : gCV own ix C y cc' nL' rt' n) (hrv : gRv ws b C) (hm : ∀ a : α, o = some a → gMet B d' y cc' nL' rt' (.ref b :: As) ws (some (.int (rv a))) (w2 a)) (h0 : st0 = As.reverse ++ .ref b :: st) (hn : As.length = n) (hr : d' + 1 ≤ d ∧ 8 + (nL' + 11) + 64 * d' ≤ 64 * d) (hst : (st.map fun v => v.category).sum ≤ 8) (k : ∀ a : α, gH B X K (pc + 3) lv (.int (rv a) :: st) (w2 a) (F a)) : gH B X K pc lv st0 ws (o.bind F) := by
  subst h0
  intro r e hk
  obtain ⟨a, ha, hF⟩ := Option.bind_eq_some_iff.mp e
  exact gG.callV hX hd hw (hm a ha) hrv hn hr hst (k a r hF hk)
theorem h_callSi (hX : gOk B X own cc nL d rt) {α : Type} {ix d' nL' n : Nat} {y : MethodName} {cc' : ByteArray} {rt' : Option FieldType} {As : List Value} {st0 : List Value} {rv : α → Int32} {o : Option α} {F : α → Option ρ} {w2 : α → va_W} (hd : decode cc pc = .ok (.invokestatic ix, 3)) (hw : gCS own ix y cc' nL' rt' n) (hm : ∀ a : α, o = some a → gMet B d' y cc' nL' rt' As ws (some (.int (rv a))) (w2 a)) (h0 : st0 = As.reverse ++ st) (hn : As.length = n) (hr : d' + 1 ≤ d ∧ 8 + (nL' + 11) + 64 * d' ≤ 64 * d) (hst : (st.map fun v => v.category).sum ≤ 8) (k : ∀ a : α, gH B X K (pc + 3) lv (.int (rv a) :: st) (w2 a) (F a)) : gH B X K pc lv st0 ws (o.bind F) := by
  subst h0
  intro r e hk
  obtain ⟨a, ha, hF⟩ := Option.bind_eq_some_iff.mp e
  exact gG.callS hX hd hw (hm a ha) hn hr hst (k a r hF hk)
theorem h_callVl (hX : gOk B X own cc nL d rt) {α : Type} {ix d' nL' n : Nat} {b : Nat} {C : String} {y : MethodName} {cc' : ByteArray} {rt' : Option FieldType} {As : List Value} {st0 : List Value} {rv : α → Int64} {o : Option α} {F : α → Option ρ} {w2 : α → va_W} (hd : decode cc pc = .ok (.invokevirtual ix, 3)) (hw : gCV own ix C y cc' nL' rt' n) (hrv : gRv ws b C) (hm : ∀ a : α, o = some a → gMet B d' y cc' nL' rt' (.ref b :: As) ws (some (.long (rv a))) (w2 a)) (h0 : st0 = As.reverse ++ .ref b :: st) (hn : As.length = n) (hr : d' + 1 ≤ d ∧ 8 + (nL' + 11) + 64 * d' ≤ 64 * d) (hst : (st.map fun v => v.category).sum ≤ 8) (k : ∀ a : α, gH B X K (pc + 3) lv (.long (rv a) :: st) (w2 a) (F a)) : gH B X K pc lv st0 ws (o.bind F) := by
  subst h0
  intro r e hk
  obtain ⟨a, ha, hF⟩ := Option.bind_eq_some_iff.mp e
  exact gG.callV hX hd hw (hm a ha) hrv hn hr hst (k a r hF hk)
theorem h_callSl (hX : gOk B X own cc nL d rt) {α : Type} {ix d' nL' n : Nat} {y : MethodName} {cc' : ByteArray} {rt' : Option FieldType} {As : List Value} {st0 : List Value} {rv : α → Int64} {o : Option α} {F : α → Option ρ} {w2 : α → va_W} (hd : decode cc pc = .ok (.invokestatic ix, 3)) (hw : gCS own ix y cc' nL' rt' n) (hm : ∀ a : α, o = some a → gMet B d' y cc' nL' rt' As ws (some (.long (rv a))) (w2 a)) (h0 : st0 = As.reverse ++ st) (hn : As.length = n) (hr : d' + 1 ≤ d ∧ 8 + (nL' + 11) + 64 * d' ≤ 64 * d) (hst : (st.map fun v => v.category).sum ≤ 8) (k : ∀ a : α, gH B X K (pc + 3) lv (.long (rv a) :: st) (w2 a) (F a)) : gH B X K pc lv st0 ws (o.bind F) := by
  subst h0
  intro r e hk
  obtain ⟨a, ha, hF⟩ := Option.bind_eq_some_iff.mp e
  exact gG.callS hX hd hw (hm a ha) hn hr hst (k a r hF hk)
theorem h_callVv (hX : gOk B X own cc nL d rt) {α : Type} {ix d' nL' n : Nat} {b : Nat} {C : String} {y : MethodName} {cc' : ByteArray} {rt' : Option FieldType} {As : List Value} {st0 : List Value} {o : Option α} {F : α → Option ρ} {w2 : α → va_W} (hd : decode cc pc = .ok (.invokevirtual ix, 3)) (hw : gCV own ix C y cc' nL' rt' n) (hrv : gRv ws b C) (hm : ∀ a : α, o = some a → gMet B d' y cc' nL' rt' (.ref b :: As) ws (none) (w2 a)) (h0 : st0 = As.reverse ++ .ref b :: st) (hn : As.length = n) (hr : d' + 1 ≤ d ∧ 8 + (nL' + 11) + 64 * d' ≤ 64 * d) (hst : (st.map fun v => v.category).sum ≤ 8) (k : ∀ a : α, gH B X K (pc + 3) lv (st) (w2 a) (F a)) : gH B X K pc lv st0 ws (o.bind F) := by
  subst h0
  intro r e hk
  obtain ⟨a, ha, hF⟩ := Option.bind_eq_some_iff.mp e
  exact gG.callV hX hd hw (hm a ha) hrv hn hr hst (k a r hF hk)
theorem h_callSv (hX : gOk B X own cc nL d rt) {α : Type} {ix d' nL' n : Nat} {y : MethodName} {cc' : ByteArray} {rt' : Option FieldType} {As : List Value} {st0 : List Value} {o : Option α} {F : α → Option ρ} {w2 : α → va_W} (hd : decode cc pc = .ok (.invokestatic ix, 3)) (hw : gCS own ix y cc' nL' rt' n) (hm : ∀ a : α, o = some a → gMet B d' y cc' nL' rt' As ws (none) (w2 a)) (h0 : st0 = As.reverse ++ st) (hn : As.length = n) (hr : d' + 1 ≤ d ∧ 8 + (nL' + 11) + 64 * d' ≤ 64 * d) (hst : (st.map fun v => v.category).sum ≤ 8) (k : ∀ a : α, gH B X K (pc + 3) lv (st) (w2 a) (F a)) : gH B X K pc lv st0 ws (o.bind F) := by
  subst h0
  intro r e hk
  obtain ⟨a, ha, hF⟩ := Option.bind_eq_some_iff.mp e
  exact gG.callS hX hd hw (hm a ha) hn hr hst (k a r hF hk)
theorem h_callVr (hX : gOk B X own cc nL d rt) {α : Type} {ix d' nL' n : Nat} {b : Nat} {C : String} {y : MethodName} {cc' : ByteArray} {rt' : Option FieldType} {As : List Value} {st0 : List Value} {rv : Nat} {o : Option α} {F : α → Option ρ} {w2 : α → va_W} (hd : decode cc pc = .ok (.invokevirtual ix, 3)) (hw : gCV own ix C y cc' nL' rt' n) (hrv : gRv ws b C) (hm : ∀ a : α, o = some a → gMet B d' y cc' nL' rt' (.ref b :: As) ws (some (.ref rv)) (w2 a)) (h0 : st0 = As.reverse ++ .ref b :: st) (hn : As.length = n) (hr : d' + 1 ≤ d ∧ 8 + (nL' + 11) + 64 * d' ≤ 64 * d) (hst : (st.map fun v => v.category).sum ≤ 8) (k : ∀ a : α, gH B X K (pc + 3) lv (.ref rv :: st) (w2 a) (F a)) : gH B X K pc lv st0 ws (o.bind F) := by
  subst h0
  intro r e hk
  obtain ⟨a, ha, hF⟩ := Option.bind_eq_some_iff.mp e
  exact gG.callV hX hd hw (hm a ha) hrv hn hr hst (k a r hF hk)
theorem h_callSr (hX : gOk B X own cc nL d rt) {α : Type} {ix d' nL' n : Nat} {y : MethodName} {cc' : ByteArray} {rt' : Option FieldType} {As : List Value} {st0 : List Value} {rv : Nat} {o : Option α} {F : α → Option ρ} {w2 : α → va_W} (hd : decode cc pc = .ok (.invokestatic ix, 3)) (hw : gCS own ix y cc' nL' rt' n) (hm : ∀ a : α, o = some a → gMet B d' y cc' nL' rt' As ws (some (.ref rv)) (w2 a)) (h0 : st0 = As.reverse ++ st) (hn : As.length = n) (hr : d' + 1 ≤ d ∧ 8 + (nL' + 11) + 64 * d' ≤ 64 * d) (hst : (st.map fun v => v.category).sum ≤ 8) (k : ∀ a : α, gH B X K (pc + 3) lv (.ref rv :: st) (w2 a) (F a)) : gH B X K pc lv st0 ws (o.bind F) := by
  subst h0
  intro r e hk
  obtain ⟨a, ha, hF⟩ := Option.bind_eq_some_iff.mp e
  exact gG.callS hX hd hw (hm a ha) hn hr hst (k a r hF hk)
end CALLS
