section PX
/-! The throw of an exception of the JDK by a launch without stack traces, the link of whose constructor to the one above may have any index. px_sel, px_null, px_made: what the words say of the class; px_init: its constructor's run, from a stand that has changed no elder cell to one that has not either; px_throw: new, dup, ldc, that run, athrow. -/
variable {p : Program} {l : Launch} {e : Env} {R : Room} {s : State} {m : MethodId} {args : Array Value} {below : List Frame} {meth : Method} {c : Code} {cells slots : Nat}
/-- the class has no own one of a method that it inherits -/
theorem px_sel (ha : l.admits e) {E : String} {t : MethodName} {k : ClassId} {q : MethodId} (ht : t.cls ≠ "java/lang/invoke/MethodHandle" ∧ t.cls ≠ "java/lang/invoke/VarHandle")
    (hk : s.vm.findClass E = some k) (hq : s.methodNamed? t = some q) (hw : (Cond.selects E t t).holds args s none s [] = true) : selectMethod e.platform s.vm k q = .method q := by
  obtain ⟨k', r, q', hk', hr, hq', hsel, -⟩ := Cond.selects_spec hw
  rw [State.methodFound?_of_named hq ht] at hr
  rw [hk] at hk'
  rw [hq] at hq'
  injection hr with hr
  injection hk' with hk'
  injection hq' with hq'
  rw [Launch.admits_selectMethod ha, hk']
  rw [← hr, ← hq'] at hsel
  exact hsel
/-- of a fresh cell that Throwable's constructor has prepared, a slot that is none of its three -/
theorem px_null {T : ThrowableT} {k : ClassId} {K : Class} {a : Addr} {u v : RefV} {f : Field} {t : ThreadId} (h1 : f.slot ≠ T.fCause.slot) (h2 : f.slot ≠ T.fStack.slot) (h3 : f.slot ≠ T.fSupp.slot)
    (hf : K.instanceTypes[f.slot]? = some f.type) : ((preparedCellV T (freshCell k K) a u v).withEntry t).slots[f.slot]? = some (defaultValue f.type) := by
  have h0 : (freshCell k K).slots[f.slot]? = some (defaultValue f.type) := fresh_default hf
  show (((((freshCell k K).slots.setIfInBounds T.fCause.slot (.ref a)).setIfInBounds T.fStack.slot u.v).setIfInBounds T.fSupp.slot v.v))[f.slot]? = _
  rw [Array.getElem?_setIfInBounds_ne (Ne.symm h3), Array.getElem?_setIfInBounds_ne (Ne.symm h2), Array.getElem?_setIfInBounds_ne (Ne.symm h1)]
  exact h0
/-- what a run of the constructor rests on: Throwable's parts, the chain up to it, the choice of the two methods, the two statics, how a fresh cell takes the four fields, and that nothing stands in the fifth -/
def pxD (pl : Platform) (s : State) (k : ClassId) (K : Class) (a : Addr) (msg : Value) (T : ThrowableC) (Z : Init0T) (M : MsgC) (Ps : List PassC) (u v : RefV) : Prop :=
  (T.Links pl s ∧ Z.LaidS T.toThrowableT ∧ M.Links T pl s ∧ T.codeObj.maxLocals = 1) ∧
  ((∀ P, P ∈ Ps → P.LinksS pl s) ∧ PassesOn (Z.m T.toThrowableT) (Ps.map (·.toPassT))) ∧
  (selectMethod pl s.vm k T.fill0 = .method T.fill0 ∧ selectMethod pl s.vm k T.fill = .method T.fill) ∧
  (∃ z, s.heap[T.aS]? = some z ∧ z.vm.isStatics = true ∧ z.slots[T.fUnassigned.slot]? = some u.v ∧ z.slots[T.fSentinel.slot]? = some v.v) ∧
  (Takes s (freshCell k K) T.fCause (.ref a) ∧ Takes s (freshCell k K) T.fStack u.v ∧ Takes s (freshCell k K) T.fSupp v.v ∧ Takes s (freshCell k K) T.fMsg msg) ∧
  ∀ t : ThreadId, SkipFacts T pl s (fun x => x) u ((preparedCellV T.toThrowableT (freshCell k K) a u v).withEntry t)
theorem px_made (ha : l.admits e) {own E : String} {up : List String} {ic ix : Nat} {rx : ByteArray} (x0 : decode rx 0 = .ok (.aload_n 0, 1)) (x1 : decode rx 1 = .ok (.aload_n 1, 1)) (x2 : decode rx 2 = .ok (.invokespecial ix, 3)) (x5 : decode rx 5 = .ok (.return_, 1))
    (hE : Bundle.fit E = true) (hup : ∀ n ∈ up, Bundle.fit n = true) (h : ∀ w ∈ Bundle.ownAtomsX own ic E ix rx up, w.before args s = true)
    {k : ClassId} {K : Class} (hk : s.vm.findClass E = some k) (hK : s.vm.classes[k]? = some K) (a : Addr) {msg : Value} (hm : msg.isRef = true) :
    ∃ (T : ThrowableC) (Z : Init0T) (M : MsgC) (P : PassC) (Ps : List PassC) (u v : RefV), pxD e.platform s k K a msg T Z M (P :: Ps) u v ∧ Ps.length = up.length ∧ s.methodNamed? (Bundle.initS E) = some P.m := by
  have hp : e.platform.magicAccessors = ({} : Platform).magicAccessors := by rw [ha.platform]
  have w : ∀ {x : Cond}, x ∈ Bundle.ownAtomsX own ic E ix rx up → x.holds args s none s [] = true := fun hx => h _ hx
  have part : ∀ {L : List Cond}, (∀ x ∈ L, x ∈ Bundle.ownAtomsX own ic E ix rx up) → ∀ x ∈ L, x.before args s = true := fun hL x hx => h x (hL x hx)
  obtain ⟨T, Z0, hT, -, ties⟩ := ThrowableC.of_atoms (pl := e.platform) (by rw [ha.platform]) (by rw [ha.platform]) hp (part (fun x hx => by simp only [Bundle.ownAtomsX, List.mem_append]; exact .inl (.inl (.inl hx))))
  obtain ⟨Z, M, hZ, hM, htop⟩ := Init0T.ofS_atoms hp hT ties (part (fun x hx => by simp only [Bundle.ownAtomsX, List.mem_append]; exact .inl (.inl (.inr hx))))
  obtain ⟨P, Ps, hlen, hP, hPs, hname, hsup, hon⟩ := Bundle.chainSX hp htop x0 x1 x2 x5 up E hE hup (part (fun x hx => by simp only [Bundle.ownAtomsX, List.mem_append]; exact .inl (.inr hx)))
  obtain ⟨k', K', hk', hK', hord, -⟩ := Cond.instantiable_spec (w (x := .instantiable E 6) (by simp [Bundle.ownAtomsX]))
  obtain rfl : k' = k := Option.some.inj (hk'.symm.trans hk)
  obtain rfl : K' = K := Option.some.inj (hK'.symm.trans hK)
  obtain ⟨z, hz, hst⟩ := ties.statics
  obtain ⟨u, hu⟩ := Cond.staticRefV ties.unassigned hT.unassignedStatic hT.statics hz hst (w (by simp [Bundle.ownAtomsX]))
  obtain ⟨v, hv⟩ := Cond.staticRefV ties.sentinel hT.sentinelStatic hT.statics hz hst (w (by simp [Bundle.ownAtomsX]))
  obtain ⟨im, hmf⟩ := ties.msg
  obtain ⟨cb, ib, fb, lb, rb, kb, sb, -, nb, tb, hbf⟩ := Cond.ownField (C' := Bundle.tN) (index := 198) (name := "backtrace") (desc := "Ljava/lang/Object;") (t := .object "java/lang/Object") ties.found hT.cls (by decide +kernel) (w (by simp [Bundle.ownAtomsX])) (w (by simp [Bundle.ownAtomsX])) e.platform hp
  obtain ⟨t1, d1, e1, n1⟩ := Cond.laysAt hk hK ties.cause (w (by simp [Bundle.ownAtomsX]))
  obtain ⟨t2, d2, e2, n2⟩ := Cond.laysAt hk hK ties.stack (w (by simp [Bundle.ownAtomsX]))
  obtain ⟨t3, d3, e3, n3⟩ := Cond.laysAt hk hK ties.supp (w (by simp [Bundle.ownAtomsX]))
  obtain ⟨t4, -⟩ := Cond.laysAt hk hK hmf (w (by simp [Bundle.ownAtomsX]))
  obtain ⟨t5, d5, e5, n5⟩ := Cond.laysAt hk hK hbf (w (by simp [Bundle.ownAtomsX]))
  refine ⟨T, Z, M, P, Ps, u, v, ⟨⟨hT, hZ, hM, ties.objLocals⟩, ⟨List.forall_mem_cons.mpr ⟨hP, hPs⟩, hsup, hon⟩, ⟨px_sel ha (by decide) hk ties.fill0 (w (by simp [Bundle.ownAtomsX])), px_sel ha (by decide) hk ties.fill (w (by simp [Bundle.ownAtomsX]))⟩,
    ⟨z, hz, hst, hu, hv⟩, ⟨.of_laid hK hord t1 (ties.causeType ▸ rfl), .of_laid hK hord t2 (ties.stackType ▸ fits_refV_array _ u), .of_laid hK hord t3 (ties.suppType ▸ fits_refV_object _ v), .of_laid hK hord t4 (ties.msgType ▸ fits_refV_object _ ⟨msg, hm⟩)⟩, fun t => ?_⟩, hlen, hname⟩
  refine ⟨⟨cb, ib, fb⟩, ⟨lb, rb, kb, sb⟩, ?_, fun _ _ => rfl⟩
  have hne : ∀ {g : Field} {d : Class × Field}, Jmm.declares? s.vm g.slot (k' + 1) k' = some d → d.2.name = g.name → g.name ≠ "backtrace" → fb.slot ≠ g.slot := fun hd hn hg => Cond.laysApart e5 hd n5 hn (fun h9 => hg (h9.symm.trans nb))
  have h9 := px_null (T := T.toThrowableT) (k := k') (a := a) (u := u) (v := v) (t := t) (hne e1 n1 (by rw [ties.causeName]; decide)) (hne e2 n2 (by rw [ties.stackName]; decide)) (hne e3 n3 (by rw [ties.suppName]; decide)) t5
  rw [tb] at h9
  exact h9
set_option maxHeartbeats 1000000 in
/-- the run of the constructor: the exception's cell is filled, nothing else is touched -/
theorem px_init {T0 : State} (X : Stand p l e R s m args below meth c T0 [] cells slots) (hexec : p.tables.exec = Jvm.exec) (htr : e.platform.stackTraces = false) {own E : String} {up : List String} {ic ix : Nat} {rx : ByteArray}
    (x0 : decode rx 0 = .ok (.aload_n 0, 1)) (x1 : decode rx 1 = .ok (.aload_n 1, 1)) (x2 : decode rx 2 = .ok (.invokespecial ix, 3)) (x5 : decode rx 5 = .ok (.return_, 1))
    (hown : s.vm.findClass own = some m.cls) (hE : Bundle.fit E = true) (hup : ∀ n ∈ up, Bundle.fit n = true) (h : ∀ w ∈ Bundle.ownAtomsX own ic E ix rx up, w.before args s = true)
    {a : Addr} {k : ClassId} {K : Class} (hk : s.vm.findClass E = some k) (hK : s.vm.classes[k]? = some K) (ha : T0.heap[a]? = some (freshCell k K)) (hnew : s.heap.size ≤ a) {msg : Value} (hm : msg.isRef = true)
    {g : JFrame} (hg : g.method = m) (hsz : g.locals.size = c.maxLocals) {rest : List Value} (hst : g.stack = msg :: .ref a :: rest) (hd : decode c.code g.pc = .ok (.invokespecial ic, 3))
    (hR1 : up.length + 3 < R.frames) (hR2 : 2 * g.monitorRoom + (rest.map fun v => v.category).sum + (13 * (up.length + 1) + 42) ≤ R.locals) :
    ∃ (T1 : State) (z : Cell), T1.heap[a]? = some z ∧ z.cls = k ∧ z.vm = .none ∧ Stand p l e R s m args below meth c T1 [] cells slots ∧
      ∀ t, Steps p.tables e below (T1.setTop { g with stack := rest, pc := g.pc + 3 }) t → Steps p.tables e below (T0.setTop g) t := by
  have hp : e.platform.magicAccessors = ({} : Platform).magicAccessors := by rw [X.admits.platform]
  obtain ⟨T, Z, M, P, Ps, u, v, ⟨⟨hT, hZ, hM, hobj⟩, ⟨hPs, hon⟩, ⟨hs0, hsF⟩, ⟨z, hz, hzs, hzu, hzv⟩, ⟨k1, k2, k3, k4⟩, hskip⟩, hlen, hname⟩ := px_made X.admits x0 x1 x2 x5 hE hup h hk hK a hm
  have hlt : T.aS < s.heap.size := (Array.getElem?_eq_some_iff.mp hz).1
  have hz0 : T0.heap[T.aS]? = some z := ((vx_frame (U := T0) X.same).2 T.aS hlt (fun _ hx => nomatch hx)).trans hz
  have hzn : z.vm ≠ .unknown := fun h9 => by rw [h9] at hzs; exact absurd hzs (by decide)
  have hfirst : ∀ x ∈ [Cond.instanceMethod (Bundle.initS E), Cond.code (Bundle.initS E) rx 2 none], x.before args s = true := fun x hx => h x (by
    simp only [Bundle.ownAtomsX, List.mem_append]
    refine .inl (.inr ?_)
    cases up <;> simp only [Bundle.chainSAtomsX, Bundle.passSAtoms, List.mem_append, List.mem_cons, List.not_mem_nil, or_false] at hx ⊢ <;> rcases hx with rfl | rfl <;> simp)
  obtain ⟨q, -, -, -, vm1, hq, -, -, -, -, -, -, -, hW, call⟩ := Steps.initColdS (e := e) X.here hexec X.warmed hp hown rfl rfl (Bundle.fit_spec hE).2 (h (.methodLink own ic (Bundle.initS E)) (by simp [Bundle.ownAtomsX])) (hfirst _ (by simp)) (bytes := rx) (maxL := 2) (hfirst _ (by simp)) hg hst hd
  obtain rfl : q = P.m := Option.some.inj (hq.symm.trans hname)
  obtain ⟨vm2, X2, run⟩ := (X.noted hW).ctorMessageOffV hexec (g := { g with stack := rest }) hg hsz T hT Z hZ M hM (P :: Ps) hPs hon hm ha (fun _ => nofun) nofun rfl rfl hs0 hsF hz0 (Nat.ne_of_lt (Nat.lt_of_lt_of_le hlt hnew)) hzn hzu hzv k1 k2 k3 k4 hobj (hskip _) htr [] hd
    (by rw [List.length_cons, hlen]; omega) (by rw [List.length_cons, hlen]; exact hR2)
  refine ⟨_, _, heapAt_setCell_self (s := (T0.setVm vm1).setVm vm2) (plainBareV T.toThrowableT (freshCell k K) a u v msg) (Array.getElem?_eq_some_iff.mp ha).1, rfl, rfl, X2.dropFresh (fun y hy => ?_), fun t ht => call t (fun acts => (doInvoke_state ..) ▸ run t ht)⟩
  have hy' : y.base = a := by
    simp only [List.mem_cons, List.not_mem_nil, or_false] at hy
    obtain h9 | h9 | h9 | h9 | h9 := hy <;> rw [h9]
  exact hy' ▸ hnew
variable {locs : List Loc} {H : Heap} {ls : Array Slot} {rest : List Value} {free : Addr → Prop} {Qc : Array Value → State → Outcome → State → Prop} {XC : String → State → State → Prop}
set_option maxHeartbeats 2000000 in
theorem px_throw {cc : ByteArray} {pc : Nat} (hexec : p.tables.exec = Jvm.exec) (hb : c.code = cc) (hl : l.stackTraces = false) {own cls text : String} {names : List String} {ik is ic ix mc ms sa : Nat} {rx : ByteArray} {A : Nat → Prop}
    (x0 : decode rx 0 = .ok (.aload_n 0, 1)) (x1 : decode rx 1 = .ok (.aload_n 1, 1)) (x2 : decode rx 2 = .ok (.invokespecial ix, 3)) (x5 : decode rx 5 = .ok (.return_, 1))
    (hown : s.vm.findClass own = some m.cls) (hcls : Bundle.fit cls = true) (hnames : ∀ n ∈ names, Bundle.fit n = true)
    (hk : (Cond.classLink own ik cls).before args s = true) (hini : (Cond.initialized cls).before args s = true) (hstr : vk_R own is text sa s) (hat : ∀ w ∈ (Bundle.ownAtomsX own ic cls ix rx names).filter vx_no, w.before args s = true)
    (hgood : ∀ w ∈ Cond.classLink own ik cls :: Cond.initialized cls :: (Bundle.ownAtomsX own ic cls ix rx names).filter vx_no, vx_ot w = true)
    (hU : vx_Zq Bundle.tN "UNASSIGNED_STACK" Bundle.steD A s s.heap) (hN : vx_Zq Bundle.tN "SUPPRESSED_SENTINEL" Bundle.listD A s s.heap) (hS : va_S A s.heap H locs) (hsize : ls.size = c.maxLocals)
    (d0 : decode cc pc = .ok (.new ik, 3)) (d3 : decode cc (pc + 3) = .ok (.dup, 1)) (d4 : decode cc (pc + 4) = .ok (.ldc is, 2)) (d6 : decode cc (pc + 6) = .ok (.invokespecial ic, 3)) (d9 : decode cc (pc + 9) = .ok (.athrow, 1))
    (hout : ∀ x ∈ c.exceptionTable.toList, covers x (pc + 9) = false)
    (hRframes : names.length + 3 < R.frames) (hRlocals : (rest.map fun v => v.category).sum + (13 * (names.length + 1) + 43) ≤ R.locals) (hRcells : cells + 1 ≤ R.cells) (hRslots : slots + 6 ≤ R.slots) (hlocks : meth.locks = false)
    (hx : ∀ t : State, s.vm.Alike t.vm → H.size ≤ t.heap.size → (∀ q : Nat, q < H.size → t.heap[q]? = H[q]?) → XC cls s t)
    (hf : ∀ z ∈ locs, free z.base) (hc : cells + 1 ≤ mc) (hs : slots + 6 ≤ ms) :
    W p l e R s m args below meth c H locs cells slots (vx_MQ below Qc XC args s mc ms free) (F0 m pc ls rest) := by
  intro T hT X
  have htr : e.platform.stackTraces = false := (show e.platform.stackTraces = l.stackTraces by rw [X.admits.platform]).trans hl
  have Y := vx_rebase X (R' := { frames := R.frames, locals := R.locals, cells := 1, slots := 6 }) (Nat.le_refl _) (Nat.le_refl _) hRcells hRslots
  obtain ⟨s', hA⟩ : ∃ z, z = (T.setVm s.vm).setFrames (.invoking m args :: below) := ⟨_, rfl⟩
  rw [← hA] at Y
  have hvm : s'.vm = s.vm := by rw [hA]; rfl
  have hhp : s'.heap = H := by rw [hA]; exact hT
  have hW0 : s.WarmedH s'.vm := by rw [hvm]; exact State.WarmedH.refl s
  have hat' : ∀ w ∈ (Bundle.ownAtomsX own ic cls ix rx names).filter vx_no, w.before args s' = true := fun w hw => vx_ot_at hW0 hvm.symm (hgood w (List.mem_cons_of_mem _ (List.mem_cons_of_mem _ hw))) (hat w hw)
  have hk' : (Cond.classLink own ik cls).before args s' = true := vx_ot_at hW0 hvm.symm (hgood _ List.mem_cons_self) hk
  have hini' : (Cond.initialized cls).before args s' = true := vx_ot_at hW0 hvm.symm (hgood _ (List.mem_cons_of_mem _ List.mem_cons_self)) hini
  have hU' : vx_Zq Bundle.tN "UNASSIGNED_STACK" Bundle.steD A s' s'.heap := by rw [hhp]; exact vx_Zq.moved hW0.alike (hU.kept hS.2.1)
  have hN' : vx_Zq Bundle.tN "SUPPRESSED_SENTINEL" Bundle.listD A s' s'.heap := by rw [hhp]; exact vx_Zq.moved hW0.alike (hN.kept hS.2.1)
  have h : ∀ w ∈ Bundle.ownAtomsX own ic cls ix rx names, w.before args s' = true := vx_own hat' (vx_isRefq hU'.1) (vx_isRefq hN'.1) hU'.2.word hN'.2.word
  have hown' : s'.vm.findClass own = some m.cls := by rw [hvm]; exact hown
  have hins : (Cond.instantiable cls 6).before args s' = true := h _ (by simp [Bundle.ownAtomsX])
  obtain ⟨vm₁, cX, kX, hfX, hkX, -, -, X₁, st1⟩ := Y.newCold hexec (own := own) (C := cls) (index := ik) (n := 6) hown' hk' hins hini'
    (g := F0 m pc ls rest) rfl (by rw [hb]; exact d0) (Nat.le_refl _) (Nat.le_refl _)
  generalize hT1 : (T.setVm vm₁).pushCell { cls := cX, slots := kX.instanceTypes.map defaultValue, vm := .none } = T1 at X₁ st1
  have hcat : (Value.ref T.heap.size).category = 1 := rfl
  have hcellA : T1.heap[T.heap.size]? = some (freshCell cX kX) := by rw [← hT1]; exact State.heap_pushCell_size _ _
  have d3' : decode c.code (pc + 3) = .ok (.dup, 1) := by rw [hb]; exact d3
  have d4' : decode c.code (pc + 4) = .ok (.ldc is, 2) := by rw [hb]; exact d4
  have hstr' : vk_R own is text sa s' := vk_R.warm hW0 hstr
  obtain ⟨T2, ce, hce, hOc, hOv, X₂, go⟩ := px_init X₁ hexec htr x0 x1 x2 x5 hown' hcls hnames h hfX hkX hcellA (by rw [hhp, hT]; exact Nat.le_refl _) (msg := .ref sa) rfl
    (g := { method := m, pc := pc + 6, locals := ls, stack := .ref sa :: .ref T.heap.size :: .ref T.heap.size :: rest, locked := none }) rfl hsize (rest := .ref T.heap.size :: rest) rfl (by rw [hb]; exact d6) hRframes (by simp only [List.map_cons, List.sum_cons, hcat]; omega)
  obtain ⟨hleave, hrun, hend, hW, hsame⟩ := X₂.athrowLeaves hexec (g := { method := m, pc := pc + 9, locals := ls, stack := .ref T.heap.size :: rest, locked := none }) rfl rfl rfl hout (rest := rest) rfl (by rw [hb]; exact d9) hlocks
  have hsteps := go _ hleave
  generalize hU9 : T2.setFrames (.throwing T.heap.size :: below) = U at hsteps hrun hend hW hsame
  have hce : U.heap[T.heap.size]? = some ce := by rw [← hU9]; exact hce
  obtain ⟨f1, f2⟩ := vx_frame hsame
  rw [hhp] at f1 f2
  have hWs : s.WarmedH U.vm := State.WarmedH.trans hW0 hW
  have hcl : s.vm.findClass cls = some ce.cls := by
    rw [hOc, ← hvm]
    exact hfX
  have hall : s.sameButNew ({ U with vm := s.vm } : State) locs mc ms := by
    subst hA
    obtain ⟨e1, e2⟩ := hsame
    rw [State.setFrames_setFrames] at e1
    have h2 : (T.setVm s.vm).sameButNew ({ U with vm := s.vm } : State) [] (0 + 1) (0 + 6) := ⟨e1, e2⟩
    have h3 := X.same.trans h2
    rw [List.append_nil] at h3
    exact h3.mono hc hs
  refine ⟨U, ?_, .threw T.heap.size, hrun, hend, Or.inr ⟨T.heap.size, rfl, cls, ce, locs, hx U hWs.alike f1 (fun q hq => f2 q hq (fun z hz => nomatch hz)), hce, hOv, hcl, hWs, hall, hf⟩⟩
  refine st1 _ ?_
  show Steps p.tables e below (T1.setTop { method := m, pc := pc + 3, locals := ls, stack := .ref T.heap.size :: rest, locked := none }) _
  jvm_step X₁.here [X₁.here.top, hexec, d3', Value.category]
  exact X₁.ldcString hexec (own := own) (text := text) (index := is) (a := sa) hown' hstr'.1 hstr'.2
    (g := { method := m, pc := pc + 4, locals := ls, stack := .ref T.heap.size :: .ref T.heap.size :: rest, locked := none }) rfl d4' _ hsteps
end PX
