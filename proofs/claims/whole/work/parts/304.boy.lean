section PX
/-! A throw of an exception of the JDK whose own constructor's link has any index ix (the library has it for launches with stack traces: Shelf42/F29a; and for index 7 without: BundleOwnThrow): px_ctor and px_throw follow those two proofs. -/
variable {p : Program} {l : Launch} {e : Env} {R : Room} {s : State} {m : MethodId} {args : Array Value} {below : List Frame} {meth : Method} {c : Code} {locs : List Loc} {cells slots : Nat}
set_option maxHeartbeats 2000000 in
theorem px_ctor {T0 : State} (X : Stand p l e R s m args below meth c T0 locs cells slots) (hexec : p.tables.exec = Jvm.exec) (htr : e.platform.stackTraces = false) {own cls : String} {names : List String} {ic ix : Nat} {rx : ByteArray}
    (x0 : decode rx 0 = .ok (.aload_n 0, 1)) (x1 : decode rx 1 = .ok (.aload_n 1, 1)) (x2 : decode rx 2 = .ok (.invokespecial ix, 3)) (x5 : decode rx 5 = .ok (.return_, 1))
    (hown : s.vm.findClass own = some m.cls) (hcls : Bundle.fit cls = true) (hnames : ∀ n ∈ names, Bundle.fit n = true)
    (h : ∀ a ∈ Bundle.ownAtomsX own ic cls ix rx names, a.before args s = true)
    (hlocs : ∀ x ∈ locs, ∀ cell, s.heap[x.base]? = some cell → cell.vm.isStatics = false)
    {a : Addr} {cX : ClassId} {kX : Class} (hfoundX : s.vm.findClass cls = some cX) (hkX : s.vm.classes[cX]? = some kX) (hcell : T0.heap[a]? = some (freshCell cX kX)) (hnew : s.heap.size ≤ a)
    {msg : Value} (hmsg : msg.isRef = true)
    {g : JFrame} (hg : g.method = m) (hsize : g.locals.size = c.maxLocals) (hlocked : g.locked = none) (hentered : g.entered = []) {rest : List Value} (hstack : g.stack = msg :: .ref a :: .ref a :: rest)
    (hd6 : decode c.code g.pc = .ok (.invokespecial ic, 3)) (hd9 : decode c.code (g.pc + 3) = .ok (.athrow, 1)) (hout : ∀ x ∈ c.exceptionTable.toList, covers x (g.pc + 3) = false)
    (hRframes : names.length + 3 < R.frames) (hRlocals : 2 * g.monitorRoom + ((Value.ref a :: rest).map fun v => v.category).sum + (13 * (names.length + 1) + 42) ≤ R.locals) (hlocks : meth.locks = false) :
    ∃ U : State, Steps p.tables e below (T0.setTop g) U ∧ U.status = .running ∧ Ended U below (.threw a) ∧ s.WarmedH U.vm ∧ s.sameButNew ({ U with vm := s.vm } : State) locs cells slots ∧
      ∃ ce, U.heap[a]? = some ce ∧ ce.vm = .none ∧ s.vm.findClass cls = some ce.cls := by
  have howns : e.platform.frameOwnsMonitors = true := by rw [X.admits.platform]
  have hfin : e.platform.finalization = false := by rw [X.admits.platform]
  have hpl : e.platform.magicAccessors = ({} : Platform).magicAccessors := by rw [X.admits.platform]
  have a' : ∀ x, x ∈ Bundle.ownAtomsX own ic cls ix rx names → x.holds args s none s [] = true := fun x hx => h x hx
  obtain ⟨T, Z0, L, -, Y⟩ := ThrowableC.of_atoms (args := args) howns hfin hpl (fun x hx => h x (by simp [Bundle.ownAtomsX, hx]))
  obtain ⟨Z, M, LZ, LM, hnZ⟩ := Init0T.ofS_atoms (args := args) hpl L Y (fun x hx => h x (by simp [Bundle.ownAtomsX, hx]))
  obtain ⟨P1, Ps, hlen, L1, hL, hP1m, hlink1, hlink⟩ := Bundle.chainSX (args := args) hpl hnZ x0 x1 x2 x5 names cls hcls hnames (fun x hx => h x (by simp [Bundle.ownAtomsX, hx]))
  have hfound : s.vm.findClass cls = some P1.m.cls := findClass_of_methodNamed hP1m
  cases Option.some.inj (hfoundX.symm.trans hfound)
  obtain ⟨c1, kX', hc1, hk, hord, -, -, hn6⟩ := Cond.instantiable_spec (a' (.instantiable cls 6) (by simp [Bundle.ownAtomsX]))
  cases Option.some.inj (hc1.symm.trans hfound)
  cases Option.some.inj (hkX.symm.trans hk)
  have hsel0 : selectMethod e.platform s.vm P1.m.cls T.fill0 = .method T.fill0 := by
    obtain ⟨c2, r2, m2, q1, q2, q3, q4, -⟩ := Cond.selects_spec (a' (.selects cls Bundle.tFill0 Bundle.tFill0) (by simp [Bundle.ownAtomsX]))
    cases Option.some.inj (q1.symm.trans hfound)
    cases Option.some.inj (q2.symm.trans (State.methodFound?_of_named Y.fill0 (by decide)))
    cases Option.some.inj (q3.symm.trans Y.fill0)
    rw [Launch.admits_selectMethod X.admits]; exact q4
  have hselF : selectMethod e.platform s.vm P1.m.cls T.fill = .method T.fill := by
    obtain ⟨c2, r2, m2, q1, q2, q3, q4, -⟩ := Cond.selects_spec (a' (.selects cls Bundle.tFill Bundle.tFill) (by simp [Bundle.ownAtomsX]))
    cases Option.some.inj (q1.symm.trans hfound)
    cases Option.some.inj (q2.symm.trans (State.methodFound?_of_named Y.fill (by decide)))
    cases Option.some.inj (q3.symm.trans Y.fill)
    rw [Launch.admits_selectMethod X.admits]; exact q4
  obtain ⟨cellS0, hcS0, hiss⟩ := Y.statics
  obtain ⟨u0, hu0⟩ := Cond.staticRefV Y.unassigned L.unassignedStatic L.statics hcS0 hiss (a' (.isRef (.static Bundle.tN "UNASSIGNED_STACK" Bundle.steD)) (by simp [Bundle.ownAtomsX]))
  obtain ⟨sen, hsen⟩ := Cond.staticRefV Y.sentinel L.sentinelStatic L.statics hcS0 hiss (a' (.isRef (.static Bundle.tN "SUPPRESSED_SENTINEL" Bundle.listD)) (by simp [Bundle.ownAtomsX]))
  obtain ⟨ci198, i198, fB, hk198, hg198, ha198, hsB, -, hnB, htB, hffB⟩ := Cond.ownField (t := .object "java/lang/Object") Y.found L.cls (by decide +kernel) (a' (.fieldLink Bundle.tN 198 Bundle.tN "backtrace" "Ljava/lang/Object;") (by simp [Bundle.ownAtomsX])) (a' (.lays Bundle.tN Bundle.tN "backtrace" "Ljava/lang/Object;") (by simp [Bundle.ownAtomsX])) e.platform hpl
  obtain ⟨cellS, hcS', heS, -, hkeep⟩ := X.same.2.2.2.2.2 T.aS cellS0 hcS0
  have hcellS : T0.heap[T.aS]? = some cellS := hcS'
  have hout' : ∀ i, (⟨T.aS, i⟩ : Loc) ∉ locs := fun i hmem => by
    have := hlocs _ hmem cellS0 hcS0
    rw [hiss] at this; cases this
  have hknownS : cellS.vm ≠ .unknown := by
    rw [heS]; intro hu
    rw [show cellS0.vm = .unknown from hu] at hiss
    cases hiss
  have hneS : T.aS ≠ a := Nat.ne_of_lt (Nat.lt_of_lt_of_le (Array.getElem?_eq_some_iff.mp hcS0).1 hnew)
  obtain ⟨iM, hffM⟩ := Y.msg
  obtain ⟨tyC, dC, hdC, hdnC⟩ := Cond.laysAt hfound hk Y.cause (a' (.lays cls Bundle.tN "cause" "Ljava/lang/Throwable;") (by simp [Bundle.ownAtomsX]))
  obtain ⟨tyS, dS, hdS, hdnS⟩ := Cond.laysAt hfound hk Y.stack (a' (.lays cls Bundle.tN "stackTrace" Bundle.steD) (by simp [Bundle.ownAtomsX]))
  obtain ⟨tyP, dP, hdP, hdnP⟩ := Cond.laysAt hfound hk Y.supp (a' (.lays cls Bundle.tN "suppressedExceptions" Bundle.listD) (by simp [Bundle.ownAtomsX]))
  obtain ⟨tyM, dM, hdM, hdnM⟩ := Cond.laysAt hfound hk hffM (a' (.lays cls Bundle.tN "detailMessage" "Ljava/lang/String;") (by simp [Bundle.ownAtomsX]))
  obtain ⟨tyB, dB, hdB, hdnB⟩ := Cond.laysAt hfound hk hffB (a' (.lays cls Bundle.tN "backtrace" "Ljava/lang/Object;") (by simp [Bundle.ownAtomsX]))
  have bC := Cond.laysApart hdB hdC hdnB hdnC (by rw [hnB, Y.causeName]; decide)
  have bS := Cond.laysApart hdB hdS hdnB hdnS (by rw [hnB, Y.stackName]; decide)
  have bP := Cond.laysApart hdB hdP hdnB hdnP (by rw [hnB, Y.suppName]; decide)
  have hskip : SkipFacts T e.platform s (fun u => u) u0 ((preparedCellV T.toThrowableT (freshCell P1.m.cls kX) a u0 sen).withEntry T0.cur) :=
    ⟨{ ci198 := ci198, i198 := i198, fBack := fB }, ⟨hk198, hg198, ha198, hsB⟩, by
      have := fresh_default (c := P1.m.cls) tyB
      rw [htB] at this
      simpa [preparedCellV, Cell.setSlot, Cell.withEntry, Array.getElem?_setIfInBounds, bC, bS, bP, bC.symm, bS.symm, bP.symm, defaultValue] using this, fun _ _ => rfl⟩
  have hmem1 : Cond.instanceMethod (Bundle.initS cls) ∈ Bundle.ownAtomsX own ic cls ix rx names := by cases names <;> simp [Bundle.ownAtomsX, Bundle.chainSAtomsX, Bundle.passSAtoms]
  have hmem2 : Cond.code (Bundle.initS cls) rx 2 none ∈ Bundle.ownAtomsX own ic cls ix rx names := by cases names <;> simp [Bundle.ownAtomsX, Bundle.chainSAtomsX, Bundle.passSAtoms]
  obtain ⟨tm, methC, cdC, kC, vm₁, hnC, -, -, -, -, -, -, -, hW₁, st1⟩ := Steps.initColdS (tb := p.tables) (e := e) (below := below) (s := s) (U := T0) X.here hexec X.warmed hpl hown (t := Bundle.initS cls) rfl rfl (Bundle.fit_spec hcls).2
    (a' (.methodLink own ic (Bundle.initS cls)) (by simp [Bundle.ownAtomsX])) (h _ hmem1) (bytes := rx) (maxL := 2) (h _ hmem2)
    (f := g) hg (a := a) (msg := msg) (rest := .ref a :: rest) hstack hd6
  cases Option.some.inj (hnC.symm.trans hP1m)
  have X₁ := X.noted hW₁
  obtain ⟨vm₂, X₂, st2⟩ := X₁.ctorMessageOffV hexec (g := { g with stack := .ref a :: rest }) hg hsize T L Z LZ M LM (P1 :: Ps)
    (fun P hP => by rcases List.mem_cons.mp hP with rfl | hP; exact L1; exact hL P hP) ⟨hlink1, hlink⟩ (u0 := u0) (sen := sen) (self := a) hmsg (cell := freshCell P1.m.cls kX) (cellS := cellS)
    hcell (fun _ => by simp) (by simp) rfl rfl hsel0 hselF hcellS hneS hknownS (by rw [hkeep _ (hout' _)]; exact hu0) (by rw [hkeep _ (hout' _)]; exact hsen)
    (Takes.of_laid hk hord tyC (by rw [Y.causeType]; rfl)) (Takes.of_laid hk hord tyS (by rw [Y.stackType]; exact fits_refV_array _ u0)) (Takes.of_laid hk hord tyP (by rw [Y.suppType]; exact fits_refV_object _ sen))
    (Takes.of_laid hk hord tyM (by rw [Y.msgType]; exact fits_refV_object _ ⟨msg, hmsg⟩)) Y.objLocals hskip htr [] hd6
    (by simp only [List.length_cons, hlen]; omega) (by simp only [List.length_cons, hlen]; exact hRlocals)
  obtain ⟨hwalk, hrun, hended, hWU, hsame⟩ := X₂.athrowLeaves hexec (g := { g with stack := .ref a :: rest, pc := g.pc + 3 }) hg hlocked hentered hout (a := a) (rest := rest) rfl hd9
  have hlt : a < ((T0.setVm vm₁).setVm vm₂).heap.size := (Array.getElem?_eq_some_iff.mp hcell).1
  have hU := heapAt_setCell_self (s := (T0.setVm vm₁).setVm vm₂) (plainBareV T.toThrowableT (freshCell P1.m.cls kX) a u0 sen msg) hlt
  refine ⟨_, st1 _ (fun acts => ?_), hrun, hended, hWU, hsame.weaken (fun y hy hlt' => ?_) (Nat.le_refl _) (Nat.le_refl _), _, hU, rfl, hfound⟩
  · rw [doInvoke_state]
    exact st2 _ hwalk
  · rcases List.mem_append.mp hy with h1 | h1
    · exact h1
    · exfalso
      have hb : y.base = a := by
        simp only [List.mem_cons, List.not_mem_nil, or_false] at h1
        rcases h1 with rfl | rfl | rfl | rfl | rfl <;> rfl
      rw [hb] at hlt'
      exact Nat.not_lt.mpr hnew hlt'
variable {H : Heap} {ls : Array Slot} {rest : List Value} {free : Addr → Prop} {Qc : Array Value → State → Outcome → State → Prop} {XC : String → State → State → Prop}
set_option maxHeartbeats 2000000 in
theorem px_throw {cc : ByteArray} {pc : Nat} (hexec : p.tables.exec = Jvm.exec) (hb : c.code = cc) (hl : l.stackTraces = false) {own cls text : String} {names : List String} {ik is ic ix mc ms sa : Nat} {rx : ByteArray} {A : Nat → Prop}
    (x0 : decode rx 0 = .ok (.aload_n 0, 1)) (x1 : decode rx 1 = .ok (.aload_n 1, 1)) (x2 : decode rx 2 = .ok (.invokespecial ix, 3)) (x5 : decode rx 5 = .ok (.return_, 1))
    (hown : s.vm.findClass own = some m.cls) (hcls : Bundle.fit cls = true) (hnames : ∀ n ∈ names, Bundle.fit n = true)
    (hk : (Cond.classLink own ik cls).before args s = true) (hini : (Cond.initialized cls).before args s = true) (hstr : vk_R own is text sa s) (hat : ∀ w ∈ (Bundle.ownAtomsX own ic cls ix rx names).filter vx_no, w.before args s = true)
    (hgood : ∀ w ∈ Cond.classLink own ik cls :: Cond.initialized cls :: (Bundle.ownAtomsX own ic cls ix rx names).filter vx_no, vx_ot w = true)
    (hU : vx_Zq Bundle.tN "UNASSIGNED_STACK" Bundle.steD A s s.heap) (hN : vx_Zq Bundle.tN "SUPPRESSED_SENTINEL" Bundle.listD A s s.heap) (hS : va_S A s.heap H locs) (hsize : ls.size = c.maxLocals)
    (d0 : decode cc pc = .ok (.new ik, 3)) (d3 : decode cc (pc + 3) = .ok (.dup, 1)) (d4 : decode cc (pc + 4) = .ok (.ldc is, 2)) (d6 : decode cc (pc + 6) = .ok (.invokespecial ic, 3)) (d9 : decode cc (pc + 9) = .ok (.athrow, 1))
    (hout : ∀ x ∈ c.exceptionTable.toList, covers x (pc + 9) = false)
    (hRframes : names.length + 3 < R.frames) (hRlocals : (rest.map fun v => v.category).sum + (13 * (names.length + 1) + 43) ≤ R.locals) (hRcells : cells + 1 ≤ R.cells) (hRslots : slots + 6 ≤ R.slots) (hlocks : meth.locks = false)
    (hx : ∀ t : State, s.vm.Alike t.vm → H.size ≤ t.heap.size → (∀ q : Nat, q < H.size → t.heap[q]? = H[q]?) → XC cls s t)
    (hf : ∀ z ∈ locs, free z.base) (hc : cells + 1 ≤ mc) (hs : slots + 6 ≤ ms) :
    W p l e R s m args below meth c H locs cells slots (vx_MQ below Qc XC args s mc ms free) (F0 m pc ls rest) := by
  intro T hT X
  have htr : e.platform.stackTraces = false := (show e.platform.stackTraces = l.stackTraces by rw [X.admits.platform]).trans hl
  have Y := vx_rebase X (R' := { frames := R.frames, locals := R.locals, cells := 1, slots := 6 }) (Nat.le_refl _) (Nat.le_refl _) hRcells hRslots
  obtain ⟨s', hA⟩ : ∃ z, z = (T.setVm s.vm).setFrames (.invoking m args :: below) := ⟨_, rfl⟩
  rw [← hA] at Y
  have hvm : s'.vm = s.vm := by rw [hA]; rfl
  have hhp : s'.heap = H := by rw [hA]; exact hT
  have hW0 : s.WarmedH s'.vm := by rw [hvm]; exact State.WarmedH.refl s
  have hat' : ∀ w ∈ (Bundle.ownAtomsX own ic cls ix rx names).filter vx_no, w.before args s' = true := fun w hw => vx_ot_at hW0 hvm.symm (hgood w (List.mem_cons_of_mem _ (List.mem_cons_of_mem _ hw))) (hat w hw)
  have hk' : (Cond.classLink own ik cls).before args s' = true := vx_ot_at hW0 hvm.symm (hgood _ List.mem_cons_self) hk
  have hini' : (Cond.initialized cls).before args s' = true := vx_ot_at hW0 hvm.symm (hgood _ (List.mem_cons_of_mem _ List.mem_cons_self)) hini
  have hU' : vx_Zq Bundle.tN "UNASSIGNED_STACK" Bundle.steD A s' s'.heap := by rw [hhp]; exact vx_Zq.moved hW0.alike (hU.kept hS.2.1)
  have hN' : vx_Zq Bundle.tN "SUPPRESSED_SENTINEL" Bundle.listD A s' s'.heap := by rw [hhp]; exact vx_Zq.moved hW0.alike (hN.kept hS.2.1)
  have h : ∀ w ∈ Bundle.ownAtomsX own ic cls ix rx names, w.before args s' = true := vx_own hat' (vx_isRefq hU'.1) (vx_isRefq hN'.1) hU'.2.word hN'.2.word
  have hown' : s'.vm.findClass own = some m.cls := by rw [hvm]; exact hown
  have hins : (Cond.instantiable cls 6).before args s' = true := h _ (by simp [Bundle.ownAtomsX])
  obtain ⟨vm₁, cX, kX, hfX, hkX, -, -, X₁, st1⟩ := Y.newCold hexec (own := own) (C := cls) (index := ik) (n := 6) hown' hk' hins hini'
    (g := F0 m pc ls rest) rfl (by rw [hb]; exact d0) (Nat.le_refl _) (Nat.le_refl _)
  generalize hT1 : (T.setVm vm₁).pushCell { cls := cX, slots := kX.instanceTypes.map defaultValue, vm := .none } = T1 at X₁ st1
  have hcat : (Value.ref T.heap.size).category = 1 := rfl
  have hcellA : T1.heap[T.heap.size]? = some (freshCell cX kX) := by rw [← hT1]; exact State.heap_pushCell_size _ _
  have d3' : decode c.code (pc + 3) = .ok (.dup, 1) := by rw [hb]; exact d3
  have d4' : decode c.code (pc + 4) = .ok (.ldc is, 2) := by rw [hb]; exact d4
  have hstr' : vk_R own is text sa s' := vk_R.warm hW0 hstr
  obtain ⟨U, hsteps, hrun, hend, hW, hsame, ce, hce, hOv, hOc⟩ := px_ctor X₁ hexec htr (own := own) (cls := cls) (names := names) (ic := ic) x0 x1 x2 x5 hown' hcls hnames h (fun x hx => nomatch hx) hfX hkX hcellA (by rw [hhp, hT]; exact Nat.le_refl _) (msg := .ref sa) rfl
    (g := { method := m, pc := pc + 6, locals := ls, stack := .ref sa :: .ref T.heap.size :: .ref T.heap.size :: rest, locked := none }) rfl hsize rfl rfl (rest := rest) rfl
    (by rw [hb]; exact d6) (by rw [hb]; exact d9) hout hRframes (by simp only [List.map_cons, List.sum_cons, hcat]; omega) hlocks
  obtain ⟨f1, f2⟩ := vx_frame hsame
  rw [hhp] at f1 f2
  have hWs : s.WarmedH U.vm := State.WarmedH.trans hW0 hW
  have hcl : s.vm.findClass cls = some ce.cls := by
    have h9 := hOc
    rw [hvm] at h9
    exact h9
  have hall : s.sameButNew ({ U with vm := s.vm } : State) locs mc ms := by
    subst hA
    obtain ⟨e1, e2⟩ := hsame
    rw [State.setFrames_setFrames] at e1
    have h2 : (T.setVm s.vm).sameButNew ({ U with vm := s.vm } : State) [] (0 + 1) (0 + 6) := ⟨e1, e2⟩
    have h3 := X.same.trans h2
    rw [List.append_nil] at h3
    exact h3.mono hc hs
  refine ⟨U, ?_, .threw T.heap.size, hrun, hend, Or.inr ⟨T.heap.size, rfl, cls, ce, locs, hx U hWs.alike f1 (fun q hq => f2 q hq (fun z hz => nomatch hz)), hce, hOv, hcl, hWs, hall, hf⟩⟩
  refine st1 _ ?_
  show Steps p.tables e below (T1.setTop { method := m, pc := pc + 3, locals := ls, stack := .ref T.heap.size :: rest, locked := none }) _
  jvm_step X₁.here [X₁.here.top, hexec, d3', Value.category]
  exact X₁.ldcString hexec (own := own) (text := text) (index := is) (a := sa) hown' hstr'.1 hstr'.2
    (g := { method := m, pc := pc + 4, locals := ls, stack := .ref T.heap.size :: .ref T.heap.size :: rest, locked := none }) rfl d4' _ hsteps
end PX

def nse : String := "java/util/NoSuchElementException"
def nsn : List String := ["java/lang/RuntimeException", "java/lang/Exception"]
def nsX : ByteArray := prog_23_method_4_code
def nsL : List Cond := (Bundle.ownAtomsX RX10 160 nse 13 nsX nsn).filter vx_no
def gNB : List Cond := [.castable nse nse, .declares (Bundle.initS "java/lang/RuntimeException"), .declares (Bundle.initS "java/lang/Exception"), .declares (Bundle.initS Bundle.tN)]
theorem gNB_eq : ∀ w ∈ nsL.filter (fun w => !goodWord w), w ∈ gNB := by decide +kernel
theorem gGW0 : ∀ w ∈ nsL.filter goodWord, w ∈ lw_tbl := by decide +kernel
theorem gGW : ∀ w ∈ nsL.filter goodWord, w ∈ gT := fun w hw => List.mem_filter.mpr ⟨gGW0 w hw, (List.mem_filter.mp hw).2⟩
theorem gOT : ∀ w ∈ Cond.classLink RX10 156 nse :: Cond.initialized nse :: nsL, vx_ot w = true := by decide +kernel
/-- what a throw needs beside the tables -/
def gEx (sa : Nat) (A : Nat → Prop) (U : State) (H : Heap) : Prop := vk_R RX10 158 "no such boy or what" sa U ∧ vx_Zq Bundle.tN "UNASSIGNED_STACK" Bundle.steD A U H ∧ vx_Zq Bundle.tN "SUPPRESSED_SENTINEL" Bundle.listD A U H ∧ va_Nw (.castable nse nse) U ∧ va_Nw (.declares (Bundle.initS "java/lang/RuntimeException")) U ∧ va_Nw (.declares (Bundle.initS "java/lang/Exception")) U ∧ va_Nw (.declares (Bundle.initS Bundle.tN)) U
theorem gEx.warm {sa : Nat} {A : Nat → Prop} {u U : State} {H : Heap} (hW : u.WarmedH U.vm) (h : gEx sa A u H) : gEx sa A U H := ⟨h.1.warm hW, h.2.1.moved hW.alike, h.2.2.1.moved hW.alike, h.2.2.2.1.warmC hW, h.2.2.2.2.1.warmD hW, h.2.2.2.2.2.1.warmD hW, h.2.2.2.2.2.2.warmD hW⟩
theorem gEx.same {sa : Nat} {A : Nat → Prop} {u U : State} {H : Heap} (hv : u.vm = U.vm) (h : gEx sa A u H) : gEx sa A U H := ⟨h.1.same hv.symm, h.2.1.moved (by rw [hv]; exact Vm.Alike.refl U.vm), h.2.2.1.moved (by rw [hv]; exact Vm.Alike.refl U.vm), h.2.2.2.1.same rfl hv, h.2.2.2.2.1.same rfl hv, h.2.2.2.2.2.1.same rfl hv, h.2.2.2.2.2.2.same rfl hv⟩
theorem gEx.kept {sa : Nat} {A : Nat → Prop} {U : State} {H H1 : Heap} (h : gEx sa A U H) (hq : ∀ a : Nat, a < H.size → ¬ A a → H1[a]? = H[a]?) : gEx sa A U H1 := ⟨h.1, h.2.1.kept hq, h.2.2.1.kept hq, h.2.2.2⟩
theorem gEx.narrow {sa : Nat} {A A2 : Nat → Prop} {U : State} {H : Heap} (h : gEx sa A U H) (hA : ∀ q, A2 q → A q) : gEx sa A2 U H := ⟨h.1, h.2.1.narrow hA, h.2.2.1.narrow hA, h.2.2.2⟩
def gPcE (B : gB) (sa : Nat) (av : List Value) (ws : va_W) (sz : Nat) : Array Value → State → Prop := fun a U => gPc B av ws sz a U ∧ gEx sa (va_A ws sz) U U.heap
theorem gPcE_blind {B : gB} {sa : Nat} {av : List Value} {ws : va_W} {sz : Nat} : FrameBlind (gPcE B sa av ws sz) := fun a U g mk q => ⟨gPc_blind a U g mk q.1, gEx.same (u := U) (U := U.calling g mk a) rfl q.2⟩
theorem gPreE {B : gB} {sa : Nat} {ws : va_W} {s : State} {A : Nat → Prop} {H : Heap} {locs : List Loc} {av : List Value} (hP : va_P B.2.1 vwCl ws H) (hK : va_K B.2.1 vwCl (gTys B) s) (hD : va_D A ws) (hS : va_S A s.heap H locs) (hA : ∀ q, s.heap.size ≤ q → A q) (hSt : gSt B A s s.heap) (hE : gEx sa A s s.heap) : ∀ U : State, U.heap = H → s.WarmedH U.vm → gPcE B sa av ws H.size av.toArray U := by
  intro U hU hW
  refine ⟨gPre hP hK hD hS hA hSt U hU hW, ?_⟩
  subst hU
  refine gEx.narrow (A := A) ((hE.kept (fun a h1 h2 => hS.2.1 a h1 h2)).warm hW) ?_
  rintro q (⟨i, x, hi⟩ | h)
  · exact hD.2 i _ hi
  · exact hA q (Nat.le_trans hS.1 h)
section GIF
variable {B : gB} {X : gX} {own : String} {cc : ByteArray} {nL d : Nat} {rt : Option FieldType} {pc : Nat} {lv : List (Nat × Value)} {st : List Value} {ws : va_W}
theorem g_iflt (hX : gOk B X own cc nL d rt) {x : Int32} {off : Int} {tgt : Nat} (hd : decode cc pc = .ok (.ifCond .lt off, 3)) (ht : (pc : Int) + off = (tgt : Int)) (k1 : x < 0 → gG B X tgt lv st ws) (k2 : ¬ x < 0 → gG B X (pc + 3) lv st ws) : gG B X pc lv (.int x :: st) ws :=
  h_if_lt (K := fun _ : Unit => True) (E1 := some ()) (E2 := some ()) hX hd ht (fun h => (k1 h).toH) (fun h => (k2 h).toH) () (ite_self _) trivial
theorem g_icmple (hX : gOk B X own cc nL d rt) {x y : Int32} {off : Int} {tgt : Nat} (hd : decode cc pc = .ok (.if_icmp .le off, 3)) (ht : (pc : Int) + off = (tgt : Int)) (k1 : x ≤ y → gG B X tgt lv st ws) (k2 : ¬ x ≤ y → gG B X (pc + 3) lv st ws) : gG B X pc lv (.int y :: .int x :: st) ws :=
  h_icmp_le (K := fun _ : Unit => True) (E1 := some ()) (E2 := some ()) hX hd ht (fun h => (k1 h).toH) (fun h => (k2 h).toH) () (ite_self _) trivial
end GIF

theorem wcl_RX10_156 : Cond.classLink RX10 156 nse ∈ gT := gw5 (i := 213) rfl rfl
theorem wini_nse : Cond.initialized nse ∈ gT := gw1 (i := 19) rfl rfl
theorem wcl_RL_13 : Cond.classLink RL 13 nse ∈ gT := gw5 (i := 208) rfl rfl
theorem wcod_L_boy : Cond.codeWith yL_boy cL_boy 5 (some .int) [(0, 10, 13, 13)] ∈ gT := gw5 (i := 207) rfl rfl
theorem wml_RL_7 : Cond.methodLink RL 7 yX10_boy ∈ gT := gw5 (i := 209) rfl rfl
theorem wim_X10_boy : Cond.instanceMethod yX10_boy ∈ gT := gw5 (i := 210) rfl rfl
theorem wsel_X10_boy : Cond.selects RX10 yX10_boy yX10_boy ∈ gT := gw5 (i := 211) rfl rfl
theorem wcod_X10_boy : Cond.code yX10_boy cX10_boy 3 (some .int) ∈ gT := gw5 (i := 212) rfl rfl
theorem cv_RL_7 : gCV RL 7 RX10 yX10_boy cX10_boy 3 (some .int) 2 := ⟨wml_RL_7, wim_X10_boy, wsel_X10_boy, wini_RX10, wcod_X10_boy, rfl, by decide +kernel⟩
theorem wml_RL_47 : Cond.methodLink RL 47 yX11_boy ∈ gT := gw7 (i := 106) rfl rfl
theorem wim_X11_boy : Cond.instanceMethod yX11_boy ∈ gT := gw7 (i := 107) rfl rfl
theorem wsel_X11_boy : Cond.selects RX11 yX11_boy yX11_boy ∈ gT := gw7 (i := 108) rfl rfl
theorem wcod_X11_boy : Cond.code yX11_boy cX11_boy 3 (some .int) ∈ gT := gw7 (i := 109) rfl rfl
theorem cv_RL_47 : gCV RL 47 RX11 yX11_boy cX11_boy 3 (some .int) 2 := ⟨wml_RL_47, wim_X11_boy, wsel_X11_boy, wini_RX11, wcod_X11_boy, rfl, by decide +kernel⟩
theorem wml_RL_48 : Cond.methodLink RL 48 yX11_thrown ∈ gT := gw6 (i := 188) rfl rfl
theorem wim_X11_thrown : Cond.instanceMethod yX11_thrown ∈ gT := gw6 (i := 189) rfl rfl
theorem wsel_X11_thrown : Cond.selects RX11 yX11_thrown yX11_thrown ∈ gT := gw6 (i := 190) rfl rfl
theorem wcod_X11_thrown : Cond.code yX11_thrown cX11_thrown 1 (some .int) ∈ gT := gw6 (i := 191) rfl rfl
theorem cv_RL_48 : gCV RL 48 RX11 yX11_thrown cX11_thrown 1 (some .int) 0 := ⟨wml_RL_48, wim_X11_thrown, wsel_X11_thrown, wini_RX11, wcod_X11_thrown, rfl, by decide +kernel⟩
theorem wml_RL_42 : Cond.methodLink RL 42 yL_boy ∈ gT := gw5 (i := 205) rfl rfl
theorem wst_L_boy : Cond.static yL_boy ∈ gT := gw5 (i := 206) rfl rfl
theorem wini_RL : Cond.initialized RL ∈ gT := gw1 (i := 0) rfl rfl
variable {B : gB} {fr : va_W} {W_spillsNow : Int32} {W_drawn : Int64} {T_length : Int32} {T_at : Int32} {T_bytes : Nat → Int32} {D_cells : Nat → Int32} {D_clauses : Nat → Int32} {G_length : Int32} {G_code : Nat → Int32} {A_size : Int32} {A_chosen : Int32} {A_codes : Nat → Int32} {A_lengths : Nat → Int32} {A_stack : Nat → Int32} {Y_cells : Nat → Int32} {Y_clauses : Nat → Int32} {N_marbles : Int32} {N_chipped : Int32} {N_swallowed : Int32} {N_sweets : Int32} {N_day : Int32} {N_owners : Nat → Int32} {P_next : Int32} {P_kept : Int32} {P_hasImage : Int32} {P_image : Int64} {P_acts : Nat → Int64} {P_entries : Nat → Int32} {P_imageEntries : Nat → Int32} {S_fewest : Int32} {S_row : Int32} {S_strengths : Nat → Int32} {U_size : Int32} {U_found : Int32} {U_places : Nat → Int32} {U_kinds : Nat → Int32} {U_holds : Nat → Int32} {U_fitting : Nat → Int32} {U_tally : Nat → Int32} {L_letters : Nat → Int32} {L_firstCells : Nat → Int32} {L_secondCells : Nat → Int32} {L_firstBest : Nat → Int32} {L_secondBest : Nat → Int32} {W_refusals : Nat → Int32}
set_option maxRecDepth 4000 in
/-- boy throws where there is no such one -/
theorem boy_throws {sa : Nat} {p0 p1 a1 : Int32} (hl : B.1.stackTraces = false) (h1 : f_Yard_hasBoy Y_clauses p0 = some a1) (hc : a1 = 0 ∨ p1 < 0 ∨ ¬ p1 ≤ 2) (sz : Nat) : vx_Met B.1 yX10_boy (.code yX10_boy cX10_boy 3 (some .int) :: gT) { frames := 8, cells := 1, slots := 6, locals := 512 } (gPcE B sa [.ref (aC B 0), .int p0, .int p1] (wdC B W_spillsNow W_drawn T_length T_at T_bytes D_cells D_clauses G_length G_code A_size A_chosen A_codes A_lengths A_stack Y_cells Y_clauses N_marbles N_chipped N_swallowed N_sweets N_day N_owners P_next P_kept P_hasImage P_image P_acts P_entries P_imageEntries S_fewest S_row S_strengths U_size U_found U_places U_kinds U_holds U_fitting U_tally L_letters L_firstCells L_secondCells L_firstBest L_secondBest W_refusals ++ fr) sz) (fun _ _ _ _ => False) (fun E st t => E = nse ∧ va_P B.2.1 vwCl (wdC B W_spillsNow W_drawn T_length T_at T_bytes D_cells D_clauses G_length G_code A_size A_chosen A_codes A_lengths A_stack Y_cells Y_clauses N_marbles N_chipped N_swallowed N_sweets N_day N_owners P_next P_kept P_hasImage P_image P_acts P_entries P_imageEntries S_fewest S_row S_strengths U_size U_found U_places U_kinds U_holds U_fitting U_tally L_letters L_firstCells L_secondCells L_firstBest L_secondBest W_refusals ++ fr) t.heap ∧ va_F (va_A (wdC B W_spillsNow W_drawn T_length T_at T_bytes D_cells D_clauses G_length G_code A_size A_chosen A_codes A_lengths A_stack Y_cells Y_clauses N_marbles N_chipped N_swallowed N_sweets N_day N_owners P_next P_kept P_hasImage P_image P_acts P_entries P_imageEntries S_fewest S_row S_strengths U_size U_found U_places U_kinds U_holds U_fitting U_tally L_letters L_firstCells L_secondCells L_firstBest L_secondBest W_refusals ++ fr) sz) st t) 1 6 (va_A (wdC B W_spillsNow W_drawn T_length T_at T_bytes D_cells D_clauses G_length G_code A_size A_chosen A_codes A_lengths A_stack Y_cells Y_clauses N_marbles N_chipped N_swallowed N_sweets N_day N_owners P_next P_kept P_hasImage P_image P_acts P_entries P_imageEntries S_fewest S_row S_strengths U_size U_found U_places U_kinds U_holds U_fitting U_tally L_letters L_firstCells L_secondCells L_firstBest L_secondBest W_refusals ++ fr) sz) := by
  generalize hWe : (wdC B W_spillsNow W_drawn T_length T_at T_bytes D_cells D_clauses G_length G_code A_size A_chosen A_codes A_lengths A_stack Y_cells Y_clauses N_marbles N_chipped N_swallowed N_sweets N_day N_owners P_next P_kept P_hasImage P_image P_acts P_entries P_imageEntries S_fewest S_row S_strengths U_size U_found U_places U_kinds U_holds U_fitting U_tally L_letters L_firstCells L_secondCells L_firstBest L_secondBest W_refusals ++ fr) = ws
  refine vx_ofW (cc := cX10_boy) (maxL := 3) (ret := some .int) rfl rfl ?_
  intro p e s m args below meth c s₁ Bd hml hno hv
  obtain ⟨⟨rfl, hsz, hP, hK, hD0, hSt⟩, hE⟩ := hv
  subst hsz
  have hD := hD0.self (sz := s.heap.size)
  have hl9 := lv_entry [.ref (aC B 0), .int p0, .int p1] (n := 3) (Nat.le_of_ble_eq_true rfl)
  rw [lg_entry_eq]
  generalize (lg_sl [.ref (aC B 0), .int p0, .int p1] ++ List.replicate (3 - (lg_sl [.ref (aC B 0), .int p0, .int p1]).length) Slot.unset).toArray = ls at hl9 ⊢
  have hts0 := atoms_spec (ws := .code yX10_boy cX10_boy 3 (some .int) :: gT) Bd.pre
  have hts : ∀ w ∈ gT, w.before [.ref (aC B 0), .int p0, .int p1].toArray s = true := fun w hw => hts0 w (List.mem_cons_of_mem _ hw)
  have hx := Bd.exec
  have hb := Bd.bytes
  have hown : s.vm.findClass RX10 = some m.cls := findClass_of_methodNamed Bd.named
  have hlocks := Bd.notSynchronized
  obtain ⟨X, hXe⟩ : ∃ X : gX, X = (p, e, (headSpec (.code yX10_boy cX10_boy 3 (some .int) :: gT) { frames := 8, cells := 1, slots := 6, locals := 512 }).room, s, m, [.ref (aC B 0), .int p0, .int p1].toArray, below, meth, c, 0, 0, vx_MQ below (fun _ _ _ _ => False) (fun E st t => E = nse ∧ va_P B.2.1 vwCl ws t.heap ∧ va_F (va_A ws s.heap.size) st t) [.ref (aC B 0), .int p0, .int p1].toArray s 1 6 (va_A ws s.heap.size), va_A ws s.heap.size, fun _ _ => False) := ⟨_, rfl⟩
  have hX : gOkI B X RX10 cX10_boy 3 8 1 6 := by
    rw [hXe]
    exact ⟨hx, hb, hml, hown, hts, hK, fun q hq => Or.inr hq, ⟨Nat.le_refl _, Nat.le_refl _, Nat.le_refl _, Nat.le_refl _⟩, hSt⟩
  have ht : ∀ lv : List (Nat × Value), gG B (gXc X 0 0) 20 lv [] ws := by
    intro lv
    rw [hXe]
    intro H locs ls hP hD hS hl2
    exact px_throw (pc := 20) (rx := nsX) (ix := 13) (mc := 1) (ms := 6) (own := RX10) (cls := nse) (names := nsn) (text := "no such boy or what") (sa := sa) (rest := []) hx hb hl (by decide +kernel) (by decide +kernel) (by decide +kernel) (by decide +kernel) hown (by decide +kernel) (by decide +kernel) (hts _ wcl_RX10_156) (hts _ wini_nse) hE.1 (vx_hat (fun w hw => hts w (gGW w hw)) gNB_eq (vx_c (va_Nw.use rfl hE.2.2.2.1) (vx_c (va_Nw.use rfl hE.2.2.2.2.1) (vx_c (va_Nw.use rfl hE.2.2.2.2.2.1) (vx_c (va_Nw.use rfl hE.2.2.2.2.2.2) vx_n))))) gOT hE.2.1 hE.2.2.1 hS hl2.1 dX10_boy_20 dX10_boy_23 dX10_boy_24 dX10_boy_26 dX10_boy_29 (fun x h => (hno x h).elim) (by decide) (by decide) (Nat.le_refl _) (Nat.le_refl _) hlocks (fun t _ h1 h2 => ⟨rfl, hP.kept (fun k q hk => h2 q.1 (hP k q hk).lt), ⟨Nat.le_trans hS.1 h1, fun q h3 h4 => by rw [h2 q (Nat.lt_of_lt_of_le h3 hS.1)]; exact hS.2.1 q h3 h4⟩⟩) hS.2.2 (Nat.le_refl _) (Nat.le_refl _)
  have hgo : gG B (gXc X 0 0) 0 [(0, .ref (aC B 0)), (1, .int p0), (2, .int p1)] [] ws := by
    subst hWe
    refine gH.toG (h_aload_n (hX.ok (rt := some .int) (by decide) (by decide)) dX10_boy_0 rfl rfl (gG.toH ?_))
    refine gH.toG (get_RX10_42_C0 (hX.ok (rt := some .int) (by decide) (by decide)) dX10_boy_1 (gG.toH ?_))
    refine gH.toG (h_iload_n (hX.ok (rt := some .int) (by decide) (by decide)) dX10_boy_4 rfl rfl (gG.toH ?_))
    refine gG.callVi (hX.ok (rt := some .int) (by decide) (by decide)) dX10_boy_5 cv_RX10_152 (As := [.int p0]) (st := []) (c_Yard_hasBoy h1) rc_C13 rfl rfl (by decide) (Nat.le_of_ble_eq_true rfl) ?_
    by_cases h0 : a1 = 0
    · exact g_ifT (hX.ok (rt := some .int) (by decide) (by decide)) h0 dX10_boy_8 (tgt := 20) (by decide) (ht _)
    · refine g_ifF (hX.ok (rt := some .int) (by decide) (by decide)) h0 dX10_boy_8 (tgt := 20) (by decide) ?_
      refine gH.toG (h_iload_n (hX.ok (rt := some .int) (by decide) (by decide)) dX10_boy_11 rfl rfl (gG.toH ?_))
      refine g_iflt (hX.ok (rt := some .int) (by decide) (by decide)) dX10_boy_12 (tgt := 20) (by decide) (fun _ => ht _) (fun h2 => ?_)
      refine gH.toG (h_iload_n (hX.ok (rt := some .int) (by decide) (by decide)) dX10_boy_15 rfl rfl (gG.toH ?_))
      refine gH.toG (h_iconst (hX.ok (rt := some .int) (by decide) (by decide)) dX10_boy_16 ki_2 (gG.toH ?_))
      refine g_icmple (hX.ok (rt := some .int) (by decide) (by decide)) dX10_boy_17 (tgt := 30) (by decide) (fun h3 => ?_) (fun _ => ht _)
      rcases hc with h | h | h
      · exact absurd h h0
      · exact absurd h h2
      · exact absurd h3 h
  rw [hXe] at hgo
  exact hgo s.heap [] ls hP hD va_S.rf (by rw [hml]; exact hl9)
