/-! The frame of all walks. B: what is fixed for the whole claim (launch, class numbers and slots, array classes of int, long, boolean, addresses of the class's cells, of the reference's, of the static tables). X: what is fixed in one call. gG: the machine comes to X's end from here. gH: it does, if the plain value E is 'some r' and K r holds. -/
abbrev gB : Type := Launch × va_G × (ClassId × ClassId × ClassId) × (Nat → Nat) × (Nat → Nat) × (Nat → Nat)
def gTys (B : gB) : List (ClassId × FieldType) := [(B.2.2.1.1, .int), (B.2.2.1.2.1, .long), (B.2.2.1.2.2, .boolean)]
def gT : List Cond := lw_tbl.filter goodWord
def gR (d : Nat) : Room := { frames := d, cells := 0, slots := 0, locals := 64 * d }
def gTab : List (String × List Int32) := [("SORT_LETTERS", [115, 98, 109, 102]), ("FIRST_ROW", [0, 1, 6, 12]), ("MOST_CLAUSES", [1, 5, 6, 6]), ("ITEM_LETTERS", [108, 114, 99, 107, 112, 0, 111, 119, 115, 112, 119, 110]), ("ITEM_LEAST", [3, 1, 0, 1, 0, 0, 0, 0, 1, 0, 0, 0]), ("ITEM_MOST", [30, 9, 99, 9, 9, 0, 4, 5, 9, 9, 5, 9]), ("ITEM_USUAL", [12, 3, 10, 5, 0, 0, 0, 0, 3, 0, 0, 2]), ("LAW_LETTERS", [112, 107, 115, 99, 104, 100])]
def gNestF : List (String × Nat × String) := [("WeatherMarbles$Lane", 9, "LAW_LETTERS"), ("WeatherMarbles$LawReader", 76, "LAW_LETTERS"), ("WeatherMarbles$Yard", 15, "SORT_LETTERS"), ("WeatherMarbles$Yard", 37, "MOST_CLAUSES"), ("WeatherMarbles$Yard", 40, "FIRST_ROW"), ("WeatherMarbles$Yard", 43, "ITEM_USUAL"), ("WeatherMarbles$YardReader", 66, "ITEM_LEAST"), ("WeatherMarbles$YardReader", 70, "ITEM_MOST"), ("WeatherMarbles$YardReader", 80, "SORT_LETTERS"), ("WeatherMarbles$YardReader", 83, "ITEM_LETTERS")]
def gNestM : List (String × Nat × MethodName) := [("WeatherMarbles", 9, yX7_init), ("WeatherMarbles", 34, yX3_init), ("WeatherMarbles", 41, yX8_init), ("WeatherMarbles", 48, yX4_init), ("WeatherMarbles$YardReader", 11, yX8_init)]
/-- the static tables, and the links to private members of nest mates -/
def gSt (B : gB) (A : Nat → Prop) (U : State) (H : Heap) : Prop := (∀ (k : Nat) (q : String × List Int32), gTab[k]? = some q → va_Z "WeatherMarbles" q.1 "[I" (.ref (B.2.2.2.2.2 k)) A U H ∧ va_T .int (B.2.2.2.2.2 k) q.2.length (fun j => .int (q.2.getD j 0)) A U H) ∧ (∀ q ∈ gNestF, va_Nw (.fieldLinkNest q.1 q.2.1 "WeatherMarbles" q.2.2 "[I" "WeatherMarbles") U) ∧ ∀ q ∈ gNestM, va_Nw (.methodLinkNest q.1 q.2.1 q.2.2 "WeatherMarbles") U
def gQ (B : gB) (ws : va_W) (sz : Nat) (rv : Option Value) (ws' : va_W) : Array Value → State → Outcome → State → Prop := fun _ st oc t => oc = .returned rv ∧ va_P B.2.1 vwCl ws' t.heap ∧ va_D (va_A ws sz) ws' ∧ va_F (va_A ws sz) st t
def gPc (B : gB) (av : List Value) (ws : va_W) (sz : Nat) : Array Value → State → Prop := va_Pc av (fun U => U.heap.size = sz ∧ va_P B.2.1 vwCl ws U.heap ∧ va_K B.2.1 vwCl (gTys B) U ∧ va_D (fun _ => True) ws ∧ gSt B (va_A ws sz) U U.heap)
/-- a method's contract: with the world ws and the arguments av it returns rv, and the world is ws' -/
def gMet (B : gB) (d : Nat) (y : MethodName) (cc : ByteArray) (nL : Nat) (rt : Option FieldType) (av : List Value) (ws : va_W) (rv : Option Value) (ws' : va_W) : Prop :=
  ∀ sz : Nat, Met B.1 y (.code y cc nL rt :: gT) (gR d) (gPc B av ws sz) (gQ B ws sz rv ws') 0 0 (va_A ws sz)
abbrev gX : Type := Program × Env × Room × State × MethodId × Array Value × List Frame × Method × Code × Nat × Nat × (State → Prop) × (Nat → Prop) × (Option Value → va_W → Prop)
def gRI : Option Value → Instr
  | none => .return_
  | some (.int _) => .ireturn
  | some (.long _) => .lreturn
  | _ => .areturn
def gRN : Option FieldType → Option Value → Prop
  | none, none => True
  | some .int, some (.int _) => True
  | some .boolean, some (.int v) => narrow .boolean (.int v) = .int v
  | some .long, some (.long _) => True
  | some (.object _), some (.ref _) => True
  | _, _ => False
def gOk (B : gB) (X : gX) (own : String) (cc : ByteArray) (nL d : Nat) (rt : Option FieldType) : Prop := match X with
  | (p, e, R, s, m, args, below, meth, c, cells, slots, Q, A, Fin) =>
    p.tables.exec = Jvm.exec ∧ c.code = cc ∧ c.maxLocals = nL ∧ s.vm.findClass own = some m.cls ∧ (∀ w ∈ gT, w.before args s = true) ∧ va_K B.2.1 vwCl (gTys B) s ∧ (∀ q, s.heap.size ≤ q → A q) ∧ (d ≤ R.frames ∧ 64 * d ≤ R.locals ∧ cells ≤ R.cells ∧ slots ≤ R.slots) ∧ gSt B A s s.heap ∧
    ∀ (rv : Option Value) (ws : va_W), Fin rv ws → gRN rt rv → ∀ (H : Heap) (locs : List Loc) (ls : Array Slot) (pc : Nat), va_P B.2.1 vwCl ws H → va_D A ws → va_S A s.heap H locs → decode cc pc = .ok (gRI rv, 1) → W p B.1 e R s m args below meth c H locs cells slots Q (F0 m pc ls rv.toList)
def gFin (X : gX) : Option Value → va_W → Prop := X.2.2.2.2.2.2.2.2.2.2.2.2.2
def gG (B : gB) (X : gX) (pc : Nat) (lv : List (Nat × Value)) (st : List Value) (ws : va_W) : Prop := match X with
  | (p, e, R, s, m, args, below, meth, c, cells, slots, Q, A, _) => ∀ (H : Heap) (locs : List Loc) (ls : Array Slot), va_P B.2.1 vwCl ws H → va_D A ws → va_S A s.heap H locs → lv_has ls c.maxLocals lv → W p B.1 e R s m args below meth c H locs cells slots Q (F0 m pc ls st)
def gH {ρ : Type} (B : gB) (X : gX) (K : ρ → Prop) (pc : Nat) (lv : List (Nat × Value)) (st : List Value) (ws : va_W) (E : Option ρ) : Prop := ∀ r : ρ, E = some r → K r → gG B X pc lv st ws
/-! plain values -/
def oI {ρ : Type} (i : Int32) (n : Nat) (E : Option ρ) : Option ρ := if i < 0 ∨ n ≤ i.toNatClampNeg then none else E
def oD {ρ : Type} (y : Int32) (E : Option ρ) : Option ρ := if y = 0 then none else E
def oDl {ρ : Type} (y : Int64) (E : Option ρ) : Option ρ := if y = 0 then none else E
def oZ {ρ : Type} (v : Int32) (E : Option ρ) : Option ρ := if narrow .boolean (.int v) = .int v then E else none
def oL {α ρ : Type} (v : α) (F : α → Option ρ) : Option ρ := F v
def oLpn {S T : Type} (body : S → Option (S ⊕ T)) : Nat → S → Option T
  | 0, _ => none
  | n + 1, s => match body s with
    | none => none
    | some (.inl s') => oLpn body n s'
    | some (.inr t) => some t
theorem oLpn_mono {S T : Type} {body : S → Option (S ⊕ T)} : ∀ {n : Nat} {s : S} {t : T}, oLpn body n s = some t → ∀ k, oLpn body (n + k) s = some t := by
  intro n
  induction n with
  | zero => intro s t h; simp [oLpn] at h
  | succ n ih =>
    intro s t h k
    rw [show n + 1 + k = (n + k) + 1 by omega]
    simp only [oLpn] at h ⊢
    cases hb : body s with
    | none => simp [hb] at h
    | some x =>
      cases x with
      | inl s' => simp only [hb] at h ⊢; exact ih h k
      | inr t' => simp only [hb] at h ⊢; exact h
theorem oLpn_det {S T : Type} {body : S → Option (S ⊕ T)} {n m : Nat} {s : S} {t u : T} (h : oLpn body n s = some t) (h2 : oLpn body m s = some u) : t = u := by
  have a := oLpn_mono h m
  have b := oLpn_mono h2 n
  rw [Nat.add_comm m n] at b
  exact Option.some.inj (a.symm.trans b)
/-- a loop: body says 'go on with s' (inl) or 'end with t' (inr) -/
noncomputable def oLp {S T : Type} (body : S → Option (S ⊕ T)) (s : S) : Option T := by
  classical exact if h : ∃ t n, oLpn body n s = some t then some h.choose else none
theorem oLp_iff {S T : Type} {body : S → Option (S ⊕ T)} {s : S} {t : T} : oLp body s = some t ↔ ∃ n, oLpn body n s = some t := by
  unfold oLp
  constructor
  · intro h
    split at h
    next hx =>
      obtain ⟨n, hn⟩ := hx.choose_spec
      cases h
      exact ⟨n, hn⟩
    next => cases h
  · rintro ⟨n, hn⟩
    have hx : ∃ t n, oLpn body n s = some t := ⟨t, n, hn⟩
    rw [dif_pos hx]
    obtain ⟨k, hk⟩ := hx.choose_spec
    rw [oLpn_det hk hn]
theorem oLp_eq {S T : Type} (body : S → Option (S ⊕ T)) (s : S) : oLp body s = match body s with
    | none => none
    | some (.inl s') => oLp body s'
    | some (.inr t) => some t := by
  have key : ∀ t, oLp body s = some t ↔ (match body s with | none => none | some (.inl s') => oLp body s' | some (.inr t) => some t) = some t := by
    intro t
    rw [oLp_iff]
    cases hb : body s with
    | none =>
      constructor
      · rintro ⟨n, hn⟩; cases n <;> simp [oLpn, hb] at hn
      · intro h; cases h
    | some x =>
      cases x with
      | inl s' =>
        show _ ↔ oLp body s' = some t
        rw [oLp_iff]
        constructor
        · rintro ⟨n, hn⟩
          cases n with
          | zero => simp [oLpn] at hn
          | succ n => exact ⟨n, by simpa [oLpn, hb] using hn⟩
        · rintro ⟨n, hn⟩
          exact ⟨n + 1, by simpa [oLpn, hb] using hn⟩
      | inr t' =>
        constructor
        · rintro ⟨n, hn⟩
          cases n with
          | zero => simp [oLpn] at hn
          | succ n => simpa [oLpn, hb] using hn
        · intro h
          exact ⟨1, by simpa [oLpn, hb] using h⟩
  cases h1 : oLp body s with
  | some t => exact ((key t).mp h1).symm
  | none =>
    cases h2 : (match body s with | none => none | some (.inl s') => oLp body s' | some (.inr t) => some t) with
    | none => rfl
    | some t => rw [(key t).mpr h2] at h1; cases h1
theorem oI_some {ρ : Type} {i : Int32} {n : Nat} {E : Option ρ} {r : ρ} (h : oI i n E = some r) : vp_in i n ∧ E = some r := by
  unfold oI at h
  split at h
  next => cases h
  next hc => exact ⟨hc, h⟩
theorem oD_some {ρ : Type} {y : Int32} {E : Option ρ} {r : ρ} (h : oD y E = some r) : ¬ y = 0 ∧ E = some r := by
  unfold oD at h
  split at h
  next => cases h
  next hc => exact ⟨hc, h⟩
theorem oDl_some {ρ : Type} {y : Int64} {E : Option ρ} {r : ρ} (h : oDl y E = some r) : ¬ y = 0 ∧ E = some r := by
  unfold oDl at h
  split at h
  next => cases h
  next hc => exact ⟨hc, h⟩
theorem oZ_some {ρ : Type} {v : Int32} {E : Option ρ} {r : ρ} (h : oZ v E = some r) : narrow .boolean (.int v) = .int v ∧ E = some r := by
  unfold oZ at h
  split at h
  next hc => exact ⟨hc, h⟩
  next => cases h
/-! locals: a sorted list -/
def lvset : List (Nat × Value) → Nat → Value → List (Nat × Value)
  | [], i, v => [(i, v)]
  | (j, w) :: l, i, v => if j = i then (i, v) :: l else if i < j then (i, v) :: (j, w) :: l else (j, w) :: lvset l i v
theorem lvset_mem {i : Nat} {v : Value} : ∀ {l : List (Nat × Value)} {q : Nat × Value}, q ∈ lvset l i v → q = (i, v) ∨ q ∈ l
  | [], q, h => by simp [lvset] at h; exact Or.inl h
  | (j, w) :: l, q, h => by
    unfold lvset at h
    split at h
    · rcases List.mem_cons.mp h with h | h
      · exact Or.inl h
      · exact Or.inr (List.mem_cons_of_mem _ h)
    · split at h
      · rcases List.mem_cons.mp h with h | h
        · exact Or.inl h
        · exact Or.inr h
      · rcases List.mem_cons.mp h with h | h
        · exact Or.inr (by rw [h]; exact List.mem_cons_self)
        · rcases lvset_mem h with h | h
          · exact Or.inl h
          · exact Or.inr (List.mem_cons_of_mem _ h)
def lvcut1 (l : List (Nat × Value)) (i : Nat) : List (Nat × Value) := l.filter (fun q => !(q.1 == i) && !(q.1 + 1 == i && q.2.category == 2))
def lvcut2 (l : List (Nat × Value)) (i : Nat) : List (Nat × Value) := l.filter (fun q => !(q.1 == i) && (!(q.1 == i + 1) && !(q.1 + 1 == i && q.2.category == 2)))
theorem lv_of {ls : Array Slot} {nL i : Nat} {v : Value} {l l' : List (Nat × Value)} (h : lv_has ls nL ((i, v) :: l)) (hs : lvset l i v = l') : lv_has ls nL l' := by
  refine ⟨h.1, h.2.1, fun q hq => h.2.2 q ?_⟩
  rw [← hs] at hq
  rcases lvset_mem hq with h | h
  · rw [h]; exact List.mem_cons_self
  · exact List.mem_cons_of_mem _ h
def lvget : List (Nat × Value) → Nat → Option Value
  | [], _ => none
  | (j, w) :: l, i => if j = i then some w else lvget l i
theorem lvget_mem {i : Nat} {v : Value} : ∀ {l : List (Nat × Value)}, lvget l i = some v → (i, v) ∈ l
  | [], h => by simp [lvget] at h
  | (j, w) :: l, h => by
    unfold lvget at h
    split at h
    next hc => cases h; subst hc; exact List.mem_cons_self
    next => exact List.mem_cons_of_mem _ (lvget_mem h)
theorem lv_gt {ls : Array Slot} {nL i : Nat} {v : Value} {l : List (Nat × Value)} (h : lv_has ls nL l) (hg : lvget l i = some v) : ls[i]? = some (.val v) := h.2.2 _ (lvget_mem hg)
section CORE
variable {ρ : Type} {B : gB} {X : gX} {K : ρ → Prop} {own : String} {cc : ByteArray} {nL d : Nat} {rt : Option FieldType} {pc : Nat} {lv : List (Nat × Value)} {st : List Value} {ws : va_W} {E : Option ρ}
theorem gH.some' {r : ρ} (h : K r → gG B X pc lv st ws) : gH B X K pc lv st ws (some r) := fun r' e hk => h (by cases e; exact hk)
theorem gH.ite {c : Prop} [Decidable c] {E1 E2 : Option ρ} (h1 : c → gH B X K pc lv st ws E1) (h2 : ¬ c → gH B X K pc lv st ws E2) : gH B X K pc lv st ws (if c then E1 else E2) := by
  intro r e hk
  by_cases h : c
  · rw [if_pos h] at e; exact h1 h r e hk
  · rw [if_neg h] at e; exact h2 h r e hk
theorem gH.none' : gH B X K pc lv st ws none := fun r e => by cases e
theorem gH.dead {lv' : List (Nat × Value)} (ks : List Nat) (hs : lv_pick lv ks = lv') (k : gH B X K pc lv' st ws E) : gH B X K pc lv st ws E := by
  intro r e hk
  obtain ⟨p, ev, R, s, m, args, below, meth, c, cells, slots, Q, A, Fin⟩ := X
  intro H locs ls hP hD hS hl
  exact k r e hk H locs ls hP hD hS (lv_sub hl ks hs)
/-- a loop's head: pc, with locals and world given by the loop's own state -/
theorem gH.loop {S : Type} {T : Type} {K : T → Prop} {body : S → Option (S ⊕ T)} {lvf : S → List (Nat × Value)} {wf : S → va_W}
    (hb : ∀ s : S, gH B X (Sum.elim (fun s' => gG B X pc (lvf s') [] (wf s')) K) pc (lvf s) [] (wf s) (body s)) (s : S) : gH B X K pc (lvf s) [] (wf s) (oLp body s) := by
  intro t e hk
  obtain ⟨n, hn⟩ := oLp_iff.mp e
  clear e
  revert s
  induction n with
  | zero => intro s hn; simp [oLpn] at hn
  | succ n ih =>
    intro s hn
    simp only [oLpn] at hn
    cases hx : body s with
    | none => simp [hx] at hn
    | some x =>
      cases x with
      | inl s' =>
        simp only [hx] at hn
        exact hb s (.inl s') hx (ih s' hn)
      | inr t' =>
        simp only [hx] at hn
        cases hn
        exact hb s (.inr t) hx hk
theorem gH.leti {x : Int32} {F : Int32 → Option ρ} (k : ∀ y : Int32, gH B X K pc lv (.int y :: st) ws (F y)) : gH B X K pc lv (.int x :: st) ws (oL x F) := k x
theorem gH.letl {x : Int64} {F : Int64 → Option ρ} (k : ∀ y : Int64, gH B X K pc lv (.long y :: st) ws (F y)) : gH B X K pc lv (.long x :: st) ws (oL x F) := k x

theorem h_iconst (hX : gOk B X own cc nL d rt) {n : Int} {v : Int32} (hd : decode cc pc = .ok (.iconst n, 1)) (hv : Int32.ofInt n = v) (k : gH B X K (pc + 1) lv (.int v :: st) ws E) : gH B X K pc lv (st) ws E := by
  intro r e hk
  obtain ⟨p, ev, R, s, m, args, below, meth, c, cells, slots, Q, A, Fin⟩ := X
  obtain ⟨hx, hb, hml, hown, hts, hK, hA, ⟨hf1, hf2, hf3, hf4⟩, hSt, hret⟩ := hX
  intro H locs ls hP hD hS hl
  exact lv_iconst hx hb hd hv (k r e hk H locs ls hP hD hS hl)
theorem h_bipush (hX : gOk B X own cc nL d rt) {n : Int} {v : Int32} (hd : decode cc pc = .ok (.bipush n, 2)) (hv : (Int8.ofInt n).toInt32 = v) (k : gH B X K (pc + 2) lv (.int v :: st) ws E) : gH B X K pc lv (st) ws E := by
  intro r e hk
  obtain ⟨p, ev, R, s, m, args, below, meth, c, cells, slots, Q, A, Fin⟩ := X
  obtain ⟨hx, hb, hml, hown, hts, hK, hA, ⟨hf1, hf2, hf3, hf4⟩, hSt, hret⟩ := hX
  intro H locs ls hP hD hS hl
  exact lv_bipush hx hb hd hv (k r e hk H locs ls hP hD hS hl)
theorem h_sipush (hX : gOk B X own cc nL d rt) {n : Int} {v : Int32} (hd : decode cc pc = .ok (.sipush n, 3)) (hv : (Int16.ofInt n).toInt32 = v) (k : gH B X K (pc + 3) lv (.int v :: st) ws E) : gH B X K pc lv (st) ws E := by
  intro r e hk
  obtain ⟨p, ev, R, s, m, args, below, meth, c, cells, slots, Q, A, Fin⟩ := X
  obtain ⟨hx, hb, hml, hown, hts, hK, hA, ⟨hf1, hf2, hf3, hf4⟩, hSt, hret⟩ := hX
  intro H locs ls hP hD hS hl
  exact lv_sipush hx hb hd hv (k r e hk H locs ls hP hD hS hl)
theorem h_lconst (hX : gOk B X own cc nL d rt) {n : Fin 2} {v : Int64} (hd : decode cc pc = .ok (.lconst n, 1)) (hv : Int64.ofNat (n : Nat) = v) (k : gH B X K (pc + 1) lv (.long v :: st) ws E) : gH B X K pc lv (st) ws E := by
  intro r e hk
  obtain ⟨p, ev, R, s, m, args, below, meth, c, cells, slots, Q, A, Fin⟩ := X
  obtain ⟨hx, hb, hml, hown, hts, hK, hA, ⟨hf1, hf2, hf3, hf4⟩, hSt, hret⟩ := hX
  intro H locs ls hP hD hS hl
  exact lv_lconst hx hb hd hv (k r e hk H locs ls hP hD hS hl)
theorem h_ldc (hX : gOk B X own cc nL d rt) {ix : Nat} {v : Int32} (hd : decode cc pc = .ok (.ldc ix, 2)) (hw : Cond.constant own ix v ∈ gT) (k : gH B X K (pc + 2) lv (.int v :: st) ws E) : gH B X K pc lv (st) ws E := by
  intro r e hk
  obtain ⟨p, ev, R, s, m, args, below, meth, c, cells, slots, Q, A, Fin⟩ := X
  obtain ⟨hx, hb, hml, hown, hts, hK, hA, ⟨hf1, hf2, hf3, hf4⟩, hSt, hret⟩ := hX
  intro H locs ls hP hD hS hl
  exact lv_ldc hx hb hown (hts _ hw) hd (k r e hk H locs ls hP hD hS hl)
theorem h_ldcw (hX : gOk B X own cc nL d rt) {ix : Nat} {v : Int32} (hd : decode cc pc = .ok (.ldc_w ix, 3)) (hw : Cond.constant own ix v ∈ gT) (k : gH B X K (pc + 3) lv (.int v :: st) ws E) : gH B X K pc lv (st) ws E := by
  intro r e hk
  obtain ⟨p, ev, R, s, m, args, below, meth, c, cells, slots, Q, A, Fin⟩ := X
  obtain ⟨hx, hb, hml, hown, hts, hK, hA, ⟨hf1, hf2, hf3, hf4⟩, hSt, hret⟩ := hX
  intro H locs ls hP hD hS hl
  exact lv_ldcw hx hb hown (hts _ hw) hd (k r e hk H locs ls hP hD hS hl)
theorem h_ldc2 (hX : gOk B X own cc nL d rt) {ix : Nat} {v : Int64} (hd : decode cc pc = .ok (.ldc2_w ix, 3)) (hw : Cond.constantLong own ix v ∈ gT) (k : gH B X K (pc + 3) lv (.long v :: st) ws E) : gH B X K pc lv (st) ws E := by
  intro r e hk
  obtain ⟨p, ev, R, s, m, args, below, meth, c, cells, slots, Q, A, Fin⟩ := X
  obtain ⟨hx, hb, hml, hown, hts, hK, hA, ⟨hf1, hf2, hf3, hf4⟩, hSt, hret⟩ := hX
  intro H locs ls hP hD hS hl
  exact lv_ldc2 hx hb hown (hts _ hw) hd (k r e hk H locs ls hP hD hS hl)
theorem h_iload_n (hX : gOk B X own cc nL d rt) {kk : Fin 4} {i : Nat} {x : Int32} (hd : decode cc pc = .ok (.iload_n kk, 1)) (hi : (kk : Nat) = i) (hg : lvget lv i = some (.int x)) (k : gH B X K (pc + 1) lv (.int x :: st) ws E) : gH B X K pc lv (st) ws E := by
  intro r e hk
  obtain ⟨p, ev, R, s, m, args, below, meth, c, cells, slots, Q, A, Fin⟩ := X
  obtain ⟨hx, hb, hml, hown, hts, hK, hA, ⟨hf1, hf2, hf3, hf4⟩, hSt, hret⟩ := hX
  intro H locs ls hP hD hS hl
  exact lv_iload_n hx hb hd hi (lv_gt hl hg) (k r e hk H locs ls hP hD hS hl)
theorem h_iload (hX : gOk B X own cc nL d rt) {i : Nat} {x : Int32} (hd : decode cc pc = .ok (.iload i, 2)) (hg : lvget lv i = some (.int x)) (k : gH B X K (pc + 2) lv (.int x :: st) ws E) : gH B X K pc lv (st) ws E := by
  intro r e hk
  obtain ⟨p, ev, R, s, m, args, below, meth, c, cells, slots, Q, A, Fin⟩ := X
  obtain ⟨hx, hb, hml, hown, hts, hK, hA, ⟨hf1, hf2, hf3, hf4⟩, hSt, hret⟩ := hX
  intro H locs ls hP hD hS hl
  exact lv_iload hx hb hd (lv_gt hl hg) (k r e hk H locs ls hP hD hS hl)
theorem h_istore_n (hX : gOk B X own cc nL d rt) {kk : Fin 4} {i : Nat} {x : Int32} {lv' : List (Nat × Value)} (hd : decode cc pc = .ok (.istore_n kk, 1)) (hi : (kk : Nat) = i) (hn : i < nL) (hs : lvset (lvcut1 lv i) i (.int x) = lv') (k : gH B X K (pc + 1) lv' st ws E) : gH B X K pc lv (.int x :: st) ws E := by
  intro r e hk
  obtain ⟨p, ev, R, s, m, args, below, meth, c, cells, slots, Q, A, Fin⟩ := X
  obtain ⟨hx, hb, hml, hown, hts, hK, hA, ⟨hf1, hf2, hf3, hf4⟩, hSt, hret⟩ := hX
  intro H locs ls hP hD hS hl
  exact lv_istore_n hx hb hd hi hl (by rw [hml]; exact hn) rfl (fun ls hl => k r e hk H locs ls hP hD hS (lv_of hl hs))
theorem h_istore (hX : gOk B X own cc nL d rt) {i : Nat} {x : Int32} {lv' : List (Nat × Value)} (hd : decode cc pc = .ok (.istore i, 2)) (hn : i < nL) (hs : lvset (lvcut1 lv i) i (.int x) = lv') (k : gH B X K (pc + 2) lv' st ws E) : gH B X K pc lv (.int x :: st) ws E := by
  intro r e hk
  obtain ⟨p, ev, R, s, m, args, below, meth, c, cells, slots, Q, A, Fin⟩ := X
  obtain ⟨hx, hb, hml, hown, hts, hK, hA, ⟨hf1, hf2, hf3, hf4⟩, hSt, hret⟩ := hX
  intro H locs ls hP hD hS hl
  exact lv_istore hx hb hd hl (by rw [hml]; exact hn) rfl (fun ls hl => k r e hk H locs ls hP hD hS (lv_of hl hs))
theorem h_lload_n (hX : gOk B X own cc nL d rt) {kk : Fin 4} {i : Nat} {x : Int64} (hd : decode cc pc = .ok (.lload_n kk, 1)) (hi : (kk : Nat) = i) (hg : lvget lv i = some (.long x)) (k : gH B X K (pc + 1) lv (.long x :: st) ws E) : gH B X K pc lv (st) ws E := by
  intro r e hk
  obtain ⟨p, ev, R, s, m, args, below, meth, c, cells, slots, Q, A, Fin⟩ := X
  obtain ⟨hx, hb, hml, hown, hts, hK, hA, ⟨hf1, hf2, hf3, hf4⟩, hSt, hret⟩ := hX
  intro H locs ls hP hD hS hl
  exact lv_lload_n hx hb hd hi (lv_gt hl hg) (k r e hk H locs ls hP hD hS hl)
theorem h_lload (hX : gOk B X own cc nL d rt) {i : Nat} {x : Int64} (hd : decode cc pc = .ok (.lload i, 2)) (hg : lvget lv i = some (.long x)) (k : gH B X K (pc + 2) lv (.long x :: st) ws E) : gH B X K pc lv (st) ws E := by
  intro r e hk
  obtain ⟨p, ev, R, s, m, args, below, meth, c, cells, slots, Q, A, Fin⟩ := X
  obtain ⟨hx, hb, hml, hown, hts, hK, hA, ⟨hf1, hf2, hf3, hf4⟩, hSt, hret⟩ := hX
  intro H locs ls hP hD hS hl
  exact lv_lload hx hb hd (lv_gt hl hg) (k r e hk H locs ls hP hD hS hl)
theorem h_lstore_n (hX : gOk B X own cc nL d rt) {kk : Fin 4} {i : Nat} {x : Int64} {lv' : List (Nat × Value)} (hd : decode cc pc = .ok (.lstore_n kk, 1)) (hi : (kk : Nat) = i) (hn : i + 1 < nL) (hs : lvset (lvcut2 lv i) i (.long x) = lv') (k : gH B X K (pc + 1) lv' st ws E) : gH B X K pc lv (.long x :: st) ws E := by
  intro r e hk
  obtain ⟨p, ev, R, s, m, args, below, meth, c, cells, slots, Q, A, Fin⟩ := X
  obtain ⟨hx, hb, hml, hown, hts, hK, hA, ⟨hf1, hf2, hf3, hf4⟩, hSt, hret⟩ := hX
  intro H locs ls hP hD hS hl
  exact lv_lstore_n hx hb hd hi hl (by rw [hml]; exact hn) rfl (fun ls hl => k r e hk H locs ls hP hD hS (lv_of hl hs))
theorem h_lstore (hX : gOk B X own cc nL d rt) {i : Nat} {x : Int64} {lv' : List (Nat × Value)} (hd : decode cc pc = .ok (.lstore i, 2)) (hn : i + 1 < nL) (hs : lvset (lvcut2 lv i) i (.long x) = lv') (k : gH B X K (pc + 2) lv' st ws E) : gH B X K pc lv (.long x :: st) ws E := by
  intro r e hk
  obtain ⟨p, ev, R, s, m, args, below, meth, c, cells, slots, Q, A, Fin⟩ := X
  obtain ⟨hx, hb, hml, hown, hts, hK, hA, ⟨hf1, hf2, hf3, hf4⟩, hSt, hret⟩ := hX
  intro H locs ls hP hD hS hl
  exact lv_lstore hx hb hd hl (by rw [hml]; exact hn) rfl (fun ls hl => k r e hk H locs ls hP hD hS (lv_of hl hs))
theorem h_aload_n (hX : gOk B X own cc nL d rt) {kk : Fin 4} {i : Nat} {x : Nat} (hd : decode cc pc = .ok (.aload_n kk, 1)) (hi : (kk : Nat) = i) (hg : lvget lv i = some (.ref x)) (k : gH B X K (pc + 1) lv (.ref x :: st) ws E) : gH B X K pc lv (st) ws E := by
  intro r e hk
  obtain ⟨p, ev, R, s, m, args, below, meth, c, cells, slots, Q, A, Fin⟩ := X
  obtain ⟨hx, hb, hml, hown, hts, hK, hA, ⟨hf1, hf2, hf3, hf4⟩, hSt, hret⟩ := hX
  intro H locs ls hP hD hS hl
  exact lv_aload_n hx hb hd hi (lv_gt hl hg) (k r e hk H locs ls hP hD hS hl)
theorem h_aload (hX : gOk B X own cc nL d rt) {i : Nat} {x : Nat} (hd : decode cc pc = .ok (.aload i, 2)) (hg : lvget lv i = some (.ref x)) (k : gH B X K (pc + 2) lv (.ref x :: st) ws E) : gH B X K pc lv (st) ws E := by
  intro r e hk
  obtain ⟨p, ev, R, s, m, args, below, meth, c, cells, slots, Q, A, Fin⟩ := X
  obtain ⟨hx, hb, hml, hown, hts, hK, hA, ⟨hf1, hf2, hf3, hf4⟩, hSt, hret⟩ := hX
  intro H locs ls hP hD hS hl
  exact lv_aload hx hb hd (lv_gt hl hg) (k r e hk H locs ls hP hD hS hl)
theorem h_astore_n (hX : gOk B X own cc nL d rt) {kk : Fin 4} {i : Nat} {x : Nat} {lv' : List (Nat × Value)} (hd : decode cc pc = .ok (.astore_n kk, 1)) (hi : (kk : Nat) = i) (hn : i < nL) (hs : lvset (lvcut1 lv i) i (.ref x) = lv') (k : gH B X K (pc + 1) lv' st ws E) : gH B X K pc lv (.ref x :: st) ws E := by
  intro r e hk
  obtain ⟨p, ev, R, s, m, args, below, meth, c, cells, slots, Q, A, Fin⟩ := X
  obtain ⟨hx, hb, hml, hown, hts, hK, hA, ⟨hf1, hf2, hf3, hf4⟩, hSt, hret⟩ := hX
  intro H locs ls hP hD hS hl
  exact lv_astore_n hx hb hd hi hl (by rw [hml]; exact hn) rfl (fun ls hl => k r e hk H locs ls hP hD hS (lv_of hl hs))
theorem h_astore (hX : gOk B X own cc nL d rt) {i : Nat} {x : Nat} {lv' : List (Nat × Value)} (hd : decode cc pc = .ok (.astore i, 2)) (hn : i < nL) (hs : lvset (lvcut1 lv i) i (.ref x) = lv') (k : gH B X K (pc + 2) lv' st ws E) : gH B X K pc lv (.ref x :: st) ws E := by
  intro r e hk
  obtain ⟨p, ev, R, s, m, args, below, meth, c, cells, slots, Q, A, Fin⟩ := X
  obtain ⟨hx, hb, hml, hown, hts, hK, hA, ⟨hf1, hf2, hf3, hf4⟩, hSt, hret⟩ := hX
  intro H locs ls hP hD hS hl
  exact lv_astore hx hb hd hl (by rw [hml]; exact hn) rfl (fun ls hl => k r e hk H locs ls hP hD hS (lv_of hl hs))
theorem h_iinc (hX : gOk B X own cc nL d rt) {i : Nat} {n : Int} {x v : Int32} {lv' : List (Nat × Value)} (hd : decode cc pc = .ok (.iinc i n, 3)) (hg : lvget lv i = some (.int x)) (hv : x + Int32.ofInt n = v) (hn : i < nL) (hs : lvset (lvcut1 lv i) i (.int v) = lv') (k : gH B X K (pc + 3) lv' st ws E) : gH B X K pc lv (st) ws E := by
  intro r e hk
  obtain ⟨p, ev, R, s, m, args, below, meth, c, cells, slots, Q, A, Fin⟩ := X
  obtain ⟨hx, hb, hml, hown, hts, hK, hA, ⟨hf1, hf2, hf3, hf4⟩, hSt, hret⟩ := hX
  intro H locs ls hP hD hS hl
  obtain ⟨j, hj⟩ := List.getElem?_of_mem (lvget_mem hg)
  exact lv_iinc hx hb hd hl hj hv (by rw [hml]; exact hn) rfl (fun ls hl => k r e hk H locs ls hP hD hS (lv_of hl hs))
theorem h_iadd (hX : gOk B X own cc nL d rt) {x y : Int32} (hd : decode cc pc = .ok (.iadd, 1)) (k : gH B X K (pc + 1) lv (.int (x + y) :: st) ws E) : gH B X K pc lv (.int y :: .int x :: st) ws E := by
  intro r e hk
  obtain ⟨p, ev, R, s, m, args, below, meth, c, cells, slots, Q, A, Fin⟩ := X
  obtain ⟨hx, hb, hml, hown, hts, hK, hA, ⟨hf1, hf2, hf3, hf4⟩, hSt, hret⟩ := hX
  intro H locs ls hP hD hS hl
  exact lv_iadd hx hb hd (k r e hk H locs ls hP hD hS hl)
theorem h_isub (hX : gOk B X own cc nL d rt) {x y : Int32} (hd : decode cc pc = .ok (.isub, 1)) (k : gH B X K (pc + 1) lv (.int (x - y) :: st) ws E) : gH B X K pc lv (.int y :: .int x :: st) ws E := by
  intro r e hk
  obtain ⟨p, ev, R, s, m, args, below, meth, c, cells, slots, Q, A, Fin⟩ := X
  obtain ⟨hx, hb, hml, hown, hts, hK, hA, ⟨hf1, hf2, hf3, hf4⟩, hSt, hret⟩ := hX
  intro H locs ls hP hD hS hl
  exact lv_isub hx hb hd (k r e hk H locs ls hP hD hS hl)
theorem h_imul (hX : gOk B X own cc nL d rt) {x y : Int32} (hd : decode cc pc = .ok (.imul, 1)) (k : gH B X K (pc + 1) lv (.int (x * y) :: st) ws E) : gH B X K pc lv (.int y :: .int x :: st) ws E := by
  intro r e hk
  obtain ⟨p, ev, R, s, m, args, below, meth, c, cells, slots, Q, A, Fin⟩ := X
  obtain ⟨hx, hb, hml, hown, hts, hK, hA, ⟨hf1, hf2, hf3, hf4⟩, hSt, hret⟩ := hX
  intro H locs ls hP hD hS hl
  exact lv_imul hx hb hd (k r e hk H locs ls hP hD hS hl)
theorem h_iand (hX : gOk B X own cc nL d rt) {x y : Int32} (hd : decode cc pc = .ok (.iand, 1)) (k : gH B X K (pc + 1) lv (.int (x &&& y) :: st) ws E) : gH B X K pc lv (.int y :: .int x :: st) ws E := by
  intro r e hk
  obtain ⟨p, ev, R, s, m, args, below, meth, c, cells, slots, Q, A, Fin⟩ := X
  obtain ⟨hx, hb, hml, hown, hts, hK, hA, ⟨hf1, hf2, hf3, hf4⟩, hSt, hret⟩ := hX
  intro H locs ls hP hD hS hl
  exact lv_iand hx hb hd (k r e hk H locs ls hP hD hS hl)
theorem h_ior (hX : gOk B X own cc nL d rt) {x y : Int32} (hd : decode cc pc = .ok (.ior, 1)) (k : gH B X K (pc + 1) lv (.int (x ||| y) :: st) ws E) : gH B X K pc lv (.int y :: .int x :: st) ws E := by
  intro r e hk
  obtain ⟨p, ev, R, s, m, args, below, meth, c, cells, slots, Q, A, Fin⟩ := X
  obtain ⟨hx, hb, hml, hown, hts, hK, hA, ⟨hf1, hf2, hf3, hf4⟩, hSt, hret⟩ := hX
  intro H locs ls hP hD hS hl
  exact lv_ior hx hb hd (k r e hk H locs ls hP hD hS hl)
theorem h_ixor (hX : gOk B X own cc nL d rt) {x y : Int32} (hd : decode cc pc = .ok (.ixor, 1)) (k : gH B X K (pc + 1) lv (.int (x ^^^ y) :: st) ws E) : gH B X K pc lv (.int y :: .int x :: st) ws E := by
  intro r e hk
  obtain ⟨p, ev, R, s, m, args, below, meth, c, cells, slots, Q, A, Fin⟩ := X
  obtain ⟨hx, hb, hml, hown, hts, hK, hA, ⟨hf1, hf2, hf3, hf4⟩, hSt, hret⟩ := hX
  intro H locs ls hP hD hS hl
  exact lv_ixor hx hb hd (k r e hk H locs ls hP hD hS hl)
theorem h_ishl (hX : gOk B X own cc nL d rt) {x y : Int32} (hd : decode cc pc = .ok (.ishl, 1)) (k : gH B X K (pc + 1) lv (.int (x <<< (y &&& 31)) :: st) ws E) : gH B X K pc lv (.int y :: .int x :: st) ws E := by
  intro r e hk
  obtain ⟨p, ev, R, s, m, args, below, meth, c, cells, slots, Q, A, Fin⟩ := X
  obtain ⟨hx, hb, hml, hown, hts, hK, hA, ⟨hf1, hf2, hf3, hf4⟩, hSt, hret⟩ := hX
  intro H locs ls hP hD hS hl
  exact lv_ishl hx hb hd (k r e hk H locs ls hP hD hS hl)
theorem h_ishr (hX : gOk B X own cc nL d rt) {x y : Int32} (hd : decode cc pc = .ok (.ishr, 1)) (k : gH B X K (pc + 1) lv (.int (x >>> (y &&& 31)) :: st) ws E) : gH B X K pc lv (.int y :: .int x :: st) ws E := by
  intro r e hk
  obtain ⟨p, ev, R, s, m, args, below, meth, c, cells, slots, Q, A, Fin⟩ := X
  obtain ⟨hx, hb, hml, hown, hts, hK, hA, ⟨hf1, hf2, hf3, hf4⟩, hSt, hret⟩ := hX
  intro H locs ls hP hD hS hl
  exact lv_ishr hx hb hd (k r e hk H locs ls hP hD hS hl)
theorem h_iushr (hX : gOk B X own cc nL d rt) {x y : Int32} (hd : decode cc pc = .ok (.iushr, 1)) (k : gH B X K (pc + 1) lv (.int (x.toUInt32 >>> (y.toUInt32 &&& Int32.toUInt32 31)).toInt32 :: st) ws E) : gH B X K pc lv (.int y :: .int x :: st) ws E := by
  intro r e hk
  obtain ⟨p, ev, R, s, m, args, below, meth, c, cells, slots, Q, A, Fin⟩ := X
  obtain ⟨hx, hb, hml, hown, hts, hK, hA, ⟨hf1, hf2, hf3, hf4⟩, hSt, hret⟩ := hX
  intro H locs ls hP hD hS hl
  exact lv_iushr hx hb hd rfl (k r e hk H locs ls hP hD hS hl)
theorem h_ineg (hX : gOk B X own cc nL d rt) {x : Int32} (hd : decode cc pc = .ok (.ineg, 1)) (k : gH B X K (pc + 1) lv (.int (-x) :: st) ws E) : gH B X K pc lv (.int x :: st) ws E := by
  intro r e hk
  obtain ⟨p, ev, R, s, m, args, below, meth, c, cells, slots, Q, A, Fin⟩ := X
  obtain ⟨hx, hb, hml, hown, hts, hK, hA, ⟨hf1, hf2, hf3, hf4⟩, hSt, hret⟩ := hX
  intro H locs ls hP hD hS hl
  exact lv_ineg hx hb hd (k r e hk H locs ls hP hD hS hl)
theorem h_idivc (hX : gOk B X own cc nL d rt) {x y : Int32} (hd : decode cc pc = .ok (.idiv, 1)) (hy : ¬ y = 0) (k : gH B X K (pc + 1) lv (.int (x / y) :: st) ws E) : gH B X K pc lv (.int y :: .int x :: st) ws E := by
  intro r e hk
  obtain ⟨p, ev, R, s, m, args, below, meth, c, cells, slots, Q, A, Fin⟩ := X
  obtain ⟨hx, hb, hml, hown, hts, hK, hA, ⟨hf1, hf2, hf3, hf4⟩, hSt, hret⟩ := hX
  intro H locs ls hP hD hS hl
  exact lv_idiv hx hb hd hy (k r e hk H locs ls hP hD hS hl)
theorem h_iremc (hX : gOk B X own cc nL d rt) {x y : Int32} (hd : decode cc pc = .ok (.irem, 1)) (hy : ¬ y = 0) (k : gH B X K (pc + 1) lv (.int (x - x / y * y) :: st) ws E) : gH B X K pc lv (.int y :: .int x :: st) ws E := by
  intro r e hk
  obtain ⟨p, ev, R, s, m, args, below, meth, c, cells, slots, Q, A, Fin⟩ := X
  obtain ⟨hx, hb, hml, hown, hts, hK, hA, ⟨hf1, hf2, hf3, hf4⟩, hSt, hret⟩ := hX
  intro H locs ls hP hD hS hl
  exact lv_irem hx hb hd hy (k r e hk H locs ls hP hD hS hl)
theorem h_ldivc (hX : gOk B X own cc nL d rt) {x y : Int64} (hd : decode cc pc = .ok (.ldiv, 1)) (hy : ¬ y = 0) (k : gH B X K (pc + 1) lv (.long (x / y) :: st) ws E) : gH B X K pc lv (.long y :: .long x :: st) ws E := by
  intro r e hk
  obtain ⟨p, ev, R, s, m, args, below, meth, c, cells, slots, Q, A, Fin⟩ := X
  obtain ⟨hx, hb, hml, hown, hts, hK, hA, ⟨hf1, hf2, hf3, hf4⟩, hSt, hret⟩ := hX
  intro H locs ls hP hD hS hl
  exact lv_ldiv hx hb hd hy (k r e hk H locs ls hP hD hS hl)
theorem h_idiv (hX : gOk B X own cc nL d rt) {x y : Int32} (hd : decode cc pc = .ok (.idiv, 1)) (k : gH B X K (pc + 1) lv (.int (x / y) :: st) ws E) : gH B X K pc lv (.int y :: .int x :: st) ws (oD y E) := fun r e hk => h_idivc hX hd (oD_some e).1 k r (oD_some e).2 hk
theorem h_irem (hX : gOk B X own cc nL d rt) {x y : Int32} (hd : decode cc pc = .ok (.irem, 1)) (k : gH B X K (pc + 1) lv (.int (x - x / y * y) :: st) ws E) : gH B X K pc lv (.int y :: .int x :: st) ws (oD y E) := fun r e hk => h_iremc hX hd (oD_some e).1 k r (oD_some e).2 hk
theorem h_ldiv (hX : gOk B X own cc nL d rt) {x y : Int64} (hd : decode cc pc = .ok (.ldiv, 1)) (k : gH B X K (pc + 1) lv (.long (x / y) :: st) ws E) : gH B X K pc lv (.long y :: .long x :: st) ws (oDl y E) := fun r e hk => h_ldivc hX hd (oDl_some e).1 k r (oDl_some e).2 hk
theorem h_lrem (hX : gOk B X own cc nL d rt) {x y : Int64} (hd : decode cc pc = .ok (.lrem, 1)) (hy : ¬ y = 0) (k : gH B X K (pc + 1) lv (.long (x - x / y * y) :: st) ws E) : gH B X K pc lv (.long y :: .long x :: st) ws E := by
  intro r e hk
  obtain ⟨p, ev, R, s, m, args, below, meth, c, cells, slots, Q, A, Fin⟩ := X
  obtain ⟨hx, hb, hml, hown, hts, hK, hA, ⟨hf1, hf2, hf3, hf4⟩, hSt, hret⟩ := hX
  intro H locs ls hP hD hS hl
  exact lv_lrem hx hb hd hy (k r e hk H locs ls hP hD hS hl)
theorem h_ladd (hX : gOk B X own cc nL d rt) {x y : Int64} (hd : decode cc pc = .ok (.ladd, 1)) (k : gH B X K (pc + 1) lv (.long (x + y) :: st) ws E) : gH B X K pc lv (.long y :: .long x :: st) ws E := by
  intro r e hk
  obtain ⟨p, ev, R, s, m, args, below, meth, c, cells, slots, Q, A, Fin⟩ := X
  obtain ⟨hx, hb, hml, hown, hts, hK, hA, ⟨hf1, hf2, hf3, hf4⟩, hSt, hret⟩ := hX
  intro H locs ls hP hD hS hl
  exact lv_ladd hx hb hd (k r e hk H locs ls hP hD hS hl)
theorem h_lsub (hX : gOk B X own cc nL d rt) {x y : Int64} (hd : decode cc pc = .ok (.lsub, 1)) (k : gH B X K (pc + 1) lv (.long (x - y) :: st) ws E) : gH B X K pc lv (.long y :: .long x :: st) ws E := by
  intro r e hk
  obtain ⟨p, ev, R, s, m, args, below, meth, c, cells, slots, Q, A, Fin⟩ := X
  obtain ⟨hx, hb, hml, hown, hts, hK, hA, ⟨hf1, hf2, hf3, hf4⟩, hSt, hret⟩ := hX
  intro H locs ls hP hD hS hl
  exact lv_lsub hx hb hd (k r e hk H locs ls hP hD hS hl)
theorem h_lmul (hX : gOk B X own cc nL d rt) {x y : Int64} (hd : decode cc pc = .ok (.lmul, 1)) (k : gH B X K (pc + 1) lv (.long (x * y) :: st) ws E) : gH B X K pc lv (.long y :: .long x :: st) ws E := by
  intro r e hk
  obtain ⟨p, ev, R, s, m, args, below, meth, c, cells, slots, Q, A, Fin⟩ := X
  obtain ⟨hx, hb, hml, hown, hts, hK, hA, ⟨hf1, hf2, hf3, hf4⟩, hSt, hret⟩ := hX
  intro H locs ls hP hD hS hl
  exact lv_lmul hx hb hd (k r e hk H locs ls hP hD hS hl)
theorem h_land (hX : gOk B X own cc nL d rt) {x y : Int64} (hd : decode cc pc = .ok (.land, 1)) (k : gH B X K (pc + 1) lv (.long (x &&& y) :: st) ws E) : gH B X K pc lv (.long y :: .long x :: st) ws E := by
  intro r e hk
  obtain ⟨p, ev, R, s, m, args, below, meth, c, cells, slots, Q, A, Fin⟩ := X
  obtain ⟨hx, hb, hml, hown, hts, hK, hA, ⟨hf1, hf2, hf3, hf4⟩, hSt, hret⟩ := hX
  intro H locs ls hP hD hS hl
  exact lv_land hx hb hd (k r e hk H locs ls hP hD hS hl)
theorem h_lor (hX : gOk B X own cc nL d rt) {x y : Int64} (hd : decode cc pc = .ok (.lor, 1)) (k : gH B X K (pc + 1) lv (.long (x ||| y) :: st) ws E) : gH B X K pc lv (.long y :: .long x :: st) ws E := by
  intro r e hk
  obtain ⟨p, ev, R, s, m, args, below, meth, c, cells, slots, Q, A, Fin⟩ := X
  obtain ⟨hx, hb, hml, hown, hts, hK, hA, ⟨hf1, hf2, hf3, hf4⟩, hSt, hret⟩ := hX
  intro H locs ls hP hD hS hl
  exact lv_lor hx hb hd (k r e hk H locs ls hP hD hS hl)
theorem h_lshl (hX : gOk B X own cc nL d rt) {x : Int64} {y : Int32} (hd : decode cc pc = .ok (.lshl, 1)) (k : gH B X K (pc + 1) lv (.long (x <<< (y.toInt64 &&& 63)) :: st) ws E) : gH B X K pc lv (.int y :: .long x :: st) ws E := by
  intro r e hk
  obtain ⟨p, ev, R, s, m, args, below, meth, c, cells, slots, Q, A, Fin⟩ := X
  obtain ⟨hx, hb, hml, hown, hts, hK, hA, ⟨hf1, hf2, hf3, hf4⟩, hSt, hret⟩ := hX
  intro H locs ls hP hD hS hl
  exact lv_lshl hx hb hd rfl (k r e hk H locs ls hP hD hS hl)
theorem h_lushr (hX : gOk B X own cc nL d rt) {x : Int64} {y : Int32} (hd : decode cc pc = .ok (.lushr, 1)) (k : gH B X K (pc + 1) lv (.long (x.toUInt64 >>> (y.toInt64.toUInt64 &&& Int64.toUInt64 63)).toInt64 :: st) ws E) : gH B X K pc lv (.int y :: .long x :: st) ws E := by
  intro r e hk
  obtain ⟨p, ev, R, s, m, args, below, meth, c, cells, slots, Q, A, Fin⟩ := X
  obtain ⟨hx, hb, hml, hown, hts, hK, hA, ⟨hf1, hf2, hf3, hf4⟩, hSt, hret⟩ := hX
  intro H locs ls hP hD hS hl
  exact lv_lushr hx hb hd rfl (k r e hk H locs ls hP hD hS hl)
theorem h_lcmp (hX : gOk B X own cc nL d rt) {x y : Int64} (hd : decode cc pc = .ok (.lcmp, 1)) (k : gH B X K (pc + 1) lv (.int (lg_cmp x y) :: st) ws E) : gH B X K pc lv (.long y :: .long x :: st) ws E := by
  intro r e hk
  obtain ⟨p, ev, R, s, m, args, below, meth, c, cells, slots, Q, A, Fin⟩ := X
  obtain ⟨hx, hb, hml, hown, hts, hK, hA, ⟨hf1, hf2, hf3, hf4⟩, hSt, hret⟩ := hX
  intro H locs ls hP hD hS hl
  exact W.lcmp hx hb hd (k r e hk H locs ls hP hD hS hl)
theorem h_i2l (hX : gOk B X own cc nL d rt) {x : Int32} (hd : decode cc pc = .ok (.i2l, 1)) (k : gH B X K (pc + 1) lv (.long x.toInt64 :: st) ws E) : gH B X K pc lv (.int x :: st) ws E := by
  intro r e hk
  obtain ⟨p, ev, R, s, m, args, below, meth, c, cells, slots, Q, A, Fin⟩ := X
  obtain ⟨hx, hb, hml, hown, hts, hK, hA, ⟨hf1, hf2, hf3, hf4⟩, hSt, hret⟩ := hX
  intro H locs ls hP hD hS hl
  exact lv_i2l hx hb hd rfl (k r e hk H locs ls hP hD hS hl)
theorem h_l2i (hX : gOk B X own cc nL d rt) {x : Int64} (hd : decode cc pc = .ok (.l2i, 1)) (k : gH B X K (pc + 1) lv (.int x.toInt32 :: st) ws E) : gH B X K pc lv (.long x :: st) ws E := by
  intro r e hk
  obtain ⟨p, ev, R, s, m, args, below, meth, c, cells, slots, Q, A, Fin⟩ := X
  obtain ⟨hx, hb, hml, hown, hts, hK, hA, ⟨hf1, hf2, hf3, hf4⟩, hSt, hret⟩ := hX
  intro H locs ls hP hD hS hl
  exact lv_l2i hx hb hd rfl (k r e hk H locs ls hP hD hS hl)
theorem h_dup (hX : gOk B X own cc nL d rt) {v : Value} (hd : decode cc pc = .ok (.dup, 1)) (hv : v.category = 1) (k : gH B X K (pc + 1) lv (v :: v :: st) ws E) : gH B X K pc lv (v :: st) ws E := by
  intro r e hk
  obtain ⟨p, ev, R, s, m, args, below, meth, c, cells, slots, Q, A, Fin⟩ := X
  obtain ⟨hx, hb, hml, hown, hts, hK, hA, ⟨hf1, hf2, hf3, hf4⟩, hSt, hret⟩ := hX
  intro H locs ls hP hD hS hl
  exact lv_dup hx hb hd hv (k r e hk H locs ls hP hD hS hl)
theorem h_pop (hX : gOk B X own cc nL d rt) {v : Value} (hd : decode cc pc = .ok (.pop, 1)) (hv : v.category = 1) (k : gH B X K (pc + 1) lv (st) ws E) : gH B X K pc lv (v :: st) ws E := by
  intro r e hk
  obtain ⟨p, ev, R, s, m, args, below, meth, c, cells, slots, Q, A, Fin⟩ := X
  obtain ⟨hx, hb, hml, hown, hts, hK, hA, ⟨hf1, hf2, hf3, hf4⟩, hSt, hret⟩ := hX
  intro H locs ls hP hD hS hl
  exact lv_pop hx hb hd hv (k r e hk H locs ls hP hD hS hl)
theorem h_dup2 (hX : gOk B X own cc nL d rt) {v u : Value} (hd : decode cc pc = .ok (.dup2, 1)) (hv : v.category = 1) (hu : u.category = 1) (k : gH B X K (pc + 1) lv (v :: u :: v :: u :: st) ws E) : gH B X K pc lv (v :: u :: st) ws E := by
  intro r e hk
  obtain ⟨p, ev, R, s, m, args, below, meth, c, cells, slots, Q, A, Fin⟩ := X
  obtain ⟨hx, hb, hml, hown, hts, hK, hA, ⟨hf1, hf2, hf3, hf4⟩, hSt, hret⟩ := hX
  intro H locs ls hP hD hS hl
  exact lv_dup2_11 hx hb hd hv hu (k r e hk H locs ls hP hD hS hl)
theorem h_goto (hX : gOk B X own cc nL d rt) {off : Int} {tgt : Nat} (hd : decode cc pc = .ok (.goto off, 3)) (ht : (pc : Int) + off = (tgt : Int)) (k : gH B X K tgt lv st ws E) : gH B X K pc lv (st) ws E := by
  intro r e hk
  obtain ⟨p, ev, R, s, m, args, below, meth, c, cells, slots, Q, A, Fin⟩ := X
  obtain ⟨hx, hb, hml, hown, hts, hK, hA, ⟨hf1, hf2, hf3, hf4⟩, hSt, hret⟩ := hX
  intro H locs ls hP hD hS hl
  exact lv_goto hx hb hd ht (k r e hk H locs ls hP hD hS hl)
theorem h_if_eq (hX : gOk B X own cc nL d rt) {x : Int32} {off : Int} {tgt : Nat} {E1 E2 : Option ρ} (hd : decode cc pc = .ok (.ifCond .eq off, 3)) (ht : (pc : Int) + off = (tgt : Int)) (k1 : x = 0 → gH B X K tgt lv st ws E1) (k2 : ¬ (x = 0) → gH B X K (pc + 3) lv st ws E2) : gH B X K pc lv (.int x :: st) ws (if x = 0 then E1 else E2) := by
  intro r e hk
  obtain ⟨p, ev, R, s, m, args, below, meth, c, cells, slots, Q, A, Fin⟩ := X
  obtain ⟨hx, hb, hml, hown, hts, hK, hA, ⟨hf1, hf2, hf3, hf4⟩, hSt, hret⟩ := hX
  intro H locs ls hP hD hS hl
  refine lv_if_eq hx hb hd ht (fun hc => ?_) (fun hc => ?_)
  · exact k1 hc r ((if_pos hc).symm.trans e) hk H locs ls hP hD hS hl
  · exact k2 hc r ((if_neg hc).symm.trans e) hk H locs ls hP hD hS hl
theorem h_icmp_eq (hX : gOk B X own cc nL d rt) {x y : Int32} {off : Int} {tgt : Nat} {E1 E2 : Option ρ} (hd : decode cc pc = .ok (.if_icmp .eq off, 3)) (ht : (pc : Int) + off = (tgt : Int)) (k1 : x = y → gH B X K tgt lv st ws E1) (k2 : ¬ (x = y) → gH B X K (pc + 3) lv st ws E2) : gH B X K pc lv (.int y :: .int x :: st) ws (if x = y then E1 else E2) := by
  intro r e hk
  obtain ⟨p, ev, R, s, m, args, below, meth, c, cells, slots, Q, A, Fin⟩ := X
  obtain ⟨hx, hb, hml, hown, hts, hK, hA, ⟨hf1, hf2, hf3, hf4⟩, hSt, hret⟩ := hX
  intro H locs ls hP hD hS hl
  refine lv_icmp_eq hx hb hd ht (fun hc => ?_) (fun hc => ?_)
  · exact k1 hc r ((if_pos hc).symm.trans e) hk H locs ls hP hD hS hl
  · exact k2 hc r ((if_neg hc).symm.trans e) hk H locs ls hP hD hS hl
theorem h_if_ne (hX : gOk B X own cc nL d rt) {x : Int32} {off : Int} {tgt : Nat} {E1 E2 : Option ρ} (hd : decode cc pc = .ok (.ifCond .ne off, 3)) (ht : (pc : Int) + off = (tgt : Int)) (k1 : ¬ x = 0 → gH B X K tgt lv st ws E1) (k2 : x = 0 → gH B X K (pc + 3) lv st ws E2) : gH B X K pc lv (.int x :: st) ws (if x = 0 then E2 else E1) := by
  intro r e hk
  obtain ⟨p, ev, R, s, m, args, below, meth, c, cells, slots, Q, A, Fin⟩ := X
  obtain ⟨hx, hb, hml, hown, hts, hK, hA, ⟨hf1, hf2, hf3, hf4⟩, hSt, hret⟩ := hX
  intro H locs ls hP hD hS hl
  refine lv_if_ne hx hb hd ht (fun hc => ?_) (fun hc => ?_)
  · exact k1 hc r ((if_neg hc).symm.trans e) hk H locs ls hP hD hS hl
  · exact k2 hc r ((if_pos hc).symm.trans e) hk H locs ls hP hD hS hl
theorem h_icmp_ne (hX : gOk B X own cc nL d rt) {x y : Int32} {off : Int} {tgt : Nat} {E1 E2 : Option ρ} (hd : decode cc pc = .ok (.if_icmp .ne off, 3)) (ht : (pc : Int) + off = (tgt : Int)) (k1 : ¬ x = y → gH B X K tgt lv st ws E1) (k2 : x = y → gH B X K (pc + 3) lv st ws E2) : gH B X K pc lv (.int y :: .int x :: st) ws (if x = y then E2 else E1) := by
  intro r e hk
  obtain ⟨p, ev, R, s, m, args, below, meth, c, cells, slots, Q, A, Fin⟩ := X
  obtain ⟨hx, hb, hml, hown, hts, hK, hA, ⟨hf1, hf2, hf3, hf4⟩, hSt, hret⟩ := hX
  intro H locs ls hP hD hS hl
  refine lv_icmp_ne hx hb hd ht (fun hc => ?_) (fun hc => ?_)
  · exact k1 hc r ((if_neg hc).symm.trans e) hk H locs ls hP hD hS hl
  · exact k2 hc r ((if_pos hc).symm.trans e) hk H locs ls hP hD hS hl
theorem h_if_lt (hX : gOk B X own cc nL d rt) {x : Int32} {off : Int} {tgt : Nat} {E1 E2 : Option ρ} (hd : decode cc pc = .ok (.ifCond .lt off, 3)) (ht : (pc : Int) + off = (tgt : Int)) (k1 : x < 0 → gH B X K tgt lv st ws E1) (k2 : ¬ (x < 0) → gH B X K (pc + 3) lv st ws E2) : gH B X K pc lv (.int x :: st) ws (if x < 0 then E1 else E2) := by
  intro r e hk
  obtain ⟨p, ev, R, s, m, args, below, meth, c, cells, slots, Q, A, Fin⟩ := X
  obtain ⟨hx, hb, hml, hown, hts, hK, hA, ⟨hf1, hf2, hf3, hf4⟩, hSt, hret⟩ := hX
  intro H locs ls hP hD hS hl
  refine lv_if_lt hx hb hd ht (fun hc => ?_) (fun hc => ?_)
  · exact k1 hc r ((if_pos hc).symm.trans e) hk H locs ls hP hD hS hl
  · exact k2 hc r ((if_neg hc).symm.trans e) hk H locs ls hP hD hS hl
theorem h_icmp_lt (hX : gOk B X own cc nL d rt) {x y : Int32} {off : Int} {tgt : Nat} {E1 E2 : Option ρ} (hd : decode cc pc = .ok (.if_icmp .lt off, 3)) (ht : (pc : Int) + off = (tgt : Int)) (k1 : x < y → gH B X K tgt lv st ws E1) (k2 : ¬ (x < y) → gH B X K (pc + 3) lv st ws E2) : gH B X K pc lv (.int y :: .int x :: st) ws (if x < y then E1 else E2) := by
  intro r e hk
  obtain ⟨p, ev, R, s, m, args, below, meth, c, cells, slots, Q, A, Fin⟩ := X
  obtain ⟨hx, hb, hml, hown, hts, hK, hA, ⟨hf1, hf2, hf3, hf4⟩, hSt, hret⟩ := hX
  intro H locs ls hP hD hS hl
  refine lv_icmp_lt hx hb hd ht (fun hc => ?_) (fun hc => ?_)
  · exact k1 hc r ((if_pos hc).symm.trans e) hk H locs ls hP hD hS hl
  · exact k2 hc r ((if_neg hc).symm.trans e) hk H locs ls hP hD hS hl
theorem h_if_ge (hX : gOk B X own cc nL d rt) {x : Int32} {off : Int} {tgt : Nat} {E1 E2 : Option ρ} (hd : decode cc pc = .ok (.ifCond .ge off, 3)) (ht : (pc : Int) + off = (tgt : Int)) (k1 : 0 ≤ x → gH B X K tgt lv st ws E1) (k2 : ¬ (0 ≤ x) → gH B X K (pc + 3) lv st ws E2) : gH B X K pc lv (.int x :: st) ws (if 0 ≤ x then E1 else E2) := by
  intro r e hk
  obtain ⟨p, ev, R, s, m, args, below, meth, c, cells, slots, Q, A, Fin⟩ := X
  obtain ⟨hx, hb, hml, hown, hts, hK, hA, ⟨hf1, hf2, hf3, hf4⟩, hSt, hret⟩ := hX
  intro H locs ls hP hD hS hl
  refine lv_if_ge hx hb hd ht (fun hc => ?_) (fun hc => ?_)
  · exact k1 hc r ((if_pos hc).symm.trans e) hk H locs ls hP hD hS hl
  · exact k2 hc r ((if_neg hc).symm.trans e) hk H locs ls hP hD hS hl
theorem h_icmp_ge (hX : gOk B X own cc nL d rt) {x y : Int32} {off : Int} {tgt : Nat} {E1 E2 : Option ρ} (hd : decode cc pc = .ok (.if_icmp .ge off, 3)) (ht : (pc : Int) + off = (tgt : Int)) (k1 : y ≤ x → gH B X K tgt lv st ws E1) (k2 : ¬ (y ≤ x) → gH B X K (pc + 3) lv st ws E2) : gH B X K pc lv (.int y :: .int x :: st) ws (if y ≤ x then E1 else E2) := by
  intro r e hk
  obtain ⟨p, ev, R, s, m, args, below, meth, c, cells, slots, Q, A, Fin⟩ := X
  obtain ⟨hx, hb, hml, hown, hts, hK, hA, ⟨hf1, hf2, hf3, hf4⟩, hSt, hret⟩ := hX
  intro H locs ls hP hD hS hl
  refine lv_icmp_ge hx hb hd ht (fun hc => ?_) (fun hc => ?_)
  · exact k1 hc r ((if_pos hc).symm.trans e) hk H locs ls hP hD hS hl
  · exact k2 hc r ((if_neg hc).symm.trans e) hk H locs ls hP hD hS hl
theorem h_if_gt (hX : gOk B X own cc nL d rt) {x : Int32} {off : Int} {tgt : Nat} {E1 E2 : Option ρ} (hd : decode cc pc = .ok (.ifCond .gt off, 3)) (ht : (pc : Int) + off = (tgt : Int)) (k1 : 0 < x → gH B X K tgt lv st ws E1) (k2 : ¬ (0 < x) → gH B X K (pc + 3) lv st ws E2) : gH B X K pc lv (.int x :: st) ws (if 0 < x then E1 else E2) := by
  intro r e hk
  obtain ⟨p, ev, R, s, m, args, below, meth, c, cells, slots, Q, A, Fin⟩ := X
  obtain ⟨hx, hb, hml, hown, hts, hK, hA, ⟨hf1, hf2, hf3, hf4⟩, hSt, hret⟩ := hX
  intro H locs ls hP hD hS hl
  refine lv_if_gt hx hb hd ht (fun hc => ?_) (fun hc => ?_)
  · exact k1 hc r ((if_pos hc).symm.trans e) hk H locs ls hP hD hS hl
  · exact k2 hc r ((if_neg hc).symm.trans e) hk H locs ls hP hD hS hl
theorem h_icmp_gt (hX : gOk B X own cc nL d rt) {x y : Int32} {off : Int} {tgt : Nat} {E1 E2 : Option ρ} (hd : decode cc pc = .ok (.if_icmp .gt off, 3)) (ht : (pc : Int) + off = (tgt : Int)) (k1 : y < x → gH B X K tgt lv st ws E1) (k2 : ¬ (y < x) → gH B X K (pc + 3) lv st ws E2) : gH B X K pc lv (.int y :: .int x :: st) ws (if y < x then E1 else E2) := by
  intro r e hk
  obtain ⟨p, ev, R, s, m, args, below, meth, c, cells, slots, Q, A, Fin⟩ := X
  obtain ⟨hx, hb, hml, hown, hts, hK, hA, ⟨hf1, hf2, hf3, hf4⟩, hSt, hret⟩ := hX
  intro H locs ls hP hD hS hl
  refine lv_icmp_gt hx hb hd ht (fun hc => ?_) (fun hc => ?_)
  · exact k1 hc r ((if_pos hc).symm.trans e) hk H locs ls hP hD hS hl
  · exact k2 hc r ((if_neg hc).symm.trans e) hk H locs ls hP hD hS hl
theorem h_if_le (hX : gOk B X own cc nL d rt) {x : Int32} {off : Int} {tgt : Nat} {E1 E2 : Option ρ} (hd : decode cc pc = .ok (.ifCond .le off, 3)) (ht : (pc : Int) + off = (tgt : Int)) (k1 : x ≤ 0 → gH B X K tgt lv st ws E1) (k2 : ¬ (x ≤ 0) → gH B X K (pc + 3) lv st ws E2) : gH B X K pc lv (.int x :: st) ws (if x ≤ 0 then E1 else E2) := by
  intro r e hk
  obtain ⟨p, ev, R, s, m, args, below, meth, c, cells, slots, Q, A, Fin⟩ := X
  obtain ⟨hx, hb, hml, hown, hts, hK, hA, ⟨hf1, hf2, hf3, hf4⟩, hSt, hret⟩ := hX
  intro H locs ls hP hD hS hl
  refine lv_if_le hx hb hd ht (fun hc => ?_) (fun hc => ?_)
  · exact k1 hc r ((if_pos hc).symm.trans e) hk H locs ls hP hD hS hl
  · exact k2 hc r ((if_neg hc).symm.trans e) hk H locs ls hP hD hS hl
theorem h_icmp_le (hX : gOk B X own cc nL d rt) {x y : Int32} {off : Int} {tgt : Nat} {E1 E2 : Option ρ} (hd : decode cc pc = .ok (.if_icmp .le off, 3)) (ht : (pc : Int) + off = (tgt : Int)) (k1 : x ≤ y → gH B X K tgt lv st ws E1) (k2 : ¬ (x ≤ y) → gH B X K (pc + 3) lv st ws E2) : gH B X K pc lv (.int y :: .int x :: st) ws (if x ≤ y then E1 else E2) := by
  intro r e hk
  obtain ⟨p, ev, R, s, m, args, below, meth, c, cells, slots, Q, A, Fin⟩ := X
  obtain ⟨hx, hb, hml, hown, hts, hK, hA, ⟨hf1, hf2, hf3, hf4⟩, hSt, hret⟩ := hX
  intro H locs ls hP hD hS hl
  refine lv_icmp_le hx hb hd ht (fun hc => ?_) (fun hc => ?_)
  · exact k1 hc r ((if_pos hc).symm.trans e) hk H locs ls hP hD hS hl
  · exact k2 hc r ((if_neg hc).symm.trans e) hk H locs ls hP hD hS hl
theorem h_tsout (hX : gOk B X own cc nL d rt) {dflt lo hi : Int} {offs : Array Int} {len : Nat} {x : Int32} {tgt : Nat} (hd : decode cc pc = .ok (.tableswitch dflt lo hi offs, len)) (ht : (pc : Int) + dflt = (tgt : Int)) (h : x.toInt < lo ∨ hi < x.toInt) (k : gH B X K tgt lv st ws E) : gH B X K pc lv (.int x :: st) ws E := by
  intro r e hk
  obtain ⟨p, ev, R, s, m, args, below, meth, c, cells, slots, Q, A, Fin⟩ := X
  obtain ⟨hx, hb, hml, hown, hts, hK, hA, ⟨hf1, hf2, hf3, hf4⟩, hSt, hret⟩ := hX
  intro H locs ls hP hD hS hl
  exact lv_tableOut hx hb hd h ht (k r e hk H locs ls hP hD hS hl)
theorem h_tsin (hX : gOk B X own cc nL d rt) {dflt lo hi off : Int} {offs : Array Int} {len : Nat} {x c : Int32} {tgt : Nat} (hd : decode cc pc = .ok (.tableswitch dflt lo hi offs, len)) (hc : x = c) (h1 : ¬ c.toInt < lo) (h2 : ¬ hi < c.toInt) (ho : offs[(c.toInt - lo).toNat]? = some off) (ht : (pc : Int) + off = (tgt : Int)) (k : gH B X K tgt lv st ws E) : gH B X K pc lv (.int x :: st) ws E := by
  intro r e hk
  obtain ⟨p, ev, R, s, m, args, below, meth, c, cells, slots, Q, A, Fin⟩ := X
  obtain ⟨hx, hb, hml, hown, hts, hK, hA, ⟨hf1, hf2, hf3, hf4⟩, hSt, hret⟩ := hX
  intro H locs ls hP hD hS hl
  subst hc
  exact lv_tableIn hx hb hd h1 h2 ho ht (k r e hk H locs ls hP hD hS hl)
theorem h_lksw (hX : gOk B X own cc nL d rt) {dflt off : Int} {ps : Array (Int × Int)} {len : Nat} {x : Int32} {tgt : Nat} (hd : decode cc pc = .ok (.lookupswitch dflt ps, len)) (hp : (ps.toList.zip (ps.toList.drop 1)).all (fun (a, next) => a.1 < next.1) = true) (ho : Op.lookupswitch.offset ps.toList dflt x.toInt = off) (ht : (pc : Int) + off = (tgt : Int)) (k : gH B X K tgt lv st ws E) : gH B X K pc lv (.int x :: st) ws E := by
  intro r e hk
  obtain ⟨p, ev, R, s, m, args, below, meth, c, cells, slots, Q, A, Fin⟩ := X
  obtain ⟨hx, hb, hml, hown, hts, hK, hA, ⟨hf1, hf2, hf3, hf4⟩, hSt, hret⟩ := hX
  intro H locs ls hP hD hS hl
  exact lv_lookup hx hb hd hp ho ht (k r e hk H locs ls hP hD hS hl)

theorem h_getf (hX : gOk B X own cc nL d rt) {ref C : String} {T : u_T} {N ci ix : Nat} {a : Nat} {v : Value} (hin : ∀ w ∈ u_ws C T N, w ∈ gT) (q0 : Nat) {fs : List Value} (he : ws[q0]? = some (a, .inr (ci, fs))) (hc : vwCl[ci]? = some (C, T, N)) (f : Nat) (hf : f < N) (hw : Cond.fieldLink own ix ref (T f).2.1 (T f).2.2.1 ∈ gT) (hr : (T f).1 = ref) (hv : fs[f]? = some v) (hd : decode cc pc = .ok (.getfield ix, 3)) (k : gH B X K (pc + 3) lv (v :: st) ws E) : gH B X K pc lv (.ref a :: st) ws E := by
  intro r e hk
  obtain ⟨p, ev, R, s, m, args, below, meth, c, cells, slots, Q, A, Fin⟩ := X
  obtain ⟨hx, hb, hml, hown, hts, hK, hA, ⟨hf1, hf2, hf3, hf4⟩, hSt, hret⟩ := hX
  intro H locs ls hP hD hS hl
  exact va_get (D := B.2.1) (tys := gTys B) hx hb hts hin hown hK hP q0 he hc f hf (hts _ hw) (by rw [hr]; exact fun _ h => h) hv hd (k r e hk H locs ls hP hD hS hl)
theorem h_putf (hX : gOk B X own cc nL d rt) {ref C : String} {T : u_T} {N ci ix : Nat} {a : Nat} {v : Value} {ty : FieldType} {ws' : va_W} (hin : ∀ w ∈ u_ws C T N, w ∈ gT) (ty0 : Nat → FieldType) (hty : ∀ k, k < N → parseFieldDescriptor (T k).2.2.1 = some (ty0 k)) (hnm : ∀ a, a < N → ∀ b, b < N → a ≠ b → (T a).2.1 ≠ (T b).2.1) (q0 : Nat) {fs : List Value} (he : ws[q0]? = some (a, .inr (ci, fs))) (hc : vwCl[ci]? = some (C, T, N)) (f : Nat) (hf : f < N) (hw : Cond.fieldLink own ix ref (T f).2.1 (T f).2.2.1 ∈ gT) (hr : (T f).1 = ref) (hfin : (T f).2.2.2 = false) (hpd : parseFieldDescriptor (T f).2.2.1 = some ty) (hn : narrow ty v = v) (hfit : fits ty v = true) (hlen : f < fs.length) (hset : ws.set q0 (a, .inr (ci, fs.set f v)) = ws') (hd : decode cc pc = .ok (.putfield ix, 3)) (k : gH B X K (pc + 3) lv st ws' E) : gH B X K pc lv (v :: .ref a :: st) ws E := by
  intro r e hk
  obtain ⟨p, ev, R, s, m, args, below, meth, c, cells, slots, Q, A, Fin⟩ := X
  obtain ⟨hx, hb, hml, hown, hts, hK, hA, ⟨hf1, hf2, hf3, hf4⟩, hSt, hret⟩ := hX
  intro H locs ls hP hD hS hl
  subst hset
  exact va_put (D := B.2.1) (tys := gTys B) hx hb hts hin ty0 hty hnm hown hK hP hD hS q0 he hc f hf (hts _ hw) (by rw [hr]; exact fun _ h => h) hfin hpd hn hfit hlen hd (fun H locs hP hD hS => k r e hk H locs ls hP hD hS hl)
theorem h_gets (hX : gOk B X own cc nL d rt) {ix : Nat} (t : Nat) {q : String × List Int32} (hq : gTab[t]? = some q) (hw : (own, ix, q.1) ∈ gNestF) (hd : decode cc pc = .ok (.getstatic ix, 3)) (k : gH B X K (pc + 3) lv (.ref (B.2.2.2.2.2 t) :: st) ws E) : gH B X K pc lv st ws E := by
  intro r e hk
  obtain ⟨p, ev, R, s, m, args, below, meth, c, cells, slots, Q, A, Fin⟩ := X
  obtain ⟨hx, hb, hml, hown, hts, hK, hA, ⟨hf1, hf2, hf3, hf4⟩, hSt, hret⟩ := hX
  intro H locs ls hP hD hS hl
  exact va_getsN hx hb (hSt.1 t q hq).1 hS hown (va_Nw.use rfl (hSt.2.1 _ hw)) (fun _ h => h) hd (k r e hk H locs ls hP hD hS hl)
theorem h_tld (hX : gOk B X own cc nL d rt) {i : Int32} (t : Nat) {nm : String} {xs : List Int32} (hq : gTab[t]? = some (nm, xs)) (hd : decode cc pc = .ok (.iaload, 1)) (k : gH B X K (pc + 1) lv (.int (xs.getD i.toNatClampNeg 0) :: st) ws E) : gH B X K pc lv (.int i :: .ref (B.2.2.2.2.2 t) :: st) ws (oI i xs.length E) := by
  intro r e hk
  obtain ⟨hi, e⟩ := oI_some e
  obtain ⟨p, ev, R, s, m, args, below, meth, c, cells, slots, Q, A, Fin⟩ := X
  obtain ⟨hx, hb, hml, hown, hts, hK, hA, ⟨hf1, hf2, hf3, hf4⟩, hSt, hret⟩ := hX
  intro H locs ls hP hD hS hl
  exact va_ti hx hb (hSt.1 t _ hq).2 hS hi rfl hd (k r e hk H locs ls hP hD hS hl)
theorem h_tlen (hX : gOk B X own cc nL d rt) (t : Nat) {nm : String} {xs : List Int32} {v : Int32} (hq : gTab[t]? = some (nm, xs)) (hv : Int32.ofNat xs.length = v) (hd : decode cc pc = .ok (.arraylength, 1)) (k : gH B X K (pc + 1) lv (.int v :: st) ws E) : gH B X K pc lv (.ref (B.2.2.2.2.2 t) :: st) ws E := by
  intro r e hk
  obtain ⟨p, ev, R, s, m, args, below, meth, c, cells, slots, Q, A, Fin⟩ := X
  obtain ⟨hx, hb, hml, hown, hts, hK, hA, ⟨hf1, hf2, hf3, hf4⟩, hSt, hret⟩ := hX
  intro H locs ls hP hD hS hl
  exact va_tlen hx hb (hSt.1 t _ hq).2 hS hv hd (k r e hk H locs ls hP hD hS hl)

theorem h_iald (hX : gOk B X own cc nL d rt) {a n : Nat} {f : Nat → Int32} {i : Int32} (q0 : Nat) (ha : ws[q0]? = some (a, .inl (B.2.2.1.1, n, .inl f))) (hd : decode cc pc = .ok (.iaload, 1)) (k : gH B X K (pc + 1) lv (.int (f i.toNatClampNeg) :: st) ws E) : gH B X K pc lv (.int i :: .ref a :: st) ws (oI i n E) := by
  intro r e hk
  obtain ⟨hi, e⟩ := oI_some e
  obtain ⟨p, ev, R, s, m, args, below, meth, c, cells, slots, Q, A, Fin⟩ := X
  obtain ⟨hx, hb, hml, hown, hts, hK, hA, ⟨hf1, hf2, hf3, hf4⟩, hSt, hret⟩ := hX
  intro H locs ls hP hD hS hl
  exact va_iald (D := B.2.1) (tys := gTys B) hx hb hK hP q0 0 ha rfl hi hd (k r e hk H locs ls hP hD hS hl)
theorem h_iast (hX : gOk B X own cc nL d rt) {a n : Nat} {f : Nat → Int32} {i : Int32} {x : Int32} {ws' : va_W} (q0 : Nat) (ha : ws[q0]? = some (a, .inl (B.2.2.1.1, n, .inl f))) (hset : ws.set q0 (a, .inl (B.2.2.1.1, n, .inl (upd f i.toNatClampNeg x))) = ws') (hd : decode cc pc = .ok (.iastore, 1)) (k : gH B X K (pc + 1) lv st ws' E) : gH B X K pc lv (.int x :: .int i :: .ref a :: st) ws (oI i n E) := by
  intro r e hk
  obtain ⟨hi, e⟩ := oI_some e
  obtain ⟨p, ev, R, s, m, args, below, meth, c, cells, slots, Q, A, Fin⟩ := X
  obtain ⟨hx, hb, hml, hown, hts, hK, hA, ⟨hf1, hf2, hf3, hf4⟩, hSt, hret⟩ := hX
  intro H locs ls hP hD hS hl
  subst hset
  exact va_iast (D := B.2.1) (tys := gTys B) hx hb hK hP hD hS q0 0 ha rfl hi hd (fun H locs hP hD hS => k r e hk H locs ls hP hD hS hl)
theorem h_zald (hX : gOk B X own cc nL d rt) {a n : Nat} {f : Nat → Int32} {i : Int32} (q0 : Nat) (ha : ws[q0]? = some (a, .inl (B.2.2.1.2.2, n, .inl f))) (hd : decode cc pc = .ok (.baload, 1)) (k : gH B X K (pc + 1) lv (.int (f i.toNatClampNeg) :: st) ws E) : gH B X K pc lv (.int i :: .ref a :: st) ws (oI i n E) := by
  intro r e hk
  obtain ⟨hi, e⟩ := oI_some e
  obtain ⟨p, ev, R, s, m, args, below, meth, c, cells, slots, Q, A, Fin⟩ := X
  obtain ⟨hx, hb, hml, hown, hts, hK, hA, ⟨hf1, hf2, hf3, hf4⟩, hSt, hret⟩ := hX
  intro H locs ls hP hD hS hl
  exact va_zald (D := B.2.1) (tys := gTys B) hx hb hK hP q0 2 ha rfl hi hd (k r e hk H locs ls hP hD hS hl)
theorem h_zast (hX : gOk B X own cc nL d rt) {a n : Nat} {f : Nat → Int32} {i : Int32} {x : Int32} {ws' : va_W} (q0 : Nat) (ha : ws[q0]? = some (a, .inl (B.2.2.1.2.2, n, .inl f))) (hset : ws.set q0 (a, .inl (B.2.2.1.2.2, n, .inl (upd f i.toNatClampNeg (vp_nar .boolean x)))) = ws') (hd : decode cc pc = .ok (.bastore, 1)) (k : gH B X K (pc + 1) lv st ws' E) : gH B X K pc lv (.int x :: .int i :: .ref a :: st) ws (oI i n E) := by
  intro r e hk
  obtain ⟨hi, e⟩ := oI_some e
  obtain ⟨p, ev, R, s, m, args, below, meth, c, cells, slots, Q, A, Fin⟩ := X
  obtain ⟨hx, hb, hml, hown, hts, hK, hA, ⟨hf1, hf2, hf3, hf4⟩, hSt, hret⟩ := hX
  intro H locs ls hP hD hS hl
  subst hset
  exact va_zast (D := B.2.1) (tys := gTys B) hx hb hK hP hD hS q0 2 ha rfl hi hd (fun H locs hP hD hS => k r e hk H locs ls hP hD hS hl)
theorem h_lald (hX : gOk B X own cc nL d rt) {a n : Nat} {f : Nat → Int64} {i : Int32} (q0 : Nat) (ha : ws[q0]? = some (a, .inl (B.2.2.1.2.1, n, .inr (.inl f)))) (hd : decode cc pc = .ok (.laload, 1)) (k : gH B X K (pc + 1) lv (.long (f i.toNatClampNeg) :: st) ws E) : gH B X K pc lv (.int i :: .ref a :: st) ws (oI i n E) := by
  intro r e hk
  obtain ⟨hi, e⟩ := oI_some e
  obtain ⟨p, ev, R, s, m, args, below, meth, c, cells, slots, Q, A, Fin⟩ := X
  obtain ⟨hx, hb, hml, hown, hts, hK, hA, ⟨hf1, hf2, hf3, hf4⟩, hSt, hret⟩ := hX
  intro H locs ls hP hD hS hl
  exact va_lald (D := B.2.1) (tys := gTys B) hx hb hK hP q0 1 ha rfl hi hd (k r e hk H locs ls hP hD hS hl)
theorem h_last (hX : gOk B X own cc nL d rt) {a n : Nat} {f : Nat → Int64} {i : Int32} {x : Int64} {ws' : va_W} (q0 : Nat) (ha : ws[q0]? = some (a, .inl (B.2.2.1.2.1, n, .inr (.inl f)))) (hset : ws.set q0 (a, .inl (B.2.2.1.2.1, n, .inr (.inl (vp_updL f i.toNatClampNeg x)))) = ws') (hd : decode cc pc = .ok (.lastore, 1)) (k : gH B X K (pc + 1) lv st ws' E) : gH B X K pc lv (.long x :: .int i :: .ref a :: st) ws (oI i n E) := by
  intro r e hk
  obtain ⟨hi, e⟩ := oI_some e
  obtain ⟨p, ev, R, s, m, args, below, meth, c, cells, slots, Q, A, Fin⟩ := X
  obtain ⟨hx, hb, hml, hown, hts, hK, hA, ⟨hf1, hf2, hf3, hf4⟩, hSt, hret⟩ := hX
  intro H locs ls hP hD hS hl
  subst hset
  exact va_last (D := B.2.1) (tys := gTys B) hx hb hK hP hD hS q0 1 ha rfl hi hd (fun H locs hP hD hS => k r e hk H locs ls hP hD hS hl)
theorem h_alen (hX : gOk B X own cc nL d rt) {a : Nat} {x : vp_A} {v : Int32} (q0 : Nat) (ha : ws[q0]? = some (a, .inl (B.2.2.1.1, x))) (hv : Int32.ofNat x.1 = v) (hd : decode cc pc = .ok (.arraylength, 1)) (k : gH B X K (pc + 1) lv (.int v :: st) ws E) : gH B X K pc lv (.ref a :: st) ws E := by
  intro r e hk
  obtain ⟨p, ev, R, s, m, args, below, meth, c, cells, slots, Q, A, Fin⟩ := X
  obtain ⟨hx, hb, hml, hown, hts, hK, hA, ⟨hf1, hf2, hf3, hf4⟩, hSt, hret⟩ := hX
  intro H locs ls hP hD hS hl
  exact va_alen (D := B.2.1) (tys := gTys B) hx hb hK hP q0 0 ha rfl hv hd (k r e hk H locs ls hP hD hS hl)
/-- the end of a method -/
theorem h_ret (hX : gOk B X own cc nL d rt) {rv : Option Value} (hd : decode cc pc = .ok (gRI rv, 1)) (hn : gRN rt rv) {q : ρ} (hk : K q → gFin X rv ws) : gH B X K pc lv rv.toList ws (some q) := by
  intro r e hk2
  cases e
  have hF := hk hk2
  obtain ⟨p, ev, R, s, m, args, below, meth, c, cells, slots, Q, A, Fin⟩ := X
  obtain ⟨hx, hb, hml, hown, hts, hK, hA, ⟨hf1, hf2, hf3, hf4⟩, hSt, hret⟩ := hX
  intro H locs ls hP hD hS hl
  exact hret rv ws hF hn H locs ls pc hP hD hS hd

end CORE
