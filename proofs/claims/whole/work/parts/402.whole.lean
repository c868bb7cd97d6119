def R_law : String := "WeatherMarblesLaw"
def lw_P (b : Addr) (xs : List Int32) (args : Array Value) (s : State) : Prop := args = #[.ref b] ∧ s.IntsAt b xs ∧ xs.length ≤ 3072 ∧ (Jvm.Cond.and given_1 narrow_1).before args s = true
def lw_Q (_ : Array Value) (s : State) (o : Outcome) (t : State) : Prop := o = .returned (some (.int 1)) ∧ Framed s o t [] 601024 7293034
def lw_Z (below : List Frame) (a : Array Value) (s : State) : State → Prop := fun t => ∃ o, t.status = .running ∧ Ended t below o ∧ lw_Q a s o t
/-- the law's own end, with 1 on the stack, nothing written that was there before, its room as the claim has it -/
theorem lw_ret {p : Program} {l : Launch} {e : Env} {s : State} {m : MethodId} {below : List Frame} {meth : Method} {c : Code} {b : Nat} (hx : p.tables.exec = Jvm.exec) (hb : c.code = code) (hr : meth.sig.returnType = ret) (hlocks : meth.locks = false) {pc : Nat} {H : Heap} {ls : Array Slot} (hdg : decode code pc = .ok (.ireturn, 1)) : W p l e room_1 s m #[Value.ref b] below meth c H [] 601024 7293034 (lw_Z below #[Value.ref b] s) (F0 m pc ls [.int 1]) := by
  intro T hT X
  obtain ⟨fs, hret, hrun, hended, hW, hframe⟩ := X.leave (v := some (.int 1)) (hlocks := hlocks) (fun h => by rw [hr] at h; cases h)
  have hmeth' : T.vm.method? m = some meth := X.method'
  refine ⟨T.setFrames fs, ?_, .returned (some (.int 1)), hrun, hended, rfl, ⟨_, rfl⟩, hW, hframe⟩
  jvm_step X.here [X.here.top, hx, hb, hdg, hmeth', hr, ret, narrow_b1]
  (try refine ⟨rfl, ?_⟩); (try refine ⟨rfl, ?_⟩)
  first | (intro acts; rw [hret _ acts rfl rfl rfl]) | rw [hret _ _ rfl rfl rfl]
  exact Steps.refl _
/-- what holds at the law's entry: the machine, the code, the tables' words (any of lw_tbl by 'hts w (by decide +kernel)'), the script of L ints xs at the cell b, what the Statement gives of the start (any of its parts by flat_of_before) -/
def lw_At (p : Program) (s : State) (m : MethodId) (meth : Method) (c : Code) (b L : Nat) (xs : Nat → Int32) : Prop :=
  p.tables.exec = Jvm.exec ∧ c.code = code ∧ meth.sig.returnType = ret ∧ c.maxLocals = 7 ∧ s.vm.findClass R_law = some m.cls ∧ (∀ w ∈ lw_tbl, w.before #[Value.ref b] s = true) ∧ va_X b L xs s s.heap ∧ b < s.heap.size ∧ meth.locks = false ∧ (Jvm.Cond.and given_1 narrow_1).before #[Value.ref b] s = true
theorem winst2_RX0 : Cond.instantiable RX0 10 ∈ gT := gw1 (i := 201) rfl rfl
theorem winst2_RX1 : Cond.instantiable RX1 8 ∈ gT := gw1 (i := 239) rfl rfl
theorem winst2_RX2 : Cond.instantiable RX2 3 ∈ gT := gw1 (i := 75) rfl rfl
theorem winst2_RX3 : Cond.instantiable RX3 5 ∈ gT := gw1 (i := 91) rfl rfl
theorem winst2_RX4 : Cond.instantiable RX4 6 ∈ gT := gw1 (i := 115) rfl rfl
theorem winst2_RX5 : Cond.instantiable RX5 8 ∈ gT := gw1 (i := 147) rfl rfl
theorem winst2_RX6 : Cond.instantiable RX6 5 ∈ gT := gw1 (i := 179) rfl rfl
theorem winst2_RX7 : Cond.instantiable RX7 3 ∈ gT := gw1 (i := 30) rfl rfl
theorem winst2_RX8 : Cond.instantiable RX8 2 ∈ gT := gw1 (i := 53) rfl rfl
theorem winst2_RX9 : Cond.instantiable RX9 2 ∈ gT := gw1 (i := 47) rfl rfl
theorem winst2_RX10 : Cond.instantiable RX10 13 ∈ gT := gw1 (i := 22) rfl rfl
theorem winst2_RX11 : Cond.instantiable RX11 47 ∈ gT := gw6 (i := 41) rfl rfl
theorem wcl_RL_8 : Cond.classLink RL 8 RX10 ∈ gT := gw1 (i := 21) rfl rfl
theorem wcl_RL_16 : Cond.classLink RL 16 RX11 ∈ gT := gw6 (i := 40) rfl rfl
theorem wml_RL_15 : Cond.methodLink RL 15 yX10_init ∈ gT := gw1 (i := 23) rfl rfl
theorem wml_RL_18 : Cond.methodLink RL 18 yX11_init ∈ gT := gw6 (i := 42) rfl rfl
theorem wim2_X10_init : Cond.instanceMethod yX10_init ∈ gT := gw1 (i := 24) rfl rfl
theorem wcod2_X10_init : Cond.code yX10_init cX10_init 1 none ∈ gT := gw1 (i := 25) rfl rfl
theorem wim2_X11_init : Cond.instanceMethod yX11_init ∈ gT := gw6 (i := 43) rfl rfl
theorem wcod2_X11_init : Cond.code yX11_init cX11_init 1 none ∈ gT := gw6 (i := 44) rfl rfl
theorem wst_lays_0 : Cond.laysStatic "WeatherMarbles" "SORT_LETTERS" "[I" ∈ lw_tbl := List.mem_append_right _ (List.mem_append_left _ (List.mem_of_getElem? (l := tables_1_1) (i := 59) rfl))
theorem wst_lays_1 : Cond.laysStatic "WeatherMarbles" "FIRST_ROW" "[I" ∈ lw_tbl := List.mem_append_right _ (List.mem_append_right _ (List.mem_append_left _ (List.mem_of_getElem? (l := tables_1_2) (i := 114) rfl)))
theorem wst_lays_2 : Cond.laysStatic "WeatherMarbles" "MOST_CLAUSES" "[I" ∈ lw_tbl := List.mem_append_right _ (List.mem_append_right _ (List.mem_append_left _ (List.mem_of_getElem? (l := tables_1_2) (i := 138) rfl)))
theorem wst_lays_3 : Cond.laysStatic "WeatherMarbles" "ITEM_LETTERS" "[I" ∈ lw_tbl := List.mem_append_right _ (List.mem_append_right _ (List.mem_append_left _ (List.mem_of_getElem? (l := tables_1_2) (i := 147) rfl)))
theorem wst_lays_4 : Cond.laysStatic "WeatherMarbles" "ITEM_LEAST" "[I" ∈ lw_tbl := List.mem_append_right _ (List.mem_append_right _ (List.mem_append_left _ (List.mem_of_getElem? (l := tables_1_2) (i := 162) rfl)))
theorem wst_lays_5 : Cond.laysStatic "WeatherMarbles" "ITEM_MOST" "[I" ∈ lw_tbl := List.mem_append_right _ (List.mem_append_right _ (List.mem_append_left _ (List.mem_of_getElem? (l := tables_1_2) (i := 164) rfl)))
theorem wst_lays_6 : Cond.laysStatic "WeatherMarbles" "ITEM_USUAL" "[I" ∈ lw_tbl := List.mem_append_right _ (List.mem_append_right _ (List.mem_append_left _ (List.mem_of_getElem? (l := tables_1_2) (i := 116) rfl)))
theorem wst_lays_7 : Cond.laysStatic "WeatherMarbles" "LAW_LETTERS" "[I" ∈ lw_tbl := List.mem_append_right _ (List.mem_append_right _ (List.mem_append_left _ (List.mem_of_getElem? (l := tables_1_2) (i := 5) rfl)))
theorem wlw_str : Cond.stringRef RX10 158 "no such boy or what" ∈ lw_tbl := List.mem_append_right _ (List.mem_append_right _ (List.mem_append_right _ (List.mem_append_right _ (List.mem_append_right _ (List.mem_append_right _ (List.mem_append_left _ (List.mem_of_getElem? (l := tables_1_6) (i := 12) rfl)))))))
theorem wlw_us : Cond.laysStatic Bundle.tN "UNASSIGNED_STACK" Bundle.steD ∈ lw_tbl := List.mem_append_right _ (List.mem_append_right _ (List.mem_append_right _ (List.mem_append_right _ (List.mem_append_right _ (List.mem_append_right _ (List.mem_append_left _ (List.mem_of_getElem? (l := tables_1_6) (i := 0) rfl)))))))
theorem wlw_ss : Cond.laysStatic Bundle.tN "SUPPRESSED_SENTINEL" Bundle.listD ∈ lw_tbl := List.mem_append_right _ (List.mem_append_right _ (List.mem_append_right _ (List.mem_append_right _ (List.mem_append_right _ (List.mem_append_right _ (List.mem_append_left _ (List.mem_of_getElem? (l := tables_1_6) (i := 2) rfl)))))))
theorem wlw_ti : Cond.initialized Bundle.tN ∈ lw_tbl := List.mem_append_right _ (List.mem_append_left _ (List.mem_of_getElem? (l := tables_1_1) (i := 16) rfl))
theorem wlw_c0 : Cond.castable nse nse ∈ lw_tbl := List.mem_append_right _ (List.mem_append_right _ (List.mem_append_right _ (List.mem_append_right _ (List.mem_append_right _ (List.mem_append_left _ (List.mem_of_getElem? (l := tables_1_5) (i := 215) rfl))))))
theorem wlw_d1 : Cond.declares (Bundle.initS "java/lang/RuntimeException") ∈ lw_tbl := List.mem_append_right _ (List.mem_append_right _ (List.mem_append_right _ (List.mem_append_right _ (List.mem_append_right _ (List.mem_append_left _ (List.mem_of_getElem? (l := tables_1_5) (i := 217) rfl))))))
theorem wlw_d2 : Cond.declares (Bundle.initS "java/lang/Exception") ∈ lw_tbl := List.mem_append_right _ (List.mem_append_right _ (List.mem_append_right _ (List.mem_append_right _ (List.mem_append_right _ (List.mem_append_left _ (List.mem_of_getElem? (l := tables_1_5) (i := 219) rfl))))))
theorem wlw_d3 : Cond.declares (Bundle.initS Bundle.tN) ∈ lw_tbl := List.mem_append_right _ (List.mem_append_right _ (List.mem_append_right _ (List.mem_append_right _ (List.mem_append_right _ (List.mem_append_left _ (List.mem_of_getElem? (l := tables_1_5) (i := 221) rfl))))))
theorem wlw_nf : ∀ q ∈ gNestF, Cond.fieldLinkNest q.1 q.2.1 "WeatherMarbles" q.2.2 "[I" "WeatherMarbles" ∈ lw_tbl := by decide +kernel
theorem wlw_nm : ∀ q ∈ gNestM, Cond.methodLinkNest q.1 q.2.1 q.2.2 "WeatherMarbles" ∈ lw_tbl := by decide +kernel
set_option maxRecDepth 20000 in
set_option maxHeartbeats 8000000 in
theorem whole_of {RR : Int32 → Int64 → Int32 → Int32 → (Nat → Int32) → (Nat → Int32) → (Nat → Int32) → Int32 → (Nat → Int32) → Int32 → Int32 → (Nat → Int32) → (Nat → Int32) → (Nat → Int32) → (Nat → Int32) → (Nat → Int32) → Int32 → Int32 → Int32 → Int32 → Int32 → (Nat → Int32) → Int32 → Int32 → Int32 → Int64 → (Nat → Int64) → (Nat → Int32) → (Nat → Int32) → Int32 → Int32 → (Nat → Int32) → Int32 → Int32 → (Nat → Int32) → (Nat → Int32) → (Nat → Int32) → (Nat → Int32) → (Nat → Int32) → (Nat → Int32) → (Nat → Int32) → (Nat → Int32) → (Nat → Int32) → (Nat → Int32) → (Nat → Int32) → Int32 → Int32 → Int32 → Int32 → Int32 → Int32 → Int32 → Int32 → Int32 → Int32 → Int32 → Int32 → Int32 → Int32 → Int32 → Int32 → Int64 → Int32 → Int32 → Int32 → Int32 → (Nat → Int32) → (Nat → Int32) → (Nat → Int32) → (Nat → Int32) → (Nat → Int32) → (Nat → Int32) → (Nat → Int32) → (Nat → Int32) → (Nat → Int32) → (Nat → Int32) → (Nat → Int32) → (Nat → Int32) → (Nat → Int32) → (Nat → Int32) → (Nat → Int32) → (Nat → Int32) → (Nat → Int32) → (Nat → Int32) → (Nat → Int32) → (Nat → Int32) → (Nat → Int32) → (Nat → Int32) → (Nat → Int32) → (Nat → Int32) → (Nat → Int32) → (Nat → Int32) → Prop} (hs_feed : S_feed RR) (hs_end : S_end RR) (hs_fault : S_fault RR) (hs_text : S_text RR) (hs_rule : S_rule RR) (hs_boy : S_boy RR) (hs_marble : S_marble RR) (hs_farm : S_farm RR) (hs_law : S_law RR) (hs_play : S_play RR) (hs_swap : S_swap RR) (hs_give : S_give RR) (hs_chip : S_chip RR) (hs_swallow : S_swallow RR) (hs_days : S_days RR) (hs_spills : S_spills RR) (hs_years : S_years RR) (hs_status : S_status RR) (hs_undo : S_undo RR) (hs_log : S_log RR) (hs_lands : S_lands RR) (hs_aim : S_aim RR) (hs_wins : S_wins RR) (hs_weather : S_weather RR) (hs_spell : S_spell RR) (hs_arrange : S_arrange RR) (hs_seen : S_seen RR) (hs_who : S_who RR) (hs_best : S_best RR) (hs_game : S_game RR) (hs_rests : S_rests RR) (hs_corner : S_corner RR) (hs_liking : S_liking RR) (hs_trades : S_trades RR) (hs_odds : S_odds RR) (hs_shares : S_shares RR) (hs_pays : S_pays RR) (hs_saves : S_saves RR) (hs_hands : S_hands RR) (hs_most : S_most RR) (hs_image : S_image RR) (hs_back : S_back RR) (hs_count : S_count RR) (h0 : RR 0 0 0 0 (fun _ => 0) (fun _ => 0) (fun _ => 0) 0 (fun _ => 0) 0 (-1) (fun _ => 0) (fun _ => 0) (fun _ => 0) (fun _ => 0) (fun _ => 0) 0 0 0 0 0 (fun _ => 0) 0 0 0 0 (fun _ => 0) (fun _ => 0) (fun _ => 0) 0 0 (fun _ => 0) 0 0 (fun _ => 0) (fun _ => 0) (fun _ => 0) (fun _ => 0) (fun _ => 0) (fun _ => 0) (fun _ => 0) (fun _ => 0) (fun _ => 0) (fun _ => 0) (fun _ => 0) 0 0 0 0 0 0 0 0 0 0 0 0 0 (-1) 0 0 0 0 0 0 0 (fun _ => 0) (fun _ => 0) (fun _ => 0) (fun _ => 0) (fun _ => 0) (fun _ => 0) (fun _ => 0) (fun _ => 0) (fun _ => 0) (fun _ => 0) (fun _ => 0) (fun _ => 0) (fun _ => 0) (fun _ => 0) (fun _ => 0) (fun _ => 0) (fun _ => 0) (fun _ => 0) (fun _ => 0) (fun _ => 0) (fun _ => 0) (fun _ => 0) (fun _ => 0) (fun _ => 0) (fun _ => 0) (fun _ => 0)) {p : Program} {e : Env} {s : State} {m : MethodId} {below : List Frame} {meth : Method} {c : Code} (l : Launch) (hl : l.stackTraces = false) {b L : Nat} {xs : Nat → Int32} (hL : L ≤ 3072) (C0 : lw_At p s m meth c b L xs) : W p l e room_1 s m #[Value.ref b] below meth c s.heap [] 0 0 (lw_Z below #[Value.ref b] s) (entryFrame m ([Value.ref b] : List Value).toArray 7) := by
  obtain ⟨hx, hb, hr, hml, hown, hts0, hXs, hbl, hlocks, hgv⟩ := id C0
  have hs := flat_of_before _ hgv
  have hts : ∀ w ∈ gT, w.before #[Value.ref b] s = true := fun w hw => hts0 w (List.mem_filter.mp hw).1
  have hA : ∀ q : Nat, s.heap.size ≤ q → (fun q : Nat => s.heap.size ≤ q) q := fun _ h => h
  have hnA : ∀ a : Nat, a < s.heap.size → ¬ (fun q : Nat => s.heap.size ≤ q) a := fun a h => Nat.not_le.mpr h
  obtain ⟨c0, iS0, hKn0⟩ := u_known (C := RX0) (T := TX0) (N := 10) (n := 10) hts in_X0 (hts (.instantiable RX0 10) winst2_RX0)
  obtain ⟨c1, iS1, hKn1⟩ := u_known (C := RX1) (T := TX1) (N := 8) (n := 8) hts in_X1 (hts (.instantiable RX1 8) winst2_RX1)
  obtain ⟨c2, iS2, hKn2⟩ := u_known (C := RX2) (T := TX2) (N := 3) (n := 3) hts in_X2 (hts (.instantiable RX2 3) winst2_RX2)
  obtain ⟨c3, iS3, hKn3⟩ := u_known (C := RX3) (T := TX3) (N := 5) (n := 5) hts in_X3 (hts (.instantiable RX3 5) winst2_RX3)
  obtain ⟨c4, iS4, hKn4⟩ := u_known (C := RX4) (T := TX4) (N := 6) (n := 6) hts in_X4 (hts (.instantiable RX4 6) winst2_RX4)
  obtain ⟨c5, iS5, hKn5⟩ := u_known (C := RX5) (T := TX5) (N := 8) (n := 8) hts in_X5 (hts (.instantiable RX5 8) winst2_RX5)
  obtain ⟨c6, iS6, hKn6⟩ := u_known (C := RX6) (T := TX6) (N := 5) (n := 5) hts in_X6 (hts (.instantiable RX6 5) winst2_RX6)
  obtain ⟨c7, iS7, hKn7⟩ := u_known (C := RX7) (T := TX7) (N := 3) (n := 3) hts in_X7 (hts (.instantiable RX7 3) winst2_RX7)
  obtain ⟨c8, iS8, hKn8⟩ := u_known (C := RX8) (T := TX8) (N := 2) (n := 2) hts in_X8 (hts (.instantiable RX8 2) winst2_RX8)
  obtain ⟨c9, iS9, hKn9⟩ := u_known (C := RX9) (T := TX9) (N := 2) (n := 2) hts in_X9 (hts (.instantiable RX9 2) winst2_RX9)
  obtain ⟨c10, iS10, hKn10⟩ := u_known (C := RX10) (T := TX10) (N := 13) (n := 13) hts in_X10 (hts (.instantiable RX10 13) winst2_RX10)
  obtain ⟨c11, iS11, hKn11⟩ := u_known (C := RX11) (T := TX11) (N := 47) (n := 47) hts in_X11 (hts (.instantiable RX11 47) winst2_RX11)
  obtain ⟨dC, dI, hKc⟩ : ∃ (dC : Nat → ClassId) (dI : Nat → Nat → Nat), ∀ (k : Nat) (q : vw_C), vwCl[k]? = some q → u_Kn s q.1 q.2.1 q.2.2 (dC k) (dI k) := by
    refine ⟨fun k => match k with | 0 => c0 | 1 => c1 | 2 => c2 | 3 => c3 | 4 => c4 | 5 => c5 | 6 => c6 | 7 => c7 | 8 => c8 | 9 => c9 | 10 => c10 | _ => c11, fun k => match k with | 0 => iS0 | 1 => iS1 | 2 => iS2 | 3 => iS3 | 4 => iS4 | 5 => iS5 | 6 => iS6 | 7 => iS7 | 8 => iS8 | 9 => iS9 | 10 => iS10 | _ => iS11, ?_⟩
    intro k q hq
    match k, hq with
    | 0, hq => cases hq; exact hKn0
    | 1, hq => cases hq; exact hKn1
    | 2, hq => cases hq; exact hKn2
    | 3, hq => cases hq; exact hKn3
    | 4, hq => cases hq; exact hKn4
    | 5, hq => cases hq; exact hKn5
    | 6, hq => cases hq; exact hKn6
    | 7, hq => cases hq; exact hKn7
    | 8, hq => cases hq; exact hKn8
    | 9, hq => cases hq; exact hKn9
    | 10, hq => cases hq; exact hKn10
    | 11, hq => cases hq; exact hKn11
    | k + 12, hq => simp [vwCl] at hq
  obtain ⟨aI, kaI, coI, hfI, hkI, hdI⟩ := Cond.arrayClass_spec (hts _ wac_i)
  obtain ⟨aL, kaL, coL, hfL, hkL, hdL⟩ := Cond.arrayClass_spec (hts _ wac_l)
  obtain ⟨aZ, kaZ, coZ, hfZ, hkZ, hdZ⟩ := Cond.arrayClass_spec (hts _ wac_z)
  obtain ⟨t0, ht0, hT0⟩ := va_Tof (args := #[Value.ref b]) (s := s) (tm := (.static "WeatherMarbles" "SORT_LETTERS" "[I")) (ty := .int) (N := 4) (f := fun j => .int (tab0.getD j 0)) (A := fun q : Nat => s.heap.size ≤ q) (by decide) (hs _ (by decide +kernel)) (va_eqt (z := 4) (hs _ (by decide +kernel))) (fun j hj => by
      rcases (show j = 0 ∨ j = 1 ∨ j = 2 ∨ j = 3 by omega) with rfl | rfl | rfl | rfl
      · exact va_eqt (t := .elem (.static "WeatherMarbles" "SORT_LETTERS" "[I") (.int 0)) (z := 115) (hs _ (by decide +kernel))
      · exact va_eqt (t := .elem (.static "WeatherMarbles" "SORT_LETTERS" "[I") (.int 1)) (z := 98) (hs _ (by decide +kernel))
      · exact va_eqt (t := .elem (.static "WeatherMarbles" "SORT_LETTERS" "[I") (.int 2)) (z := 109) (hs _ (by decide +kernel))
      · exact va_eqt (t := .elem (.static "WeatherMarbles" "SORT_LETTERS" "[I") (.int 3)) (z := 102) (hs _ (by decide +kernel))) hnA
  have hZ0 : va_Z "WeatherMarbles" "SORT_LETTERS" "[I" (.ref t0) (fun q : Nat => s.heap.size ≤ q) s s.heap := va_Zof (hts0 _ wst_lays_0) (hts _ wini_RX10) ht0 hnA
  obtain ⟨t1, ht1, hT1⟩ := va_Tof (args := #[Value.ref b]) (s := s) (tm := (.static "WeatherMarbles" "FIRST_ROW" "[I")) (ty := .int) (N := 4) (f := fun j => .int (tab1.getD j 0)) (A := fun q : Nat => s.heap.size ≤ q) (by decide) (hs _ (by decide +kernel)) (va_eqt (z := 4) (hs _ (by decide +kernel))) (fun j hj => by
      rcases (show j = 0 ∨ j = 1 ∨ j = 2 ∨ j = 3 by omega) with rfl | rfl | rfl | rfl
      · exact va_eqt (t := .elem (.static "WeatherMarbles" "FIRST_ROW" "[I") (.int 0)) (z := 0) (hs _ (by decide +kernel))
      · exact va_eqt (t := .elem (.static "WeatherMarbles" "FIRST_ROW" "[I") (.int 1)) (z := 1) (hs _ (by decide +kernel))
      · exact va_eqt (t := .elem (.static "WeatherMarbles" "FIRST_ROW" "[I") (.int 2)) (z := 6) (hs _ (by decide +kernel))
      · exact va_eqt (t := .elem (.static "WeatherMarbles" "FIRST_ROW" "[I") (.int 3)) (z := 12) (hs _ (by decide +kernel))) hnA
  have hZ1 : va_Z "WeatherMarbles" "FIRST_ROW" "[I" (.ref t1) (fun q : Nat => s.heap.size ≤ q) s s.heap := va_Zof (hts0 _ wst_lays_1) (hts _ wini_RX10) ht1 hnA
  obtain ⟨t2, ht2, hT2⟩ := va_Tof (args := #[Value.ref b]) (s := s) (tm := (.static "WeatherMarbles" "MOST_CLAUSES" "[I")) (ty := .int) (N := 4) (f := fun j => .int (tab2.getD j 0)) (A := fun q : Nat => s.heap.size ≤ q) (by decide) (hs _ (by decide +kernel)) (va_eqt (z := 4) (hs _ (by decide +kernel))) (fun j hj => by
      rcases (show j = 0 ∨ j = 1 ∨ j = 2 ∨ j = 3 by omega) with rfl | rfl | rfl | rfl
      · exact va_eqt (t := .elem (.static "WeatherMarbles" "MOST_CLAUSES" "[I") (.int 0)) (z := 1) (hs _ (by decide +kernel))
      · exact va_eqt (t := .elem (.static "WeatherMarbles" "MOST_CLAUSES" "[I") (.int 1)) (z := 5) (hs _ (by decide +kernel))
      · exact va_eqt (t := .elem (.static "WeatherMarbles" "MOST_CLAUSES" "[I") (.int 2)) (z := 6) (hs _ (by decide +kernel))
      · exact va_eqt (t := .elem (.static "WeatherMarbles" "MOST_CLAUSES" "[I") (.int 3)) (z := 6) (hs _ (by decide +kernel))) hnA
  have hZ2 : va_Z "WeatherMarbles" "MOST_CLAUSES" "[I" (.ref t2) (fun q : Nat => s.heap.size ≤ q) s s.heap := va_Zof (hts0 _ wst_lays_2) (hts _ wini_RX10) ht2 hnA
  obtain ⟨t3, ht3, hT3⟩ := va_Tof (args := #[Value.ref b]) (s := s) (tm := (.static "WeatherMarbles" "ITEM_LETTERS" "[I")) (ty := .int) (N := 12) (f := fun j => .int (tab3.getD j 0)) (A := fun q : Nat => s.heap.size ≤ q) (by decide) (hs _ (by decide +kernel)) (va_eqt (z := 12) (hs _ (by decide +kernel))) (fun j hj => by
      rcases (show j = 0 ∨ j = 1 ∨ j = 2 ∨ j = 3 ∨ j = 4 ∨ j = 5 ∨ j = 6 ∨ j = 7 ∨ j = 8 ∨ j = 9 ∨ j = 10 ∨ j = 11 by omega) with rfl | rfl | rfl | rfl | rfl | rfl | rfl | rfl | rfl | rfl | rfl | rfl
      · exact va_eqt (t := .elem (.static "WeatherMarbles" "ITEM_LETTERS" "[I") (.int 0)) (z := 108) (hs _ (by decide +kernel))
      · exact va_eqt (t := .elem (.static "WeatherMarbles" "ITEM_LETTERS" "[I") (.int 1)) (z := 114) (hs _ (by decide +kernel))
      · exact va_eqt (t := .elem (.static "WeatherMarbles" "ITEM_LETTERS" "[I") (.int 2)) (z := 99) (hs _ (by decide +kernel))
      · exact va_eqt (t := .elem (.static "WeatherMarbles" "ITEM_LETTERS" "[I") (.int 3)) (z := 107) (hs _ (by decide +kernel))
      · exact va_eqt (t := .elem (.static "WeatherMarbles" "ITEM_LETTERS" "[I") (.int 4)) (z := 112) (hs _ (by decide +kernel))
      · exact va_eqt (t := .elem (.static "WeatherMarbles" "ITEM_LETTERS" "[I") (.int 5)) (z := 0) (hs _ (by decide +kernel))
      · exact va_eqt (t := .elem (.static "WeatherMarbles" "ITEM_LETTERS" "[I") (.int 6)) (z := 111) (hs _ (by decide +kernel))
      · exact va_eqt (t := .elem (.static "WeatherMarbles" "ITEM_LETTERS" "[I") (.int 7)) (z := 119) (hs _ (by decide +kernel))
      · exact va_eqt (t := .elem (.static "WeatherMarbles" "ITEM_LETTERS" "[I") (.int 8)) (z := 115) (hs _ (by decide +kernel))
      · exact va_eqt (t := .elem (.static "WeatherMarbles" "ITEM_LETTERS" "[I") (.int 9)) (z := 112) (hs _ (by decide +kernel))
      · exact va_eqt (t := .elem (.static "WeatherMarbles" "ITEM_LETTERS" "[I") (.int 10)) (z := 119) (hs _ (by decide +kernel))
      · exact va_eqt (t := .elem (.static "WeatherMarbles" "ITEM_LETTERS" "[I") (.int 11)) (z := 110) (hs _ (by decide +kernel))) hnA
  have hZ3 : va_Z "WeatherMarbles" "ITEM_LETTERS" "[I" (.ref t3) (fun q : Nat => s.heap.size ≤ q) s s.heap := va_Zof (hts0 _ wst_lays_3) (hts _ wini_RX10) ht3 hnA
  obtain ⟨t4, ht4, hT4⟩ := va_Tof (args := #[Value.ref b]) (s := s) (tm := (.static "WeatherMarbles" "ITEM_LEAST" "[I")) (ty := .int) (N := 12) (f := fun j => .int (tab4.getD j 0)) (A := fun q : Nat => s.heap.size ≤ q) (by decide) (hs _ (by decide +kernel)) (va_eqt (z := 12) (hs _ (by decide +kernel))) (fun j hj => by
      rcases (show j = 0 ∨ j = 1 ∨ j = 2 ∨ j = 3 ∨ j = 4 ∨ j = 5 ∨ j = 6 ∨ j = 7 ∨ j = 8 ∨ j = 9 ∨ j = 10 ∨ j = 11 by omega) with rfl | rfl | rfl | rfl | rfl | rfl | rfl | rfl | rfl | rfl | rfl | rfl
      · exact va_eqt (t := .elem (.static "WeatherMarbles" "ITEM_LEAST" "[I") (.int 0)) (z := 3) (hs _ (by decide +kernel))
      · exact va_eqt (t := .elem (.static "WeatherMarbles" "ITEM_LEAST" "[I") (.int 1)) (z := 1) (hs _ (by decide +kernel))
      · exact va_eqt (t := .elem (.static "WeatherMarbles" "ITEM_LEAST" "[I") (.int 2)) (z := 0) (hs _ (by decide +kernel))
      · exact va_eqt (t := .elem (.static "WeatherMarbles" "ITEM_LEAST" "[I") (.int 3)) (z := 1) (hs _ (by decide +kernel))
      · exact va_eqt (t := .elem (.static "WeatherMarbles" "ITEM_LEAST" "[I") (.int 4)) (z := 0) (hs _ (by decide +kernel))
      · exact va_eqt (t := .elem (.static "WeatherMarbles" "ITEM_LEAST" "[I") (.int 5)) (z := 0) (hs _ (by decide +kernel))
      · exact va_eqt (t := .elem (.static "WeatherMarbles" "ITEM_LEAST" "[I") (.int 6)) (z := 0) (hs _ (by decide +kernel))
      · exact va_eqt (t := .elem (.static "WeatherMarbles" "ITEM_LEAST" "[I") (.int 7)) (z := 0) (hs _ (by decide +kernel))
      · exact va_eqt (t := .elem (.static "WeatherMarbles" "ITEM_LEAST" "[I") (.int 8)) (z := 1) (hs _ (by decide +kernel))
      · exact va_eqt (t := .elem (.static "WeatherMarbles" "ITEM_LEAST" "[I") (.int 9)) (z := 0) (hs _ (by decide +kernel))
      · exact va_eqt (t := .elem (.static "WeatherMarbles" "ITEM_LEAST" "[I") (.int 10)) (z := 0) (hs _ (by decide +kernel))
      · exact va_eqt (t := .elem (.static "WeatherMarbles" "ITEM_LEAST" "[I") (.int 11)) (z := 0) (hs _ (by decide +kernel))) hnA
  have hZ4 : va_Z "WeatherMarbles" "ITEM_LEAST" "[I" (.ref t4) (fun q : Nat => s.heap.size ≤ q) s s.heap := va_Zof (hts0 _ wst_lays_4) (hts _ wini_RX10) ht4 hnA
  obtain ⟨t5, ht5, hT5⟩ := va_Tof (args := #[Value.ref b]) (s := s) (tm := (.static "WeatherMarbles" "ITEM_MOST" "[I")) (ty := .int) (N := 12) (f := fun j => .int (tab5.getD j 0)) (A := fun q : Nat => s.heap.size ≤ q) (by decide) (hs _ (by decide +kernel)) (va_eqt (z := 12) (hs _ (by decide +kernel))) (fun j hj => by
      rcases (show j = 0 ∨ j = 1 ∨ j = 2 ∨ j = 3 ∨ j = 4 ∨ j = 5 ∨ j = 6 ∨ j = 7 ∨ j = 8 ∨ j = 9 ∨ j = 10 ∨ j = 11 by omega) with rfl | rfl | rfl | rfl | rfl | rfl | rfl | rfl | rfl | rfl | rfl | rfl
      · exact va_eqt (t := .elem (.static "WeatherMarbles" "ITEM_MOST" "[I") (.int 0)) (z := 30) (hs _ (by decide +kernel))
      · exact va_eqt (t := .elem (.static "WeatherMarbles" "ITEM_MOST" "[I") (.int 1)) (z := 9) (hs _ (by decide +kernel))
      · exact va_eqt (t := .elem (.static "WeatherMarbles" "ITEM_MOST" "[I") (.int 2)) (z := 99) (hs _ (by decide +kernel))
      · exact va_eqt (t := .elem (.static "WeatherMarbles" "ITEM_MOST" "[I") (.int 3)) (z := 9) (hs _ (by decide +kernel))
      · exact va_eqt (t := .elem (.static "WeatherMarbles" "ITEM_MOST" "[I") (.int 4)) (z := 9) (hs _ (by decide +kernel))
      · exact va_eqt (t := .elem (.static "WeatherMarbles" "ITEM_MOST" "[I") (.int 5)) (z := 0) (hs _ (by decide +kernel))
      · exact va_eqt (t := .elem (.static "WeatherMarbles" "ITEM_MOST" "[I") (.int 6)) (z := 4) (hs _ (by decide +kernel))
      · exact va_eqt (t := .elem (.static "WeatherMarbles" "ITEM_MOST" "[I") (.int 7)) (z := 5) (hs _ (by decide +kernel))
      · exact va_eqt (t := .elem (.static "WeatherMarbles" "ITEM_MOST" "[I") (.int 8)) (z := 9) (hs _ (by decide +kernel))
      · exact va_eqt (t := .elem (.static "WeatherMarbles" "ITEM_MOST" "[I") (.int 9)) (z := 9) (hs _ (by decide +kernel))
      · exact va_eqt (t := .elem (.static "WeatherMarbles" "ITEM_MOST" "[I") (.int 10)) (z := 5) (hs _ (by decide +kernel))
      · exact va_eqt (t := .elem (.static "WeatherMarbles" "ITEM_MOST" "[I") (.int 11)) (z := 9) (hs _ (by decide +kernel))) hnA
  have hZ5 : va_Z "WeatherMarbles" "ITEM_MOST" "[I" (.ref t5) (fun q : Nat => s.heap.size ≤ q) s s.heap := va_Zof (hts0 _ wst_lays_5) (hts _ wini_RX10) ht5 hnA
  obtain ⟨t6, ht6, hT6⟩ := va_Tof (args := #[Value.ref b]) (s := s) (tm := (.static "WeatherMarbles" "ITEM_USUAL" "[I")) (ty := .int) (N := 12) (f := fun j => .int (tab6.getD j 0)) (A := fun q : Nat => s.heap.size ≤ q) (by decide) (hs _ (by decide +kernel)) (va_eqt (z := 12) (hs _ (by decide +kernel))) (fun j hj => by
      rcases (show j = 0 ∨ j = 1 ∨ j = 2 ∨ j = 3 ∨ j = 4 ∨ j = 5 ∨ j = 6 ∨ j = 7 ∨ j = 8 ∨ j = 9 ∨ j = 10 ∨ j = 11 by omega) with rfl | rfl | rfl | rfl | rfl | rfl | rfl | rfl | rfl | rfl | rfl | rfl
      · exact va_eqt (t := .elem (.static "WeatherMarbles" "ITEM_USUAL" "[I") (.int 0)) (z := 12) (hs _ (by decide +kernel))
      · exact va_eqt (t := .elem (.static "WeatherMarbles" "ITEM_USUAL" "[I") (.int 1)) (z := 3) (hs _ (by decide +kernel))
      · exact va_eqt (t := .elem (.static "WeatherMarbles" "ITEM_USUAL" "[I") (.int 2)) (z := 10) (hs _ (by decide +kernel))
      · exact va_eqt (t := .elem (.static "WeatherMarbles" "ITEM_USUAL" "[I") (.int 3)) (z := 5) (hs _ (by decide +kernel))
      · exact va_eqt (t := .elem (.static "WeatherMarbles" "ITEM_USUAL" "[I") (.int 4)) (z := 0) (hs _ (by decide +kernel))
      · exact va_eqt (t := .elem (.static "WeatherMarbles" "ITEM_USUAL" "[I") (.int 5)) (z := 0) (hs _ (by decide +kernel))
      · exact va_eqt (t := .elem (.static "WeatherMarbles" "ITEM_USUAL" "[I") (.int 6)) (z := 0) (hs _ (by decide +kernel))
      · exact va_eqt (t := .elem (.static "WeatherMarbles" "ITEM_USUAL" "[I") (.int 7)) (z := 0) (hs _ (by decide +kernel))
      · exact va_eqt (t := .elem (.static "WeatherMarbles" "ITEM_USUAL" "[I") (.int 8)) (z := 3) (hs _ (by decide +kernel))
      · exact va_eqt (t := .elem (.static "WeatherMarbles" "ITEM_USUAL" "[I") (.int 9)) (z := 0) (hs _ (by decide +kernel))
      · exact va_eqt (t := .elem (.static "WeatherMarbles" "ITEM_USUAL" "[I") (.int 10)) (z := 0) (hs _ (by decide +kernel))
      · exact va_eqt (t := .elem (.static "WeatherMarbles" "ITEM_USUAL" "[I") (.int 11)) (z := 2) (hs _ (by decide +kernel))) hnA
  have hZ6 : va_Z "WeatherMarbles" "ITEM_USUAL" "[I" (.ref t6) (fun q : Nat => s.heap.size ≤ q) s s.heap := va_Zof (hts0 _ wst_lays_6) (hts _ wini_RX10) ht6 hnA
  obtain ⟨t7, ht7, hT7⟩ := va_Tof (args := #[Value.ref b]) (s := s) (tm := (.static "WeatherMarbles" "LAW_LETTERS" "[I")) (ty := .int) (N := 6) (f := fun j => .int (tab7.getD j 0)) (A := fun q : Nat => s.heap.size ≤ q) (by decide) (hs _ (by decide +kernel)) (va_eqt (z := 6) (hs _ (by decide +kernel))) (fun j hj => by
      rcases (show j = 0 ∨ j = 1 ∨ j = 2 ∨ j = 3 ∨ j = 4 ∨ j = 5 by omega) with rfl | rfl | rfl | rfl | rfl | rfl
      · exact va_eqt (t := .elem (.static "WeatherMarbles" "LAW_LETTERS" "[I") (.int 0)) (z := 112) (hs _ (by decide +kernel))
      · exact va_eqt (t := .elem (.static "WeatherMarbles" "LAW_LETTERS" "[I") (.int 1)) (z := 107) (hs _ (by decide +kernel))
      · exact va_eqt (t := .elem (.static "WeatherMarbles" "LAW_LETTERS" "[I") (.int 2)) (z := 115) (hs _ (by decide +kernel))
      · exact va_eqt (t := .elem (.static "WeatherMarbles" "LAW_LETTERS" "[I") (.int 3)) (z := 99) (hs _ (by decide +kernel))
      · exact va_eqt (t := .elem (.static "WeatherMarbles" "LAW_LETTERS" "[I") (.int 4)) (z := 104) (hs _ (by decide +kernel))
      · exact va_eqt (t := .elem (.static "WeatherMarbles" "LAW_LETTERS" "[I") (.int 5)) (z := 100) (hs _ (by decide +kernel))) hnA
  have hZ7 : va_Z "WeatherMarbles" "LAW_LETTERS" "[I" (.ref t7) (fun q : Nat => s.heap.size ≤ q) s s.heap := va_Zof (hts0 _ wst_lays_7) (hts _ wini_RX10) ht7 hnA
  obtain ⟨sa, cS, cellS, kS, hsa, -⟩ := Cond.exactly_spec (hs (.exactly (.string "WeatherMarbles" 158) "java/lang/String") (by decide +kernel))
  have hE0 : gEx sa (fun q : Nat => s.heap.size ≤ q) s s.heap := ⟨vk_R.of (A := #[Value.ref b]) (hts0 _ wlw_str) hsa, vx_Zqof (hts0 _ wlw_us) (hts0 _ wlw_ti) (hs (.isRef (.static Bundle.tN "UNASSIGNED_STACK" Bundle.steD)) (by decide +kernel)) hnA, vx_Zqof (hts0 _ wlw_ss) (hts0 _ wlw_ti) (hs (.isRef (.static Bundle.tN "SUPPRESSED_SENTINEL" Bundle.listD)) (by decide +kernel)) hnA, va_Nw.of rfl (hts0 _ wlw_c0), va_Nw.of rfl (hts0 _ wlw_d1), va_Nw.of rfl (hts0 _ wlw_d2), va_Nw.of rfl (hts0 _ wlw_d3)⟩
  obtain ⟨aT0, haT0⟩ : ∃ f : Nat → Nat, f = fun k => match k with | 0 => t0 | 1 => t1 | 2 => t2 | 3 => t3 | 4 => t4 | 5 => t5 | 6 => t6 | _ => t7 := ⟨_, rfl⟩
  have hkey : ∀ f1 f2 : Nat → Nat, ∃ B : gB, B = (l, (dC, dI), (aI, aL, aZ), f1, f2, aT0) := fun f1 f2 => ⟨_, rfl⟩
  have hSt0 : ∀ f1 f2 : Nat → Nat, gSt (l, (dC, dI), (aI, aL, aZ), f1, f2, aT0) (fun q : Nat => s.heap.size ≤ q) s s.heap := by
    intro f1 f2
    refine ⟨fun k q hq => ?_, fun q hq => va_Nw.of rfl (hts0 _ (wlw_nf q hq)), fun q hq => va_Nw.of rfl (hts0 _ (wlw_nm q hq))⟩
    subst haT0
    match k, hq with
    | 0, hq => cases hq; exact ⟨hZ0, hT0⟩
    | 1, hq => cases hq; exact ⟨hZ1, hT1⟩
    | 2, hq => cases hq; exact ⟨hZ2, hT2⟩
    | 3, hq => cases hq; exact ⟨hZ3, hT3⟩
    | 4, hq => cases hq; exact ⟨hZ4, hT4⟩
    | 5, hq => cases hq; exact ⟨hZ5, hT5⟩
    | 6, hq => cases hq; exact ⟨hZ6, hT6⟩
    | 7, hq => cases hq; exact ⟨hZ7, hT7⟩
    | k + 8, hq => simp [gTab] at hq
  have hK0 : va_K (dC, dI) vwCl [(aI, .int), (aL, .long), (aZ, .boolean)] s := by
    refine ⟨hKc, fun k q hk => ?_⟩
    match k, hk with
    | 0, hk => cases hk; exact ⟨fun n z => ⟨fun k h => (by cases h), kaI, hkI, coI, hdI⟩, hfI⟩
    | 1, hk => cases hk; exact ⟨fun n z => ⟨fun k h => (by cases h), kaL, hkL, coL, hdL⟩, hfL⟩
    | 2, hk => cases hk; exact ⟨fun n z => ⟨fun k h => (by cases h), kaZ, hkZ, coZ, hdZ⟩, hfZ⟩
    | k + 3, hk => simp at hk
  obtain ⟨X, hXe⟩ : ∃ X : gX, X = (p, e, room_1, s, m, #[Value.ref b], below, meth, c, 0, 0, lw_Z below #[Value.ref b] s, fun q : Nat => s.heap.size ≤ q, fun _ _ => False) := ⟨_, rfl⟩
  have hXX : ∀ f1 f2 : Nat → Nat, gOkI (l, (dC, dI), (aI, aL, aZ), f1, f2, aT0) X RL cL_law 7 1312 601024 7293034 := by
    intro f1 f2
    rw [hXe]
    exact ⟨hx, hb, hml, hown, hts, hK0, hA, ⟨by decide, by decide, Nat.le_refl _, Nat.le_refl _⟩, hSt0 f1 f2⟩
  have hScr : gScr X b L xs := by rw [hXe]; exact ⟨hXs, hbl, Nat.not_le.mpr hbl⟩
  have hExx : gExX sa X := by rw [hXe]; exact hE0
  have hend : ∀ (f1 f2 : Nat → Nat) (n w : Nat) (lv : List (Nat × Value)) (ws : va_W), n ≤ 601024 → w ≤ 7293034 → gG (l, (dC, dI), (aI, aL, aZ), f1, f2, aT0) (gXc X n w) 1749 lv [.int 1] ws := by
    intro f1 f2 n w lv ws hn hw
    rw [hXe]
    intro H locs ls hP hD hS hl2
    exact va_forget (fun q hq => hS.2.2 q hq) (W.widen hn hw (lw_ret hx hb hr hlocks dL_law_1749))
  have hcng : ∀ (f1 f2 g1 g2 : Nat → Nat) (n w pc : Nat) (lv : List (Nat × Value)) (st : List Value) (ws : va_W), gG (l, (dC, dI), (aI, aL, aZ), f1, f2, aT0) (gXc X n w) pc lv st ws → gG (l, (dC, dI), (aI, aL, aZ), g1, g2, aT0) (gXc X n w) pc lv st ws := by
    intro f1 f2 g1 g2 n w pc lv st ws h
    rw [hXe] at h ⊢
    exact h
  obtain ⟨B, hB⟩ : ∃ B : gB, B = (l, (dC, dI), (aI, aL, aZ), (fun _ => 0), (fun _ => 0), aT0) := ⟨_, rfl⟩
  have hX : gOkI B X RL cL_law 7 1312 601024 7293034 := by rw [hB]; exact hXX _ _
  have hgo : gG B (gXc X 0 0) 0 [(0, .ref b)] [] [] := by
    refine i_new hX (ci := 10) tyX10 (fs := [.null, .null, .null, .null, .null, .null, .null, .null, .null, .null, .null, .int 0, .long 0]) in_X10 tyX10_ok ⟨wcl_RL_8, winst2_RX10, wini_RX10⟩ rfl (fun j hj => by rcases (show j = 0 ∨ j = 1 ∨ j = 2 ∨ j = 3 ∨ j = 4 ∨ j = 5 ∨ j = 6 ∨ j = 7 ∨ j = 8 ∨ j = 9 ∨ j = 10 ∨ j = 11 ∨ j = 12 by omega) with rfl | rfl | rfl | rfl | rfl | rfl | rfl | rfl | rfl | rfl | rfl | rfl | rfl <;> rfl) (by decide) (by decide) dL_law_0 (fun C0 => ?_)
    refine gH.toG (h_dup (hX.ok (rt := some .boolean) (by decide) (by decide)) dL_law_3 rfl (gG.toH ?_))
    refine i_call hX (na := 0) ⟨wml_RL_15, wim2_X10_init, wini_RX10, wcod2_X10_init, by decide +kernel, rfl⟩ (As := []) (st := [.ref C0]) (ci_X10_init (h := C0) (fr := [])) rfl (by decide) (Nat.le_of_ble_eq_true rfl) (by decide) (by decide) dL_law_4 (fun w9 hw9 => ?_)
    obtain ⟨C1, C2, C3, C4, C5, C6, C7, C8, C9, C10, C11, C12, C13, C14, C15, C16, C17, C18, C19, C20, C21, C22, C23, C24, C25, C26, C27, C28, C29, C30, C31, C32, C33, C34, C35, C36, rfl⟩ := hw9
    refine gH.toG (h_astore_n (hX.ok (rt := some .boolean) (by decide) (by decide)) dL_law_7 rfl (by decide) (lv' := [(0, .ref b), (1, .ref C0)]) rfl (gG.toH ?_))
    refine i_new hX (ci := 11) tyX11 (fs := [.int 0, .null, .int 0, .int 0, .int 0, .int 0, .null, .null, .null, .null, .null, .null, .null, .int 0, .int 0, .null, .null, .null, .null, .null, .null, .int 0, .int 0, .int 0, .null, .null, .null, .null, .int 0, .int 0, .int 0, .null, .null, .int 0, .int 0, .null, .int 0, .long 0, .int 0, .int 0, .null, .null, .null, .int 0, .null, .null, .int 0]) in_X11 tyX11_ok ⟨wcl_RL_16, winst2_RX11, wini_RX11⟩ rfl (fun j hj => by rcases (show j = 0 ∨ j = 1 ∨ j = 2 ∨ j = 3 ∨ j = 4 ∨ j = 5 ∨ j = 6 ∨ j = 7 ∨ j = 8 ∨ j = 9 ∨ j = 10 ∨ j = 11 ∨ j = 12 ∨ j = 13 ∨ j = 14 ∨ j = 15 ∨ j = 16 ∨ j = 17 ∨ j = 18 ∨ j = 19 ∨ j = 20 ∨ j = 21 ∨ j = 22 ∨ j = 23 ∨ j = 24 ∨ j = 25 ∨ j = 26 ∨ j = 27 ∨ j = 28 ∨ j = 29 ∨ j = 30 ∨ j = 31 ∨ j = 32 ∨ j = 33 ∨ j = 34 ∨ j = 35 ∨ j = 36 ∨ j = 37 ∨ j = 38 ∨ j = 39 ∨ j = 40 ∨ j = 41 ∨ j = 42 ∨ j = 43 ∨ j = 44 ∨ j = 45 ∨ j = 46 by omega) with rfl | rfl | rfl | rfl | rfl | rfl | rfl | rfl | rfl | rfl | rfl | rfl | rfl | rfl | rfl | rfl | rfl | rfl | rfl | rfl | rfl | rfl | rfl | rfl | rfl | rfl | rfl | rfl | rfl | rfl | rfl | rfl | rfl | rfl | rfl | rfl | rfl | rfl | rfl | rfl | rfl | rfl | rfl | rfl | rfl | rfl | rfl <;> rfl) (by decide) (by decide) dL_law_8 (fun M0 => ?_)
    refine gH.toG (h_dup (hX.ok (rt := some .boolean) (by decide) (by decide)) dL_law_11 rfl (gG.toH ?_))
    refine i_call hX (na := 0) ⟨wml_RL_18, wim2_X11_init, wini_RX11, wcod2_X11_init, by decide +kernel, rfl⟩ (As := []) (st := [.ref M0]) (ci_X11_init (h := M0)) rfl (by decide) (Nat.le_of_ble_eq_true rfl) (by decide) (by decide) dL_law_12 (fun w9 hw9 => ?_)
    obtain ⟨M1, M2, M3, M4, M5, M6, M7, M8, M9, M10, M11, M12, M13, M14, M15, M16, M17, M18, M19, M20, M21, M22, M23, M24, M25, M26, rfl⟩ := hw9
    refine gH.toG (h_astore_n (hX.ok (rt := some .boolean) (by decide) (by decide)) dL_law_15 rfl (by decide) (lv' := [(0, .ref b), (1, .ref C0), (2, .ref M0)]) rfl (gG.toH ?_))
    refine gH.toG (h_iconst (hX.ok (rt := some .boolean) (by decide) (by decide)) dL_law_16 ki_1 (gG.toH ?_))
    refine i_newal hX wac_l (N := 1) (by decide) (by decide) (by decide) (by decide) (by decide) dL_law_17 (fun qo => ?_)
    refine gH.toG (h_astore_n (hX.ok (rt := some .boolean) (by decide) (by decide)) dL_law_19 rfl (by decide) (lv' := [(0, .ref b), (1, .ref C0), (2, .ref M0), (3, .ref qo)]) rfl (gG.toH ?_))
    refine gH.toG (h_iconst (hX.ok (rt := some .boolean) (by decide) (by decide)) dL_law_20 ki_0 (gG.toH ?_))
    refine gH.toG (h_istore (hX.ok (rt := some .boolean) (by decide) (by decide)) dL_law_21 (by decide) (lv' := [(0, .ref b), (1, .ref C0), (2, .ref M0), (3, .ref qo), (4, .int 0)]) rfl (gG.toH ?_))
    obtain ⟨fC, hfC⟩ : ∃ f : Nat → Nat, f = fun k => match k with | 0 => C0 | 1 => C1 | 2 => C2 | 3 => C3 | 4 => C4 | 5 => C5 | 6 => C6 | 7 => C7 | 8 => C8 | 9 => C9 | 10 => C10 | 11 => C11 | 12 => C12 | 13 => C13 | 14 => C14 | 15 => C15 | 16 => C16 | 17 => C17 | 18 => C18 | 19 => C19 | 20 => C20 | 21 => C21 | 22 => C22 | 23 => C23 | 24 => C24 | 25 => C25 | 26 => C26 | 27 => C27 | 28 => C28 | 29 => C29 | 30 => C30 | 31 => C31 | 32 => C32 | 33 => C33 | 34 => C34 | 35 => C35 | _ => C36 := ⟨_, rfl⟩
    obtain ⟨fM, hfM⟩ : ∃ f : Nat → Nat, f = fun k => match k with | 0 => M0 | 1 => M1 | 2 => M2 | 3 => M3 | 4 => M4 | 5 => M5 | 6 => M6 | 7 => M7 | 8 => M8 | 9 => M9 | 10 => M10 | 11 => M11 | 12 => M12 | 13 => M13 | 14 => M14 | 15 => M15 | 16 => M16 | 17 => M17 | 18 => M18 | 19 => M19 | 20 => M20 | 21 => M21 | 22 => M22 | 23 => M23 | 24 => M24 | 25 => M25 | _ => M26 := ⟨_, rfl⟩
    have hlp := law_loop (B := (l, (dC, dI), (aI, aL, aZ), fC, fM, aT0)) (X := X) (qo := qo) (hXX fC fM) hExx hScr hl hL hs_feed hs_end hs_fault hs_text hs_rule hs_boy hs_marble hs_farm hs_law hs_play hs_swap hs_give hs_chip hs_swallow hs_days hs_spills hs_years hs_status hs_undo hs_log hs_lands hs_aim hs_wins hs_weather hs_spell hs_arrange hs_seen hs_who hs_best hs_game hs_rests hs_corner hs_liking hs_trades hs_odds hs_shares hs_pays hs_saves hs_hands hs_most hs_image hs_back hs_count (hend fC fM) (L + 2) 0 (0 + 1 + 36 + 1 + 26 + 1) (0 + 13 + 2330 + 47 + 13341 + 1) 0 0 0 0 (fun _ => 0) (fun _ => 0) (fun _ => 0) 0 (fun _ => 0) 0 (-1) (fun _ => 0) (fun _ => 0) (fun _ => 0) (fun _ => 0) (fun _ => 0) 0 0 0 0 0 (fun _ => 0) 0 0 0 0 (fun _ => 0) (fun _ => 0) (fun _ => 0) 0 0 (fun _ => 0) 0 0 (fun _ => 0) (fun _ => 0) (fun _ => 0) (fun _ => 0) (fun _ => 0) (fun _ => 0) (fun _ => 0) (fun _ => 0) (fun _ => 0) (fun _ => 0) (fun _ => 0) 0 0 0 0 0 0 0 0 0 0 0 0 0 (-1) 0 0 0 0 0 0 0 (fun _ => 0) (fun _ => 0) (fun _ => 0) (fun _ => 0) (fun _ => 0) (fun _ => 0) (fun _ => 0) (fun _ => 0) (fun _ => 0) (fun _ => 0) (fun _ => 0) (fun _ => 0) (fun _ => 0) (fun _ => 0) (fun _ => 0) (fun _ => 0) (fun _ => 0) (fun _ => 0) (fun _ => 0) (fun _ => 0) (fun _ => 0) (fun _ => 0) (fun _ => 0) (fun _ => 0) (fun _ => 0) (fun _ => 0) (fun _ => 0) (by omega) (by omega) (by omega) (by omega) h0
    subst hB
    refine hcng fC fM _ _ _ _ _ _ _ _ ?_
    subst hfC
    subst hfM
    exact gG.perm (rv_all (l := l) (D := (dC, dI)) (aa := (aI, aL, aZ)) (aT0 := aT0) (C0 := C0) (C1 := C1) (C2 := C2) (C3 := C3) (C4 := C4) (C5 := C5) (C6 := C6) (C7 := C7) (C8 := C8) (C9 := C9) (C10 := C10) (C11 := C11) (C12 := C12) (C13 := C13) (C14 := C14) (C15 := C15) (C16 := C16) (C17 := C17) (C18 := C18) (C19 := C19) (C20 := C20) (C21 := C21) (C22 := C22) (C23 := C23) (C24 := C24) (C25 := C25) (C26 := C26) (C27 := C27) (C28 := C28) (C29 := C29) (C30 := C30) (C31 := C31) (C32 := C32) (C33 := C33) (C34 := C34) (C35 := C35) (C36 := C36) (M0 := M0) (M1 := M1) (M2 := M2) (M3 := M3) (M4 := M4) (M5 := M5) (M6 := M6) (M7 := M7) (M8 := M8) (M9 := M9) (M10 := M10) (M11 := M11) (M12 := M12) (M13 := M13) (M14 := M14) (M15 := M15) (M16 := M16) (M17 := M17) (M18 := M18) (M19 := M19) (M20 := M20) (M21 := M21) (M22 := M22) (M23 := M23) (M24 := M24) (M25 := M25) (M26 := M26) (x := (qo, .inl (aL, (1, .inr (.inl (fun _ => 0)))))) ) hlp
  subst hB
  rw [hXe] at hgo
  have hl9 := lv_entry ([.ref b]) (n := 7) (Nat.le_of_ble_eq_true rfl)
  rw [lg_entry_eq]
  generalize (lg_sl ([.ref b]) ++ List.replicate (7 - (lg_sl ([.ref b])).length) Slot.unset).toArray = ls at hl9 ⊢
  exact hgo s.heap [] ls (fun k q h => by simp at h) ⟨fun i j p q h => by simp at h, fun k q h => by simp at h⟩ va_S.rf (by rw [hml]; exact hl9)
