def nse : String := "java/util/NoSuchElementException"
def nsn : List String := ["java/lang/RuntimeException", "java/lang/Exception"]
def nsX : ByteArray := prog_23_method_4_code
def nsL : List Cond := (Bundle.ownAtomsX RX10 160 nse 13 nsX nsn).filter vx_no
def gNB : List Cond := [.castable nse nse, .declares (Bundle.initS "java/lang/RuntimeException"), .declares (Bundle.initS "java/lang/Exception"), .declares (Bundle.initS Bundle.tN)]
theorem gNB_eq : ∀ w ∈ nsL.filter (fun w => !goodWord w), w ∈ gNB := by decide +kernel
theorem gGW0 : ∀ w ∈ nsL.filter goodWord, w ∈ lw_tbl := by decide +kernel
theorem gGW : ∀ w ∈ nsL.filter goodWord, w ∈ gT := fun w hw => List.mem_filter.mpr ⟨gGW0 w hw, (List.mem_filter.mp hw).2⟩
theorem gOT : ∀ w ∈ Cond.classLink RX10 156 nse :: Cond.initialized nse :: nsL, vx_ot w = true := by decide +kernel
/-- what a throw needs beside the tables -/
def gEx (sa : Nat) (A : Nat → Prop) (U : State) (H : Heap) : Prop := vk_R RX10 158 "no such boy or what" sa U ∧ vx_Zq Bundle.tN "UNASSIGNED_STACK" Bundle.steD A U H ∧ vx_Zq Bundle.tN "SUPPRESSED_SENTINEL" Bundle.listD A U H ∧ va_Nw (.castable nse nse) U ∧ va_Nw (.declares (Bundle.initS "java/lang/RuntimeException")) U ∧ va_Nw (.declares (Bundle.initS "java/lang/Exception")) U ∧ va_Nw (.declares (Bundle.initS Bundle.tN)) U
theorem gEx.warm {sa : Nat} {A : Nat → Prop} {u U : State} {H : Heap} (hW : u.WarmedH U.vm) (h : gEx sa A u H) : gEx sa A U H := ⟨h.1.warm hW, h.2.1.moved hW.alike, h.2.2.1.moved hW.alike, h.2.2.2.1.warmC hW, h.2.2.2.2.1.warmD hW, h.2.2.2.2.2.1.warmD hW, h.2.2.2.2.2.2.warmD hW⟩
theorem gEx.same {sa : Nat} {A : Nat → Prop} {u U : State} {H : Heap} (hv : u.vm = U.vm) (h : gEx sa A u H) : gEx sa A U H := ⟨h.1.same hv.symm, h.2.1.moved (by rw [hv]; exact Vm.Alike.refl U.vm), h.2.2.1.moved (by rw [hv]; exact Vm.Alike.refl U.vm), h.2.2.2.1.same rfl hv, h.2.2.2.2.1.same rfl hv, h.2.2.2.2.2.1.same rfl hv, h.2.2.2.2.2.2.same rfl hv⟩
theorem gEx.kept {sa : Nat} {A : Nat → Prop} {U : State} {H H1 : Heap} (h : gEx sa A U H) (hq : ∀ a : Nat, a < H.size → ¬ A a → H1[a]? = H[a]?) : gEx sa A U H1 := ⟨h.1, h.2.1.kept hq, h.2.2.1.kept hq, h.2.2.2⟩
theorem gEx.narrow {sa : Nat} {A A2 : Nat → Prop} {U : State} {H : Heap} (h : gEx sa A U H) (hA : ∀ q, A2 q → A q) : gEx sa A2 U H := ⟨h.1, h.2.1.narrow hA, h.2.2.1.narrow hA, h.2.2.2⟩
def gPcE (B : gB) (sa : Nat) (av : List Value) (ws : va_W) (sz : Nat) : Array Value → State → Prop := fun a U => gPc B av ws sz a U ∧ gEx sa (va_A ws sz) U U.heap
theorem gPcE_blind {B : gB} {sa : Nat} {av : List Value} {ws : va_W} {sz : Nat} : FrameBlind (gPcE B sa av ws sz) := fun a U g mk q => ⟨gPc_blind a U g mk q.1, gEx.same (u := U) (U := U.calling g mk a) rfl q.2⟩
theorem gPreE {B : gB} {sa : Nat} {ws : va_W} {s : State} {A : Nat → Prop} {H : Heap} {locs : List Loc} {av : List Value} (hP : va_P B.2.1 vwCl ws H) (hK : va_K B.2.1 vwCl (gTys B) s) (hD : va_D A ws) (hS : va_S A s.heap H locs) (hA : ∀ q, s.heap.size ≤ q → A q) (hSt : gSt B A s s.heap) (hE : gEx sa A s s.heap) : ∀ U : State, U.heap = H → s.WarmedH U.vm → gPcE B sa av ws H.size av.toArray U := by
  intro U hU hW
  refine ⟨gPre hP hK hD hS hA hSt U hU hW, ?_⟩
  subst hU
  refine gEx.narrow (A := A) ((hE.kept (fun a h1 h2 => hS.2.1 a h1 h2)).warm hW) ?_
  rintro q (⟨i, x, hi⟩ | h)
  · exact hD.2 i _ hi
  · exact hA q (Nat.le_trans hS.1 h)
section GIF
variable {B : gB} {X : gX} {own : String} {cc : ByteArray} {nL d : Nat} {rt : Option FieldType} {pc : Nat} {lv : List (Nat × Value)} {st : List Value} {ws : va_W}
theorem g_iflt (hX : gOk B X own cc nL d rt) {x : Int32} {off : Int} {tgt : Nat} (hd : decode cc pc = .ok (.ifCond .lt off, 3)) (ht : (pc : Int) + off = (tgt : Int)) (k1 : x < 0 → gG B X tgt lv st ws) (k2 : ¬ x < 0 → gG B X (pc + 3) lv st ws) : gG B X pc lv (.int x :: st) ws :=
  h_if_lt (K := fun _ : Unit => True) (E1 := some ()) (E2 := some ()) hX hd ht (fun h => (k1 h).toH) (fun h => (k2 h).toH) () (ite_self _) trivial
theorem g_icmple (hX : gOk B X own cc nL d rt) {x y : Int32} {off : Int} {tgt : Nat} (hd : decode cc pc = .ok (.if_icmp .le off, 3)) (ht : (pc : Int) + off = (tgt : Int)) (k1 : x ≤ y → gG B X tgt lv st ws) (k2 : ¬ x ≤ y → gG B X (pc + 3) lv st ws) : gG B X pc lv (.int y :: .int x :: st) ws :=
  h_icmp_le (K := fun _ : Unit => True) (E1 := some ()) (E2 := some ()) hX hd ht (fun h => (k1 h).toH) (fun h => (k2 h).toH) () (ite_self _) trivial
end GIF

theorem wcl_RX10_156 : Cond.classLink RX10 156 nse ∈ gT := gw5 (i := 213) rfl rfl
theorem wini_nse : Cond.initialized nse ∈ gT := gw1 (i := 19) rfl rfl
theorem wcl_RL_13 : Cond.classLink RL 13 nse ∈ gT := gw5 (i := 208) rfl rfl
theorem wcod_L_boy : Cond.codeWith yL_boy cL_boy 5 (some .int) [(0, 10, 13, 13)] ∈ gT := gw5 (i := 207) rfl rfl
theorem wml_RL_7 : Cond.methodLink RL 7 yX10_boy ∈ gT := gw5 (i := 209) rfl rfl
theorem wim_X10_boy : Cond.instanceMethod yX10_boy ∈ gT := gw5 (i := 210) rfl rfl
theorem wsel_X10_boy : Cond.selects RX10 yX10_boy yX10_boy ∈ gT := gw5 (i := 211) rfl rfl
theorem wcod_X10_boy : Cond.code yX10_boy cX10_boy 3 (some .int) ∈ gT := gw5 (i := 212) rfl rfl
theorem cv_RL_7 : gCV RL 7 RX10 yX10_boy cX10_boy 3 (some .int) 2 := ⟨wml_RL_7, wim_X10_boy, wsel_X10_boy, wini_RX10, wcod_X10_boy, rfl, by decide +kernel⟩
theorem wml_RL_47 : Cond.methodLink RL 47 yX11_boy ∈ gT := gw7 (i := 106) rfl rfl
theorem wim_X11_boy : Cond.instanceMethod yX11_boy ∈ gT := gw7 (i := 107) rfl rfl
theorem wsel_X11_boy : Cond.selects RX11 yX11_boy yX11_boy ∈ gT := gw7 (i := 108) rfl rfl
theorem wcod_X11_boy : Cond.code yX11_boy cX11_boy 3 (some .int) ∈ gT := gw7 (i := 109) rfl rfl
theorem cv_RL_47 : gCV RL 47 RX11 yX11_boy cX11_boy 3 (some .int) 2 := ⟨wml_RL_47, wim_X11_boy, wsel_X11_boy, wini_RX11, wcod_X11_boy, rfl, by decide +kernel⟩
theorem wml_RL_48 : Cond.methodLink RL 48 yX11_thrown ∈ gT := gw6 (i := 188) rfl rfl
theorem wim_X11_thrown : Cond.instanceMethod yX11_thrown ∈ gT := gw6 (i := 189) rfl rfl
theorem wsel_X11_thrown : Cond.selects RX11 yX11_thrown yX11_thrown ∈ gT := gw6 (i := 190) rfl rfl
theorem wcod_X11_thrown : Cond.code yX11_thrown cX11_thrown 1 (some .int) ∈ gT := gw6 (i := 191) rfl rfl
theorem cv_RL_48 : gCV RL 48 RX11 yX11_thrown cX11_thrown 1 (some .int) 0 := ⟨wml_RL_48, wim_X11_thrown, wsel_X11_thrown, wini_RX11, wcod_X11_thrown, rfl, by decide +kernel⟩
theorem wml_RL_42 : Cond.methodLink RL 42 yL_boy ∈ gT := gw5 (i := 205) rfl rfl
theorem wst_L_boy : Cond.static yL_boy ∈ gT := gw5 (i := 206) rfl rfl
theorem wini_RL : Cond.initialized RL ∈ gT := gw1 (i := 0) rfl rfl
variable {B : gB} {fr : va_W} {W_spillsNow : Int32} {W_drawn : Int64} {T_length : Int32} {T_at : Int32} {T_bytes : Nat → Int32} {D_cells : Nat → Int32} {D_clauses : Nat → Int32} {G_length : Int32} {G_code : Nat → Int32} {A_size : Int32} {A_chosen : Int32} {A_codes : Nat → Int32} {A_lengths : Nat → Int32} {A_stack : Nat → Int32} {Y_cells : Nat → Int32} {Y_clauses : Nat → Int32} {N_marbles : Int32} {N_chipped : Int32} {N_swallowed : Int32} {N_sweets : Int32} {N_day : Int32} {N_owners : Nat → Int32} {P_next : Int32} {P_kept : Int32} {P_hasImage : Int32} {P_image : Int64} {P_acts : Nat → Int64} {P_entries : Nat → Int32} {P_imageEntries : Nat → Int32} {S_fewest : Int32} {S_row : Int32} {S_strengths : Nat → Int32} {U_size : Int32} {U_found : Int32} {U_places : Nat → Int32} {U_kinds : Nat → Int32} {U_holds : Nat → Int32} {U_fitting : Nat → Int32} {U_tally : Nat → Int32} {L_letters : Nat → Int32} {L_firstCells : Nat → Int32} {L_secondCells : Nat → Int32} {L_firstBest : Nat → Int32} {L_secondBest : Nat → Int32} {W_refusals : Nat → Int32}
set_option maxRecDepth 4000 in
/-- boy throws where there is no such one -/
theorem boy_throws {sa : Nat} {p0 p1 a1 : Int32} (hl : B.1.stackTraces = false) (h1 : f_Yard_hasBoy Y_clauses p0 = some a1) (hc : a1 = 0 ∨ p1 < 0 ∨ ¬ p1 ≤ 2) (sz : Nat) : vx_Met B.1 yX10_boy (.code yX10_boy cX10_boy 3 (some .int) :: gT) { frames := 8, cells := 1, slots := 6, locals := 512 } (gPcE B sa [.ref (aC B 0), .int p0, .int p1] (wdC B W_spillsNow W_drawn T_length T_at T_bytes D_cells D_clauses G_length G_code A_size A_chosen A_codes A_lengths A_stack Y_cells Y_clauses N_marbles N_chipped N_swallowed N_sweets N_day N_owners P_next P_kept P_hasImage P_image P_acts P_entries P_imageEntries S_fewest S_row S_strengths U_size U_found U_places U_kinds U_holds U_fitting U_tally L_letters L_firstCells L_secondCells L_firstBest L_secondBest W_refusals ++ fr) sz) (fun _ _ _ _ => False) (fun E st t => E = nse ∧ va_P B.2.1 vwCl (wdC B W_spillsNow W_drawn T_length T_at T_bytes D_cells D_clauses G_length G_code A_size A_chosen A_codes A_lengths A_stack Y_cells Y_clauses N_marbles N_chipped N_swallowed N_sweets N_day N_owners P_next P_kept P_hasImage P_image P_acts P_entries P_imageEntries S_fewest S_row S_strengths U_size U_found U_places U_kinds U_holds U_fitting U_tally L_letters L_firstCells L_secondCells L_firstBest L_secondBest W_refusals ++ fr) t.heap ∧ va_F (va_A (wdC B W_spillsNow W_drawn T_length T_at T_bytes D_cells D_clauses G_length G_code A_size A_chosen A_codes A_lengths A_stack Y_cells Y_clauses N_marbles N_chipped N_swallowed N_sweets N_day N_owners P_next P_kept P_hasImage P_image P_acts P_entries P_imageEntries S_fewest S_row S_strengths U_size U_found U_places U_kinds U_holds U_fitting U_tally L_letters L_firstCells L_secondCells L_firstBest L_secondBest W_refusals ++ fr) sz) st t) 1 6 (va_A (wdC B W_spillsNow W_drawn T_length T_at T_bytes D_cells D_clauses G_length G_code A_size A_chosen A_codes A_lengths A_stack Y_cells Y_clauses N_marbles N_chipped N_swallowed N_sweets N_day N_owners P_next P_kept P_hasImage P_image P_acts P_entries P_imageEntries S_fewest S_row S_strengths U_size U_found U_places U_kinds U_holds U_fitting U_tally L_letters L_firstCells L_secondCells L_firstBest L_secondBest W_refusals ++ fr) sz) := by
  generalize hWe : (wdC B W_spillsNow W_drawn T_length T_at T_bytes D_cells D_clauses G_length G_code A_size A_chosen A_codes A_lengths A_stack Y_cells Y_clauses N_marbles N_chipped N_swallowed N_sweets N_day N_owners P_next P_kept P_hasImage P_image P_acts P_entries P_imageEntries S_fewest S_row S_strengths U_size U_found U_places U_kinds U_holds U_fitting U_tally L_letters L_firstCells L_secondCells L_firstBest L_secondBest W_refusals ++ fr) = ws
  refine vx_ofW (cc := cX10_boy) (maxL := 3) (ret := some .int) rfl rfl ?_
  intro p e s m args below meth c s₁ Bd hml hno hv
  obtain ⟨⟨rfl, hsz, hP, hK, hD0, hSt⟩, hE⟩ := hv
  subst hsz
  have hD := hD0.self (sz := s.heap.size)
  have hl9 := lv_entry [.ref (aC B 0), .int p0, .int p1] (n := 3) (Nat.le_of_ble_eq_true rfl)
  rw [lg_entry_eq]
  generalize (lg_sl [.ref (aC B 0), .int p0, .int p1] ++ List.replicate (3 - (lg_sl [.ref (aC B 0), .int p0, .int p1]).length) Slot.unset).toArray = ls at hl9 ⊢
  have hts0 := atoms_spec (ws := .code yX10_boy cX10_boy 3 (some .int) :: gT) Bd.pre
  have hts : ∀ w ∈ gT, w.before [.ref (aC B 0), .int p0, .int p1].toArray s = true := fun w hw => hts0 w (List.mem_cons_of_mem _ hw)
  have hx := Bd.exec
  have hb := Bd.bytes
  have hown : s.vm.findClass RX10 = some m.cls := findClass_of_methodNamed Bd.named
  have hlocks := Bd.notSynchronized
  obtain ⟨X, hXe⟩ : ∃ X : gX, X = (p, e, (headSpec (.code yX10_boy cX10_boy 3 (some .int) :: gT) { frames := 8, cells := 1, slots := 6, locals := 512 }).room, s, m, [.ref (aC B 0), .int p0, .int p1].toArray, below, meth, c, 0, 0, vx_MQ below (fun _ _ _ _ => False) (fun E st t => E = nse ∧ va_P B.2.1 vwCl ws t.heap ∧ va_F (va_A ws s.heap.size) st t) [.ref (aC B 0), .int p0, .int p1].toArray s 1 6 (va_A ws s.heap.size), va_A ws s.heap.size, fun _ _ => False) := ⟨_, rfl⟩
  have hX : gOkI B X RX10 cX10_boy 3 8 1 6 := by
    rw [hXe]
    exact ⟨hx, hb, hml, hown, hts, hK, fun q hq => Or.inr hq, ⟨Nat.le_refl _, Nat.le_refl _, Nat.le_refl _, Nat.le_refl _⟩, hSt⟩
  have ht : ∀ lv : List (Nat × Value), gG B (gXc X 0 0) 20 lv [] ws := by
    intro lv
    rw [hXe]
    intro H locs ls hP hD hS hl2
    exact px_throw (pc := 20) (rx := nsX) (ix := 13) (mc := 1) (ms := 6) (own := RX10) (cls := nse) (names := nsn) (text := "no such boy or what") (sa := sa) (rest := []) hx hb hl (by decide +kernel) (by decide +kernel) (by decide +kernel) (by decide +kernel) hown (by decide +kernel) (by decide +kernel) (hts _ wcl_RX10_156) (hts _ wini_nse) hE.1 (vx_hat (fun w hw => hts w (gGW w hw)) gNB_eq (vx_c (va_Nw.use rfl hE.2.2.2.1) (vx_c (va_Nw.use rfl hE.2.2.2.2.1) (vx_c (va_Nw.use rfl hE.2.2.2.2.2.1) (vx_c (va_Nw.use rfl hE.2.2.2.2.2.2) vx_n))))) gOT hE.2.1 hE.2.2.1 hS hl2.1 dX10_boy_20 dX10_boy_23 dX10_boy_24 dX10_boy_26 dX10_boy_29 (fun x h => (hno x h).elim) (by decide) (by decide) (Nat.le_refl _) (Nat.le_refl _) hlocks (fun t _ h1 h2 => ⟨rfl, hP.kept (fun k q hk => h2 q.1 (hP k q hk).lt), ⟨Nat.le_trans hS.1 h1, fun q h3 h4 => by rw [h2 q (Nat.lt_of_lt_of_le h3 hS.1)]; exact hS.2.1 q h3 h4⟩⟩) hS.2.2 (Nat.le_refl _) (Nat.le_refl _)
  have hgo : gG B (gXc X 0 0) 0 [(0, .ref (aC B 0)), (1, .int p0), (2, .int p1)] [] ws := by
    subst hWe
    refine gH.toG (h_aload_n (hX.ok (rt := some .int) (by decide) (by decide)) dX10_boy_0 rfl rfl (gG.toH ?_))
    refine gH.toG (get_RX10_42_C0 (hX.ok (rt := some .int) (by decide) (by decide)) dX10_boy_1 (gG.toH ?_))
    refine gH.toG (h_iload_n (hX.ok (rt := some .int) (by decide) (by decide)) dX10_boy_4 rfl rfl (gG.toH ?_))
    refine gG.callVi (hX.ok (rt := some .int) (by decide) (by decide)) dX10_boy_5 cv_RX10_152 (As := [.int p0]) (st := []) (c_Yard_hasBoy h1) rc_C13 rfl rfl (by decide) (Nat.le_of_ble_eq_true rfl) ?_
    by_cases h0 : a1 = 0
    · exact g_ifT (hX.ok (rt := some .int) (by decide) (by decide)) h0 dX10_boy_8 (tgt := 20) (by decide) (ht _)
    · refine g_ifF (hX.ok (rt := some .int) (by decide) (by decide)) h0 dX10_boy_8 (tgt := 20) (by decide) ?_
      refine gH.toG (h_iload_n (hX.ok (rt := some .int) (by decide) (by decide)) dX10_boy_11 rfl rfl (gG.toH ?_))
      refine g_iflt (hX.ok (rt := some .int) (by decide) (by decide)) dX10_boy_12 (tgt := 20) (by decide) (fun _ => ht _) (fun h2 => ?_)
      refine gH.toG (h_iload_n (hX.ok (rt := some .int) (by decide) (by decide)) dX10_boy_15 rfl rfl (gG.toH ?_))
      refine gH.toG (h_iconst (hX.ok (rt := some .int) (by decide) (by decide)) dX10_boy_16 ki_2 (gG.toH ?_))
      refine g_icmple (hX.ok (rt := some .int) (by decide) (by decide)) dX10_boy_17 (tgt := 30) (by decide) (fun h3 => ?_) (fun _ => ht _)
      rcases hc with h | h | h
      · exact absurd h h0
      · exact absurd h h2
      · exact absurd h3 h
  rw [hXe] at hgo
  exact hgo s.heap [] ls hP hD va_S.rf (by rw [hml]; exact hl9)
