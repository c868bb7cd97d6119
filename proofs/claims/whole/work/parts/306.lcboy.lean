def gExX (sa : Nat) (X : gX) : Prop := match X with
  | (_, _, _, s, _, _, _, _, _, _, _, _, A, _) => gEx sa A s s.heap
theorem gBoyW : GoodIn gT (va_wsS RL 42 yL_boy (.codeWith yL_boy cL_boy 5 (some .int) [(0, 10, 13, 13)] :: gT)) := by
  intro w hw
  rcases List.mem_append.mp hw with h | h
  · rcases List.mem_cons.mp h with rfl | h
    · exact ⟨wml_RL_42, gT_good wml_RL_42⟩
    · rcases List.mem_cons.mp h with rfl | h
      · exact ⟨wst_L_boy, gT_good wst_L_boy⟩
      · rcases List.mem_cons.mp h with rfl | h
        · exact ⟨wini_RL, gT_good wini_RL⟩
        · cases h
  · rcases List.mem_cons.mp h with rfl | h
    · exact ⟨wcod_L_boy, gT_good wcod_L_boy⟩
    · exact ⟨h, gT_good h⟩
theorem g_callL {B : gB} {X : gX} {cc : ByteArray} {nL d mc ms n w pc sa : Nat} {lv : List (Nat × Value)} {st As : List Value} {ws ws' : va_W} {v : Int32} (hX : gOkI B X RL cc nL d mc ms) (hE : gExX sa X)
    (hm : ∀ sz, Met B.1 yL_boy (.codeWith yL_boy cL_boy 5 (some .int) [(0, 10, 13, 13)] :: gT) { frames := 10, cells := 1, slots := 6, locals := 640 } (gPcE B sa As ws sz) (gQ B ws sz (some (.int v)) ws') 1 6 (va_A ws sz)) (hna : As.length = 4) (hr : 10 + 1 ≤ d ∧ 8 + (5 + 11) + 640 ≤ 64 * d) (hst : (st.map fun v => v.category).sum ≤ 8) (hn : n + 1 ≤ mc) (hw : w + 6 ≤ ms) (hd : decode cc pc = .ok (.invokestatic 42, 3))
    (k : gG B (gXc X (n + 1) (w + 6)) (pc + 3) lv (.int v :: st) ws') : gG B (gXc X n w) pc lv (As.reverse ++ st) ws := by
  obtain ⟨p, ev, R, s, m, args, below, meth, c, cells, slots, Q, A, Fin⟩ := X
  obtain ⟨hx, hb, hml, hown, hts, hK, hA, ⟨hf1, hf2, hf3, hf4⟩, hSt⟩ := hX
  intro H locs ls hP hD hS hl
  have hF : ∀ q, va_A ws H.size q → A q := by
    rintro q (⟨i, x, hi⟩ | h)
    · exact hD.2 i _ hi
    · exact hA q (Nat.le_trans hS.1 h)
  have hrun := vx_runSW (g := F0 m pc ls (As.reverse ++ st)) (rest := st) (R := R) (e := ev) (below := below) (meth := meth) (cells := n) (slots := w) (locs := locs) (n := 4) ⟨hx, hb, hml, hown, hts⟩ (hm H.size) (vx_cwSW 4 hts gBoyW rfl rfl rfl (gNm_spec (by decide +kernel)) ⟨Nat.le_trans hr.1 hf1, Nat.le_trans hr.2 hf2⟩) ⟨gPcE_blind, gPreE hP hK hD hS hA hSt hE⟩ rfl hna (by rw [← hml]; exact hl.1) rfl (lv_room hst) hd ⟨Nat.le_trans hn hf3, Nat.le_trans hw hf4⟩
  intro T hT Xs
  obtain ⟨v9, st₀, t, T', L, h0, X', hL, e1, e2, ⟨hv, hP', hD', hz, hk⟩, stp⟩ := hrun T hT Xs
  cases hv
  rw [h0] at hz hk
  obtain ⟨t2, a1, b1⟩ := k T'.heap (locs ++ L) ls (by rw [e1]; exact hP') (hD'.weaken (fun _ q _ h => hF q.1 h))
    ⟨Nat.le_trans hS.1 (by rw [e1]; exact hz), fun q h1 h2 => by rw [e1, hk q (Nat.lt_of_lt_of_le h1 hS.1) (fun z => h2 (hF q z))]; exact hS.2.1 q h1 h2, fun q hq => by
      rcases List.mem_append.mp hq with h | h
      · exact hS.2.2 q h
      · exact hF _ (hL q h)⟩ hl T' rfl X'
  exact ⟨t2, stp t2 a1, b1⟩
theorem gmv {a b : va_W} {x : Nat × va_E} : (a ++ (b ++ [x])).Perm (a ++ (x :: b)) := List.Perm.append_left a List.perm_append_comm
theorem gmv' {a b : va_W} {x : Nat × va_E} : (a ++ (x :: b)).Perm (a ++ (b ++ [x])) := gmv.symm

section GNE
variable {B : gB} {X : gX} {own : String} {cc : ByteArray} {nL d : Nat} {rt : Option FieldType} {pc : Nat} {lv : List (Nat × Value)} {st : List Value} {ws : va_W}
theorem g_ifne0 (hX : gOk B X own cc nL d rt) {x : Int32} {off : Int} {tgt : Nat} (h : x = 0) (hd : decode cc pc = .ok (.ifCond .ne off, 3)) (ht : (pc : Int) + off = (tgt : Int)) (k : gG B X (pc + 3) lv st ws) : gG B X pc lv (.int x :: st) ws :=
  gH.toG (h_if_ne (E1 := none) (E2 := some ()) hX hd ht (fun _ => gH.none') (fun _ => gG.toH k) |> fun z => by rw [if_pos h] at z; exact z)
theorem g_ifne1 (hX : gOk B X own cc nL d rt) {x : Int32} {off : Int} {tgt : Nat} (h : ¬ x = 0) (hd : decode cc pc = .ok (.ifCond .ne off, 3)) (ht : (pc : Int) + off = (tgt : Int)) (k : gG B X tgt lv st ws) : gG B X pc lv (.int x :: st) ws :=
  gH.toG (h_if_ne (E1 := some ()) (E2 := none) hX hd ht (fun _ => gG.toH k) (fun _ => gH.none') |> fun z => by rw [if_neg h] at z; exact z)
theorem lg_cmp_self (x : Int64) : lg_cmp x x = 0 := by
  unfold lg_cmp
  simp
end GNE

variable {B : gB} {X : gX} {b L n w qo sa : Nat} {xs : Nat → Int32} {W_spillsNow : Int32} {W_drawn : Int64} {T_length : Int32} {T_at : Int32} {T_bytes : Nat → Int32} {D_cells : Nat → Int32} {D_clauses : Nat → Int32} {G_length : Int32} {G_code : Nat → Int32} {A_size : Int32} {A_chosen : Int32} {A_codes : Nat → Int32} {A_lengths : Nat → Int32} {A_stack : Nat → Int32} {Y_cells : Nat → Int32} {Y_clauses : Nat → Int32} {N_marbles : Int32} {N_chipped : Int32} {N_swallowed : Int32} {N_sweets : Int32} {N_day : Int32} {N_owners : Nat → Int32} {P_next : Int32} {P_kept : Int32} {P_hasImage : Int32} {P_image : Int64} {P_acts : Nat → Int64} {P_entries : Nat → Int32} {P_imageEntries : Nat → Int32} {S_fewest : Int32} {S_row : Int32} {S_strengths : Nat → Int32} {U_size : Int32} {U_found : Int32} {U_places : Nat → Int32} {U_kinds : Nat → Int32} {U_holds : Nat → Int32} {U_fitting : Nat → Int32} {U_tally : Nat → Int32} {L_letters : Nat → Int32} {L_firstCells : Nat → Int32} {L_secondCells : Nat → Int32} {L_firstBest : Nat → Int32} {L_secondBest : Nat → Int32} {W_refusals : Nat → Int32} {m_thrown : Int32} {m_size : Int32} {m_at : Int32} {m_wrong : Int32} {m_deep : Int32} {m_laws : Int32} {m_text : Int32} {m_readBoys : Int32} {m_readMarbles : Int32} {m_readFarms : Int32} {m_boys : Int32} {m_marbles : Int32} {m_farms : Int32} {m_holding : Int32} {m_spills : Int32} {m_acts : Int32} {m_draws : Int64} {m_bestRow : Int32} {m_bestMany : Int32} {m_noted : Int32} {m_hasImage : Int32} {m_tape : Nat → Int32} {m_code : Nat → Int32} {m_value : Nat → Int32} {m_codes : Nat → Int32} {m_clauses : Nat → Int32} {m_testFrom : Nat → Int32} {m_sumFrom : Nat → Int32} {m_sumTo : Nat → Int32} {m_letters : Nat → Int32} {m_stack : Nat → Int32} {m_readRule : Nat → Int32} {m_readBoy : Nat → Int32} {m_readMarble : Nat → Int32} {m_readFarm : Nat → Int32} {m_rule : Nat → Int32} {m_boy : Nat → Int32} {m_marble : Nat → Int32} {m_farm : Nat → Int32} {m_now : Nat → Int32} {m_refused : Nat → Int32} {m_kept : Nat → Int32} {m_notePlace : Nat → Int32} {m_noteKind : Nat → Int32} {m_noteIs : Nat → Int32} {m_toldBy : Nat → Int32} {m_image : Nat → Int32}
set_option maxRecDepth 4000 in
theorem lc_boy_norm (hX : gOkI B X RL cL_law 7 1312 601024 7293034) (hE : gExX sa X) (hS : gScr X b L xs) (hn : n + 1 ≤ 601024) (hw : w + 6 ≤ 7293034) {i : Int32} (hi1 : vp_in (i + 1) L) (hi2 : vp_in (i + 2) L) {ov : Nat → Int64} {r1 : Int32} {r2 : (Int32 × Int32)} (h1 : f_Main_boy Y_cells Y_clauses N_marbles N_owners (xs (i + 1 : Int32).toNatClampNeg) (xs (i + 2 : Int32).toNatClampNeg) = some r1) (h2 : f_M_boy m_thrown m_boys m_marbles m_boy m_now (xs (i + 1 : Int32).toNatClampNeg) (xs (i + 2 : Int32).toNatClampNeg) = some r2) (ht : r2.2 = 0) (he : r1 = r2.1) (k : gG B (gXc X (n + 1) (w + 6)) 1742 [(0, .ref b), (1, .ref (aC B 0)), (2, .ref (aM B 0)), (3, .ref qo), (4, .int i)] [] (wdC B W_spillsNow W_drawn T_length T_at T_bytes D_cells D_clauses G_length G_code A_size A_chosen A_codes A_lengths A_stack Y_cells Y_clauses N_marbles N_chipped N_swallowed N_sweets N_day N_owners P_next P_kept P_hasImage P_image P_acts P_entries P_imageEntries S_fewest S_row S_strengths U_size U_found U_places U_kinds U_holds U_fitting U_tally L_letters L_firstCells L_secondCells L_firstBest L_secondBest W_refusals ++ (wdM B r2.2 m_size m_at m_wrong m_deep m_laws m_text m_readBoys m_readMarbles m_readFarms m_boys m_marbles m_farms m_holding m_spills m_acts m_draws m_bestRow m_bestMany m_noted m_hasImage m_tape m_code m_value m_codes m_clauses m_testFrom m_sumFrom m_sumTo m_letters m_stack m_readRule m_readBoy m_readMarble m_readFarm m_rule m_boy m_marble m_farm m_now m_refused m_kept m_notePlace m_noteKind m_noteIs m_toldBy m_image ++ [(qo, .inl (B.2.2.1.2.1, (1, .inr (.inl (vp_updL ov 0 (Int32.toInt64 r1))))))]))) : gG B (gXc X n w) 401 [(0, .ref b), (1, .ref (aC B 0)), (2, .ref (aM B 0)), (3, .ref qo), (4, .int i)] [] (wdC B W_spillsNow W_drawn T_length T_at T_bytes D_cells D_clauses G_length G_code A_size A_chosen A_codes A_lengths A_stack Y_cells Y_clauses N_marbles N_chipped N_swallowed N_sweets N_day N_owners P_next P_kept P_hasImage P_image P_acts P_entries P_imageEntries S_fewest S_row S_strengths U_size U_found U_places U_kinds U_holds U_fitting U_tally L_letters L_firstCells L_secondCells L_firstBest L_secondBest W_refusals ++ (wdM B m_thrown m_size m_at m_wrong m_deep m_laws m_text m_readBoys m_readMarbles m_readFarms m_boys m_marbles m_farms m_holding m_spills m_acts m_draws m_bestRow m_bestMany m_noted m_hasImage m_tape m_code m_value m_codes m_clauses m_testFrom m_sumFrom m_sumTo m_letters m_stack m_readRule m_readBoy m_readMarble m_readFarm m_rule m_boy m_marble m_farm m_now m_refused m_kept m_notePlace m_noteKind m_noteIs m_toldBy m_image ++ [(qo, .inl (B.2.2.1.2.1, (1, .inr (.inl ov))))])) := by
  refine gH.toG (h_aload_n (hX.ok (n := n) (w := w) (rt := some .boolean) (by omega) (by omega)) dL_law_401 rfl rfl (gG.toH ?_))
  refine gH.toG (h_aload_n (hX.ok (n := n) (w := w) (rt := some .boolean) (by omega) (by omega)) dL_law_402 rfl rfl (gG.toH ?_))
  refine gH.toG (h_iload (hX.ok (n := n) (w := w) (rt := some .boolean) (by omega) (by omega)) dL_law_403 rfl (gG.toH ?_))
  refine gH.toG (h_iconst (hX.ok (n := n) (w := w) (rt := some .boolean) (by omega) (by omega)) dL_law_405 ki_1 (gG.toH ?_))
  refine gH.toG (h_iadd (hX.ok (n := n) (w := w) (rt := some .boolean) (by omega) (by omega)) dL_law_406 (gG.toH ?_))
  refine g_sld hX hS hi1 dL_law_407 ?_
  refine gH.toG (h_aload_n (hX.ok (n := n) (w := w) (rt := some .boolean) (by omega) (by omega)) dL_law_408 rfl rfl (gG.toH ?_))
  refine gH.toG (h_iload (hX.ok (n := n) (w := w) (rt := some .boolean) (by omega) (by omega)) dL_law_409 rfl (gG.toH ?_))
  refine gH.toG (h_iconst (hX.ok (n := n) (w := w) (rt := some .boolean) (by omega) (by omega)) dL_law_411 ki_2 (gG.toH ?_))
  refine gH.toG (h_iadd (hX.ok (n := n) (w := w) (rt := some .boolean) (by omega) (by omega)) dL_law_412 (gG.toH ?_))
  refine g_sld hX hS hi2 dL_law_413 ?_
  refine gH.toG (h_aload_n (hX.ok (n := n) (w := w) (rt := some .boolean) (by omega) (by omega)) dL_law_414 rfl rfl (gG.toH ?_))
  refine gG.perm gmv ?_
  refine g_callL hX hE (As := [.ref (aC B 0), .int (xs (i + 1 : Int32).toNatClampNeg), .int (xs (i + 2 : Int32).toNatClampNeg), .ref qo]) (st := []) (lb_norm h1) rfl (by decide) (Nat.le_of_ble_eq_true rfl) (by omega) (by omega) dL_law_415 ?_
  refine gG.perm gmv' ?_
  refine gH.toG (h_istore (hX.ok (n := (n + 1)) (w := (w + 6)) (rt := some .boolean) (by omega) (by omega)) dL_law_418 (by decide) (lv' := [(0, .ref b), (1, .ref (aC B 0)), (2, .ref (aM B 0)), (3, .ref qo), (4, .int i), (5, .int 0)]) rfl (gG.toH ?_))
  refine gH.toG (h_aload_n (hX.ok (n := (n + 1)) (w := (w + 6)) (rt := some .boolean) (by omega) (by omega)) dL_law_420 rfl rfl (gG.toH ?_))
  refine gH.toG (h_aload_n (hX.ok (n := (n + 1)) (w := (w + 6)) (rt := some .boolean) (by omega) (by omega)) dL_law_421 rfl rfl (gG.toH ?_))
  refine gH.toG (h_iload (hX.ok (n := (n + 1)) (w := (w + 6)) (rt := some .boolean) (by omega) (by omega)) dL_law_422 rfl (gG.toH ?_))
  refine gH.toG (h_iconst (hX.ok (n := (n + 1)) (w := (w + 6)) (rt := some .boolean) (by omega) (by omega)) dL_law_424 ki_1 (gG.toH ?_))
  refine gH.toG (h_iadd (hX.ok (n := (n + 1)) (w := (w + 6)) (rt := some .boolean) (by omega) (by omega)) dL_law_425 (gG.toH ?_))
  refine g_sld hX hS hi1 dL_law_426 ?_
  refine gH.toG (h_aload_n (hX.ok (n := (n + 1)) (w := (w + 6)) (rt := some .boolean) (by omega) (by omega)) dL_law_427 rfl rfl (gG.toH ?_))
  refine gH.toG (h_iload (hX.ok (n := (n + 1)) (w := (w + 6)) (rt := some .boolean) (by omega) (by omega)) dL_law_428 rfl (gG.toH ?_))
  refine gH.toG (h_iconst (hX.ok (n := (n + 1)) (w := (w + 6)) (rt := some .boolean) (by omega) (by omega)) dL_law_430 ki_2 (gG.toH ?_))
  refine gH.toG (h_iadd (hX.ok (n := (n + 1)) (w := (w + 6)) (rt := some .boolean) (by omega) (by omega)) dL_law_431 (gG.toH ?_))
  refine g_sld hX hS hi2 dL_law_432 ?_
  refine gG.perm gsw ?_
  refine gG.callVi (hX.ok (n := (n + 1)) (w := (w + 6)) (rt := some .boolean) (by omega) (by omega)) dL_law_433 cv_RL_47 (As := [.int (xs (i + 1 : Int32).toNatClampNeg), .int (xs (i + 2 : Int32).toNatClampNeg)]) (st := []) (c_M_boy h2) rc_M0 rfl rfl (by decide) (Nat.le_of_ble_eq_true rfl) ?_
  refine gH.toG (h_istore (hX.ok (n := (n + 1)) (w := (w + 6)) (rt := some .boolean) (by omega) (by omega)) dL_law_436 (by decide) (lv' := [(0, .ref b), (1, .ref (aC B 0)), (2, .ref (aM B 0)), (3, .ref qo), (4, .int i), (5, .int 0), (6, .int r2.1)]) rfl (gG.toH ?_))
  refine gH.toG (h_aload_n (hX.ok (n := (n + 1)) (w := (w + 6)) (rt := some .boolean) (by omega) (by omega)) dL_law_438 rfl rfl (gG.toH ?_))
  refine gG.callVi (hX.ok (n := (n + 1)) (w := (w + 6)) (rt := some .boolean) (by omega) (by omega)) dL_law_439 cv_RL_48 (As := []) (st := []) (c_M_thrown rfl) rc_M0 rfl rfl (by decide) (Nat.le_of_ble_eq_true rfl) ?_
  refine gG.perm gsw ?_
  refine gH.toG (h_iload (hX.ok (n := (n + 1)) (w := (w + 6)) (rt := some .boolean) (by omega) (by omega)) dL_law_442 rfl (gG.toH ?_))
  refine g_icmpT (hX.ok (n := (n + 1)) (w := (w + 6)) (rt := some .boolean) (by omega) (by omega)) ht dL_law_444 (tgt := 449) (by decide) ?_
  refine gH.toG (h_iload (hX.ok (n := (n + 1)) (w := (w + 6)) (rt := some .boolean) (by omega) (by omega)) dL_law_449 rfl (gG.toH ?_))
  refine g_ifne0 (hX.ok (n := (n + 1)) (w := (w + 6)) (rt := some .boolean) (by omega) (by omega)) rfl dL_law_451 (tgt := 466) (by decide) ?_
  refine gH.toG (h_aload_n (hX.ok (n := (n + 1)) (w := (w + 6)) (rt := some .boolean) (by omega) (by omega)) dL_law_454 rfl rfl (gG.toH ?_))
  refine gH.toG (h_iconst (hX.ok (n := (n + 1)) (w := (w + 6)) (rt := some .boolean) (by omega) (by omega)) dL_law_455 ki_0 (gG.toH ?_))
  refine gG.perm gmv ?_
  refine h_lald (K := fun _ : Unit => True) (E := some ()) (hX.ok (n := (n + 1)) (w := (w + 6)) (rt := some .boolean) (by omega) (by omega)) 37 rfl dL_law_456 (gG.toH ?_) () rfl trivial
  refine gG.perm gmv' ?_
  refine gH.toG (h_iload (hX.ok (n := (n + 1)) (w := (w + 6)) (rt := some .boolean) (by omega) (by omega)) dL_law_457 rfl (gG.toH ?_))
  refine gH.toG (h_i2l (hX.ok (n := (n + 1)) (w := (w + 6)) (rt := some .boolean) (by omega) (by omega)) dL_law_459 (gG.toH ?_))
  refine gH.toG (h_lcmp (hX.ok (n := (n + 1)) (w := (w + 6)) (rt := some .boolean) (by omega) (by omega)) dL_law_460 (gG.toH ?_))
  refine g_ifT (hX.ok (n := (n + 1)) (w := (w + 6)) (rt := some .boolean) (by omega) (by omega)) (by rw [he]; exact lg_cmp_self _) dL_law_461 (tgt := 466) (by decide) ?_
  refine gH.toG (h_goto (hX.ok (n := (n + 1)) (w := (w + 6)) (rt := some .boolean) (by omega) (by omega)) dL_law_466 (tgt := 1742) (by decide) (gG.toH ?_))
  refine gH.toG (gH.dead [0, 1, 2, 3, 4] rfl (gG.toH ?_))
  exact k

set_option maxRecDepth 4000 in
theorem lc_boy_throw (hX : gOkI B X RL cL_law 7 1312 601024 7293034) (hE : gExX sa X) (hS : gScr X b L xs) (hn : n + 1 ≤ 601024) (hw : w + 6 ≤ 7293034) {i : Int32} (hi1 : vp_in (i + 1) L) (hi2 : vp_in (i + 2) L) {ov : Nat → Int64} {r1 : Int32} {r2 : (Int32 × Int32)} (hl : B.1.stackTraces = false) (h1 : f_Yard_hasBoy Y_clauses (xs (i + 1 : Int32).toNatClampNeg) = some r1) (hc : r1 = 0 ∨ xs (i + 2 : Int32).toNatClampNeg < 0 ∨ ¬ xs (i + 2 : Int32).toNatClampNeg ≤ 2) (h2 : f_M_boy m_thrown m_boys m_marbles m_boy m_now (xs (i + 1 : Int32).toNatClampNeg) (xs (i + 2 : Int32).toNatClampNeg) = some r2) (ht : r2.2 = 1) (k : gG B (gXc X (n + 1) (w + 6)) 1742 [(0, .ref b), (1, .ref (aC B 0)), (2, .ref (aM B 0)), (3, .ref qo), (4, .int i)] [] (wdC B W_spillsNow W_drawn T_length T_at T_bytes D_cells D_clauses G_length G_code A_size A_chosen A_codes A_lengths A_stack Y_cells Y_clauses N_marbles N_chipped N_swallowed N_sweets N_day N_owners P_next P_kept P_hasImage P_image P_acts P_entries P_imageEntries S_fewest S_row S_strengths U_size U_found U_places U_kinds U_holds U_fitting U_tally L_letters L_firstCells L_secondCells L_firstBest L_secondBest W_refusals ++ (wdM B r2.2 m_size m_at m_wrong m_deep m_laws m_text m_readBoys m_readMarbles m_readFarms m_boys m_marbles m_farms m_holding m_spills m_acts m_draws m_bestRow m_bestMany m_noted m_hasImage m_tape m_code m_value m_codes m_clauses m_testFrom m_sumFrom m_sumTo m_letters m_stack m_readRule m_readBoy m_readMarble m_readFarm m_rule m_boy m_marble m_farm m_now m_refused m_kept m_notePlace m_noteKind m_noteIs m_toldBy m_image ++ [(qo, .inl (B.2.2.1.2.1, (1, .inr (.inl ov))))]))) : gG B (gXc X n w) 401 [(0, .ref b), (1, .ref (aC B 0)), (2, .ref (aM B 0)), (3, .ref qo), (4, .int i)] [] (wdC B W_spillsNow W_drawn T_length T_at T_bytes D_cells D_clauses G_length G_code A_size A_chosen A_codes A_lengths A_stack Y_cells Y_clauses N_marbles N_chipped N_swallowed N_sweets N_day N_owners P_next P_kept P_hasImage P_image P_acts P_entries P_imageEntries S_fewest S_row S_strengths U_size U_found U_places U_kinds U_holds U_fitting U_tally L_letters L_firstCells L_secondCells L_firstBest L_secondBest W_refusals ++ (wdM B m_thrown m_size m_at m_wrong m_deep m_laws m_text m_readBoys m_readMarbles m_readFarms m_boys m_marbles m_farms m_holding m_spills m_acts m_draws m_bestRow m_bestMany m_noted m_hasImage m_tape m_code m_value m_codes m_clauses m_testFrom m_sumFrom m_sumTo m_letters m_stack m_readRule m_readBoy m_readMarble m_readFarm m_rule m_boy m_marble m_farm m_now m_refused m_kept m_notePlace m_noteKind m_noteIs m_toldBy m_image ++ [(qo, .inl (B.2.2.1.2.1, (1, .inr (.inl ov))))])) := by
  refine gH.toG (h_aload_n (hX.ok (n := n) (w := w) (rt := some .boolean) (by omega) (by omega)) dL_law_401 rfl rfl (gG.toH ?_))
  refine gH.toG (h_aload_n (hX.ok (n := n) (w := w) (rt := some .boolean) (by omega) (by omega)) dL_law_402 rfl rfl (gG.toH ?_))
  refine gH.toG (h_iload (hX.ok (n := n) (w := w) (rt := some .boolean) (by omega) (by omega)) dL_law_403 rfl (gG.toH ?_))
  refine gH.toG (h_iconst (hX.ok (n := n) (w := w) (rt := some .boolean) (by omega) (by omega)) dL_law_405 ki_1 (gG.toH ?_))
  refine gH.toG (h_iadd (hX.ok (n := n) (w := w) (rt := some .boolean) (by omega) (by omega)) dL_law_406 (gG.toH ?_))
  refine g_sld hX hS hi1 dL_law_407 ?_
  refine gH.toG (h_aload_n (hX.ok (n := n) (w := w) (rt := some .boolean) (by omega) (by omega)) dL_law_408 rfl rfl (gG.toH ?_))
  refine gH.toG (h_iload (hX.ok (n := n) (w := w) (rt := some .boolean) (by omega) (by omega)) dL_law_409 rfl (gG.toH ?_))
  refine gH.toG (h_iconst (hX.ok (n := n) (w := w) (rt := some .boolean) (by omega) (by omega)) dL_law_411 ki_2 (gG.toH ?_))
  refine gH.toG (h_iadd (hX.ok (n := n) (w := w) (rt := some .boolean) (by omega) (by omega)) dL_law_412 (gG.toH ?_))
  refine g_sld hX hS hi2 dL_law_413 ?_
  refine gH.toG (h_aload_n (hX.ok (n := n) (w := w) (rt := some .boolean) (by omega) (by omega)) dL_law_414 rfl rfl (gG.toH ?_))
  refine gG.perm gmv ?_
  refine g_callL hX hE (As := [.ref (aC B 0), .int (xs (i + 1 : Int32).toNatClampNeg), .int (xs (i + 2 : Int32).toNatClampNeg), .ref qo]) (st := []) (lb_throw hl h1 hc) rfl (by decide) (Nat.le_of_ble_eq_true rfl) (by omega) (by omega) dL_law_415 ?_
  refine gG.perm gmv' ?_
  refine gH.toG (h_istore (hX.ok (n := (n + 1)) (w := (w + 6)) (rt := some .boolean) (by omega) (by omega)) dL_law_418 (by decide) (lv' := [(0, .ref b), (1, .ref (aC B 0)), (2, .ref (aM B 0)), (3, .ref qo), (4, .int i), (5, .int 1)]) rfl (gG.toH ?_))
  refine gH.toG (h_aload_n (hX.ok (n := (n + 1)) (w := (w + 6)) (rt := some .boolean) (by omega) (by omega)) dL_law_420 rfl rfl (gG.toH ?_))
  refine gH.toG (h_aload_n (hX.ok (n := (n + 1)) (w := (w + 6)) (rt := some .boolean) (by omega) (by omega)) dL_law_421 rfl rfl (gG.toH ?_))
  refine gH.toG (h_iload (hX.ok (n := (n + 1)) (w := (w + 6)) (rt := some .boolean) (by omega) (by omega)) dL_law_422 rfl (gG.toH ?_))
  refine gH.toG (h_iconst (hX.ok (n := (n + 1)) (w := (w + 6)) (rt := some .boolean) (by omega) (by omega)) dL_law_424 ki_1 (gG.toH ?_))
  refine gH.toG (h_iadd (hX.ok (n := (n + 1)) (w := (w + 6)) (rt := some .boolean) (by omega) (by omega)) dL_law_425 (gG.toH ?_))
  refine g_sld hX hS hi1 dL_law_426 ?_
  refine gH.toG (h_aload_n (hX.ok (n := (n + 1)) (w := (w + 6)) (rt := some .boolean) (by omega) (by omega)) dL_law_427 rfl rfl (gG.toH ?_))
  refine gH.toG (h_iload (hX.ok (n := (n + 1)) (w := (w + 6)) (rt := some .boolean) (by omega) (by omega)) dL_law_428 rfl (gG.toH ?_))
  refine gH.toG (h_iconst (hX.ok (n := (n + 1)) (w := (w + 6)) (rt := some .boolean) (by omega) (by omega)) dL_law_430 ki_2 (gG.toH ?_))
  refine gH.toG (h_iadd (hX.ok (n := (n + 1)) (w := (w + 6)) (rt := some .boolean) (by omega) (by omega)) dL_law_431 (gG.toH ?_))
  refine g_sld hX hS hi2 dL_law_432 ?_
  refine gG.perm gsw ?_
  refine gG.callVi (hX.ok (n := (n + 1)) (w := (w + 6)) (rt := some .boolean) (by omega) (by omega)) dL_law_433 cv_RL_47 (As := [.int (xs (i + 1 : Int32).toNatClampNeg), .int (xs (i + 2 : Int32).toNatClampNeg)]) (st := []) (c_M_boy h2) rc_M0 rfl rfl (by decide) (Nat.le_of_ble_eq_true rfl) ?_
  refine gH.toG (h_istore (hX.ok (n := (n + 1)) (w := (w + 6)) (rt := some .boolean) (by omega) (by omega)) dL_law_436 (by decide) (lv' := [(0, .ref b), (1, .ref (aC B 0)), (2, .ref (aM B 0)), (3, .ref qo), (4, .int i), (5, .int 1), (6, .int r2.1)]) rfl (gG.toH ?_))
  refine gH.toG (h_aload_n (hX.ok (n := (n + 1)) (w := (w + 6)) (rt := some .boolean) (by omega) (by omega)) dL_law_438 rfl rfl (gG.toH ?_))
  refine gG.callVi (hX.ok (n := (n + 1)) (w := (w + 6)) (rt := some .boolean) (by omega) (by omega)) dL_law_439 cv_RL_48 (As := []) (st := []) (c_M_thrown rfl) rc_M0 rfl rfl (by decide) (Nat.le_of_ble_eq_true rfl) ?_
  refine gG.perm gsw ?_
  refine gH.toG (h_iload (hX.ok (n := (n + 1)) (w := (w + 6)) (rt := some .boolean) (by omega) (by omega)) dL_law_442 rfl (gG.toH ?_))
  refine g_icmpT (hX.ok (n := (n + 1)) (w := (w + 6)) (rt := some .boolean) (by omega) (by omega)) ht dL_law_444 (tgt := 449) (by decide) ?_
  refine gH.toG (h_iload (hX.ok (n := (n + 1)) (w := (w + 6)) (rt := some .boolean) (by omega) (by omega)) dL_law_449 rfl (gG.toH ?_))
  refine g_ifne1 (hX.ok (n := (n + 1)) (w := (w + 6)) (rt := some .boolean) (by omega) (by omega)) (by decide) dL_law_451 (tgt := 466) (by decide) ?_
  refine gH.toG (h_goto (hX.ok (n := (n + 1)) (w := (w + 6)) (rt := some .boolean) (by omega) (by omega)) dL_law_466 (tgt := 1742) (by decide) (gG.toH ?_))
  refine gH.toG (gH.dead [0, 1, 2, 3, 4] rfl (gG.toH ?_))
  exact k
