variable {B : gB} {X : gX} {fr : va_W} {b L n w qo : Nat} {xs : Nat → Int32} {W_spillsNow : Int32} {W_drawn : Int64} {T_length : Int32} {T_at : Int32} {T_bytes : Nat → Int32} {D_cells : Nat → Int32} {D_clauses : Nat → Int32} {G_length : Int32} {G_code : Nat → Int32} {A_size : Int32} {A_chosen : Int32} {A_codes : Nat → Int32} {A_lengths : Nat → Int32} {A_stack : Nat → Int32} {Y_cells : Nat → Int32} {Y_clauses : Nat → Int32} {N_marbles : Int32} {N_chipped : Int32} {N_swallowed : Int32} {N_sweets : Int32} {N_day : Int32} {N_owners : Nat → Int32} {P_next : Int32} {P_kept : Int32} {P_hasImage : Int32} {P_image : Int64} {P_acts : Nat → Int64} {P_entries : Nat → Int32} {P_imageEntries : Nat → Int32} {S_fewest : Int32} {S_row : Int32} {S_strengths : Nat → Int32} {U_size : Int32} {U_found : Int32} {U_places : Nat → Int32} {U_kinds : Nat → Int32} {U_holds : Nat → Int32} {U_fitting : Nat → Int32} {U_tally : Nat → Int32} {L_letters : Nat → Int32} {L_firstCells : Nat → Int32} {L_secondCells : Nat → Int32} {L_firstBest : Nat → Int32} {L_secondBest : Nat → Int32} {W_refusals : Nat → Int32} {m_thrown : Int32} {m_size : Int32} {m_at : Int32} {m_wrong : Int32} {m_deep : Int32} {m_laws : Int32} {m_text : Int32} {m_readBoys : Int32} {m_readMarbles : Int32} {m_readFarms : Int32} {m_boys : Int32} {m_marbles : Int32} {m_farms : Int32} {m_holding : Int32} {m_spills : Int32} {m_acts : Int32} {m_draws : Int64} {m_bestRow : Int32} {m_bestMany : Int32} {m_noted : Int32} {m_hasImage : Int32} {m_tape : Nat → Int32} {m_code : Nat → Int32} {m_value : Nat → Int32} {m_codes : Nat → Int32} {m_clauses : Nat → Int32} {m_testFrom : Nat → Int32} {m_sumFrom : Nat → Int32} {m_sumTo : Nat → Int32} {m_letters : Nat → Int32} {m_stack : Nat → Int32} {m_readRule : Nat → Int32} {m_readBoy : Nat → Int32} {m_readMarble : Nat → Int32} {m_readFarm : Nat → Int32} {m_rule : Nat → Int32} {m_boy : Nat → Int32} {m_marble : Nat → Int32} {m_farm : Nat → Int32} {m_now : Nat → Int32} {m_refused : Nat → Int32} {m_kept : Nat → Int32} {m_notePlace : Nat → Int32} {m_noteKind : Nat → Int32} {m_noteIs : Nat → Int32} {m_toldBy : Nat → Int32} {m_image : Nat → Int32}
theorem wml_RL_19 : Cond.methodLink RL 19 yX10_feed ∈ gT := gw2 (i := 71) rfl rfl
theorem wim_X10_feed : Cond.instanceMethod yX10_feed ∈ gT := gw2 (i := 72) rfl rfl
theorem wsel_X10_feed : Cond.selects RX10 yX10_feed yX10_feed ∈ gT := gw2 (i := 73) rfl rfl
theorem wcod_X10_feed : Cond.code yX10_feed cX10_feed 7 (some .int) ∈ gT := gw2 (i := 74) rfl rfl
theorem cv_RL_19 : gCV RL 19 RX10 yX10_feed cX10_feed 7 (some .int) 5 := ⟨wml_RL_19, wim_X10_feed, wsel_X10_feed, wini_RX10, wcod_X10_feed, rfl, by decide +kernel⟩
theorem wml_RL_23 : Cond.methodLink RL 23 yX11_feed ∈ gT := gw6 (i := 192) rfl rfl
theorem wim_X11_feed : Cond.instanceMethod yX11_feed ∈ gT := gw6 (i := 193) rfl rfl
theorem wsel_X11_feed : Cond.selects RX11 yX11_feed yX11_feed ∈ gT := gw6 (i := 194) rfl rfl
theorem wcod_X11_feed : Cond.code yX11_feed cX11_feed 9 (some .int) ∈ gT := gw6 (i := 195) rfl rfl
theorem cv_RL_23 : gCV RL 23 RX11 yX11_feed cX11_feed 9 (some .int) 5 := ⟨wml_RL_23, wim_X11_feed, wsel_X11_feed, wini_RX11, wcod_X11_feed, rfl, by decide +kernel⟩
set_option maxRecDepth 4000 in
theorem lc_feed (hX : gOkI B X RL cL_law 7 1312 601024 7293034) (hS : gScr X b L xs) (hn : n ≤ 601024) (hw : w ≤ 7293034) {i : Int32} (hi1 : vp_in (i + 1) L) (hi2 : vp_in (i + 2) L) (hi3 : vp_in (i + 3) L) (hi4 : vp_in (i + 4) L) (hi5 : vp_in (i + 5) L) {r1 : (Int32 × Int32 × (Nat → Int32))} {r2 : (Int32 × Int32 × (Nat → Int32))} (h1 : f_Main_feed T_length T_bytes (xs (i + 1 : Int32).toNatClampNeg) (xs (i + 2 : Int32).toNatClampNeg) (xs (i + 3 : Int32).toNatClampNeg) (xs (i + 4 : Int32).toNatClampNeg) (xs (i + 5 : Int32).toNatClampNeg) = some r1) (h2 : f_M_feed m_size m_tape (xs (i + 1 : Int32).toNatClampNeg) (xs (i + 2 : Int32).toNatClampNeg) (xs (i + 3 : Int32).toNatClampNeg) (xs (i + 4 : Int32).toNatClampNeg) (xs (i + 5 : Int32).toNatClampNeg) = some r2) (he : r1.1 = r2.1) (k : gG B (gXc X n w) 1742 [(0, .ref b), (1, .ref (aC B 0)), (2, .ref (aM B 0)), (3, .ref qo), (4, .int i)] [] (wdC B W_spillsNow W_drawn r1.2.1 T_at r1.2.2 D_cells D_clauses G_length G_code A_size A_chosen A_codes A_lengths A_stack Y_cells Y_clauses N_marbles N_chipped N_swallowed N_sweets N_day N_owners P_next P_kept P_hasImage P_image P_acts P_entries P_imageEntries S_fewest S_row S_strengths U_size U_found U_places U_kinds U_holds U_fitting U_tally L_letters L_firstCells L_secondCells L_firstBest L_secondBest W_refusals ++ (wdM B m_thrown r2.2.1 m_at m_wrong m_deep m_laws m_text m_readBoys m_readMarbles m_readFarms m_boys m_marbles m_farms m_holding m_spills m_acts m_draws m_bestRow m_bestMany m_noted m_hasImage r2.2.2 m_code m_value m_codes m_clauses m_testFrom m_sumFrom m_sumTo m_letters m_stack m_readRule m_readBoy m_readMarble m_readFarm m_rule m_boy m_marble m_farm m_now m_refused m_kept m_notePlace m_noteKind m_noteIs m_toldBy m_image ++ fr))) : gG B (gXc X n w) 228 [(0, .ref b), (1, .ref (aC B 0)), (2, .ref (aM B 0)), (3, .ref qo), (4, .int i)] [] (wdC B W_spillsNow W_drawn T_length T_at T_bytes D_cells D_clauses G_length G_code A_size A_chosen A_codes A_lengths A_stack Y_cells Y_clauses N_marbles N_chipped N_swallowed N_sweets N_day N_owners P_next P_kept P_hasImage P_image P_acts P_entries P_imageEntries S_fewest S_row S_strengths U_size U_found U_places U_kinds U_holds U_fitting U_tally L_letters L_firstCells L_secondCells L_firstBest L_secondBest W_refusals ++ (wdM B m_thrown m_size m_at m_wrong m_deep m_laws m_text m_readBoys m_readMarbles m_readFarms m_boys m_marbles m_farms m_holding m_spills m_acts m_draws m_bestRow m_bestMany m_noted m_hasImage m_tape m_code m_value m_codes m_clauses m_testFrom m_sumFrom m_sumTo m_letters m_stack m_readRule m_readBoy m_readMarble m_readFarm m_rule m_boy m_marble m_farm m_now m_refused m_kept m_notePlace m_noteKind m_noteIs m_toldBy m_image ++ fr)) := by
  refine gH.toG (h_aload_n (hX.ok (rt := some .boolean) hn hw) dL_law_228 rfl rfl (gG.toH ?_))
  refine gH.toG (h_aload_n (hX.ok (rt := some .boolean) hn hw) dL_law_229 rfl rfl (gG.toH ?_))
  refine gH.toG (h_iload (hX.ok (rt := some .boolean) hn hw) dL_law_230 rfl (gG.toH ?_))
  refine gH.toG (h_iconst (hX.ok (rt := some .boolean) hn hw) dL_law_232 ki_1 (gG.toH ?_))
  refine gH.toG (h_iadd (hX.ok (rt := some .boolean) hn hw) dL_law_233 (gG.toH ?_))
  refine g_sld hX hS hi1 dL_law_234 ?_
  refine gH.toG (h_aload_n (hX.ok (rt := some .boolean) hn hw) dL_law_235 rfl rfl (gG.toH ?_))
  refine gH.toG (h_iload (hX.ok (rt := some .boolean) hn hw) dL_law_236 rfl (gG.toH ?_))
  refine gH.toG (h_iconst (hX.ok (rt := some .boolean) hn hw) dL_law_238 ki_2 (gG.toH ?_))
  refine gH.toG (h_iadd (hX.ok (rt := some .boolean) hn hw) dL_law_239 (gG.toH ?_))
  refine g_sld hX hS hi2 dL_law_240 ?_
  refine gH.toG (h_aload_n (hX.ok (rt := some .boolean) hn hw) dL_law_241 rfl rfl (gG.toH ?_))
  refine gH.toG (h_iload (hX.ok (rt := some .boolean) hn hw) dL_law_242 rfl (gG.toH ?_))
  refine gH.toG (h_iconst (hX.ok (rt := some .boolean) hn hw) dL_law_244 ki_3 (gG.toH ?_))
  refine gH.toG (h_iadd (hX.ok (rt := some .boolean) hn hw) dL_law_245 (gG.toH ?_))
  refine g_sld hX hS hi3 dL_law_246 ?_
  refine gH.toG (h_aload_n (hX.ok (rt := some .boolean) hn hw) dL_law_247 rfl rfl (gG.toH ?_))
  refine gH.toG (h_iload (hX.ok (rt := some .boolean) hn hw) dL_law_248 rfl (gG.toH ?_))
  refine gH.toG (h_iconst (hX.ok (rt := some .boolean) hn hw) dL_law_250 ki_4 (gG.toH ?_))
  refine gH.toG (h_iadd (hX.ok (rt := some .boolean) hn hw) dL_law_251 (gG.toH ?_))
  refine g_sld hX hS hi4 dL_law_252 ?_
  refine gH.toG (h_aload_n (hX.ok (rt := some .boolean) hn hw) dL_law_253 rfl rfl (gG.toH ?_))
  refine gH.toG (h_iload (hX.ok (rt := some .boolean) hn hw) dL_law_254 rfl (gG.toH ?_))
  refine gH.toG (h_iconst (hX.ok (rt := some .boolean) hn hw) dL_law_256 ki_5 (gG.toH ?_))
  refine gH.toG (h_iadd (hX.ok (rt := some .boolean) hn hw) dL_law_257 (gG.toH ?_))
  refine g_sld hX hS hi5 dL_law_258 ?_
  refine gG.callVi (hX.ok (rt := some .boolean) hn hw) dL_law_259 cv_RL_19 (As := [.int (xs (i + 1 : Int32).toNatClampNeg), .int (xs (i + 2 : Int32).toNatClampNeg), .int (xs (i + 3 : Int32).toNatClampNeg), .int (xs (i + 4 : Int32).toNatClampNeg), .int (xs (i + 5 : Int32).toNatClampNeg)]) (st := []) (c_Main_feed h1) rc_C0 rfl rfl (by decide) (Nat.le_of_ble_eq_true rfl) ?_
  refine gH.toG (h_aload_n (hX.ok (rt := some .boolean) hn hw) dL_law_262 rfl rfl (gG.toH ?_))
  refine gH.toG (h_aload_n (hX.ok (rt := some .boolean) hn hw) dL_law_263 rfl rfl (gG.toH ?_))
  refine gH.toG (h_iload (hX.ok (rt := some .boolean) hn hw) dL_law_264 rfl (gG.toH ?_))
  refine gH.toG (h_iconst (hX.ok (rt := some .boolean) hn hw) dL_law_266 ki_1 (gG.toH ?_))
  refine gH.toG (h_iadd (hX.ok (rt := some .boolean) hn hw) dL_law_267 (gG.toH ?_))
  refine g_sld hX hS hi1 dL_law_268 ?_
  refine gH.toG (h_aload_n (hX.ok (rt := some .boolean) hn hw) dL_law_269 rfl rfl (gG.toH ?_))
  refine gH.toG (h_iload (hX.ok (rt := some .boolean) hn hw) dL_law_270 rfl (gG.toH ?_))
  refine gH.toG (h_iconst (hX.ok (rt := some .boolean) hn hw) dL_law_272 ki_2 (gG.toH ?_))
  refine gH.toG (h_iadd (hX.ok (rt := some .boolean) hn hw) dL_law_273 (gG.toH ?_))
  refine g_sld hX hS hi2 dL_law_274 ?_
  refine gH.toG (h_aload_n (hX.ok (rt := some .boolean) hn hw) dL_law_275 rfl rfl (gG.toH ?_))
  refine gH.toG (h_iload (hX.ok (rt := some .boolean) hn hw) dL_law_276 rfl (gG.toH ?_))
  refine gH.toG (h_iconst (hX.ok (rt := some .boolean) hn hw) dL_law_278 ki_3 (gG.toH ?_))
  refine gH.toG (h_iadd (hX.ok (rt := some .boolean) hn hw) dL_law_279 (gG.toH ?_))
  refine g_sld hX hS hi3 dL_law_280 ?_
  refine gH.toG (h_aload_n (hX.ok (rt := some .boolean) hn hw) dL_law_281 rfl rfl (gG.toH ?_))
  refine gH.toG (h_iload (hX.ok (rt := some .boolean) hn hw) dL_law_282 rfl (gG.toH ?_))
  refine gH.toG (h_iconst (hX.ok (rt := some .boolean) hn hw) dL_law_284 ki_4 (gG.toH ?_))
  refine gH.toG (h_iadd (hX.ok (rt := some .boolean) hn hw) dL_law_285 (gG.toH ?_))
  refine g_sld hX hS hi4 dL_law_286 ?_
  refine gH.toG (h_aload_n (hX.ok (rt := some .boolean) hn hw) dL_law_287 rfl rfl (gG.toH ?_))
  refine gH.toG (h_iload (hX.ok (rt := some .boolean) hn hw) dL_law_288 rfl (gG.toH ?_))
  refine gH.toG (h_iconst (hX.ok (rt := some .boolean) hn hw) dL_law_290 ki_5 (gG.toH ?_))
  refine gH.toG (h_iadd (hX.ok (rt := some .boolean) hn hw) dL_law_291 (gG.toH ?_))
  refine g_sld hX hS hi5 dL_law_292 ?_
  refine gG.perm gsw ?_
  refine gG.callVi (hX.ok (rt := some .boolean) hn hw) dL_law_293 cv_RL_23 (As := [.int (xs (i + 1 : Int32).toNatClampNeg), .int (xs (i + 2 : Int32).toNatClampNeg), .int (xs (i + 3 : Int32).toNatClampNeg), .int (xs (i + 4 : Int32).toNatClampNeg), .int (xs (i + 5 : Int32).toNatClampNeg)]) (st := [.int r1.1]) (c_M_feed h2) rc_M0 rfl rfl (by decide) (Nat.le_of_ble_eq_true rfl) ?_
  refine gG.perm gsw ?_
  exact g_icmpT (hX.ok (rt := some .boolean) hn hw) he dL_law_296 (tgt := 1742) (by decide) k
theorem wml_RL_24 : Cond.methodLink RL 24 yX10_end ∈ gT := gw2 (i := 86) rfl rfl
theorem wim_X10_end : Cond.instanceMethod yX10_end ∈ gT := gw2 (i := 87) rfl rfl
theorem wsel_X10_end : Cond.selects RX10 yX10_end yX10_end ∈ gT := gw2 (i := 88) rfl rfl
theorem wcod_X10_end : Cond.code yX10_end cX10_end 2 (some .boolean) ∈ gT := gw2 (i := 89) rfl rfl
theorem cv_RL_24 : gCV RL 24 RX10 yX10_end cX10_end 2 (some .boolean) 1 := ⟨wml_RL_24, wim_X10_end, wsel_X10_end, wini_RX10, wcod_X10_end, rfl, by decide +kernel⟩
theorem wml_RL_28 : Cond.methodLink RL 28 yX11_end ∈ gT := gw6 (i := 199) rfl rfl
theorem wim_X11_end : Cond.instanceMethod yX11_end ∈ gT := gw6 (i := 200) rfl rfl
theorem wsel_X11_end : Cond.selects RX11 yX11_end yX11_end ∈ gT := gw6 (i := 201) rfl rfl
theorem wcod_X11_end : Cond.code yX11_end cX11_end 2 (some .boolean) ∈ gT := gw6 (i := 202) rfl rfl
theorem cv_RL_28 : gCV RL 28 RX11 yX11_end cX11_end 2 (some .boolean) 1 := ⟨wml_RL_28, wim_X11_end, wsel_X11_end, wini_RX11, wcod_X11_end, rfl, by decide +kernel⟩
set_option maxRecDepth 4000 in
theorem lc_end (hX : gOkI B X RL cL_law 7 1312 601024 7293034) (hS : gScr X b L xs) (hn : n ≤ 601024) (hw : w ≤ 7293034) {i : Int32} (hi1 : vp_in (i + 1) L) {r1 : (Int32 × Int32)} {r2 : (Int32 × Int32)} (h1 : f_Main_end T_length (xs (i + 1 : Int32).toNatClampNeg) = some r1) (h2 : f_M_end m_size (xs (i + 1 : Int32).toNatClampNeg) = some r2) (he : r1.1 = r2.1) (k : gG B (gXc X n w) 1742 [(0, .ref b), (1, .ref (aC B 0)), (2, .ref (aM B 0)), (3, .ref qo), (4, .int i)] [] (wdC B W_spillsNow W_drawn r1.2 T_at T_bytes D_cells D_clauses G_length G_code A_size A_chosen A_codes A_lengths A_stack Y_cells Y_clauses N_marbles N_chipped N_swallowed N_sweets N_day N_owners P_next P_kept P_hasImage P_image P_acts P_entries P_imageEntries S_fewest S_row S_strengths U_size U_found U_places U_kinds U_holds U_fitting U_tally L_letters L_firstCells L_secondCells L_firstBest L_secondBest W_refusals ++ (wdM B m_thrown r2.2 m_at m_wrong m_deep m_laws m_text m_readBoys m_readMarbles m_readFarms m_boys m_marbles m_farms m_holding m_spills m_acts m_draws m_bestRow m_bestMany m_noted m_hasImage m_tape m_code m_value m_codes m_clauses m_testFrom m_sumFrom m_sumTo m_letters m_stack m_readRule m_readBoy m_readMarble m_readFarm m_rule m_boy m_marble m_farm m_now m_refused m_kept m_notePlace m_noteKind m_noteIs m_toldBy m_image ++ fr))) : gG B (gXc X n w) 301 [(0, .ref b), (1, .ref (aC B 0)), (2, .ref (aM B 0)), (3, .ref qo), (4, .int i)] [] (wdC B W_spillsNow W_drawn T_length T_at T_bytes D_cells D_clauses G_length G_code A_size A_chosen A_codes A_lengths A_stack Y_cells Y_clauses N_marbles N_chipped N_swallowed N_sweets N_day N_owners P_next P_kept P_hasImage P_image P_acts P_entries P_imageEntries S_fewest S_row S_strengths U_size U_found U_places U_kinds U_holds U_fitting U_tally L_letters L_firstCells L_secondCells L_firstBest L_secondBest W_refusals ++ (wdM B m_thrown m_size m_at m_wrong m_deep m_laws m_text m_readBoys m_readMarbles m_readFarms m_boys m_marbles m_farms m_holding m_spills m_acts m_draws m_bestRow m_bestMany m_noted m_hasImage m_tape m_code m_value m_codes m_clauses m_testFrom m_sumFrom m_sumTo m_letters m_stack m_readRule m_readBoy m_readMarble m_readFarm m_rule m_boy m_marble m_farm m_now m_refused m_kept m_notePlace m_noteKind m_noteIs m_toldBy m_image ++ fr)) := by
  refine gH.toG (h_aload_n (hX.ok (rt := some .boolean) hn hw) dL_law_301 rfl rfl (gG.toH ?_))
  refine gH.toG (h_aload_n (hX.ok (rt := some .boolean) hn hw) dL_law_302 rfl rfl (gG.toH ?_))
  refine gH.toG (h_iload (hX.ok (rt := some .boolean) hn hw) dL_law_303 rfl (gG.toH ?_))
  refine gH.toG (h_iconst (hX.ok (rt := some .boolean) hn hw) dL_law_305 ki_1 (gG.toH ?_))
  refine gH.toG (h_iadd (hX.ok (rt := some .boolean) hn hw) dL_law_306 (gG.toH ?_))
  refine g_sld hX hS hi1 dL_law_307 ?_
  refine gG.callVi (hX.ok (rt := some .boolean) hn hw) dL_law_308 cv_RL_24 (As := [.int (xs (i + 1 : Int32).toNatClampNeg)]) (st := []) (c_Main_end h1) rc_C0 rfl rfl (by decide) (Nat.le_of_ble_eq_true rfl) ?_
  refine gH.toG (h_aload_n (hX.ok (rt := some .boolean) hn hw) dL_law_311 rfl rfl (gG.toH ?_))
  refine gH.toG (h_aload_n (hX.ok (rt := some .boolean) hn hw) dL_law_312 rfl rfl (gG.toH ?_))
  refine gH.toG (h_iload (hX.ok (rt := some .boolean) hn hw) dL_law_313 rfl (gG.toH ?_))
  refine gH.toG (h_iconst (hX.ok (rt := some .boolean) hn hw) dL_law_315 ki_1 (gG.toH ?_))
  refine gH.toG (h_iadd (hX.ok (rt := some .boolean) hn hw) dL_law_316 (gG.toH ?_))
  refine g_sld hX hS hi1 dL_law_317 ?_
  refine gG.perm gsw ?_
  refine gG.callVi (hX.ok (rt := some .boolean) hn hw) dL_law_318 cv_RL_28 (As := [.int (xs (i + 1 : Int32).toNatClampNeg)]) (st := [.int r1.1]) (c_M_end h2) rc_M0 rfl rfl (by decide) (Nat.le_of_ble_eq_true rfl) ?_
  refine gG.perm gsw ?_
  exact g_icmpT (hX.ok (rt := some .boolean) hn hw) he dL_law_321 (tgt := 1742) (by decide) k
theorem wml_RL_29 : Cond.methodLink RL 29 yX10_fault ∈ gT := gw2 (i := 94) rfl rfl
theorem wim_X10_fault : Cond.instanceMethod yX10_fault ∈ gT := gw2 (i := 95) rfl rfl
theorem wsel_X10_fault : Cond.selects RX10 yX10_fault yX10_fault ∈ gT := gw2 (i := 96) rfl rfl
theorem wcod_X10_fault : Cond.code yX10_fault cX10_fault 2 (some .int) ∈ gT := gw2 (i := 97) rfl rfl
theorem cv_RL_29 : gCV RL 29 RX10 yX10_fault cX10_fault 2 (some .int) 1 := ⟨wml_RL_29, wim_X10_fault, wsel_X10_fault, wini_RX10, wcod_X10_fault, rfl, by decide +kernel⟩
theorem wml_RL_33 : Cond.methodLink RL 33 yX11_fault ∈ gT := gw6 (i := 203) rfl rfl
theorem wim_X11_fault : Cond.instanceMethod yX11_fault ∈ gT := gw6 (i := 204) rfl rfl
theorem wsel_X11_fault : Cond.selects RX11 yX11_fault yX11_fault ∈ gT := gw6 (i := 205) rfl rfl
theorem wcod_X11_fault : Cond.code yX11_fault cX11_fault 2 (some .int) ∈ gT := gw6 (i := 206) rfl rfl
theorem cv_RL_33 : gCV RL 33 RX11 yX11_fault cX11_fault 2 (some .int) 1 := ⟨wml_RL_33, wim_X11_fault, wsel_X11_fault, wini_RX11, wcod_X11_fault, rfl, by decide +kernel⟩
set_option maxRecDepth 4000 in
theorem lc_fault (hX : gOkI B X RL cL_law 7 1312 601024 7293034) (hS : gScr X b L xs) (hn : n ≤ 601024) (hw : w ≤ 7293034) {i : Int32} (hi1 : vp_in (i + 1) L) {r1 : (Int32 × Int32 × (Nat → Int32) × (Nat → Int32) × Int32 × (Nat → Int32))} {r2 : (Int32 × Int32 × Int32 × Int32 × Int32 × Int32 × Int32 × Int32 × (Nat → Int32) × (Nat → Int32) × (Nat → Int32) × (Nat → Int32) × (Nat → Int32) × (Nat → Int32) × (Nat → Int32) × (Nat → Int32) × (Nat → Int32) × (Nat → Int32) × (Nat → Int32))} (h1 : f_Main_fault T_length T_at T_bytes D_cells D_clauses G_length G_code (xs (i + 1 : Int32).toNatClampNeg) = some r1) (h2 : f_M_fault m_size m_at m_wrong m_deep m_text m_readBoys m_readMarbles m_readFarms m_tape m_code m_value m_codes m_clauses m_testFrom m_sumFrom m_sumTo m_readRule m_readBoy m_readMarble m_readFarm (xs (i + 1 : Int32).toNatClampNeg) = some r2) (he : r1.1 = r2.1) (k : gG B (gXc X n w) 1742 [(0, .ref b), (1, .ref (aC B 0)), (2, .ref (aM B 0)), (3, .ref qo), (4, .int i)] [] (wdC B W_spillsNow W_drawn T_length r1.2.1 T_bytes r1.2.2.1 r1.2.2.2.1 r1.2.2.2.2.1 r1.2.2.2.2.2 A_size A_chosen A_codes A_lengths A_stack Y_cells Y_clauses N_marbles N_chipped N_swallowed N_sweets N_day N_owners P_next P_kept P_hasImage P_image P_acts P_entries P_imageEntries S_fewest S_row S_strengths U_size U_found U_places U_kinds U_holds U_fitting U_tally L_letters L_firstCells L_secondCells L_firstBest L_secondBest W_refusals ++ (wdM B m_thrown m_size r2.2.1 r2.2.2.1 r2.2.2.2.1 m_laws r2.2.2.2.2.1 r2.2.2.2.2.2.1 r2.2.2.2.2.2.2.1 r2.2.2.2.2.2.2.2.1 m_boys m_marbles m_farms m_holding m_spills m_acts m_draws m_bestRow m_bestMany m_noted m_hasImage m_tape r2.2.2.2.2.2.2.2.2.1 r2.2.2.2.2.2.2.2.2.2.1 r2.2.2.2.2.2.2.2.2.2.2.1 r2.2.2.2.2.2.2.2.2.2.2.2.1 r2.2.2.2.2.2.2.2.2.2.2.2.2.1 r2.2.2.2.2.2.2.2.2.2.2.2.2.2.1 r2.2.2.2.2.2.2.2.2.2.2.2.2.2.2.1 m_letters m_stack r2.2.2.2.2.2.2.2.2.2.2.2.2.2.2.2.1 r2.2.2.2.2.2.2.2.2.2.2.2.2.2.2.2.2.1 r2.2.2.2.2.2.2.2.2.2.2.2.2.2.2.2.2.2.1 r2.2.2.2.2.2.2.2.2.2.2.2.2.2.2.2.2.2.2 m_rule m_boy m_marble m_farm m_now m_refused m_kept m_notePlace m_noteKind m_noteIs m_toldBy m_image ++ fr))) : gG B (gXc X n w) 326 [(0, .ref b), (1, .ref (aC B 0)), (2, .ref (aM B 0)), (3, .ref qo), (4, .int i)] [] (wdC B W_spillsNow W_drawn T_length T_at T_bytes D_cells D_clauses G_length G_code A_size A_chosen A_codes A_lengths A_stack Y_cells Y_clauses N_marbles N_chipped N_swallowed N_sweets N_day N_owners P_next P_kept P_hasImage P_image P_acts P_entries P_imageEntries S_fewest S_row S_strengths U_size U_found U_places U_kinds U_holds U_fitting U_tally L_letters L_firstCells L_secondCells L_firstBest L_secondBest W_refusals ++ (wdM B m_thrown m_size m_at m_wrong m_deep m_laws m_text m_readBoys m_readMarbles m_readFarms m_boys m_marbles m_farms m_holding m_spills m_acts m_draws m_bestRow m_bestMany m_noted m_hasImage m_tape m_code m_value m_codes m_clauses m_testFrom m_sumFrom m_sumTo m_letters m_stack m_readRule m_readBoy m_readMarble m_readFarm m_rule m_boy m_marble m_farm m_now m_refused m_kept m_notePlace m_noteKind m_noteIs m_toldBy m_image ++ fr)) := by
  refine gH.toG (h_aload_n (hX.ok (rt := some .boolean) hn hw) dL_law_326 rfl rfl (gG.toH ?_))
  refine gH.toG (h_aload_n (hX.ok (rt := some .boolean) hn hw) dL_law_327 rfl rfl (gG.toH ?_))
  refine gH.toG (h_iload (hX.ok (rt := some .boolean) hn hw) dL_law_328 rfl (gG.toH ?_))
  refine gH.toG (h_iconst (hX.ok (rt := some .boolean) hn hw) dL_law_330 ki_1 (gG.toH ?_))
  refine gH.toG (h_iadd (hX.ok (rt := some .boolean) hn hw) dL_law_331 (gG.toH ?_))
  refine g_sld hX hS hi1 dL_law_332 ?_
  refine gG.callVi (hX.ok (rt := some .boolean) hn hw) dL_law_333 cv_RL_29 (As := [.int (xs (i + 1 : Int32).toNatClampNeg)]) (st := []) (c_Main_fault h1) rc_C0 rfl rfl (by decide) (Nat.le_of_ble_eq_true rfl) ?_
  refine gH.toG (h_aload_n (hX.ok (rt := some .boolean) hn hw) dL_law_336 rfl rfl (gG.toH ?_))
  refine gH.toG (h_aload_n (hX.ok (rt := some .boolean) hn hw) dL_law_337 rfl rfl (gG.toH ?_))
  refine gH.toG (h_iload (hX.ok (rt := some .boolean) hn hw) dL_law_338 rfl (gG.toH ?_))
  refine gH.toG (h_iconst (hX.ok (rt := some .boolean) hn hw) dL_law_340 ki_1 (gG.toH ?_))
  refine gH.toG (h_iadd (hX.ok (rt := some .boolean) hn hw) dL_law_341 (gG.toH ?_))
  refine g_sld hX hS hi1 dL_law_342 ?_
  refine gG.perm gsw ?_
  refine gG.callVi (hX.ok (rt := some .boolean) hn hw) dL_law_343 cv_RL_33 (As := [.int (xs (i + 1 : Int32).toNatClampNeg)]) (st := [.int r1.1]) (c_M_fault h2) rc_M0 rfl rfl (by decide) (Nat.le_of_ble_eq_true rfl) ?_
  refine gG.perm gsw ?_
  exact g_icmpT (hX.ok (rt := some .boolean) hn hw) he dL_law_346 (tgt := 1742) (by decide) k
theorem wml_RL_34 : Cond.methodLink RL 34 yX10_text ∈ gT := gw3 (i := 15) rfl rfl
theorem wim_X10_text : Cond.instanceMethod yX10_text ∈ gT := gw3 (i := 16) rfl rfl
theorem wsel_X10_text : Cond.selects RX10 yX10_text yX10_text ∈ gT := gw3 (i := 17) rfl rfl
theorem wcod_X10_text : Cond.code yX10_text cX10_text 2 (some .int) ∈ gT := gw3 (i := 18) rfl rfl
theorem cv_RL_34 : gCV RL 34 RX10 yX10_text cX10_text 2 (some .int) 1 := ⟨wml_RL_34, wim_X10_text, wsel_X10_text, wini_RX10, wcod_X10_text, rfl, by decide +kernel⟩
theorem wml_RL_37 : Cond.methodLink RL 37 yX11_text ∈ gT := gw7 (i := 90) rfl rfl
theorem wim_X11_text : Cond.instanceMethod yX11_text ∈ gT := gw7 (i := 91) rfl rfl
theorem wsel_X11_text : Cond.selects RX11 yX11_text yX11_text ∈ gT := gw7 (i := 92) rfl rfl
theorem wcod_X11_text : Cond.code yX11_text cX11_text 2 (some .int) ∈ gT := gw7 (i := 93) rfl rfl
theorem cv_RL_37 : gCV RL 37 RX11 yX11_text cX11_text 2 (some .int) 1 := ⟨wml_RL_37, wim_X11_text, wsel_X11_text, wini_RX11, wcod_X11_text, rfl, by decide +kernel⟩
set_option maxRecDepth 4000 in
theorem lc_text (hX : gOkI B X RL cL_law 7 1312 601024 7293034) (hS : gScr X b L xs) (hn : n ≤ 601024) (hw : w ≤ 7293034) {i : Int32} (hi1 : vp_in (i + 1) L) {r1 : (Int32 × Int32 × Int32 × (Nat → Int32) × (Nat → Int32) × Int32 × (Nat → Int32) × Int32 × (Nat → Int32) × (Nat → Int32) × (Nat → Int32) × (Nat → Int32) × Int32 × Int32 × Int32 × Int32 × Int32 × (Nat → Int32) × Int32 × Int32 × Int32)} {r2 : (Int32 × Int32 × Int32 × Int32 × Int32 × Int32 × Int32 × Int32 × Int32 × Int32 × Int32 × Int32 × Int32 × Int32 × Int32 × Int32 × (Nat → Int32) × (Nat → Int32) × (Nat → Int32) × (Nat → Int32) × (Nat → Int32) × (Nat → Int32) × (Nat → Int32) × (Nat → Int32) × (Nat → Int32) × (Nat → Int32) × (Nat → Int32) × (Nat → Int32) × (Nat → Int32) × (Nat → Int32) × (Nat → Int32) × (Nat → Int32))} (h1 : f_Main_text T_length T_at T_bytes D_cells D_clauses G_length G_code A_size A_codes A_lengths Y_cells Y_clauses N_marbles N_chipped N_swallowed N_sweets N_day N_owners P_kept P_hasImage U_size (xs (i + 1 : Int32).toNatClampNeg) = some r1) (h2 : f_M_text m_size m_at m_wrong m_deep m_laws m_text m_readBoys m_readMarbles m_readFarms m_boys m_marbles m_farms m_acts m_noted m_hasImage m_tape m_code m_value m_codes m_clauses m_testFrom m_sumFrom m_sumTo m_readRule m_readBoy m_readMarble m_readFarm m_rule m_boy m_marble m_farm m_now (xs (i + 1 : Int32).toNatClampNeg) = some r2) (he : r1.1 = r2.1) (k : gG B (gXc X n w) 1742 [(0, .ref b), (1, .ref (aC B 0)), (2, .ref (aM B 0)), (3, .ref qo), (4, .int i)] [] (wdC B W_spillsNow W_drawn r1.2.1 r1.2.2.1 T_bytes r1.2.2.2.1 r1.2.2.2.2.1 r1.2.2.2.2.2.1 r1.2.2.2.2.2.2.1 r1.2.2.2.2.2.2.2.1 A_chosen r1.2.2.2.2.2.2.2.2.1 r1.2.2.2.2.2.2.2.2.2.1 A_stack r1.2.2.2.2.2.2.2.2.2.2.1 r1.2.2.2.2.2.2.2.2.2.2.2.1 r1.2.2.2.2.2.2.2.2.2.2.2.2.1 r1.2.2.2.2.2.2.2.2.2.2.2.2.2.1 r1.2.2.2.2.2.2.2.2.2.2.2.2.2.2.1 r1.2.2.2.2.2.2.2.2.2.2.2.2.2.2.2.1 r1.2.2.2.2.2.2.2.2.2.2.2.2.2.2.2.2.1 r1.2.2.2.2.2.2.2.2.2.2.2.2.2.2.2.2.2.1 P_next r1.2.2.2.2.2.2.2.2.2.2.2.2.2.2.2.2.2.2.1 r1.2.2.2.2.2.2.2.2.2.2.2.2.2.2.2.2.2.2.2.1 P_image P_acts P_entries P_imageEntries S_fewest S_row S_strengths r1.2.2.2.2.2.2.2.2.2.2.2.2.2.2.2.2.2.2.2.2 U_found U_places U_kinds U_holds U_fitting U_tally L_letters L_firstCells L_secondCells L_firstBest L_secondBest W_refusals ++ (wdM B m_thrown r2.2.1 r2.2.2.1 r2.2.2.2.1 r2.2.2.2.2.1 r2.2.2.2.2.2.1 r2.2.2.2.2.2.2.1 r2.2.2.2.2.2.2.2.1 r2.2.2.2.2.2.2.2.2.1 r2.2.2.2.2.2.2.2.2.2.1 r2.2.2.2.2.2.2.2.2.2.2.1 r2.2.2.2.2.2.2.2.2.2.2.2.1 r2.2.2.2.2.2.2.2.2.2.2.2.2.1 m_holding m_spills r2.2.2.2.2.2.2.2.2.2.2.2.2.2.1 m_draws m_bestRow m_bestMany r2.2.2.2.2.2.2.2.2.2.2.2.2.2.2.1 r2.2.2.2.2.2.2.2.2.2.2.2.2.2.2.2.1 m_tape r2.2.2.2.2.2.2.2.2.2.2.2.2.2.2.2.2.1 r2.2.2.2.2.2.2.2.2.2.2.2.2.2.2.2.2.2.1 r2.2.2.2.2.2.2.2.2.2.2.2.2.2.2.2.2.2.2.1 r2.2.2.2.2.2.2.2.2.2.2.2.2.2.2.2.2.2.2.2.1 r2.2.2.2.2.2.2.2.2.2.2.2.2.2.2.2.2.2.2.2.2.1 r2.2.2.2.2.2.2.2.2.2.2.2.2.2.2.2.2.2.2.2.2.2.1 r2.2.2.2.2.2.2.2.2.2.2.2.2.2.2.2.2.2.2.2.2.2.2.1 m_letters m_stack r2.2.2.2.2.2.2.2.2.2.2.2.2.2.2.2.2.2.2.2.2.2.2.2.1 r2.2.2.2.2.2.2.2.2.2.2.2.2.2.2.2.2.2.2.2.2.2.2.2.2.1 r2.2.2.2.2.2.2.2.2.2.2.2.2.2.2.2.2.2.2.2.2.2.2.2.2.2.1 r2.2.2.2.2.2.2.2.2.2.2.2.2.2.2.2.2.2.2.2.2.2.2.2.2.2.2.1 r2.2.2.2.2.2.2.2.2.2.2.2.2.2.2.2.2.2.2.2.2.2.2.2.2.2.2.2.1 r2.2.2.2.2.2.2.2.2.2.2.2.2.2.2.2.2.2.2.2.2.2.2.2.2.2.2.2.2.1 r2.2.2.2.2.2.2.2.2.2.2.2.2.2.2.2.2.2.2.2.2.2.2.2.2.2.2.2.2.2.1 r2.2.2.2.2.2.2.2.2.2.2.2.2.2.2.2.2.2.2.2.2.2.2.2.2.2.2.2.2.2.2.1 r2.2.2.2.2.2.2.2.2.2.2.2.2.2.2.2.2.2.2.2.2.2.2.2.2.2.2.2.2.2.2.2 m_refused m_kept m_notePlace m_noteKind m_noteIs m_toldBy m_image ++ fr))) : gG B (gXc X n w) 351 [(0, .ref b), (1, .ref (aC B 0)), (2, .ref (aM B 0)), (3, .ref qo), (4, .int i)] [] (wdC B W_spillsNow W_drawn T_length T_at T_bytes D_cells D_clauses G_length G_code A_size A_chosen A_codes A_lengths A_stack Y_cells Y_clauses N_marbles N_chipped N_swallowed N_sweets N_day N_owners P_next P_kept P_hasImage P_image P_acts P_entries P_imageEntries S_fewest S_row S_strengths U_size U_found U_places U_kinds U_holds U_fitting U_tally L_letters L_firstCells L_secondCells L_firstBest L_secondBest W_refusals ++ (wdM B m_thrown m_size m_at m_wrong m_deep m_laws m_text m_readBoys m_readMarbles m_readFarms m_boys m_marbles m_farms m_holding m_spills m_acts m_draws m_bestRow m_bestMany m_noted m_hasImage m_tape m_code m_value m_codes m_clauses m_testFrom m_sumFrom m_sumTo m_letters m_stack m_readRule m_readBoy m_readMarble m_readFarm m_rule m_boy m_marble m_farm m_now m_refused m_kept m_notePlace m_noteKind m_noteIs m_toldBy m_image ++ fr)) := by
  refine gH.toG (h_aload_n (hX.ok (rt := some .boolean) hn hw) dL_law_351 rfl rfl (gG.toH ?_))
  refine gH.toG (h_aload_n (hX.ok (rt := some .boolean) hn hw) dL_law_352 rfl rfl (gG.toH ?_))
  refine gH.toG (h_iload (hX.ok (rt := some .boolean) hn hw) dL_law_353 rfl (gG.toH ?_))
  refine gH.toG (h_iconst (hX.ok (rt := some .boolean) hn hw) dL_law_355 ki_1 (gG.toH ?_))
  refine gH.toG (h_iadd (hX.ok (rt := some .boolean) hn hw) dL_law_356 (gG.toH ?_))
  refine g_sld hX hS hi1 dL_law_357 ?_
  refine gG.callVi (hX.ok (rt := some .boolean) hn hw) dL_law_358 cv_RL_34 (As := [.int (xs (i + 1 : Int32).toNatClampNeg)]) (st := []) (c_Main_text h1) rc_C0 rfl rfl (by decide) (Nat.le_of_ble_eq_true rfl) ?_
  refine gH.toG (h_aload_n (hX.ok (rt := some .boolean) hn hw) dL_law_361 rfl rfl (gG.toH ?_))
  refine gH.toG (h_aload_n (hX.ok (rt := some .boolean) hn hw) dL_law_362 rfl rfl (gG.toH ?_))
  refine gH.toG (h_iload (hX.ok (rt := some .boolean) hn hw) dL_law_363 rfl (gG.toH ?_))
  refine gH.toG (h_iconst (hX.ok (rt := some .boolean) hn hw) dL_law_365 ki_1 (gG.toH ?_))
  refine gH.toG (h_iadd (hX.ok (rt := some .boolean) hn hw) dL_law_366 (gG.toH ?_))
  refine g_sld hX hS hi1 dL_law_367 ?_
  refine gG.perm gsw ?_
  refine gG.callVi (hX.ok (rt := some .boolean) hn hw) dL_law_368 cv_RL_37 (As := [.int (xs (i + 1 : Int32).toNatClampNeg)]) (st := [.int r1.1]) (c_M_text h2) rc_M0 rfl rfl (by decide) (Nat.le_of_ble_eq_true rfl) ?_
  refine gG.perm gsw ?_
  exact g_icmpT (hX.ok (rt := some .boolean) hn hw) he dL_law_371 (tgt := 1742) (by decide) k
theorem wml_RL_38 : Cond.methodLink RL 38 yX10_rule ∈ gT := gw3 (i := 64) rfl rfl
theorem wim_X10_rule : Cond.instanceMethod yX10_rule ∈ gT := gw3 (i := 65) rfl rfl
theorem wsel_X10_rule : Cond.selects RX10 yX10_rule yX10_rule ∈ gT := gw3 (i := 66) rfl rfl
theorem wcod_X10_rule : Cond.code yX10_rule cX10_rule 2 (some .int) ∈ gT := gw3 (i := 67) rfl rfl
theorem cv_RL_38 : gCV RL 38 RX10 yX10_rule cX10_rule 2 (some .int) 1 := ⟨wml_RL_38, wim_X10_rule, wsel_X10_rule, wini_RX10, wcod_X10_rule, rfl, by decide +kernel⟩
theorem wml_RL_41 : Cond.methodLink RL 41 yX11_rule ∈ gT := gw7 (i := 102) rfl rfl
theorem wim_X11_rule : Cond.instanceMethod yX11_rule ∈ gT := gw7 (i := 103) rfl rfl
theorem wsel_X11_rule : Cond.selects RX11 yX11_rule yX11_rule ∈ gT := gw7 (i := 104) rfl rfl
theorem wcod_X11_rule : Cond.code yX11_rule cX11_rule 2 (some .int) ∈ gT := gw7 (i := 105) rfl rfl
theorem cv_RL_41 : gCV RL 41 RX11 yX11_rule cX11_rule 2 (some .int) 1 := ⟨wml_RL_41, wim_X11_rule, wsel_X11_rule, wini_RX11, wcod_X11_rule, rfl, by decide +kernel⟩
set_option maxRecDepth 4000 in
theorem lc_rule (hX : gOkI B X RL cL_law 7 1312 601024 7293034) (hS : gScr X b L xs) (hn : n ≤ 601024) (hw : w ≤ 7293034) {i : Int32} (hi1 : vp_in (i + 1) L) {r1 : Int32} {r2 : Int32} (h1 : f_Main_rule Y_cells Y_clauses N_sweets (xs (i + 1 : Int32).toNatClampNeg) = some r1) (h2 : f_M_rule m_marbles m_rule m_now (xs (i + 1 : Int32).toNatClampNeg) = some r2) (he : r1 = r2) (k : gG B (gXc X n w) 1742 [(0, .ref b), (1, .ref (aC B 0)), (2, .ref (aM B 0)), (3, .ref qo), (4, .int i)] [] (wdC B W_spillsNow W_drawn T_length T_at T_bytes D_cells D_clauses G_length G_code A_size A_chosen A_codes A_lengths A_stack Y_cells Y_clauses N_marbles N_chipped N_swallowed N_sweets N_day N_owners P_next P_kept P_hasImage P_image P_acts P_entries P_imageEntries S_fewest S_row S_strengths U_size U_found U_places U_kinds U_holds U_fitting U_tally L_letters L_firstCells L_secondCells L_firstBest L_secondBest W_refusals ++ (wdM B m_thrown m_size m_at m_wrong m_deep m_laws m_text m_readBoys m_readMarbles m_readFarms m_boys m_marbles m_farms m_holding m_spills m_acts m_draws m_bestRow m_bestMany m_noted m_hasImage m_tape m_code m_value m_codes m_clauses m_testFrom m_sumFrom m_sumTo m_letters m_stack m_readRule m_readBoy m_readMarble m_readFarm m_rule m_boy m_marble m_farm m_now m_refused m_kept m_notePlace m_noteKind m_noteIs m_toldBy m_image ++ fr))) : gG B (gXc X n w) 376 [(0, .ref b), (1, .ref (aC B 0)), (2, .ref (aM B 0)), (3, .ref qo), (4, .int i)] [] (wdC B W_spillsNow W_drawn T_length T_at T_bytes D_cells D_clauses G_length G_code A_size A_chosen A_codes A_lengths A_stack Y_cells Y_clauses N_marbles N_chipped N_swallowed N_sweets N_day N_owners P_next P_kept P_hasImage P_image P_acts P_entries P_imageEntries S_fewest S_row S_strengths U_size U_found U_places U_kinds U_holds U_fitting U_tally L_letters L_firstCells L_secondCells L_firstBest L_secondBest W_refusals ++ (wdM B m_thrown m_size m_at m_wrong m_deep m_laws m_text m_readBoys m_readMarbles m_readFarms m_boys m_marbles m_farms m_holding m_spills m_acts m_draws m_bestRow m_bestMany m_noted m_hasImage m_tape m_code m_value m_codes m_clauses m_testFrom m_sumFrom m_sumTo m_letters m_stack m_readRule m_readBoy m_readMarble m_readFarm m_rule m_boy m_marble m_farm m_now m_refused m_kept m_notePlace m_noteKind m_noteIs m_toldBy m_image ++ fr)) := by
  refine gH.toG (h_aload_n (hX.ok (rt := some .boolean) hn hw) dL_law_376 rfl rfl (gG.toH ?_))
  refine gH.toG (h_aload_n (hX.ok (rt := some .boolean) hn hw) dL_law_377 rfl rfl (gG.toH ?_))
  refine gH.toG (h_iload (hX.ok (rt := some .boolean) hn hw) dL_law_378 rfl (gG.toH ?_))
  refine gH.toG (h_iconst (hX.ok (rt := some .boolean) hn hw) dL_law_380 ki_1 (gG.toH ?_))
  refine gH.toG (h_iadd (hX.ok (rt := some .boolean) hn hw) dL_law_381 (gG.toH ?_))
  refine g_sld hX hS hi1 dL_law_382 ?_
  refine gG.callVi (hX.ok (rt := some .boolean) hn hw) dL_law_383 cv_RL_38 (As := [.int (xs (i + 1 : Int32).toNatClampNeg)]) (st := []) (c_Main_rule h1) rc_C0 rfl rfl (by decide) (Nat.le_of_ble_eq_true rfl) ?_
  refine gH.toG (h_aload_n (hX.ok (rt := some .boolean) hn hw) dL_law_386 rfl rfl (gG.toH ?_))
  refine gH.toG (h_aload_n (hX.ok (rt := some .boolean) hn hw) dL_law_387 rfl rfl (gG.toH ?_))
  refine gH.toG (h_iload (hX.ok (rt := some .boolean) hn hw) dL_law_388 rfl (gG.toH ?_))
  refine gH.toG (h_iconst (hX.ok (rt := some .boolean) hn hw) dL_law_390 ki_1 (gG.toH ?_))
  refine gH.toG (h_iadd (hX.ok (rt := some .boolean) hn hw) dL_law_391 (gG.toH ?_))
  refine g_sld hX hS hi1 dL_law_392 ?_
  refine gG.perm gsw ?_
  refine gG.callVi (hX.ok (rt := some .boolean) hn hw) dL_law_393 cv_RL_41 (As := [.int (xs (i + 1 : Int32).toNatClampNeg)]) (st := [.int r1]) (c_M_rule h2) rc_M0 rfl rfl (by decide) (Nat.le_of_ble_eq_true rfl) ?_
  refine gG.perm gsw ?_
  exact g_icmpT (hX.ok (rt := some .boolean) hn hw) he dL_law_396 (tgt := 1742) (by decide) k
theorem wml_RL_52 : Cond.methodLink RL 52 yX10_marble ∈ gT := gw3 (i := 80) rfl rfl
theorem wim_X10_marble : Cond.instanceMethod yX10_marble ∈ gT := gw3 (i := 81) rfl rfl
theorem wsel_X10_marble : Cond.selects RX10 yX10_marble yX10_marble ∈ gT := gw3 (i := 82) rfl rfl
theorem wcod_X10_marble : Cond.code yX10_marble cX10_marble 3 (some .int) ∈ gT := gw3 (i := 83) rfl rfl
theorem cv_RL_52 : gCV RL 52 RX10 yX10_marble cX10_marble 3 (some .int) 2 := ⟨wml_RL_52, wim_X10_marble, wsel_X10_marble, wini_RX10, wcod_X10_marble, rfl, by decide +kernel⟩
theorem wml_RL_55 : Cond.methodLink RL 55 yX11_marble ∈ gT := gw7 (i := 119) rfl rfl
theorem wim_X11_marble : Cond.instanceMethod yX11_marble ∈ gT := gw7 (i := 120) rfl rfl
theorem wsel_X11_marble : Cond.selects RX11 yX11_marble yX11_marble ∈ gT := gw7 (i := 121) rfl rfl
theorem wcod_X11_marble : Cond.code yX11_marble cX11_marble 3 (some .int) ∈ gT := gw7 (i := 122) rfl rfl
theorem cv_RL_55 : gCV RL 55 RX11 yX11_marble cX11_marble 3 (some .int) 2 := ⟨wml_RL_55, wim_X11_marble, wsel_X11_marble, wini_RX11, wcod_X11_marble, rfl, by decide +kernel⟩
set_option maxRecDepth 4000 in
theorem lc_marble (hX : gOkI B X RL cL_law 7 1312 601024 7293034) (hS : gScr X b L xs) (hn : n ≤ 601024) (hw : w ≤ 7293034) {i : Int32} (hi1 : vp_in (i + 1) L) (hi2 : vp_in (i + 2) L) {r1 : Int32} {r2 : Int32} (h1 : f_Main_marble Y_cells Y_clauses N_marbles N_chipped N_swallowed N_owners (xs (i + 1 : Int32).toNatClampNeg) (xs (i + 2 : Int32).toNatClampNeg) = some r1) (h2 : f_M_marble m_marbles m_marble m_now (xs (i + 1 : Int32).toNatClampNeg) (xs (i + 2 : Int32).toNatClampNeg) = some r2) (he : r1 = r2) (k : gG B (gXc X n w) 1742 [(0, .ref b), (1, .ref (aC B 0)), (2, .ref (aM B 0)), (3, .ref qo), (4, .int i)] [] (wdC B W_spillsNow W_drawn T_length T_at T_bytes D_cells D_clauses G_length G_code A_size A_chosen A_codes A_lengths A_stack Y_cells Y_clauses N_marbles N_chipped N_swallowed N_sweets N_day N_owners P_next P_kept P_hasImage P_image P_acts P_entries P_imageEntries S_fewest S_row S_strengths U_size U_found U_places U_kinds U_holds U_fitting U_tally L_letters L_firstCells L_secondCells L_firstBest L_secondBest W_refusals ++ (wdM B m_thrown m_size m_at m_wrong m_deep m_laws m_text m_readBoys m_readMarbles m_readFarms m_boys m_marbles m_farms m_holding m_spills m_acts m_draws m_bestRow m_bestMany m_noted m_hasImage m_tape m_code m_value m_codes m_clauses m_testFrom m_sumFrom m_sumTo m_letters m_stack m_readRule m_readBoy m_readMarble m_readFarm m_rule m_boy m_marble m_farm m_now m_refused m_kept m_notePlace m_noteKind m_noteIs m_toldBy m_image ++ fr))) : gG B (gXc X n w) 469 [(0, .ref b), (1, .ref (aC B 0)), (2, .ref (aM B 0)), (3, .ref qo), (4, .int i)] [] (wdC B W_spillsNow W_drawn T_length T_at T_bytes D_cells D_clauses G_length G_code A_size A_chosen A_codes A_lengths A_stack Y_cells Y_clauses N_marbles N_chipped N_swallowed N_sweets N_day N_owners P_next P_kept P_hasImage P_image P_acts P_entries P_imageEntries S_fewest S_row S_strengths U_size U_found U_places U_kinds U_holds U_fitting U_tally L_letters L_firstCells L_secondCells L_firstBest L_secondBest W_refusals ++ (wdM B m_thrown m_size m_at m_wrong m_deep m_laws m_text m_readBoys m_readMarbles m_readFarms m_boys m_marbles m_farms m_holding m_spills m_acts m_draws m_bestRow m_bestMany m_noted m_hasImage m_tape m_code m_value m_codes m_clauses m_testFrom m_sumFrom m_sumTo m_letters m_stack m_readRule m_readBoy m_readMarble m_readFarm m_rule m_boy m_marble m_farm m_now m_refused m_kept m_notePlace m_noteKind m_noteIs m_toldBy m_image ++ fr)) := by
  refine gH.toG (h_aload_n (hX.ok (rt := some .boolean) hn hw) dL_law_469 rfl rfl (gG.toH ?_))
  refine gH.toG (h_aload_n (hX.ok (rt := some .boolean) hn hw) dL_law_470 rfl rfl (gG.toH ?_))
  refine gH.toG (h_iload (hX.ok (rt := some .boolean) hn hw) dL_law_471 rfl (gG.toH ?_))
  refine gH.toG (h_iconst (hX.ok (rt := some .boolean) hn hw) dL_law_473 ki_1 (gG.toH ?_))
  refine gH.toG (h_iadd (hX.ok (rt := some .boolean) hn hw) dL_law_474 (gG.toH ?_))
  refine g_sld hX hS hi1 dL_law_475 ?_
  refine gH.toG (h_aload_n (hX.ok (rt := some .boolean) hn hw) dL_law_476 rfl rfl (gG.toH ?_))
  refine gH.toG (h_iload (hX.ok (rt := some .boolean) hn hw) dL_law_477 rfl (gG.toH ?_))
  refine gH.toG (h_iconst (hX.ok (rt := some .boolean) hn hw) dL_law_479 ki_2 (gG.toH ?_))
  refine gH.toG (h_iadd (hX.ok (rt := some .boolean) hn hw) dL_law_480 (gG.toH ?_))
  refine g_sld hX hS hi2 dL_law_481 ?_
  refine gG.callVi (hX.ok (rt := some .boolean) hn hw) dL_law_482 cv_RL_52 (As := [.int (xs (i + 1 : Int32).toNatClampNeg), .int (xs (i + 2 : Int32).toNatClampNeg)]) (st := []) (c_Main_marble h1) rc_C0 rfl rfl (by decide) (Nat.le_of_ble_eq_true rfl) ?_
  refine gH.toG (h_aload_n (hX.ok (rt := some .boolean) hn hw) dL_law_485 rfl rfl (gG.toH ?_))
  refine gH.toG (h_aload_n (hX.ok (rt := some .boolean) hn hw) dL_law_486 rfl rfl (gG.toH ?_))
  refine gH.toG (h_iload (hX.ok (rt := some .boolean) hn hw) dL_law_487 rfl (gG.toH ?_))
  refine gH.toG (h_iconst (hX.ok (rt := some .boolean) hn hw) dL_law_489 ki_1 (gG.toH ?_))
  refine gH.toG (h_iadd (hX.ok (rt := some .boolean) hn hw) dL_law_490 (gG.toH ?_))
  refine g_sld hX hS hi1 dL_law_491 ?_
  refine gH.toG (h_aload_n (hX.ok (rt := some .boolean) hn hw) dL_law_492 rfl rfl (gG.toH ?_))
  refine gH.toG (h_iload (hX.ok (rt := some .boolean) hn hw) dL_law_493 rfl (gG.toH ?_))
  refine gH.toG (h_iconst (hX.ok (rt := some .boolean) hn hw) dL_law_495 ki_2 (gG.toH ?_))
  refine gH.toG (h_iadd (hX.ok (rt := some .boolean) hn hw) dL_law_496 (gG.toH ?_))
  refine g_sld hX hS hi2 dL_law_497 ?_
  refine gG.perm gsw ?_
  refine gG.callVi (hX.ok (rt := some .boolean) hn hw) dL_law_498 cv_RL_55 (As := [.int (xs (i + 1 : Int32).toNatClampNeg), .int (xs (i + 2 : Int32).toNatClampNeg)]) (st := [.int r1]) (c_M_marble h2) rc_M0 rfl rfl (by decide) (Nat.le_of_ble_eq_true rfl) ?_
  refine gG.perm gsw ?_
  exact g_icmpT (hX.ok (rt := some .boolean) hn hw) he dL_law_501 (tgt := 1742) (by decide) k
theorem wml_RL_56 : Cond.methodLink RL 56 yX10_farm ∈ gT := gw3 (i := 109) rfl rfl
theorem wim_X10_farm : Cond.instanceMethod yX10_farm ∈ gT := gw3 (i := 110) rfl rfl
theorem wsel_X10_farm : Cond.selects RX10 yX10_farm yX10_farm ∈ gT := gw3 (i := 111) rfl rfl
theorem wcod_X10_farm : Cond.code yX10_farm cX10_farm 3 (some .int) ∈ gT := gw3 (i := 112) rfl rfl
theorem cv_RL_56 : gCV RL 56 RX10 yX10_farm cX10_farm 3 (some .int) 2 := ⟨wml_RL_56, wim_X10_farm, wsel_X10_farm, wini_RX10, wcod_X10_farm, rfl, by decide +kernel⟩
theorem wml_RL_59 : Cond.methodLink RL 59 yX11_farm ∈ gT := gw7 (i := 128) rfl rfl
theorem wim_X11_farm : Cond.instanceMethod yX11_farm ∈ gT := gw7 (i := 129) rfl rfl
theorem wsel_X11_farm : Cond.selects RX11 yX11_farm yX11_farm ∈ gT := gw7 (i := 130) rfl rfl
theorem wcod_X11_farm : Cond.code yX11_farm cX11_farm 3 (some .int) ∈ gT := gw7 (i := 131) rfl rfl
theorem cv_RL_59 : gCV RL 59 RX11 yX11_farm cX11_farm 3 (some .int) 2 := ⟨wml_RL_59, wim_X11_farm, wsel_X11_farm, wini_RX11, wcod_X11_farm, rfl, by decide +kernel⟩
set_option maxRecDepth 4000 in
theorem lc_farm (hX : gOkI B X RL cL_law 7 1312 601024 7293034) (hS : gScr X b L xs) (hn : n ≤ 601024) (hw : w ≤ 7293034) {i : Int32} (hi1 : vp_in (i + 1) L) (hi2 : vp_in (i + 2) L) {r1 : (Int32 × (Nat → Int32))} {r2 : Int32} (h1 : f_Main_farm Y_cells Y_clauses N_marbles N_chipped N_owners S_strengths (xs (i + 1 : Int32).toNatClampNeg) (xs (i + 2 : Int32).toNatClampNeg) = some r1) (h2 : f_M_farm m_marbles m_farms m_boy m_marble m_farm m_now (xs (i + 1 : Int32).toNatClampNeg) (xs (i + 2 : Int32).toNatClampNeg) = some r2) (he : r1.1 = r2) (k : gG B (gXc X n w) 1742 [(0, .ref b), (1, .ref (aC B 0)), (2, .ref (aM B 0)), (3, .ref qo), (4, .int i)] [] (wdC B W_spillsNow W_drawn T_length T_at T_bytes D_cells D_clauses G_length G_code A_size A_chosen A_codes A_lengths A_stack Y_cells Y_clauses N_marbles N_chipped N_swallowed N_sweets N_day N_owners P_next P_kept P_hasImage P_image P_acts P_entries P_imageEntries S_fewest S_row r1.2 U_size U_found U_places U_kinds U_holds U_fitting U_tally L_letters L_firstCells L_secondCells L_firstBest L_secondBest W_refusals ++ (wdM B m_thrown m_size m_at m_wrong m_deep m_laws m_text m_readBoys m_readMarbles m_readFarms m_boys m_marbles m_farms m_holding m_spills m_acts m_draws m_bestRow m_bestMany m_noted m_hasImage m_tape m_code m_value m_codes m_clauses m_testFrom m_sumFrom m_sumTo m_letters m_stack m_readRule m_readBoy m_readMarble m_readFarm m_rule m_boy m_marble m_farm m_now m_refused m_kept m_notePlace m_noteKind m_noteIs m_toldBy m_image ++ fr))) : gG B (gXc X n w) 506 [(0, .ref b), (1, .ref (aC B 0)), (2, .ref (aM B 0)), (3, .ref qo), (4, .int i)] [] (wdC B W_spillsNow W_drawn T_length T_at T_bytes D_cells D_clauses G_length G_code A_size A_chosen A_codes A_lengths A_stack Y_cells Y_clauses N_marbles N_chipped N_swallowed N_sweets N_day N_owners P_next P_kept P_hasImage P_image P_acts P_entries P_imageEntries S_fewest S_row S_strengths U_size U_found U_places U_kinds U_holds U_fitting U_tally L_letters L_firstCells L_secondCells L_firstBest L_secondBest W_refusals ++ (wdM B m_thrown m_size m_at m_wrong m_deep m_laws m_text m_readBoys m_readMarbles m_readFarms m_boys m_marbles m_farms m_holding m_spills m_acts m_draws m_bestRow m_bestMany m_noted m_hasImage m_tape m_code m_value m_codes m_clauses m_testFrom m_sumFrom m_sumTo m_letters m_stack m_readRule m_readBoy m_readMarble m_readFarm m_rule m_boy m_marble m_farm m_now m_refused m_kept m_notePlace m_noteKind m_noteIs m_toldBy m_image ++ fr)) := by
  refine gH.toG (h_aload_n (hX.ok (rt := some .boolean) hn hw) dL_law_506 rfl rfl (gG.toH ?_))
  refine gH.toG (h_aload_n (hX.ok (rt := some .boolean) hn hw) dL_law_507 rfl rfl (gG.toH ?_))
  refine gH.toG (h_iload (hX.ok (rt := some .boolean) hn hw) dL_law_508 rfl (gG.toH ?_))
  refine gH.toG (h_iconst (hX.ok (rt := some .boolean) hn hw) dL_law_510 ki_1 (gG.toH ?_))
  refine gH.toG (h_iadd (hX.ok (rt := some .boolean) hn hw) dL_law_511 (gG.toH ?_))
  refine g_sld hX hS hi1 dL_law_512 ?_
  refine gH.toG (h_aload_n (hX.ok (rt := some .boolean) hn hw) dL_law_513 rfl rfl (gG.toH ?_))
  refine gH.toG (h_iload (hX.ok (rt := some .boolean) hn hw) dL_law_514 rfl (gG.toH ?_))
  refine gH.toG (h_iconst (hX.ok (rt := some .boolean) hn hw) dL_law_516 ki_2 (gG.toH ?_))
  refine gH.toG (h_iadd (hX.ok (rt := some .boolean) hn hw) dL_law_517 (gG.toH ?_))
  refine g_sld hX hS hi2 dL_law_518 ?_
  refine gG.callVi (hX.ok (rt := some .boolean) hn hw) dL_law_519 cv_RL_56 (As := [.int (xs (i + 1 : Int32).toNatClampNeg), .int (xs (i + 2 : Int32).toNatClampNeg)]) (st := []) (c_Main_farm h1) rc_C0 rfl rfl (by decide) (Nat.le_of_ble_eq_true rfl) ?_
  refine gH.toG (h_aload_n (hX.ok (rt := some .boolean) hn hw) dL_law_522 rfl rfl (gG.toH ?_))
  refine gH.toG (h_aload_n (hX.ok (rt := some .boolean) hn hw) dL_law_523 rfl rfl (gG.toH ?_))
  refine gH.toG (h_iload (hX.ok (rt := some .boolean) hn hw) dL_law_524 rfl (gG.toH ?_))
  refine gH.toG (h_iconst (hX.ok (rt := some .boolean) hn hw) dL_law_526 ki_1 (gG.toH ?_))
  refine gH.toG (h_iadd (hX.ok (rt := some .boolean) hn hw) dL_law_527 (gG.toH ?_))
  refine g_sld hX hS hi1 dL_law_528 ?_
  refine gH.toG (h_aload_n (hX.ok (rt := some .boolean) hn hw) dL_law_529 rfl rfl (gG.toH ?_))
  refine gH.toG (h_iload (hX.ok (rt := some .boolean) hn hw) dL_law_530 rfl (gG.toH ?_))
  refine gH.toG (h_iconst (hX.ok (rt := some .boolean) hn hw) dL_law_532 ki_2 (gG.toH ?_))
  refine gH.toG (h_iadd (hX.ok (rt := some .boolean) hn hw) dL_law_533 (gG.toH ?_))
  refine g_sld hX hS hi2 dL_law_534 ?_
  refine gG.perm gsw ?_
  refine gG.callVi (hX.ok (rt := some .boolean) hn hw) dL_law_535 cv_RL_59 (As := [.int (xs (i + 1 : Int32).toNatClampNeg), .int (xs (i + 2 : Int32).toNatClampNeg)]) (st := [.int r1.1]) (c_M_farm h2) rc_M0 rfl rfl (by decide) (Nat.le_of_ble_eq_true rfl) ?_
  refine gG.perm gsw ?_
  exact g_icmpT (hX.ok (rt := some .boolean) hn hw) he dL_law_538 (tgt := 1742) (by decide) k
theorem wml_RL_60 : Cond.methodLink RL 60 yX10_law ∈ gT := gw3 (i := 182) rfl rfl
theorem wim_X10_law : Cond.instanceMethod yX10_law ∈ gT := gw3 (i := 183) rfl rfl
theorem wsel_X10_law : Cond.selects RX10 yX10_law yX10_law ∈ gT := gw3 (i := 184) rfl rfl
theorem wcod_X10_law : Cond.code yX10_law cX10_law 2 (some .boolean) ∈ gT := gw3 (i := 185) rfl rfl
theorem cv_RL_60 : gCV RL 60 RX10 yX10_law cX10_law 2 (some .boolean) 1 := ⟨wml_RL_60, wim_X10_law, wsel_X10_law, wini_RX10, wcod_X10_law, rfl, by decide +kernel⟩
theorem wml_RL_63 : Cond.methodLink RL 63 yX11_law ∈ gT := gw7 (i := 153) rfl rfl
theorem wim_X11_law : Cond.instanceMethod yX11_law ∈ gT := gw7 (i := 154) rfl rfl
theorem wsel_X11_law : Cond.selects RX11 yX11_law yX11_law ∈ gT := gw7 (i := 155) rfl rfl
theorem wcod_X11_law : Cond.code yX11_law cX11_law 2 (some .boolean) ∈ gT := gw7 (i := 156) rfl rfl
theorem cv_RL_63 : gCV RL 63 RX11 yX11_law cX11_law 2 (some .boolean) 1 := ⟨wml_RL_63, wim_X11_law, wsel_X11_law, wini_RX11, wcod_X11_law, rfl, by decide +kernel⟩
set_option maxRecDepth 4000 in
theorem lc_law (hX : gOkI B X RL cL_law 7 1312 601024 7293034) (hS : gScr X b L xs) (hn : n ≤ 601024) (hw : w ≤ 7293034) {i : Int32} (hi1 : vp_in (i + 1) L) {r1 : (Int32 × Int32)} {r2 : (Int32 × Int32)} (h1 : f_Main_law A_size A_chosen (xs (i + 1 : Int32).toNatClampNeg) = some r1) (h2 : f_M_law m_laws m_holding (xs (i + 1 : Int32).toNatClampNeg) = some r2) (he : r1.1 = r2.1) (k : gG B (gXc X n w) 1742 [(0, .ref b), (1, .ref (aC B 0)), (2, .ref (aM B 0)), (3, .ref qo), (4, .int i)] [] (wdC B W_spillsNow W_drawn T_length T_at T_bytes D_cells D_clauses G_length G_code A_size r1.2 A_codes A_lengths A_stack Y_cells Y_clauses N_marbles N_chipped N_swallowed N_sweets N_day N_owners P_next P_kept P_hasImage P_image P_acts P_entries P_imageEntries S_fewest S_row S_strengths U_size U_found U_places U_kinds U_holds U_fitting U_tally L_letters L_firstCells L_secondCells L_firstBest L_secondBest W_refusals ++ (wdM B m_thrown m_size m_at m_wrong m_deep m_laws m_text m_readBoys m_readMarbles m_readFarms m_boys m_marbles m_farms r2.2 m_spills m_acts m_draws m_bestRow m_bestMany m_noted m_hasImage m_tape m_code m_value m_codes m_clauses m_testFrom m_sumFrom m_sumTo m_letters m_stack m_readRule m_readBoy m_readMarble m_readFarm m_rule m_boy m_marble m_farm m_now m_refused m_kept m_notePlace m_noteKind m_noteIs m_toldBy m_image ++ fr))) : gG B (gXc X n w) 543 [(0, .ref b), (1, .ref (aC B 0)), (2, .ref (aM B 0)), (3, .ref qo), (4, .int i)] [] (wdC B W_spillsNow W_drawn T_length T_at T_bytes D_cells D_clauses G_length G_code A_size A_chosen A_codes A_lengths A_stack Y_cells Y_clauses N_marbles N_chipped N_swallowed N_sweets N_day N_owners P_next P_kept P_hasImage P_image P_acts P_entries P_imageEntries S_fewest S_row S_strengths U_size U_found U_places U_kinds U_holds U_fitting U_tally L_letters L_firstCells L_secondCells L_firstBest L_secondBest W_refusals ++ (wdM B m_thrown m_size m_at m_wrong m_deep m_laws m_text m_readBoys m_readMarbles m_readFarms m_boys m_marbles m_farms m_holding m_spills m_acts m_draws m_bestRow m_bestMany m_noted m_hasImage m_tape m_code m_value m_codes m_clauses m_testFrom m_sumFrom m_sumTo m_letters m_stack m_readRule m_readBoy m_readMarble m_readFarm m_rule m_boy m_marble m_farm m_now m_refused m_kept m_notePlace m_noteKind m_noteIs m_toldBy m_image ++ fr)) := by
  refine gH.toG (h_aload_n (hX.ok (rt := some .boolean) hn hw) dL_law_543 rfl rfl (gG.toH ?_))
  refine gH.toG (h_aload_n (hX.ok (rt := some .boolean) hn hw) dL_law_544 rfl rfl (gG.toH ?_))
  refine gH.toG (h_iload (hX.ok (rt := some .boolean) hn hw) dL_law_545 rfl (gG.toH ?_))
  refine gH.toG (h_iconst (hX.ok (rt := some .boolean) hn hw) dL_law_547 ki_1 (gG.toH ?_))
  refine gH.toG (h_iadd (hX.ok (rt := some .boolean) hn hw) dL_law_548 (gG.toH ?_))
  refine g_sld hX hS hi1 dL_law_549 ?_
  refine gG.callVi (hX.ok (rt := some .boolean) hn hw) dL_law_550 cv_RL_60 (As := [.int (xs (i + 1 : Int32).toNatClampNeg)]) (st := []) (c_Main_law h1) rc_C0 rfl rfl (by decide) (Nat.le_of_ble_eq_true rfl) ?_
  refine gH.toG (h_aload_n (hX.ok (rt := some .boolean) hn hw) dL_law_553 rfl rfl (gG.toH ?_))
  refine gH.toG (h_aload_n (hX.ok (rt := some .boolean) hn hw) dL_law_554 rfl rfl (gG.toH ?_))
  refine gH.toG (h_iload (hX.ok (rt := some .boolean) hn hw) dL_law_555 rfl (gG.toH ?_))
  refine gH.toG (h_iconst (hX.ok (rt := some .boolean) hn hw) dL_law_557 ki_1 (gG.toH ?_))
  refine gH.toG (h_iadd (hX.ok (rt := some .boolean) hn hw) dL_law_558 (gG.toH ?_))
  refine g_sld hX hS hi1 dL_law_559 ?_
  refine gG.perm gsw ?_
  refine gG.callVi (hX.ok (rt := some .boolean) hn hw) dL_law_560 cv_RL_63 (As := [.int (xs (i + 1 : Int32).toNatClampNeg)]) (st := [.int r1.1]) (c_M_law h2) rc_M0 rfl rfl (by decide) (Nat.le_of_ble_eq_true rfl) ?_
  refine gG.perm gsw ?_
  exact g_icmpT (hX.ok (rt := some .boolean) hn hw) he dL_law_563 (tgt := 1742) (by decide) k
theorem wml_RL_64 : Cond.methodLink RL 64 yX10_play ∈ gT := gw3 (i := 190) rfl rfl
theorem wim_X10_play : Cond.instanceMethod yX10_play ∈ gT := gw3 (i := 191) rfl rfl
theorem wsel_X10_play : Cond.selects RX10 yX10_play yX10_play ∈ gT := gw3 (i := 192) rfl rfl
theorem wcod_X10_play : Cond.code yX10_play cX10_play 6 (some .int) ∈ gT := gw3 (i := 193) rfl rfl
theorem cv_RL_64 : gCV RL 64 RX10 yX10_play cX10_play 6 (some .int) 4 := ⟨wml_RL_64, wim_X10_play, wsel_X10_play, wini_RX10, wcod_X10_play, rfl, by decide +kernel⟩
theorem wml_RL_68 : Cond.methodLink RL 68 yX11_play ∈ gT := gw7 (i := 157) rfl rfl
theorem wim_X11_play : Cond.instanceMethod yX11_play ∈ gT := gw7 (i := 158) rfl rfl
theorem wsel_X11_play : Cond.selects RX11 yX11_play yX11_play ∈ gT := gw7 (i := 159) rfl rfl
theorem wcod_X11_play : Cond.code yX11_play cX11_play 5 (some .int) ∈ gT := gw7 (i := 160) rfl rfl
theorem cv_RL_68 : gCV RL 68 RX11 yX11_play cX11_play 5 (some .int) 4 := ⟨wml_RL_68, wim_X11_play, wsel_X11_play, wini_RX11, wcod_X11_play, rfl, by decide +kernel⟩
set_option maxRecDepth 4000 in
theorem lc_play (hX : gOkI B X RL cL_law 7 1312 601024 7293034) (hS : gScr X b L xs) (hn : n ≤ 601024) (hw : w ≤ 7293034) {i : Int32} (hi1 : vp_in (i + 1) L) (hi2 : vp_in (i + 2) L) (hi3 : vp_in (i + 3) L) (hi4 : vp_in (i + 4) L) {r1 : (Int32 × (Nat → Int32) × (Nat → Int32) × Int32 × Int32 × (Nat → Int64) × (Nat → Int32) × (Nat → Int32))} {r2 : (Int32 × Int32 × (Nat → Int32) × (Nat → Int32) × (Nat → Int32) × (Nat → Int32) × (Nat → Int32))} (h1 : f_Main_play A_size A_chosen A_codes A_lengths A_stack Y_cells Y_clauses N_marbles N_chipped N_swallowed N_sweets N_day N_owners P_next P_kept P_acts L_letters W_refusals (xs (i + 1 : Int32).toNatClampNeg) (xs (i + 2 : Int32).toNatClampNeg) (xs (i + 3 : Int32).toNatClampNeg) (xs (i + 4 : Int32).toNatClampNeg) = some r1) (h2 : f_M_play m_marbles m_holding m_acts m_code m_value m_clauses m_testFrom m_sumFrom m_sumTo m_letters m_stack m_rule m_boy m_marble m_now m_refused m_kept (xs (i + 1 : Int32).toNatClampNeg) (xs (i + 2 : Int32).toNatClampNeg) (xs (i + 3 : Int32).toNatClampNeg) (xs (i + 4 : Int32).toNatClampNeg) = some r2) (he : r1.1 = r2.1) (k : gG B (gXc X n w) 1742 [(0, .ref b), (1, .ref (aC B 0)), (2, .ref (aM B 0)), (3, .ref qo), (4, .int i)] [] (wdC B W_spillsNow W_drawn T_length T_at T_bytes D_cells D_clauses G_length G_code A_size A_chosen A_codes A_lengths r1.2.1 Y_cells Y_clauses N_marbles N_chipped N_swallowed N_sweets N_day r1.2.2.1 r1.2.2.2.1 r1.2.2.2.2.1 P_hasImage P_image r1.2.2.2.2.2.1 P_entries P_imageEntries S_fewest S_row S_strengths U_size U_found U_places U_kinds U_holds U_fitting U_tally r1.2.2.2.2.2.2.1 L_firstCells L_secondCells L_firstBest L_secondBest r1.2.2.2.2.2.2.2 ++ (wdM B m_thrown m_size m_at m_wrong m_deep m_laws m_text m_readBoys m_readMarbles m_readFarms m_boys m_marbles m_farms m_holding m_spills r2.2.1 m_draws m_bestRow m_bestMany m_noted m_hasImage m_tape m_code m_value m_codes m_clauses m_testFrom m_sumFrom m_sumTo r2.2.2.1 r2.2.2.2.1 m_readRule m_readBoy m_readMarble m_readFarm m_rule m_boy m_marble m_farm r2.2.2.2.2.1 r2.2.2.2.2.2.1 r2.2.2.2.2.2.2 m_notePlace m_noteKind m_noteIs m_toldBy m_image ++ fr))) : gG B (gXc X n w) 568 [(0, .ref b), (1, .ref (aC B 0)), (2, .ref (aM B 0)), (3, .ref qo), (4, .int i)] [] (wdC B W_spillsNow W_drawn T_length T_at T_bytes D_cells D_clauses G_length G_code A_size A_chosen A_codes A_lengths A_stack Y_cells Y_clauses N_marbles N_chipped N_swallowed N_sweets N_day N_owners P_next P_kept P_hasImage P_image P_acts P_entries P_imageEntries S_fewest S_row S_strengths U_size U_found U_places U_kinds U_holds U_fitting U_tally L_letters L_firstCells L_secondCells L_firstBest L_secondBest W_refusals ++ (wdM B m_thrown m_size m_at m_wrong m_deep m_laws m_text m_readBoys m_readMarbles m_readFarms m_boys m_marbles m_farms m_holding m_spills m_acts m_draws m_bestRow m_bestMany m_noted m_hasImage m_tape m_code m_value m_codes m_clauses m_testFrom m_sumFrom m_sumTo m_letters m_stack m_readRule m_readBoy m_readMarble m_readFarm m_rule m_boy m_marble m_farm m_now m_refused m_kept m_notePlace m_noteKind m_noteIs m_toldBy m_image ++ fr)) := by
  refine gH.toG (h_aload_n (hX.ok (rt := some .boolean) hn hw) dL_law_568 rfl rfl (gG.toH ?_))
  refine gH.toG (h_aload_n (hX.ok (rt := some .boolean) hn hw) dL_law_569 rfl rfl (gG.toH ?_))
  refine gH.toG (h_iload (hX.ok (rt := some .boolean) hn hw) dL_law_570 rfl (gG.toH ?_))
  refine gH.toG (h_iconst (hX.ok (rt := some .boolean) hn hw) dL_law_572 ki_1 (gG.toH ?_))
  refine gH.toG (h_iadd (hX.ok (rt := some .boolean) hn hw) dL_law_573 (gG.toH ?_))
  refine g_sld hX hS hi1 dL_law_574 ?_
  refine gH.toG (h_aload_n (hX.ok (rt := some .boolean) hn hw) dL_law_575 rfl rfl (gG.toH ?_))
  refine gH.toG (h_iload (hX.ok (rt := some .boolean) hn hw) dL_law_576 rfl (gG.toH ?_))
  refine gH.toG (h_iconst (hX.ok (rt := some .boolean) hn hw) dL_law_578 ki_2 (gG.toH ?_))
  refine gH.toG (h_iadd (hX.ok (rt := some .boolean) hn hw) dL_law_579 (gG.toH ?_))
  refine g_sld hX hS hi2 dL_law_580 ?_
  refine gH.toG (h_aload_n (hX.ok (rt := some .boolean) hn hw) dL_law_581 rfl rfl (gG.toH ?_))
  refine gH.toG (h_iload (hX.ok (rt := some .boolean) hn hw) dL_law_582 rfl (gG.toH ?_))
  refine gH.toG (h_iconst (hX.ok (rt := some .boolean) hn hw) dL_law_584 ki_3 (gG.toH ?_))
  refine gH.toG (h_iadd (hX.ok (rt := some .boolean) hn hw) dL_law_585 (gG.toH ?_))
  refine g_sld hX hS hi3 dL_law_586 ?_
  refine gH.toG (h_aload_n (hX.ok (rt := some .boolean) hn hw) dL_law_587 rfl rfl (gG.toH ?_))
  refine gH.toG (h_iload (hX.ok (rt := some .boolean) hn hw) dL_law_588 rfl (gG.toH ?_))
  refine gH.toG (h_iconst (hX.ok (rt := some .boolean) hn hw) dL_law_590 ki_4 (gG.toH ?_))
  refine gH.toG (h_iadd (hX.ok (rt := some .boolean) hn hw) dL_law_591 (gG.toH ?_))
  refine g_sld hX hS hi4 dL_law_592 ?_
  refine gG.callVi (hX.ok (rt := some .boolean) hn hw) dL_law_593 cv_RL_64 (As := [.int (xs (i + 1 : Int32).toNatClampNeg), .int (xs (i + 2 : Int32).toNatClampNeg), .int (xs (i + 3 : Int32).toNatClampNeg), .int (xs (i + 4 : Int32).toNatClampNeg)]) (st := []) (c_Main_play h1) rc_C0 rfl rfl (by decide) (Nat.le_of_ble_eq_true rfl) ?_
  refine gH.toG (h_aload_n (hX.ok (rt := some .boolean) hn hw) dL_law_596 rfl rfl (gG.toH ?_))
  refine gH.toG (h_aload_n (hX.ok (rt := some .boolean) hn hw) dL_law_597 rfl rfl (gG.toH ?_))
  refine gH.toG (h_iload (hX.ok (rt := some .boolean) hn hw) dL_law_598 rfl (gG.toH ?_))
  refine gH.toG (h_iconst (hX.ok (rt := some .boolean) hn hw) dL_law_600 ki_1 (gG.toH ?_))
  refine gH.toG (h_iadd (hX.ok (rt := some .boolean) hn hw) dL_law_601 (gG.toH ?_))
  refine g_sld hX hS hi1 dL_law_602 ?_
  refine gH.toG (h_aload_n (hX.ok (rt := some .boolean) hn hw) dL_law_603 rfl rfl (gG.toH ?_))
  refine gH.toG (h_iload (hX.ok (rt := some .boolean) hn hw) dL_law_604 rfl (gG.toH ?_))
  refine gH.toG (h_iconst (hX.ok (rt := some .boolean) hn hw) dL_law_606 ki_2 (gG.toH ?_))
  refine gH.toG (h_iadd (hX.ok (rt := some .boolean) hn hw) dL_law_607 (gG.toH ?_))
  refine g_sld hX hS hi2 dL_law_608 ?_
  refine gH.toG (h_aload_n (hX.ok (rt := some .boolean) hn hw) dL_law_609 rfl rfl (gG.toH ?_))
  refine gH.toG (h_iload (hX.ok (rt := some .boolean) hn hw) dL_law_610 rfl (gG.toH ?_))
  refine gH.toG (h_iconst (hX.ok (rt := some .boolean) hn hw) dL_law_612 ki_3 (gG.toH ?_))
  refine gH.toG (h_iadd (hX.ok (rt := some .boolean) hn hw) dL_law_613 (gG.toH ?_))
  refine g_sld hX hS hi3 dL_law_614 ?_
  refine gH.toG (h_aload_n (hX.ok (rt := some .boolean) hn hw) dL_law_615 rfl rfl (gG.toH ?_))
  refine gH.toG (h_iload (hX.ok (rt := some .boolean) hn hw) dL_law_616 rfl (gG.toH ?_))
  refine gH.toG (h_iconst (hX.ok (rt := some .boolean) hn hw) dL_law_618 ki_4 (gG.toH ?_))
  refine gH.toG (h_iadd (hX.ok (rt := some .boolean) hn hw) dL_law_619 (gG.toH ?_))
  refine g_sld hX hS hi4 dL_law_620 ?_
  refine gG.perm gsw ?_
  refine gG.callVi (hX.ok (rt := some .boolean) hn hw) dL_law_621 cv_RL_68 (As := [.int (xs (i + 1 : Int32).toNatClampNeg), .int (xs (i + 2 : Int32).toNatClampNeg), .int (xs (i + 3 : Int32).toNatClampNeg), .int (xs (i + 4 : Int32).toNatClampNeg)]) (st := [.int r1.1]) (c_M_play h2) rc_M0 rfl rfl (by decide) (Nat.le_of_ble_eq_true rfl) ?_
  refine gG.perm gsw ?_
  exact g_icmpT (hX.ok (rt := some .boolean) hn hw) he dL_law_624 (tgt := 1742) (by decide) k
theorem wml_RL_69 : Cond.methodLink RL 69 yX10_swap ∈ gT := gw4 (i := 56) rfl rfl
theorem wim_X10_swap : Cond.instanceMethod yX10_swap ∈ gT := gw4 (i := 57) rfl rfl
theorem wsel_X10_swap : Cond.selects RX10 yX10_swap yX10_swap ∈ gT := gw4 (i := 58) rfl rfl
theorem wcod_X10_swap : Cond.code yX10_swap cX10_swap 5 (some .int) ∈ gT := gw4 (i := 59) rfl rfl
theorem cv_RL_69 : gCV RL 69 RX10 yX10_swap cX10_swap 5 (some .int) 2 := ⟨wml_RL_69, wim_X10_swap, wsel_X10_swap, wini_RX10, wcod_X10_swap, rfl, by decide +kernel⟩
theorem wml_RL_72 : Cond.methodLink RL 72 yX11_swap ∈ gT := gw7 (i := 228) rfl rfl
theorem wim_X11_swap : Cond.instanceMethod yX11_swap ∈ gT := gw7 (i := 229) rfl rfl
theorem wsel_X11_swap : Cond.selects RX11 yX11_swap yX11_swap ∈ gT := gw7 (i := 230) rfl rfl
theorem wcod_X11_swap : Cond.code yX11_swap cX11_swap 3 (some .int) ∈ gT := gw7 (i := 231) rfl rfl
theorem cv_RL_72 : gCV RL 72 RX11 yX11_swap cX11_swap 3 (some .int) 2 := ⟨wml_RL_72, wim_X11_swap, wsel_X11_swap, wini_RX11, wcod_X11_swap, rfl, by decide +kernel⟩
set_option maxRecDepth 4000 in
theorem lc_swap (hX : gOkI B X RL cL_law 7 1312 601024 7293034) (hS : gScr X b L xs) (hn : n ≤ 601024) (hw : w ≤ 7293034) {i : Int32} (hi1 : vp_in (i + 1) L) (hi2 : vp_in (i + 2) L) {r1 : (Int32 × (Nat → Int32) × Int32 × Int32 × (Nat → Int64) × (Nat → Int32))} {r2 : (Int32 × Int32 × (Nat → Int32) × (Nat → Int32) × (Nat → Int32))} (h1 : f_Main_swap Y_clauses N_marbles N_chipped N_swallowed N_sweets N_day N_owners P_next P_kept P_acts W_refusals (xs (i + 1 : Int32).toNatClampNeg) (xs (i + 2 : Int32).toNatClampNeg) = some r1) (h2 : f_M_swap m_marbles m_acts m_now m_refused m_kept (xs (i + 1 : Int32).toNatClampNeg) (xs (i + 2 : Int32).toNatClampNeg) = some r2) (he : r1.1 = r2.1) (k : gG B (gXc X n w) 1742 [(0, .ref b), (1, .ref (aC B 0)), (2, .ref (aM B 0)), (3, .ref qo), (4, .int i)] [] (wdC B W_spillsNow W_drawn T_length T_at T_bytes D_cells D_clauses G_length G_code A_size A_chosen A_codes A_lengths A_stack Y_cells Y_clauses N_marbles N_chipped N_swallowed N_sweets N_day r1.2.1 r1.2.2.1 r1.2.2.2.1 P_hasImage P_image r1.2.2.2.2.1 P_entries P_imageEntries S_fewest S_row S_strengths U_size U_found U_places U_kinds U_holds U_fitting U_tally L_letters L_firstCells L_secondCells L_firstBest L_secondBest r1.2.2.2.2.2 ++ (wdM B m_thrown m_size m_at m_wrong m_deep m_laws m_text m_readBoys m_readMarbles m_readFarms m_boys m_marbles m_farms m_holding m_spills r2.2.1 m_draws m_bestRow m_bestMany m_noted m_hasImage m_tape m_code m_value m_codes m_clauses m_testFrom m_sumFrom m_sumTo m_letters m_stack m_readRule m_readBoy m_readMarble m_readFarm m_rule m_boy m_marble m_farm r2.2.2.1 r2.2.2.2.1 r2.2.2.2.2 m_notePlace m_noteKind m_noteIs m_toldBy m_image ++ fr))) : gG B (gXc X n w) 629 [(0, .ref b), (1, .ref (aC B 0)), (2, .ref (aM B 0)), (3, .ref qo), (4, .int i)] [] (wdC B W_spillsNow W_drawn T_length T_at T_bytes D_cells D_clauses G_length G_code A_size A_chosen A_codes A_lengths A_stack Y_cells Y_clauses N_marbles N_chipped N_swallowed N_sweets N_day N_owners P_next P_kept P_hasImage P_image P_acts P_entries P_imageEntries S_fewest S_row S_strengths U_size U_found U_places U_kinds U_holds U_fitting U_tally L_letters L_firstCells L_secondCells L_firstBest L_secondBest W_refusals ++ (wdM B m_thrown m_size m_at m_wrong m_deep m_laws m_text m_readBoys m_readMarbles m_readFarms m_boys m_marbles m_farms m_holding m_spills m_acts m_draws m_bestRow m_bestMany m_noted m_hasImage m_tape m_code m_value m_codes m_clauses m_testFrom m_sumFrom m_sumTo m_letters m_stack m_readRule m_readBoy m_readMarble m_readFarm m_rule m_boy m_marble m_farm m_now m_refused m_kept m_notePlace m_noteKind m_noteIs m_toldBy m_image ++ fr)) := by
  refine gH.toG (h_aload_n (hX.ok (rt := some .boolean) hn hw) dL_law_629 rfl rfl (gG.toH ?_))
  refine gH.toG (h_aload_n (hX.ok (rt := some .boolean) hn hw) dL_law_630 rfl rfl (gG.toH ?_))
  refine gH.toG (h_iload (hX.ok (rt := some .boolean) hn hw) dL_law_631 rfl (gG.toH ?_))
  refine gH.toG (h_iconst (hX.ok (rt := some .boolean) hn hw) dL_law_633 ki_1 (gG.toH ?_))
  refine gH.toG (h_iadd (hX.ok (rt := some .boolean) hn hw) dL_law_634 (gG.toH ?_))
  refine g_sld hX hS hi1 dL_law_635 ?_
  refine gH.toG (h_aload_n (hX.ok (rt := some .boolean) hn hw) dL_law_636 rfl rfl (gG.toH ?_))
  refine gH.toG (h_iload (hX.ok (rt := some .boolean) hn hw) dL_law_637 rfl (gG.toH ?_))
  refine gH.toG (h_iconst (hX.ok (rt := some .boolean) hn hw) dL_law_639 ki_2 (gG.toH ?_))
  refine gH.toG (h_iadd (hX.ok (rt := some .boolean) hn hw) dL_law_640 (gG.toH ?_))
  refine g_sld hX hS hi2 dL_law_641 ?_
  refine gG.callVi (hX.ok (rt := some .boolean) hn hw) dL_law_642 cv_RL_69 (As := [.int (xs (i + 1 : Int32).toNatClampNeg), .int (xs (i + 2 : Int32).toNatClampNeg)]) (st := []) (c_Main_swap h1) rc_C0 rfl rfl (by decide) (Nat.le_of_ble_eq_true rfl) ?_
  refine gH.toG (h_aload_n (hX.ok (rt := some .boolean) hn hw) dL_law_645 rfl rfl (gG.toH ?_))
  refine gH.toG (h_aload_n (hX.ok (rt := some .boolean) hn hw) dL_law_646 rfl rfl (gG.toH ?_))
  refine gH.toG (h_iload (hX.ok (rt := some .boolean) hn hw) dL_law_647 rfl (gG.toH ?_))
  refine gH.toG (h_iconst (hX.ok (rt := some .boolean) hn hw) dL_law_649 ki_1 (gG.toH ?_))
  refine gH.toG (h_iadd (hX.ok (rt := some .boolean) hn hw) dL_law_650 (gG.toH ?_))
  refine g_sld hX hS hi1 dL_law_651 ?_
  refine gH.toG (h_aload_n (hX.ok (rt := some .boolean) hn hw) dL_law_652 rfl rfl (gG.toH ?_))
  refine gH.toG (h_iload (hX.ok (rt := some .boolean) hn hw) dL_law_653 rfl (gG.toH ?_))
  refine gH.toG (h_iconst (hX.ok (rt := some .boolean) hn hw) dL_law_655 ki_2 (gG.toH ?_))
  refine gH.toG (h_iadd (hX.ok (rt := some .boolean) hn hw) dL_law_656 (gG.toH ?_))
  refine g_sld hX hS hi2 dL_law_657 ?_
  refine gG.perm gsw ?_
  refine gG.callVi (hX.ok (rt := some .boolean) hn hw) dL_law_658 cv_RL_72 (As := [.int (xs (i + 1 : Int32).toNatClampNeg), .int (xs (i + 2 : Int32).toNatClampNeg)]) (st := [.int r1.1]) (c_M_swap h2) rc_M0 rfl rfl (by decide) (Nat.le_of_ble_eq_true rfl) ?_
  refine gG.perm gsw ?_
  exact g_icmpT (hX.ok (rt := some .boolean) hn hw) he dL_law_661 (tgt := 1742) (by decide) k
theorem wml_RL_73 : Cond.methodLink RL 73 yX10_give ∈ gT := gw4 (i := 61) rfl rfl
theorem wim_X10_give : Cond.instanceMethod yX10_give ∈ gT := gw4 (i := 62) rfl rfl
theorem wsel_X10_give : Cond.selects RX10 yX10_give yX10_give ∈ gT := gw4 (i := 63) rfl rfl
theorem wcod_X10_give : Cond.code yX10_give cX10_give 3 (some .int) ∈ gT := gw4 (i := 64) rfl rfl
theorem cv_RL_73 : gCV RL 73 RX10 yX10_give cX10_give 3 (some .int) 2 := ⟨wml_RL_73, wim_X10_give, wsel_X10_give, wini_RX10, wcod_X10_give, rfl, by decide +kernel⟩
theorem wml_RL_76 : Cond.methodLink RL 76 yX11_give ∈ gT := gw7 (i := 236) rfl rfl
theorem wim_X11_give : Cond.instanceMethod yX11_give ∈ gT := gw7 (i := 237) rfl rfl
theorem wsel_X11_give : Cond.selects RX11 yX11_give yX11_give ∈ gT := gw7 (i := 238) rfl rfl
theorem wcod_X11_give : Cond.code yX11_give cX11_give 3 (some .int) ∈ gT := gw7 (i := 239) rfl rfl
theorem cv_RL_76 : gCV RL 76 RX11 yX11_give cX11_give 3 (some .int) 2 := ⟨wml_RL_76, wim_X11_give, wsel_X11_give, wini_RX11, wcod_X11_give, rfl, by decide +kernel⟩
set_option maxRecDepth 4000 in
theorem lc_give (hX : gOkI B X RL cL_law 7 1312 601024 7293034) (hS : gScr X b L xs) (hn : n ≤ 601024) (hw : w ≤ 7293034) {i : Int32} (hi1 : vp_in (i + 1) L) (hi2 : vp_in (i + 2) L) {r1 : (Int32 × Int32 × (Nat → Int32) × Int32 × Int32 × (Nat → Int64) × (Nat → Int32))} {r2 : (Int32 × Int32 × (Nat → Int32) × (Nat → Int32) × (Nat → Int32))} (h1 : f_Main_give Y_cells Y_clauses N_marbles N_chipped N_swallowed N_sweets N_day N_owners P_next P_kept P_acts W_refusals (xs (i + 1 : Int32).toNatClampNeg) (xs (i + 2 : Int32).toNatClampNeg) = some r1) (h2 : f_M_give m_boys m_marbles m_acts m_marble m_now m_refused m_kept (xs (i + 1 : Int32).toNatClampNeg) (xs (i + 2 : Int32).toNatClampNeg) = some r2) (he : r1.1 = r2.1) (k : gG B (gXc X n w) 1742 [(0, .ref b), (1, .ref (aC B 0)), (2, .ref (aM B 0)), (3, .ref qo), (4, .int i)] [] (wdC B W_spillsNow W_drawn T_length T_at T_bytes D_cells D_clauses G_length G_code A_size A_chosen A_codes A_lengths A_stack Y_cells Y_clauses N_marbles N_chipped N_swallowed r1.2.1 N_day r1.2.2.1 r1.2.2.2.1 r1.2.2.2.2.1 P_hasImage P_image r1.2.2.2.2.2.1 P_entries P_imageEntries S_fewest S_row S_strengths U_size U_found U_places U_kinds U_holds U_fitting U_tally L_letters L_firstCells L_secondCells L_firstBest L_secondBest r1.2.2.2.2.2.2 ++ (wdM B m_thrown m_size m_at m_wrong m_deep m_laws m_text m_readBoys m_readMarbles m_readFarms m_boys m_marbles m_farms m_holding m_spills r2.2.1 m_draws m_bestRow m_bestMany m_noted m_hasImage m_tape m_code m_value m_codes m_clauses m_testFrom m_sumFrom m_sumTo m_letters m_stack m_readRule m_readBoy m_readMarble m_readFarm m_rule m_boy m_marble m_farm r2.2.2.1 r2.2.2.2.1 r2.2.2.2.2 m_notePlace m_noteKind m_noteIs m_toldBy m_image ++ fr))) : gG B (gXc X n w) 666 [(0, .ref b), (1, .ref (aC B 0)), (2, .ref (aM B 0)), (3, .ref qo), (4, .int i)] [] (wdC B W_spillsNow W_drawn T_length T_at T_bytes D_cells D_clauses G_length G_code A_size A_chosen A_codes A_lengths A_stack Y_cells Y_clauses N_marbles N_chipped N_swallowed N_sweets N_day N_owners P_next P_kept P_hasImage P_image P_acts P_entries P_imageEntries S_fewest S_row S_strengths U_size U_found U_places U_kinds U_holds U_fitting U_tally L_letters L_firstCells L_secondCells L_firstBest L_secondBest W_refusals ++ (wdM B m_thrown m_size m_at m_wrong m_deep m_laws m_text m_readBoys m_readMarbles m_readFarms m_boys m_marbles m_farms m_holding m_spills m_acts m_draws m_bestRow m_bestMany m_noted m_hasImage m_tape m_code m_value m_codes m_clauses m_testFrom m_sumFrom m_sumTo m_letters m_stack m_readRule m_readBoy m_readMarble m_readFarm m_rule m_boy m_marble m_farm m_now m_refused m_kept m_notePlace m_noteKind m_noteIs m_toldBy m_image ++ fr)) := by
  refine gH.toG (h_aload_n (hX.ok (rt := some .boolean) hn hw) dL_law_666 rfl rfl (gG.toH ?_))
  refine gH.toG (h_aload_n (hX.ok (rt := some .boolean) hn hw) dL_law_667 rfl rfl (gG.toH ?_))
  refine gH.toG (h_iload (hX.ok (rt := some .boolean) hn hw) dL_law_668 rfl (gG.toH ?_))
  refine gH.toG (h_iconst (hX.ok (rt := some .boolean) hn hw) dL_law_670 ki_1 (gG.toH ?_))
  refine gH.toG (h_iadd (hX.ok (rt := some .boolean) hn hw) dL_law_671 (gG.toH ?_))
  refine g_sld hX hS hi1 dL_law_672 ?_
  refine gH.toG (h_aload_n (hX.ok (rt := some .boolean) hn hw) dL_law_673 rfl rfl (gG.toH ?_))
  refine gH.toG (h_iload (hX.ok (rt := some .boolean) hn hw) dL_law_674 rfl (gG.toH ?_))
  refine gH.toG (h_iconst (hX.ok (rt := some .boolean) hn hw) dL_law_676 ki_2 (gG.toH ?_))
  refine gH.toG (h_iadd (hX.ok (rt := some .boolean) hn hw) dL_law_677 (gG.toH ?_))
  refine g_sld hX hS hi2 dL_law_678 ?_
  refine gG.callVi (hX.ok (rt := some .boolean) hn hw) dL_law_679 cv_RL_73 (As := [.int (xs (i + 1 : Int32).toNatClampNeg), .int (xs (i + 2 : Int32).toNatClampNeg)]) (st := []) (c_Main_give h1) rc_C0 rfl rfl (by decide) (Nat.le_of_ble_eq_true rfl) ?_
  refine gH.toG (h_aload_n (hX.ok (rt := some .boolean) hn hw) dL_law_682 rfl rfl (gG.toH ?_))
  refine gH.toG (h_aload_n (hX.ok (rt := some .boolean) hn hw) dL_law_683 rfl rfl (gG.toH ?_))
  refine gH.toG (h_iload (hX.ok (rt := some .boolean) hn hw) dL_law_684 rfl (gG.toH ?_))
  refine gH.toG (h_iconst (hX.ok (rt := some .boolean) hn hw) dL_law_686 ki_1 (gG.toH ?_))
  refine gH.toG (h_iadd (hX.ok (rt := some .boolean) hn hw) dL_law_687 (gG.toH ?_))
  refine g_sld hX hS hi1 dL_law_688 ?_
  refine gH.toG (h_aload_n (hX.ok (rt := some .boolean) hn hw) dL_law_689 rfl rfl (gG.toH ?_))
  refine gH.toG (h_iload (hX.ok (rt := some .boolean) hn hw) dL_law_690 rfl (gG.toH ?_))
  refine gH.toG (h_iconst (hX.ok (rt := some .boolean) hn hw) dL_law_692 ki_2 (gG.toH ?_))
  refine gH.toG (h_iadd (hX.ok (rt := some .boolean) hn hw) dL_law_693 (gG.toH ?_))
  refine g_sld hX hS hi2 dL_law_694 ?_
  refine gG.perm gsw ?_
  refine gG.callVi (hX.ok (rt := some .boolean) hn hw) dL_law_695 cv_RL_76 (As := [.int (xs (i + 1 : Int32).toNatClampNeg), .int (xs (i + 2 : Int32).toNatClampNeg)]) (st := [.int r1.1]) (c_M_give h2) rc_M0 rfl rfl (by decide) (Nat.le_of_ble_eq_true rfl) ?_
  refine gG.perm gsw ?_
  exact g_icmpT (hX.ok (rt := some .boolean) hn hw) he dL_law_698 (tgt := 1742) (by decide) k
theorem wml_RL_77 : Cond.methodLink RL 77 yX10_chip ∈ gT := gw4 (i := 70) rfl rfl
theorem wim_X10_chip : Cond.instanceMethod yX10_chip ∈ gT := gw4 (i := 71) rfl rfl
theorem wsel_X10_chip : Cond.selects RX10 yX10_chip yX10_chip ∈ gT := gw4 (i := 72) rfl rfl
theorem wcod_X10_chip : Cond.code yX10_chip cX10_chip 2 (some .int) ∈ gT := gw4 (i := 73) rfl rfl
theorem cv_RL_77 : gCV RL 77 RX10 yX10_chip cX10_chip 2 (some .int) 1 := ⟨wml_RL_77, wim_X10_chip, wsel_X10_chip, wini_RX10, wcod_X10_chip, rfl, by decide +kernel⟩
theorem wml_RL_80 : Cond.methodLink RL 80 yX11_chip ∈ gT := gw8 (i := 0) rfl rfl
theorem wim_X11_chip : Cond.instanceMethod yX11_chip ∈ gT := gw8 (i := 1) rfl rfl
theorem wsel_X11_chip : Cond.selects RX11 yX11_chip yX11_chip ∈ gT := gw8 (i := 2) rfl rfl
theorem wcod_X11_chip : Cond.code yX11_chip cX11_chip 2 (some .int) ∈ gT := gw8 (i := 3) rfl rfl
theorem cv_RL_80 : gCV RL 80 RX11 yX11_chip cX11_chip 2 (some .int) 1 := ⟨wml_RL_80, wim_X11_chip, wsel_X11_chip, wini_RX11, wcod_X11_chip, rfl, by decide +kernel⟩
set_option maxRecDepth 4000 in
theorem lc_chip (hX : gOkI B X RL cL_law 7 1312 601024 7293034) (hS : gScr X b L xs) (hn : n ≤ 601024) (hw : w ≤ 7293034) {i : Int32} (hi1 : vp_in (i + 1) L) {r1 : (Int32 × Int32 × Int32 × Int32 × (Nat → Int64) × (Nat → Int32))} {r2 : (Int32 × Int32 × (Nat → Int32) × (Nat → Int32) × (Nat → Int32))} (h1 : f_Main_chip Y_clauses N_marbles N_chipped N_swallowed N_sweets N_day N_owners P_next P_kept P_acts W_refusals (xs (i + 1 : Int32).toNatClampNeg) = some r1) (h2 : f_M_chip m_marbles m_acts m_now m_refused m_kept (xs (i + 1 : Int32).toNatClampNeg) = some r2) (he : r1.1 = r2.1) (k : gG B (gXc X n w) 1742 [(0, .ref b), (1, .ref (aC B 0)), (2, .ref (aM B 0)), (3, .ref qo), (4, .int i)] [] (wdC B W_spillsNow W_drawn T_length T_at T_bytes D_cells D_clauses G_length G_code A_size A_chosen A_codes A_lengths A_stack Y_cells Y_clauses N_marbles r1.2.1 N_swallowed N_sweets N_day N_owners r1.2.2.1 r1.2.2.2.1 P_hasImage P_image r1.2.2.2.2.1 P_entries P_imageEntries S_fewest S_row S_strengths U_size U_found U_places U_kinds U_holds U_fitting U_tally L_letters L_firstCells L_secondCells L_firstBest L_secondBest r1.2.2.2.2.2 ++ (wdM B m_thrown m_size m_at m_wrong m_deep m_laws m_text m_readBoys m_readMarbles m_readFarms m_boys m_marbles m_farms m_holding m_spills r2.2.1 m_draws m_bestRow m_bestMany m_noted m_hasImage m_tape m_code m_value m_codes m_clauses m_testFrom m_sumFrom m_sumTo m_letters m_stack m_readRule m_readBoy m_readMarble m_readFarm m_rule m_boy m_marble m_farm r2.2.2.1 r2.2.2.2.1 r2.2.2.2.2 m_notePlace m_noteKind m_noteIs m_toldBy m_image ++ fr))) : gG B (gXc X n w) 703 [(0, .ref b), (1, .ref (aC B 0)), (2, .ref (aM B 0)), (3, .ref qo), (4, .int i)] [] (wdC B W_spillsNow W_drawn T_length T_at T_bytes D_cells D_clauses G_length G_code A_size A_chosen A_codes A_lengths A_stack Y_cells Y_clauses N_marbles N_chipped N_swallowed N_sweets N_day N_owners P_next P_kept P_hasImage P_image P_acts P_entries P_imageEntries S_fewest S_row S_strengths U_size U_found U_places U_kinds U_holds U_fitting U_tally L_letters L_firstCells L_secondCells L_firstBest L_secondBest W_refusals ++ (wdM B m_thrown m_size m_at m_wrong m_deep m_laws m_text m_readBoys m_readMarbles m_readFarms m_boys m_marbles m_farms m_holding m_spills m_acts m_draws m_bestRow m_bestMany m_noted m_hasImage m_tape m_code m_value m_codes m_clauses m_testFrom m_sumFrom m_sumTo m_letters m_stack m_readRule m_readBoy m_readMarble m_readFarm m_rule m_boy m_marble m_farm m_now m_refused m_kept m_notePlace m_noteKind m_noteIs m_toldBy m_image ++ fr)) := by
  refine gH.toG (h_aload_n (hX.ok (rt := some .boolean) hn hw) dL_law_703 rfl rfl (gG.toH ?_))
  refine gH.toG (h_aload_n (hX.ok (rt := some .boolean) hn hw) dL_law_704 rfl rfl (gG.toH ?_))
  refine gH.toG (h_iload (hX.ok (rt := some .boolean) hn hw) dL_law_705 rfl (gG.toH ?_))
  refine gH.toG (h_iconst (hX.ok (rt := some .boolean) hn hw) dL_law_707 ki_1 (gG.toH ?_))
  refine gH.toG (h_iadd (hX.ok (rt := some .boolean) hn hw) dL_law_708 (gG.toH ?_))
  refine g_sld hX hS hi1 dL_law_709 ?_
  refine gG.callVi (hX.ok (rt := some .boolean) hn hw) dL_law_710 cv_RL_77 (As := [.int (xs (i + 1 : Int32).toNatClampNeg)]) (st := []) (c_Main_chip h1) rc_C0 rfl rfl (by decide) (Nat.le_of_ble_eq_true rfl) ?_
  refine gH.toG (h_aload_n (hX.ok (rt := some .boolean) hn hw) dL_law_713 rfl rfl (gG.toH ?_))
  refine gH.toG (h_aload_n (hX.ok (rt := some .boolean) hn hw) dL_law_714 rfl rfl (gG.toH ?_))
  refine gH.toG (h_iload (hX.ok (rt := some .boolean) hn hw) dL_law_715 rfl (gG.toH ?_))
  refine gH.toG (h_iconst (hX.ok (rt := some .boolean) hn hw) dL_law_717 ki_1 (gG.toH ?_))
  refine gH.toG (h_iadd (hX.ok (rt := some .boolean) hn hw) dL_law_718 (gG.toH ?_))
  refine g_sld hX hS hi1 dL_law_719 ?_
  refine gG.perm gsw ?_
  refine gG.callVi (hX.ok (rt := some .boolean) hn hw) dL_law_720 cv_RL_80 (As := [.int (xs (i + 1 : Int32).toNatClampNeg)]) (st := [.int r1.1]) (c_M_chip h2) rc_M0 rfl rfl (by decide) (Nat.le_of_ble_eq_true rfl) ?_
  refine gG.perm gsw ?_
  exact g_icmpT (hX.ok (rt := some .boolean) hn hw) he dL_law_723 (tgt := 1742) (by decide) k
theorem wml_RL_81 : Cond.methodLink RL 81 yX10_swallow ∈ gT := gw4 (i := 76) rfl rfl
theorem wim_X10_swallow : Cond.instanceMethod yX10_swallow ∈ gT := gw4 (i := 77) rfl rfl
theorem wsel_X10_swallow : Cond.selects RX10 yX10_swallow yX10_swallow ∈ gT := gw4 (i := 78) rfl rfl
theorem wcod_X10_swallow : Cond.code yX10_swallow cX10_swallow 2 (some .int) ∈ gT := gw4 (i := 79) rfl rfl
theorem cv_RL_81 : gCV RL 81 RX10 yX10_swallow cX10_swallow 2 (some .int) 1 := ⟨wml_RL_81, wim_X10_swallow, wsel_X10_swallow, wini_RX10, wcod_X10_swallow, rfl, by decide +kernel⟩
theorem wml_RL_84 : Cond.methodLink RL 84 yX11_swallow ∈ gT := gw8 (i := 8) rfl rfl
theorem wim_X11_swallow : Cond.instanceMethod yX11_swallow ∈ gT := gw8 (i := 9) rfl rfl
theorem wsel_X11_swallow : Cond.selects RX11 yX11_swallow yX11_swallow ∈ gT := gw8 (i := 10) rfl rfl
theorem wcod_X11_swallow : Cond.code yX11_swallow cX11_swallow 2 (some .int) ∈ gT := gw8 (i := 11) rfl rfl
theorem cv_RL_84 : gCV RL 84 RX11 yX11_swallow cX11_swallow 2 (some .int) 1 := ⟨wml_RL_84, wim_X11_swallow, wsel_X11_swallow, wini_RX11, wcod_X11_swallow, rfl, by decide +kernel⟩
set_option maxRecDepth 4000 in
theorem lc_swallow (hX : gOkI B X RL cL_law 7 1312 601024 7293034) (hS : gScr X b L xs) (hn : n ≤ 601024) (hw : w ≤ 7293034) {i : Int32} (hi1 : vp_in (i + 1) L) {r1 : (Int32 × Int32 × Int32 × Int32 × (Nat → Int64) × (Nat → Int32))} {r2 : (Int32 × Int32 × (Nat → Int32) × (Nat → Int32) × (Nat → Int32))} (h1 : f_Main_swallow Y_clauses N_marbles N_chipped N_swallowed N_sweets N_day N_owners P_next P_kept P_acts W_refusals (xs (i + 1 : Int32).toNatClampNeg) = some r1) (h2 : f_M_swallow m_marbles m_acts m_now m_refused m_kept (xs (i + 1 : Int32).toNatClampNeg) = some r2) (he : r1.1 = r2.1) (k : gG B (gXc X n w) 1742 [(0, .ref b), (1, .ref (aC B 0)), (2, .ref (aM B 0)), (3, .ref qo), (4, .int i)] [] (wdC B W_spillsNow W_drawn T_length T_at T_bytes D_cells D_clauses G_length G_code A_size A_chosen A_codes A_lengths A_stack Y_cells Y_clauses N_marbles N_chipped r1.2.1 N_sweets N_day N_owners r1.2.2.1 r1.2.2.2.1 P_hasImage P_image r1.2.2.2.2.1 P_entries P_imageEntries S_fewest S_row S_strengths U_size U_found U_places U_kinds U_holds U_fitting U_tally L_letters L_firstCells L_secondCells L_firstBest L_secondBest r1.2.2.2.2.2 ++ (wdM B m_thrown m_size m_at m_wrong m_deep m_laws m_text m_readBoys m_readMarbles m_readFarms m_boys m_marbles m_farms m_holding m_spills r2.2.1 m_draws m_bestRow m_bestMany m_noted m_hasImage m_tape m_code m_value m_codes m_clauses m_testFrom m_sumFrom m_sumTo m_letters m_stack m_readRule m_readBoy m_readMarble m_readFarm m_rule m_boy m_marble m_farm r2.2.2.1 r2.2.2.2.1 r2.2.2.2.2 m_notePlace m_noteKind m_noteIs m_toldBy m_image ++ fr))) : gG B (gXc X n w) 728 [(0, .ref b), (1, .ref (aC B 0)), (2, .ref (aM B 0)), (3, .ref qo), (4, .int i)] [] (wdC B W_spillsNow W_drawn T_length T_at T_bytes D_cells D_clauses G_length G_code A_size A_chosen A_codes A_lengths A_stack Y_cells Y_clauses N_marbles N_chipped N_swallowed N_sweets N_day N_owners P_next P_kept P_hasImage P_image P_acts P_entries P_imageEntries S_fewest S_row S_strengths U_size U_found U_places U_kinds U_holds U_fitting U_tally L_letters L_firstCells L_secondCells L_firstBest L_secondBest W_refusals ++ (wdM B m_thrown m_size m_at m_wrong m_deep m_laws m_text m_readBoys m_readMarbles m_readFarms m_boys m_marbles m_farms m_holding m_spills m_acts m_draws m_bestRow m_bestMany m_noted m_hasImage m_tape m_code m_value m_codes m_clauses m_testFrom m_sumFrom m_sumTo m_letters m_stack m_readRule m_readBoy m_readMarble m_readFarm m_rule m_boy m_marble m_farm m_now m_refused m_kept m_notePlace m_noteKind m_noteIs m_toldBy m_image ++ fr)) := by
  refine gH.toG (h_aload_n (hX.ok (rt := some .boolean) hn hw) dL_law_728 rfl rfl (gG.toH ?_))
  refine gH.toG (h_aload_n (hX.ok (rt := some .boolean) hn hw) dL_law_729 rfl rfl (gG.toH ?_))
  refine gH.toG (h_iload (hX.ok (rt := some .boolean) hn hw) dL_law_730 rfl (gG.toH ?_))
  refine gH.toG (h_iconst (hX.ok (rt := some .boolean) hn hw) dL_law_732 ki_1 (gG.toH ?_))
  refine gH.toG (h_iadd (hX.ok (rt := some .boolean) hn hw) dL_law_733 (gG.toH ?_))
  refine g_sld hX hS hi1 dL_law_734 ?_
  refine gG.callVi (hX.ok (rt := some .boolean) hn hw) dL_law_735 cv_RL_81 (As := [.int (xs (i + 1 : Int32).toNatClampNeg)]) (st := []) (c_Main_swallow h1) rc_C0 rfl rfl (by decide) (Nat.le_of_ble_eq_true rfl) ?_
  refine gH.toG (h_aload_n (hX.ok (rt := some .boolean) hn hw) dL_law_738 rfl rfl (gG.toH ?_))
  refine gH.toG (h_aload_n (hX.ok (rt := some .boolean) hn hw) dL_law_739 rfl rfl (gG.toH ?_))
  refine gH.toG (h_iload (hX.ok (rt := some .boolean) hn hw) dL_law_740 rfl (gG.toH ?_))
  refine gH.toG (h_iconst (hX.ok (rt := some .boolean) hn hw) dL_law_742 ki_1 (gG.toH ?_))
  refine gH.toG (h_iadd (hX.ok (rt := some .boolean) hn hw) dL_law_743 (gG.toH ?_))
  refine g_sld hX hS hi1 dL_law_744 ?_
  refine gG.perm gsw ?_
  refine gG.callVi (hX.ok (rt := some .boolean) hn hw) dL_law_745 cv_RL_84 (As := [.int (xs (i + 1 : Int32).toNatClampNeg)]) (st := [.int r1.1]) (c_M_swallow h2) rc_M0 rfl rfl (by decide) (Nat.le_of_ble_eq_true rfl) ?_
  refine gG.perm gsw ?_
  exact g_icmpT (hX.ok (rt := some .boolean) hn hw) he dL_law_748 (tgt := 1742) (by decide) k
theorem wml_RL_85 : Cond.methodLink RL 85 yX10_days ∈ gT := gw4 (i := 80) rfl rfl
theorem wim_X10_days : Cond.instanceMethod yX10_days ∈ gT := gw4 (i := 81) rfl rfl
theorem wsel_X10_days : Cond.selects RX10 yX10_days yX10_days ∈ gT := gw4 (i := 82) rfl rfl
theorem wcod_X10_days : Cond.code yX10_days cX10_days 3 (some .int) ∈ gT := gw4 (i := 83) rfl rfl
theorem cv_RL_85 : gCV RL 85 RX10 yX10_days cX10_days 3 (some .int) 1 := ⟨wml_RL_85, wim_X10_days, wsel_X10_days, wini_RX10, wcod_X10_days, rfl, by decide +kernel⟩
theorem wml_RL_88 : Cond.methodLink RL 88 yX11_days ∈ gT := gw8 (i := 12) rfl rfl
theorem wim_X11_days : Cond.instanceMethod yX11_days ∈ gT := gw8 (i := 13) rfl rfl
theorem wsel_X11_days : Cond.selects RX11 yX11_days yX11_days ∈ gT := gw8 (i := 14) rfl rfl
theorem wcod_X11_days : Cond.code yX11_days cX11_days 3 (some .int) ∈ gT := gw8 (i := 15) rfl rfl
theorem cv_RL_88 : gCV RL 88 RX11 yX11_days cX11_days 3 (some .int) 1 := ⟨wml_RL_88, wim_X11_days, wsel_X11_days, wini_RX11, wcod_X11_days, rfl, by decide +kernel⟩
set_option maxRecDepth 4000 in
theorem lc_days (hX : gOkI B X RL cL_law 7 1312 601024 7293034) (hS : gScr X b L xs) (hn : n ≤ 601024) (hw : w ≤ 7293034) {i : Int32} (hi1 : vp_in (i + 1) L) {r1 : (Int32 × Int32 × Int32 × Int32 × Int32 × (Nat → Int64) × (Nat → Int32) × (Nat → Int32) × (Nat → Int32))} {r2 : (Int32 × Int32 × (Nat → Int32) × (Nat → Int32) × (Nat → Int32))} (h1 : f_Main_days Y_cells Y_clauses N_marbles N_chipped N_swallowed N_sweets N_day N_owners P_next P_kept P_acts P_entries S_strengths W_refusals (xs (i + 1 : Int32).toNatClampNeg) = some r1) (h2 : f_M_days m_marbles m_farms m_acts m_boy m_marble m_farm m_now m_refused m_kept (xs (i + 1 : Int32).toNatClampNeg) = some r2) (he : r1.1 = r2.1) (k : gG B (gXc X n w) 1742 [(0, .ref b), (1, .ref (aC B 0)), (2, .ref (aM B 0)), (3, .ref qo), (4, .int i)] [] (wdC B W_spillsNow W_drawn T_length T_at T_bytes D_cells D_clauses G_length G_code A_size A_chosen A_codes A_lengths A_stack Y_cells Y_clauses N_marbles N_chipped N_swallowed r1.2.1 r1.2.2.1 N_owners r1.2.2.2.1 r1.2.2.2.2.1 P_hasImage P_image r1.2.2.2.2.2.1 r1.2.2.2.2.2.2.1 P_imageEntries S_fewest S_row r1.2.2.2.2.2.2.2.1 U_size U_found U_places U_kinds U_holds U_fitting U_tally L_letters L_firstCells L_secondCells L_firstBest L_secondBest r1.2.2.2.2.2.2.2.2 ++ (wdM B m_thrown m_size m_at m_wrong m_deep m_laws m_text m_readBoys m_readMarbles m_readFarms m_boys m_marbles m_farms m_holding m_spills r2.2.1 m_draws m_bestRow m_bestMany m_noted m_hasImage m_tape m_code m_value m_codes m_clauses m_testFrom m_sumFrom m_sumTo m_letters m_stack m_readRule m_readBoy m_readMarble m_readFarm m_rule m_boy m_marble m_farm r2.2.2.1 r2.2.2.2.1 r2.2.2.2.2 m_notePlace m_noteKind m_noteIs m_toldBy m_image ++ fr))) : gG B (gXc X n w) 753 [(0, .ref b), (1, .ref (aC B 0)), (2, .ref (aM B 0)), (3, .ref qo), (4, .int i)] [] (wdC B W_spillsNow W_drawn T_length T_at T_bytes D_cells D_clauses G_length G_code A_size A_chosen A_codes A_lengths A_stack Y_cells Y_clauses N_marbles N_chipped N_swallowed N_sweets N_day N_owners P_next P_kept P_hasImage P_image P_acts P_entries P_imageEntries S_fewest S_row S_strengths U_size U_found U_places U_kinds U_holds U_fitting U_tally L_letters L_firstCells L_secondCells L_firstBest L_secondBest W_refusals ++ (wdM B m_thrown m_size m_at m_wrong m_deep m_laws m_text m_readBoys m_readMarbles m_readFarms m_boys m_marbles m_farms m_holding m_spills m_acts m_draws m_bestRow m_bestMany m_noted m_hasImage m_tape m_code m_value m_codes m_clauses m_testFrom m_sumFrom m_sumTo m_letters m_stack m_readRule m_readBoy m_readMarble m_readFarm m_rule m_boy m_marble m_farm m_now m_refused m_kept m_notePlace m_noteKind m_noteIs m_toldBy m_image ++ fr)) := by
  refine gH.toG (h_aload_n (hX.ok (rt := some .boolean) hn hw) dL_law_753 rfl rfl (gG.toH ?_))
  refine gH.toG (h_aload_n (hX.ok (rt := some .boolean) hn hw) dL_law_754 rfl rfl (gG.toH ?_))
  refine gH.toG (h_iload (hX.ok (rt := some .boolean) hn hw) dL_law_755 rfl (gG.toH ?_))
  refine gH.toG (h_iconst (hX.ok (rt := some .boolean) hn hw) dL_law_757 ki_1 (gG.toH ?_))
  refine gH.toG (h_iadd (hX.ok (rt := some .boolean) hn hw) dL_law_758 (gG.toH ?_))
  refine g_sld hX hS hi1 dL_law_759 ?_
  refine gG.callVi (hX.ok (rt := some .boolean) hn hw) dL_law_760 cv_RL_85 (As := [.int (xs (i + 1 : Int32).toNatClampNeg)]) (st := []) (c_Main_days h1) rc_C0 rfl rfl (by decide) (Nat.le_of_ble_eq_true rfl) ?_
  refine gH.toG (h_aload_n (hX.ok (rt := some .boolean) hn hw) dL_law_763 rfl rfl (gG.toH ?_))
  refine gH.toG (h_aload_n (hX.ok (rt := some .boolean) hn hw) dL_law_764 rfl rfl (gG.toH ?_))
  refine gH.toG (h_iload (hX.ok (rt := some .boolean) hn hw) dL_law_765 rfl (gG.toH ?_))
  refine gH.toG (h_iconst (hX.ok (rt := some .boolean) hn hw) dL_law_767 ki_1 (gG.toH ?_))
  refine gH.toG (h_iadd (hX.ok (rt := some .boolean) hn hw) dL_law_768 (gG.toH ?_))
  refine g_sld hX hS hi1 dL_law_769 ?_
  refine gG.perm gsw ?_
  refine gG.callVi (hX.ok (rt := some .boolean) hn hw) dL_law_770 cv_RL_88 (As := [.int (xs (i + 1 : Int32).toNatClampNeg)]) (st := [.int r1.1]) (c_M_days h2) rc_M0 rfl rfl (by decide) (Nat.le_of_ble_eq_true rfl) ?_
  refine gG.perm gsw ?_
  exact g_icmpT (hX.ok (rt := some .boolean) hn hw) he dL_law_773 (tgt := 1742) (by decide) k
theorem wml_RL_89 : Cond.methodLink RL 89 yX10_spills ∈ gT := gw4 (i := 102) rfl rfl
theorem wim_X10_spills : Cond.instanceMethod yX10_spills ∈ gT := gw4 (i := 103) rfl rfl
theorem wsel_X10_spills : Cond.selects RX10 yX10_spills yX10_spills ∈ gT := gw4 (i := 104) rfl rfl
theorem wcod_X10_spills : Cond.code yX10_spills cX10_spills 2 (some .boolean) ∈ gT := gw4 (i := 105) rfl rfl
theorem cv_RL_89 : gCV RL 89 RX10 yX10_spills cX10_spills 2 (some .boolean) 1 := ⟨wml_RL_89, wim_X10_spills, wsel_X10_spills, wini_RX10, wcod_X10_spills, rfl, by decide +kernel⟩
theorem wml_RL_92 : Cond.methodLink RL 92 yX11_spills ∈ gT := gw8 (i := 32) rfl rfl
theorem wim_X11_spills : Cond.instanceMethod yX11_spills ∈ gT := gw8 (i := 33) rfl rfl
theorem wsel_X11_spills : Cond.selects RX11 yX11_spills yX11_spills ∈ gT := gw8 (i := 34) rfl rfl
theorem wcod_X11_spills : Cond.code yX11_spills cX11_spills 2 (some .boolean) ∈ gT := gw8 (i := 35) rfl rfl
theorem cv_RL_92 : gCV RL 92 RX11 yX11_spills cX11_spills 2 (some .boolean) 1 := ⟨wml_RL_92, wim_X11_spills, wsel_X11_spills, wini_RX11, wcod_X11_spills, rfl, by decide +kernel⟩
set_option maxRecDepth 4000 in
theorem lc_spills (hX : gOkI B X RL cL_law 7 1312 601024 7293034) (hS : gScr X b L xs) (hn : n ≤ 601024) (hw : w ≤ 7293034) {i : Int32} (hi1 : vp_in (i + 1) L) {r1 : (Int32 × Int32)} {r2 : (Int32 × Int32)} (h1 : f_Main_spills W_spillsNow (xs (i + 1 : Int32).toNatClampNeg) = some r1) (h2 : f_M_spills m_spills (xs (i + 1 : Int32).toNatClampNeg) = some r2) (he : r1.1 = r2.1) (k : gG B (gXc X n w) 1742 [(0, .ref b), (1, .ref (aC B 0)), (2, .ref (aM B 0)), (3, .ref qo), (4, .int i)] [] (wdC B r1.2 W_drawn T_length T_at T_bytes D_cells D_clauses G_length G_code A_size A_chosen A_codes A_lengths A_stack Y_cells Y_clauses N_marbles N_chipped N_swallowed N_sweets N_day N_owners P_next P_kept P_hasImage P_image P_acts P_entries P_imageEntries S_fewest S_row S_strengths U_size U_found U_places U_kinds U_holds U_fitting U_tally L_letters L_firstCells L_secondCells L_firstBest L_secondBest W_refusals ++ (wdM B m_thrown m_size m_at m_wrong m_deep m_laws m_text m_readBoys m_readMarbles m_readFarms m_boys m_marbles m_farms m_holding r2.2 m_acts m_draws m_bestRow m_bestMany m_noted m_hasImage m_tape m_code m_value m_codes m_clauses m_testFrom m_sumFrom m_sumTo m_letters m_stack m_readRule m_readBoy m_readMarble m_readFarm m_rule m_boy m_marble m_farm m_now m_refused m_kept m_notePlace m_noteKind m_noteIs m_toldBy m_image ++ fr))) : gG B (gXc X n w) 778 [(0, .ref b), (1, .ref (aC B 0)), (2, .ref (aM B 0)), (3, .ref qo), (4, .int i)] [] (wdC B W_spillsNow W_drawn T_length T_at T_bytes D_cells D_clauses G_length G_code A_size A_chosen A_codes A_lengths A_stack Y_cells Y_clauses N_marbles N_chipped N_swallowed N_sweets N_day N_owners P_next P_kept P_hasImage P_image P_acts P_entries P_imageEntries S_fewest S_row S_strengths U_size U_found U_places U_kinds U_holds U_fitting U_tally L_letters L_firstCells L_secondCells L_firstBest L_secondBest W_refusals ++ (wdM B m_thrown m_size m_at m_wrong m_deep m_laws m_text m_readBoys m_readMarbles m_readFarms m_boys m_marbles m_farms m_holding m_spills m_acts m_draws m_bestRow m_bestMany m_noted m_hasImage m_tape m_code m_value m_codes m_clauses m_testFrom m_sumFrom m_sumTo m_letters m_stack m_readRule m_readBoy m_readMarble m_readFarm m_rule m_boy m_marble m_farm m_now m_refused m_kept m_notePlace m_noteKind m_noteIs m_toldBy m_image ++ fr)) := by
  refine gH.toG (h_aload_n (hX.ok (rt := some .boolean) hn hw) dL_law_778 rfl rfl (gG.toH ?_))
  refine gH.toG (h_aload_n (hX.ok (rt := some .boolean) hn hw) dL_law_779 rfl rfl (gG.toH ?_))
  refine gH.toG (h_iload (hX.ok (rt := some .boolean) hn hw) dL_law_780 rfl (gG.toH ?_))
  refine gH.toG (h_iconst (hX.ok (rt := some .boolean) hn hw) dL_law_782 ki_1 (gG.toH ?_))
  refine gH.toG (h_iadd (hX.ok (rt := some .boolean) hn hw) dL_law_783 (gG.toH ?_))
  refine g_sld hX hS hi1 dL_law_784 ?_
  refine gG.callVi (hX.ok (rt := some .boolean) hn hw) dL_law_785 cv_RL_89 (As := [.int (xs (i + 1 : Int32).toNatClampNeg)]) (st := []) (c_Main_spills h1) rc_C0 rfl rfl (by decide) (Nat.le_of_ble_eq_true rfl) ?_
  refine gH.toG (h_aload_n (hX.ok (rt := some .boolean) hn hw) dL_law_788 rfl rfl (gG.toH ?_))
  refine gH.toG (h_aload_n (hX.ok (rt := some .boolean) hn hw) dL_law_789 rfl rfl (gG.toH ?_))
  refine gH.toG (h_iload (hX.ok (rt := some .boolean) hn hw) dL_law_790 rfl (gG.toH ?_))
  refine gH.toG (h_iconst (hX.ok (rt := some .boolean) hn hw) dL_law_792 ki_1 (gG.toH ?_))
  refine gH.toG (h_iadd (hX.ok (rt := some .boolean) hn hw) dL_law_793 (gG.toH ?_))
  refine g_sld hX hS hi1 dL_law_794 ?_
  refine gG.perm gsw ?_
  refine gG.callVi (hX.ok (rt := some .boolean) hn hw) dL_law_795 cv_RL_92 (As := [.int (xs (i + 1 : Int32).toNatClampNeg)]) (st := [.int r1.1]) (c_M_spills h2) rc_M0 rfl rfl (by decide) (Nat.le_of_ble_eq_true rfl) ?_
  refine gG.perm gsw ?_
  exact g_icmpT (hX.ok (rt := some .boolean) hn hw) he dL_law_798 (tgt := 1742) (by decide) k
theorem cstl_RL_93 : Cond.constantLong RL 93 4294967295 ∈ gT := gw8 (i := 229) rfl rfl
theorem wml_RL_95 : Cond.methodLink RL 95 yX10_years ∈ gT := gw4 (i := 106) rfl rfl
theorem wim_X10_years : Cond.instanceMethod yX10_years ∈ gT := gw4 (i := 107) rfl rfl
theorem wsel_X10_years : Cond.selects RX10 yX10_years yX10_years ∈ gT := gw4 (i := 108) rfl rfl
theorem wcod_X10_years : Cond.code yX10_years cX10_years 5 (some .int) ∈ gT := gw4 (i := 109) rfl rfl
theorem cv_RL_95 : gCV RL 95 RX10 yX10_years cX10_years 5 (some .int) 2 := ⟨wml_RL_95, wim_X10_years, wsel_X10_years, wini_RX10, wcod_X10_years, rfl, by decide +kernel⟩
theorem wml_RL_99 : Cond.methodLink RL 99 yX11_years ∈ gT := gw8 (i := 36) rfl rfl
theorem wim_X11_years : Cond.instanceMethod yX11_years ∈ gT := gw8 (i := 37) rfl rfl
theorem wsel_X11_years : Cond.selects RX11 yX11_years yX11_years ∈ gT := gw8 (i := 38) rfl rfl
theorem wcod_X11_years : Cond.code yX11_years cX11_years 5 (some .int) ∈ gT := gw8 (i := 39) rfl rfl
theorem cv_RL_99 : gCV RL 99 RX11 yX11_years cX11_years 5 (some .int) 2 := ⟨wml_RL_99, wim_X11_years, wsel_X11_years, wini_RX11, wcod_X11_years, rfl, by decide +kernel⟩
set_option maxRecDepth 4000 in
theorem lc_years (hX : gOkI B X RL cL_law 7 1312 601024 7293034) (hS : gScr X b L xs) (hn : n ≤ 601024) (hw : w ≤ 7293034) {i : Int32} (hi1 : vp_in (i + 1) L) (hi2 : vp_in (i + 2) L) (hi3 : vp_in (i + 3) L) {r1 : (Int32 × Int64 × (Nat → Int32) × Int32 × Int32 × Int32 × (Nat → Int32) × Int32 × Int32 × (Nat → Int64) × (Nat → Int32) × (Nat → Int32) × (Nat → Int32))} {r2 : (Int32 × Int32 × Int64 × (Nat → Int32) × (Nat → Int32) × (Nat → Int32) × (Nat → Int32))} (h1 : f_Main_years W_spillsNow W_drawn A_size A_chosen A_codes A_lengths A_stack Y_cells Y_clauses N_marbles N_chipped N_swallowed N_sweets N_day N_owners P_next P_kept P_acts P_entries S_strengths L_letters (xs (i + 1 : Int32).toNatClampNeg) (((xs (i + 2 : Int32).toNatClampNeg : Int32).toInt64 <<< ((32 : Int32).toInt64 &&& 63)) ||| ((xs (i + 3 : Int32).toNatClampNeg : Int32).toInt64 &&& 4294967295)) = some r1) (h2 : f_M_years m_marbles m_farms m_holding m_spills m_acts m_draws m_code m_value m_clauses m_testFrom m_sumFrom m_sumTo m_letters m_stack m_rule m_boy m_marble m_farm m_now m_kept (xs (i + 1 : Int32).toNatClampNeg) (((xs (i + 2 : Int32).toNatClampNeg : Int32).toInt64 <<< ((32 : Int32).toInt64 &&& 63)) ||| ((xs (i + 3 : Int32).toNatClampNeg : Int32).toInt64 &&& 4294967295)) = some r2) (he : r1.1 = r2.1) (k : gG B (gXc X n w) 1742 [(0, .ref b), (1, .ref (aC B 0)), (2, .ref (aM B 0)), (3, .ref qo), (4, .int i)] [] (wdC B W_spillsNow r1.2.1 T_length T_at T_bytes D_cells D_clauses G_length G_code A_size A_chosen A_codes A_lengths r1.2.2.1 Y_cells Y_clauses N_marbles r1.2.2.2.1 N_swallowed r1.2.2.2.2.1 r1.2.2.2.2.2.1 r1.2.2.2.2.2.2.1 r1.2.2.2.2.2.2.2.1 r1.2.2.2.2.2.2.2.2.1 P_hasImage P_image r1.2.2.2.2.2.2.2.2.2.1 r1.2.2.2.2.2.2.2.2.2.2.1 P_imageEntries S_fewest S_row r1.2.2.2.2.2.2.2.2.2.2.2.1 U_size U_found U_places U_kinds U_holds U_fitting U_tally r1.2.2.2.2.2.2.2.2.2.2.2.2 L_firstCells L_secondCells L_firstBest L_secondBest W_refusals ++ (wdM B m_thrown m_size m_at m_wrong m_deep m_laws m_text m_readBoys m_readMarbles m_readFarms m_boys m_marbles m_farms m_holding m_spills r2.2.1 r2.2.2.1 m_bestRow m_bestMany m_noted m_hasImage m_tape m_code m_value m_codes m_clauses m_testFrom m_sumFrom m_sumTo r2.2.2.2.1 r2.2.2.2.2.1 m_readRule m_readBoy m_readMarble m_readFarm m_rule m_boy m_marble m_farm r2.2.2.2.2.2.1 m_refused r2.2.2.2.2.2.2 m_notePlace m_noteKind m_noteIs m_toldBy m_image ++ fr))) : gG B (gXc X n w) 803 [(0, .ref b), (1, .ref (aC B 0)), (2, .ref (aM B 0)), (3, .ref qo), (4, .int i)] [] (wdC B W_spillsNow W_drawn T_length T_at T_bytes D_cells D_clauses G_length G_code A_size A_chosen A_codes A_lengths A_stack Y_cells Y_clauses N_marbles N_chipped N_swallowed N_sweets N_day N_owners P_next P_kept P_hasImage P_image P_acts P_entries P_imageEntries S_fewest S_row S_strengths U_size U_found U_places U_kinds U_holds U_fitting U_tally L_letters L_firstCells L_secondCells L_firstBest L_secondBest W_refusals ++ (wdM B m_thrown m_size m_at m_wrong m_deep m_laws m_text m_readBoys m_readMarbles m_readFarms m_boys m_marbles m_farms m_holding m_spills m_acts m_draws m_bestRow m_bestMany m_noted m_hasImage m_tape m_code m_value m_codes m_clauses m_testFrom m_sumFrom m_sumTo m_letters m_stack m_readRule m_readBoy m_readMarble m_readFarm m_rule m_boy m_marble m_farm m_now m_refused m_kept m_notePlace m_noteKind m_noteIs m_toldBy m_image ++ fr)) := by
  refine gH.toG (h_aload_n (hX.ok (rt := some .boolean) hn hw) dL_law_803 rfl rfl (gG.toH ?_))
  refine gH.toG (h_aload_n (hX.ok (rt := some .boolean) hn hw) dL_law_804 rfl rfl (gG.toH ?_))
  refine gH.toG (h_iload (hX.ok (rt := some .boolean) hn hw) dL_law_805 rfl (gG.toH ?_))
  refine gH.toG (h_iconst (hX.ok (rt := some .boolean) hn hw) dL_law_807 ki_1 (gG.toH ?_))
  refine gH.toG (h_iadd (hX.ok (rt := some .boolean) hn hw) dL_law_808 (gG.toH ?_))
  refine g_sld hX hS hi1 dL_law_809 ?_
  refine gH.toG (h_aload_n (hX.ok (rt := some .boolean) hn hw) dL_law_810 rfl rfl (gG.toH ?_))
  refine gH.toG (h_iload (hX.ok (rt := some .boolean) hn hw) dL_law_811 rfl (gG.toH ?_))
  refine gH.toG (h_iconst (hX.ok (rt := some .boolean) hn hw) dL_law_813 ki_2 (gG.toH ?_))
  refine gH.toG (h_iadd (hX.ok (rt := some .boolean) hn hw) dL_law_814 (gG.toH ?_))
  refine g_sld hX hS hi2 dL_law_815 ?_
  refine gH.toG (h_i2l (hX.ok (rt := some .boolean) hn hw) dL_law_816 (gG.toH ?_))
  refine gH.toG (h_bipush (hX.ok (rt := some .boolean) hn hw) dL_law_817 kb_32 (gG.toH ?_))
  refine gH.toG (h_lshl (hX.ok (rt := some .boolean) hn hw) dL_law_819 (gG.toH ?_))
  refine gH.toG (h_aload_n (hX.ok (rt := some .boolean) hn hw) dL_law_820 rfl rfl (gG.toH ?_))
  refine gH.toG (h_iload (hX.ok (rt := some .boolean) hn hw) dL_law_821 rfl (gG.toH ?_))
  refine gH.toG (h_iconst (hX.ok (rt := some .boolean) hn hw) dL_law_823 ki_3 (gG.toH ?_))
  refine gH.toG (h_iadd (hX.ok (rt := some .boolean) hn hw) dL_law_824 (gG.toH ?_))
  refine g_sld hX hS hi3 dL_law_825 ?_
  refine gH.toG (h_i2l (hX.ok (rt := some .boolean) hn hw) dL_law_826 (gG.toH ?_))
  refine gH.toG (h_ldc2 (hX.ok (rt := some .boolean) hn hw) dL_law_827 cstl_RL_93 (gG.toH ?_))
  refine gH.toG (h_land (hX.ok (rt := some .boolean) hn hw) dL_law_830 (gG.toH ?_))
  refine gH.toG (h_lor (hX.ok (rt := some .boolean) hn hw) dL_law_831 (gG.toH ?_))
  refine gG.callVi (hX.ok (rt := some .boolean) hn hw) dL_law_832 cv_RL_95 (As := [.int (xs (i + 1 : Int32).toNatClampNeg), .long (((xs (i + 2 : Int32).toNatClampNeg : Int32).toInt64 <<< ((32 : Int32).toInt64 &&& 63)) ||| ((xs (i + 3 : Int32).toNatClampNeg : Int32).toInt64 &&& 4294967295))]) (st := []) (c_Main_years h1) rc_C0 rfl rfl (by decide) (Nat.le_of_ble_eq_true rfl) ?_
  refine gH.toG (h_aload_n (hX.ok (rt := some .boolean) hn hw) dL_law_835 rfl rfl (gG.toH ?_))
  refine gH.toG (h_aload_n (hX.ok (rt := some .boolean) hn hw) dL_law_836 rfl rfl (gG.toH ?_))
  refine gH.toG (h_iload (hX.ok (rt := some .boolean) hn hw) dL_law_837 rfl (gG.toH ?_))
  refine gH.toG (h_iconst (hX.ok (rt := some .boolean) hn hw) dL_law_839 ki_1 (gG.toH ?_))
  refine gH.toG (h_iadd (hX.ok (rt := some .boolean) hn hw) dL_law_840 (gG.toH ?_))
  refine g_sld hX hS hi1 dL_law_841 ?_
  refine gH.toG (h_aload_n (hX.ok (rt := some .boolean) hn hw) dL_law_842 rfl rfl (gG.toH ?_))
  refine gH.toG (h_iload (hX.ok (rt := some .boolean) hn hw) dL_law_843 rfl (gG.toH ?_))
  refine gH.toG (h_iconst (hX.ok (rt := some .boolean) hn hw) dL_law_845 ki_2 (gG.toH ?_))
  refine gH.toG (h_iadd (hX.ok (rt := some .boolean) hn hw) dL_law_846 (gG.toH ?_))
  refine g_sld hX hS hi2 dL_law_847 ?_
  refine gH.toG (h_i2l (hX.ok (rt := some .boolean) hn hw) dL_law_848 (gG.toH ?_))
  refine gH.toG (h_bipush (hX.ok (rt := some .boolean) hn hw) dL_law_849 kb_32 (gG.toH ?_))
  refine gH.toG (h_lshl (hX.ok (rt := some .boolean) hn hw) dL_law_851 (gG.toH ?_))
  refine gH.toG (h_aload_n (hX.ok (rt := some .boolean) hn hw) dL_law_852 rfl rfl (gG.toH ?_))
  refine gH.toG (h_iload (hX.ok (rt := some .boolean) hn hw) dL_law_853 rfl (gG.toH ?_))
  refine gH.toG (h_iconst (hX.ok (rt := some .boolean) hn hw) dL_law_855 ki_3 (gG.toH ?_))
  refine gH.toG (h_iadd (hX.ok (rt := some .boolean) hn hw) dL_law_856 (gG.toH ?_))
  refine g_sld hX hS hi3 dL_law_857 ?_
  refine gH.toG (h_i2l (hX.ok (rt := some .boolean) hn hw) dL_law_858 (gG.toH ?_))
  refine gH.toG (h_ldc2 (hX.ok (rt := some .boolean) hn hw) dL_law_859 cstl_RL_93 (gG.toH ?_))
  refine gH.toG (h_land (hX.ok (rt := some .boolean) hn hw) dL_law_862 (gG.toH ?_))
  refine gH.toG (h_lor (hX.ok (rt := some .boolean) hn hw) dL_law_863 (gG.toH ?_))
  refine gG.perm gsw ?_
  refine gG.callVi (hX.ok (rt := some .boolean) hn hw) dL_law_864 cv_RL_99 (As := [.int (xs (i + 1 : Int32).toNatClampNeg), .long (((xs (i + 2 : Int32).toNatClampNeg : Int32).toInt64 <<< ((32 : Int32).toInt64 &&& 63)) ||| ((xs (i + 3 : Int32).toNatClampNeg : Int32).toInt64 &&& 4294967295))]) (st := [.int r1.1]) (c_M_years h2) rc_M0 rfl rfl (by decide) (Nat.le_of_ble_eq_true rfl) ?_
  refine gG.perm gsw ?_
  exact g_icmpT (hX.ok (rt := some .boolean) hn hw) he dL_law_867 (tgt := 1742) (by decide) k
theorem wml_RL_100 : Cond.methodLink RL 100 yX10_status ∈ gT := gw4 (i := 124) rfl rfl
theorem wim_X10_status : Cond.instanceMethod yX10_status ∈ gT := gw4 (i := 125) rfl rfl
theorem wsel_X10_status : Cond.selects RX10 yX10_status yX10_status ∈ gT := gw4 (i := 126) rfl rfl
theorem wcod_X10_status : Cond.code yX10_status cX10_status 2 (some .int) ∈ gT := gw4 (i := 127) rfl rfl
theorem cv_RL_100 : gCV RL 100 RX10 yX10_status cX10_status 2 (some .int) 1 := ⟨wml_RL_100, wim_X10_status, wsel_X10_status, wini_RX10, wcod_X10_status, rfl, by decide +kernel⟩
theorem wml_RL_103 : Cond.methodLink RL 103 yX11_status ∈ gT := gw8 (i := 50) rfl rfl
theorem wim_X11_status : Cond.instanceMethod yX11_status ∈ gT := gw8 (i := 51) rfl rfl
theorem wsel_X11_status : Cond.selects RX11 yX11_status yX11_status ∈ gT := gw8 (i := 52) rfl rfl
theorem wcod_X11_status : Cond.code yX11_status cX11_status 2 (some .int) ∈ gT := gw8 (i := 53) rfl rfl
theorem cv_RL_103 : gCV RL 103 RX11 yX11_status cX11_status 2 (some .int) 1 := ⟨wml_RL_103, wim_X11_status, wsel_X11_status, wini_RX11, wcod_X11_status, rfl, by decide +kernel⟩
set_option maxRecDepth 4000 in
theorem lc_status (hX : gOkI B X RL cL_law 7 1312 601024 7293034) (hS : gScr X b L xs) (hn : n ≤ 601024) (hw : w ≤ 7293034) {i : Int32} (hi1 : vp_in (i + 1) L) {r1 : Int32} {r2 : Int32} (h1 : f_Main_status W_refusals (xs (i + 1 : Int32).toNatClampNeg) = some r1) (h2 : f_M_status m_refused (xs (i + 1 : Int32).toNatClampNeg) = some r2) (he : r1 = r2) (k : gG B (gXc X n w) 1742 [(0, .ref b), (1, .ref (aC B 0)), (2, .ref (aM B 0)), (3, .ref qo), (4, .int i)] [] (wdC B W_spillsNow W_drawn T_length T_at T_bytes D_cells D_clauses G_length G_code A_size A_chosen A_codes A_lengths A_stack Y_cells Y_clauses N_marbles N_chipped N_swallowed N_sweets N_day N_owners P_next P_kept P_hasImage P_image P_acts P_entries P_imageEntries S_fewest S_row S_strengths U_size U_found U_places U_kinds U_holds U_fitting U_tally L_letters L_firstCells L_secondCells L_firstBest L_secondBest W_refusals ++ (wdM B m_thrown m_size m_at m_wrong m_deep m_laws m_text m_readBoys m_readMarbles m_readFarms m_boys m_marbles m_farms m_holding m_spills m_acts m_draws m_bestRow m_bestMany m_noted m_hasImage m_tape m_code m_value m_codes m_clauses m_testFrom m_sumFrom m_sumTo m_letters m_stack m_readRule m_readBoy m_readMarble m_readFarm m_rule m_boy m_marble m_farm m_now m_refused m_kept m_notePlace m_noteKind m_noteIs m_toldBy m_image ++ fr))) : gG B (gXc X n w) 872 [(0, .ref b), (1, .ref (aC B 0)), (2, .ref (aM B 0)), (3, .ref qo), (4, .int i)] [] (wdC B W_spillsNow W_drawn T_length T_at T_bytes D_cells D_clauses G_length G_code A_size A_chosen A_codes A_lengths A_stack Y_cells Y_clauses N_marbles N_chipped N_swallowed N_sweets N_day N_owners P_next P_kept P_hasImage P_image P_acts P_entries P_imageEntries S_fewest S_row S_strengths U_size U_found U_places U_kinds U_holds U_fitting U_tally L_letters L_firstCells L_secondCells L_firstBest L_secondBest W_refusals ++ (wdM B m_thrown m_size m_at m_wrong m_deep m_laws m_text m_readBoys m_readMarbles m_readFarms m_boys m_marbles m_farms m_holding m_spills m_acts m_draws m_bestRow m_bestMany m_noted m_hasImage m_tape m_code m_value m_codes m_clauses m_testFrom m_sumFrom m_sumTo m_letters m_stack m_readRule m_readBoy m_readMarble m_readFarm m_rule m_boy m_marble m_farm m_now m_refused m_kept m_notePlace m_noteKind m_noteIs m_toldBy m_image ++ fr)) := by
  refine gH.toG (h_aload_n (hX.ok (rt := some .boolean) hn hw) dL_law_872 rfl rfl (gG.toH ?_))
  refine gH.toG (h_aload_n (hX.ok (rt := some .boolean) hn hw) dL_law_873 rfl rfl (gG.toH ?_))
  refine gH.toG (h_iload (hX.ok (rt := some .boolean) hn hw) dL_law_874 rfl (gG.toH ?_))
  refine gH.toG (h_iconst (hX.ok (rt := some .boolean) hn hw) dL_law_876 ki_1 (gG.toH ?_))
  refine gH.toG (h_iadd (hX.ok (rt := some .boolean) hn hw) dL_law_877 (gG.toH ?_))
  refine g_sld hX hS hi1 dL_law_878 ?_
  refine gG.callVi (hX.ok (rt := some .boolean) hn hw) dL_law_879 cv_RL_100 (As := [.int (xs (i + 1 : Int32).toNatClampNeg)]) (st := []) (c_Main_status h1) rc_C0 rfl rfl (by decide) (Nat.le_of_ble_eq_true rfl) ?_
  refine gH.toG (h_aload_n (hX.ok (rt := some .boolean) hn hw) dL_law_882 rfl rfl (gG.toH ?_))
  refine gH.toG (h_aload_n (hX.ok (rt := some .boolean) hn hw) dL_law_883 rfl rfl (gG.toH ?_))
  refine gH.toG (h_iload (hX.ok (rt := some .boolean) hn hw) dL_law_884 rfl (gG.toH ?_))
  refine gH.toG (h_iconst (hX.ok (rt := some .boolean) hn hw) dL_law_886 ki_1 (gG.toH ?_))
  refine gH.toG (h_iadd (hX.ok (rt := some .boolean) hn hw) dL_law_887 (gG.toH ?_))
  refine g_sld hX hS hi1 dL_law_888 ?_
  refine gG.perm gsw ?_
  refine gG.callVi (hX.ok (rt := some .boolean) hn hw) dL_law_889 cv_RL_103 (As := [.int (xs (i + 1 : Int32).toNatClampNeg)]) (st := [.int r1]) (c_M_status h2) rc_M0 rfl rfl (by decide) (Nat.le_of_ble_eq_true rfl) ?_
  refine gG.perm gsw ?_
  exact g_icmpT (hX.ok (rt := some .boolean) hn hw) he dL_law_892 (tgt := 1742) (by decide) k
theorem wml_RL_104 : Cond.methodLink RL 104 yX10_undo ∈ gT := gw4 (i := 128) rfl rfl
theorem wim_X10_undo : Cond.instanceMethod yX10_undo ∈ gT := gw4 (i := 129) rfl rfl
theorem wsel_X10_undo : Cond.selects RX10 yX10_undo yX10_undo ∈ gT := gw4 (i := 130) rfl rfl
theorem wcod_X10_undo : Cond.code yX10_undo cX10_undo 1 (some .int) ∈ gT := gw4 (i := 131) rfl rfl
theorem cv_RL_104 : gCV RL 104 RX10 yX10_undo cX10_undo 1 (some .int) 0 := ⟨wml_RL_104, wim_X10_undo, wsel_X10_undo, wini_RX10, wcod_X10_undo, rfl, by decide +kernel⟩
theorem wml_RL_107 : Cond.methodLink RL 107 yX11_undo ∈ gT := gw8 (i := 54) rfl rfl
theorem wim_X11_undo : Cond.instanceMethod yX11_undo ∈ gT := gw8 (i := 55) rfl rfl
theorem wsel_X11_undo : Cond.selects RX11 yX11_undo yX11_undo ∈ gT := gw8 (i := 56) rfl rfl
theorem wcod_X11_undo : Cond.code yX11_undo cX11_undo 2 (some .int) ∈ gT := gw8 (i := 57) rfl rfl
theorem cv_RL_107 : gCV RL 107 RX11 yX11_undo cX11_undo 2 (some .int) 0 := ⟨wml_RL_107, wim_X11_undo, wsel_X11_undo, wini_RX11, wcod_X11_undo, rfl, by decide +kernel⟩
set_option maxRecDepth 4000 in
theorem lc_undo (hX : gOkI B X RL cL_law 7 1312 601024 7293034) (hS : gScr X b L xs) (hn : n ≤ 601024) (hw : w ≤ 7293034) {i : Int32} {r1 : (Int32 × Int32 × Int32 × Int32 × Int32 × (Nat → Int32) × Int32 × Int32)} {r2 : (Int32 × Int32 × (Nat → Int32))} (h1 : f_Main_undo N_marbles N_chipped N_swallowed N_sweets N_day N_owners P_next P_kept P_acts = some r1) (h2 : f_M_undo m_acts m_now m_kept = some r2) (he : r1.1 = r2.1) (k : gG B (gXc X n w) 1742 [(0, .ref b), (1, .ref (aC B 0)), (2, .ref (aM B 0)), (3, .ref qo), (4, .int i)] [] (wdC B W_spillsNow W_drawn T_length T_at T_bytes D_cells D_clauses G_length G_code A_size A_chosen A_codes A_lengths A_stack Y_cells Y_clauses N_marbles r1.2.1 r1.2.2.1 r1.2.2.2.1 r1.2.2.2.2.1 r1.2.2.2.2.2.1 r1.2.2.2.2.2.2.1 r1.2.2.2.2.2.2.2 P_hasImage P_image P_acts P_entries P_imageEntries S_fewest S_row S_strengths U_size U_found U_places U_kinds U_holds U_fitting U_tally L_letters L_firstCells L_secondCells L_firstBest L_secondBest W_refusals ++ (wdM B m_thrown m_size m_at m_wrong m_deep m_laws m_text m_readBoys m_readMarbles m_readFarms m_boys m_marbles m_farms m_holding m_spills r2.2.1 m_draws m_bestRow m_bestMany m_noted m_hasImage m_tape m_code m_value m_codes m_clauses m_testFrom m_sumFrom m_sumTo m_letters m_stack m_readRule m_readBoy m_readMarble m_readFarm m_rule m_boy m_marble m_farm r2.2.2 m_refused m_kept m_notePlace m_noteKind m_noteIs m_toldBy m_image ++ fr))) : gG B (gXc X n w) 897 [(0, .ref b), (1, .ref (aC B 0)), (2, .ref (aM B 0)), (3, .ref qo), (4, .int i)] [] (wdC B W_spillsNow W_drawn T_length T_at T_bytes D_cells D_clauses G_length G_code A_size A_chosen A_codes A_lengths A_stack Y_cells Y_clauses N_marbles N_chipped N_swallowed N_sweets N_day N_owners P_next P_kept P_hasImage P_image P_acts P_entries P_imageEntries S_fewest S_row S_strengths U_size U_found U_places U_kinds U_holds U_fitting U_tally L_letters L_firstCells L_secondCells L_firstBest L_secondBest W_refusals ++ (wdM B m_thrown m_size m_at m_wrong m_deep m_laws m_text m_readBoys m_readMarbles m_readFarms m_boys m_marbles m_farms m_holding m_spills m_acts m_draws m_bestRow m_bestMany m_noted m_hasImage m_tape m_code m_value m_codes m_clauses m_testFrom m_sumFrom m_sumTo m_letters m_stack m_readRule m_readBoy m_readMarble m_readFarm m_rule m_boy m_marble m_farm m_now m_refused m_kept m_notePlace m_noteKind m_noteIs m_toldBy m_image ++ fr)) := by
  refine gH.toG (h_aload_n (hX.ok (rt := some .boolean) hn hw) dL_law_897 rfl rfl (gG.toH ?_))
  refine gG.callVi (hX.ok (rt := some .boolean) hn hw) dL_law_898 cv_RL_104 (As := []) (st := []) (c_Main_undo h1) rc_C0 rfl rfl (by decide) (Nat.le_of_ble_eq_true rfl) ?_
  refine gH.toG (h_aload_n (hX.ok (rt := some .boolean) hn hw) dL_law_901 rfl rfl (gG.toH ?_))
  refine gG.perm gsw ?_
  refine gG.callVi (hX.ok (rt := some .boolean) hn hw) dL_law_902 cv_RL_107 (As := []) (st := [.int r1.1]) (c_M_undo h2) rc_M0 rfl rfl (by decide) (Nat.le_of_ble_eq_true rfl) ?_
  refine gG.perm gsw ?_
  exact g_icmpT (hX.ok (rt := some .boolean) hn hw) he dL_law_905 (tgt := 1742) (by decide) k
theorem wml_RL_108 : Cond.methodLink RL 108 yX10_log ∈ gT := gw4 (i := 143) rfl rfl
theorem wim_X10_log : Cond.instanceMethod yX10_log ∈ gT := gw4 (i := 144) rfl rfl
theorem wsel_X10_log : Cond.selects RX10 yX10_log yX10_log ∈ gT := gw4 (i := 145) rfl rfl
theorem wcod_X10_log : Cond.code yX10_log cX10_log 3 (some .int) ∈ gT := gw4 (i := 146) rfl rfl
theorem cv_RL_108 : gCV RL 108 RX10 yX10_log cX10_log 3 (some .int) 2 := ⟨wml_RL_108, wim_X10_log, wsel_X10_log, wini_RX10, wcod_X10_log, rfl, by decide +kernel⟩
theorem wml_RL_111 : Cond.methodLink RL 111 yX11_log ∈ gT := gw8 (i := 58) rfl rfl
theorem wim_X11_log : Cond.instanceMethod yX11_log ∈ gT := gw8 (i := 59) rfl rfl
theorem wsel_X11_log : Cond.selects RX11 yX11_log yX11_log ∈ gT := gw8 (i := 60) rfl rfl
theorem wcod_X11_log : Cond.code yX11_log cX11_log 3 (some .int) ∈ gT := gw8 (i := 61) rfl rfl
theorem cv_RL_111 : gCV RL 111 RX11 yX11_log cX11_log 3 (some .int) 2 := ⟨wml_RL_111, wim_X11_log, wsel_X11_log, wini_RX11, wcod_X11_log, rfl, by decide +kernel⟩
set_option maxRecDepth 4000 in
theorem lc_log (hX : gOkI B X RL cL_law 7 1312 601024 7293034) (hS : gScr X b L xs) (hn : n ≤ 601024) (hw : w ≤ 7293034) {i : Int32} (hi1 : vp_in (i + 1) L) (hi2 : vp_in (i + 2) L) {r1 : Int32} {r2 : Int32} (h1 : f_Main_log N_day P_entries (xs (i + 1 : Int32).toNatClampNeg) (xs (i + 2 : Int32).toNatClampNeg) = some r1) (h2 : f_M_log m_now (xs (i + 1 : Int32).toNatClampNeg) (xs (i + 2 : Int32).toNatClampNeg) = some r2) (he : r1 = r2) (k : gG B (gXc X n w) 1742 [(0, .ref b), (1, .ref (aC B 0)), (2, .ref (aM B 0)), (3, .ref qo), (4, .int i)] [] (wdC B W_spillsNow W_drawn T_length T_at T_bytes D_cells D_clauses G_length G_code A_size A_chosen A_codes A_lengths A_stack Y_cells Y_clauses N_marbles N_chipped N_swallowed N_sweets N_day N_owners P_next P_kept P_hasImage P_image P_acts P_entries P_imageEntries S_fewest S_row S_strengths U_size U_found U_places U_kinds U_holds U_fitting U_tally L_letters L_firstCells L_secondCells L_firstBest L_secondBest W_refusals ++ (wdM B m_thrown m_size m_at m_wrong m_deep m_laws m_text m_readBoys m_readMarbles m_readFarms m_boys m_marbles m_farms m_holding m_spills m_acts m_draws m_bestRow m_bestMany m_noted m_hasImage m_tape m_code m_value m_codes m_clauses m_testFrom m_sumFrom m_sumTo m_letters m_stack m_readRule m_readBoy m_readMarble m_readFarm m_rule m_boy m_marble m_farm m_now m_refused m_kept m_notePlace m_noteKind m_noteIs m_toldBy m_image ++ fr))) : gG B (gXc X n w) 910 [(0, .ref b), (1, .ref (aC B 0)), (2, .ref (aM B 0)), (3, .ref qo), (4, .int i)] [] (wdC B W_spillsNow W_drawn T_length T_at T_bytes D_cells D_clauses G_length G_code A_size A_chosen A_codes A_lengths A_stack Y_cells Y_clauses N_marbles N_chipped N_swallowed N_sweets N_day N_owners P_next P_kept P_hasImage P_image P_acts P_entries P_imageEntries S_fewest S_row S_strengths U_size U_found U_places U_kinds U_holds U_fitting U_tally L_letters L_firstCells L_secondCells L_firstBest L_secondBest W_refusals ++ (wdM B m_thrown m_size m_at m_wrong m_deep m_laws m_text m_readBoys m_readMarbles m_readFarms m_boys m_marbles m_farms m_holding m_spills m_acts m_draws m_bestRow m_bestMany m_noted m_hasImage m_tape m_code m_value m_codes m_clauses m_testFrom m_sumFrom m_sumTo m_letters m_stack m_readRule m_readBoy m_readMarble m_readFarm m_rule m_boy m_marble m_farm m_now m_refused m_kept m_notePlace m_noteKind m_noteIs m_toldBy m_image ++ fr)) := by
  refine gH.toG (h_aload_n (hX.ok (rt := some .boolean) hn hw) dL_law_910 rfl rfl (gG.toH ?_))
  refine gH.toG (h_aload_n (hX.ok (rt := some .boolean) hn hw) dL_law_911 rfl rfl (gG.toH ?_))
  refine gH.toG (h_iload (hX.ok (rt := some .boolean) hn hw) dL_law_912 rfl (gG.toH ?_))
  refine gH.toG (h_iconst (hX.ok (rt := some .boolean) hn hw) dL_law_914 ki_1 (gG.toH ?_))
  refine gH.toG (h_iadd (hX.ok (rt := some .boolean) hn hw) dL_law_915 (gG.toH ?_))
  refine g_sld hX hS hi1 dL_law_916 ?_
  refine gH.toG (h_aload_n (hX.ok (rt := some .boolean) hn hw) dL_law_917 rfl rfl (gG.toH ?_))
  refine gH.toG (h_iload (hX.ok (rt := some .boolean) hn hw) dL_law_918 rfl (gG.toH ?_))
  refine gH.toG (h_iconst (hX.ok (rt := some .boolean) hn hw) dL_law_920 ki_2 (gG.toH ?_))
  refine gH.toG (h_iadd (hX.ok (rt := some .boolean) hn hw) dL_law_921 (gG.toH ?_))
  refine g_sld hX hS hi2 dL_law_922 ?_
  refine gG.callVi (hX.ok (rt := some .boolean) hn hw) dL_law_923 cv_RL_108 (As := [.int (xs (i + 1 : Int32).toNatClampNeg), .int (xs (i + 2 : Int32).toNatClampNeg)]) (st := []) (c_Main_log h1) rc_C0 rfl rfl (by decide) (Nat.le_of_ble_eq_true rfl) ?_
  refine gH.toG (h_aload_n (hX.ok (rt := some .boolean) hn hw) dL_law_926 rfl rfl (gG.toH ?_))
  refine gH.toG (h_aload_n (hX.ok (rt := some .boolean) hn hw) dL_law_927 rfl rfl (gG.toH ?_))
  refine gH.toG (h_iload (hX.ok (rt := some .boolean) hn hw) dL_law_928 rfl (gG.toH ?_))
  refine gH.toG (h_iconst (hX.ok (rt := some .boolean) hn hw) dL_law_930 ki_1 (gG.toH ?_))
  refine gH.toG (h_iadd (hX.ok (rt := some .boolean) hn hw) dL_law_931 (gG.toH ?_))
  refine g_sld hX hS hi1 dL_law_932 ?_
  refine gH.toG (h_aload_n (hX.ok (rt := some .boolean) hn hw) dL_law_933 rfl rfl (gG.toH ?_))
  refine gH.toG (h_iload (hX.ok (rt := some .boolean) hn hw) dL_law_934 rfl (gG.toH ?_))
  refine gH.toG (h_iconst (hX.ok (rt := some .boolean) hn hw) dL_law_936 ki_2 (gG.toH ?_))
  refine gH.toG (h_iadd (hX.ok (rt := some .boolean) hn hw) dL_law_937 (gG.toH ?_))
  refine g_sld hX hS hi2 dL_law_938 ?_
  refine gG.perm gsw ?_
  refine gG.callVi (hX.ok (rt := some .boolean) hn hw) dL_law_939 cv_RL_111 (As := [.int (xs (i + 1 : Int32).toNatClampNeg), .int (xs (i + 2 : Int32).toNatClampNeg)]) (st := [.int r1]) (c_M_log h2) rc_M0 rfl rfl (by decide) (Nat.le_of_ble_eq_true rfl) ?_
  refine gG.perm gsw ?_
  exact g_icmpT (hX.ok (rt := some .boolean) hn hw) he dL_law_942 (tgt := 1742) (by decide) k
theorem wml_RL_112 : Cond.methodLink RL 112 yX10_lands ∈ gT := gw4 (i := 159) rfl rfl
theorem wim_X10_lands : Cond.instanceMethod yX10_lands ∈ gT := gw4 (i := 160) rfl rfl
theorem wsel_X10_lands : Cond.selects RX10 yX10_lands yX10_lands ∈ gT := gw4 (i := 161) rfl rfl
theorem wcod_X10_lands : Cond.code yX10_lands cX10_lands 4 (some .int) ∈ gT := gw4 (i := 162) rfl rfl
theorem cv_RL_112 : gCV RL 112 RX10 yX10_lands cX10_lands 4 (some .int) 3 := ⟨wml_RL_112, wim_X10_lands, wsel_X10_lands, wini_RX10, wcod_X10_lands, rfl, by decide +kernel⟩
theorem wml_RL_116 : Cond.methodLink RL 116 yX11_lands ∈ gT := gw8 (i := 62) rfl rfl
theorem wim_X11_lands : Cond.instanceMethod yX11_lands ∈ gT := gw8 (i := 63) rfl rfl
theorem wsel_X11_lands : Cond.selects RX11 yX11_lands yX11_lands ∈ gT := gw8 (i := 64) rfl rfl
theorem wcod_X11_lands : Cond.code yX11_lands cX11_lands 4 (some .int) ∈ gT := gw8 (i := 65) rfl rfl
theorem cv_RL_116 : gCV RL 116 RX11 yX11_lands cX11_lands 4 (some .int) 3 := ⟨wml_RL_116, wim_X11_lands, wsel_X11_lands, wini_RX11, wcod_X11_lands, rfl, by decide +kernel⟩
set_option maxRecDepth 4000 in
theorem lc_lands (hX : gOkI B X RL cL_law 7 1312 601024 7293034) (hS : gScr X b L xs) (hn : n ≤ 601024) (hw : w ≤ 7293034) {i : Int32} (hi1 : vp_in (i + 1) L) (hi2 : vp_in (i + 2) L) (hi3 : vp_in (i + 3) L) {r1 : (Int32 × (Nat → Int32) × (Nat → Int32))} {r2 : (Int32 × (Nat → Int32) × (Nat → Int32))} (h1 : f_Main_lands A_size A_chosen A_codes A_lengths A_stack Y_cells Y_clauses N_marbles N_chipped N_day N_owners L_letters (xs (i + 1 : Int32).toNatClampNeg) (xs (i + 2 : Int32).toNatClampNeg) (xs (i + 3 : Int32).toNatClampNeg) = some r1) (h2 : f_M_lands m_boys m_marbles m_holding m_code m_value m_clauses m_testFrom m_sumFrom m_sumTo m_letters m_stack m_boy m_marble m_now (xs (i + 1 : Int32).toNatClampNeg) (xs (i + 2 : Int32).toNatClampNeg) (xs (i + 3 : Int32).toNatClampNeg) = some r2) (he : r1.1 = r2.1) (k : gG B (gXc X n w) 1742 [(0, .ref b), (1, .ref (aC B 0)), (2, .ref (aM B 0)), (3, .ref qo), (4, .int i)] [] (wdC B W_spillsNow W_drawn T_length T_at T_bytes D_cells D_clauses G_length G_code A_size A_chosen A_codes A_lengths r1.2.1 Y_cells Y_clauses N_marbles N_chipped N_swallowed N_sweets N_day N_owners P_next P_kept P_hasImage P_image P_acts P_entries P_imageEntries S_fewest S_row S_strengths U_size U_found U_places U_kinds U_holds U_fitting U_tally r1.2.2 L_firstCells L_secondCells L_firstBest L_secondBest W_refusals ++ (wdM B m_thrown m_size m_at m_wrong m_deep m_laws m_text m_readBoys m_readMarbles m_readFarms m_boys m_marbles m_farms m_holding m_spills m_acts m_draws m_bestRow m_bestMany m_noted m_hasImage m_tape m_code m_value m_codes m_clauses m_testFrom m_sumFrom m_sumTo r2.2.1 r2.2.2 m_readRule m_readBoy m_readMarble m_readFarm m_rule m_boy m_marble m_farm m_now m_refused m_kept m_notePlace m_noteKind m_noteIs m_toldBy m_image ++ fr))) : gG B (gXc X n w) 947 [(0, .ref b), (1, .ref (aC B 0)), (2, .ref (aM B 0)), (3, .ref qo), (4, .int i)] [] (wdC B W_spillsNow W_drawn T_length T_at T_bytes D_cells D_clauses G_length G_code A_size A_chosen A_codes A_lengths A_stack Y_cells Y_clauses N_marbles N_chipped N_swallowed N_sweets N_day N_owners P_next P_kept P_hasImage P_image P_acts P_entries P_imageEntries S_fewest S_row S_strengths U_size U_found U_places U_kinds U_holds U_fitting U_tally L_letters L_firstCells L_secondCells L_firstBest L_secondBest W_refusals ++ (wdM B m_thrown m_size m_at m_wrong m_deep m_laws m_text m_readBoys m_readMarbles m_readFarms m_boys m_marbles m_farms m_holding m_spills m_acts m_draws m_bestRow m_bestMany m_noted m_hasImage m_tape m_code m_value m_codes m_clauses m_testFrom m_sumFrom m_sumTo m_letters m_stack m_readRule m_readBoy m_readMarble m_readFarm m_rule m_boy m_marble m_farm m_now m_refused m_kept m_notePlace m_noteKind m_noteIs m_toldBy m_image ++ fr)) := by
  refine gH.toG (h_aload_n (hX.ok (rt := some .boolean) hn hw) dL_law_947 rfl rfl (gG.toH ?_))
  refine gH.toG (h_aload_n (hX.ok (rt := some .boolean) hn hw) dL_law_948 rfl rfl (gG.toH ?_))
  refine gH.toG (h_iload (hX.ok (rt := some .boolean) hn hw) dL_law_949 rfl (gG.toH ?_))
  refine gH.toG (h_iconst (hX.ok (rt := some .boolean) hn hw) dL_law_951 ki_1 (gG.toH ?_))
  refine gH.toG (h_iadd (hX.ok (rt := some .boolean) hn hw) dL_law_952 (gG.toH ?_))
  refine g_sld hX hS hi1 dL_law_953 ?_
  refine gH.toG (h_aload_n (hX.ok (rt := some .boolean) hn hw) dL_law_954 rfl rfl (gG.toH ?_))
  refine gH.toG (h_iload (hX.ok (rt := some .boolean) hn hw) dL_law_955 rfl (gG.toH ?_))
  refine gH.toG (h_iconst (hX.ok (rt := some .boolean) hn hw) dL_law_957 ki_2 (gG.toH ?_))
  refine gH.toG (h_iadd (hX.ok (rt := some .boolean) hn hw) dL_law_958 (gG.toH ?_))
  refine g_sld hX hS hi2 dL_law_959 ?_
  refine gH.toG (h_aload_n (hX.ok (rt := some .boolean) hn hw) dL_law_960 rfl rfl (gG.toH ?_))
  refine gH.toG (h_iload (hX.ok (rt := some .boolean) hn hw) dL_law_961 rfl (gG.toH ?_))
  refine gH.toG (h_iconst (hX.ok (rt := some .boolean) hn hw) dL_law_963 ki_3 (gG.toH ?_))
  refine gH.toG (h_iadd (hX.ok (rt := some .boolean) hn hw) dL_law_964 (gG.toH ?_))
  refine g_sld hX hS hi3 dL_law_965 ?_
  refine gG.callVi (hX.ok (rt := some .boolean) hn hw) dL_law_966 cv_RL_112 (As := [.int (xs (i + 1 : Int32).toNatClampNeg), .int (xs (i + 2 : Int32).toNatClampNeg), .int (xs (i + 3 : Int32).toNatClampNeg)]) (st := []) (c_Main_lands h1) rc_C0 rfl rfl (by decide) (Nat.le_of_ble_eq_true rfl) ?_
  refine gH.toG (h_aload_n (hX.ok (rt := some .boolean) hn hw) dL_law_969 rfl rfl (gG.toH ?_))
  refine gH.toG (h_aload_n (hX.ok (rt := some .boolean) hn hw) dL_law_970 rfl rfl (gG.toH ?_))
  refine gH.toG (h_iload (hX.ok (rt := some .boolean) hn hw) dL_law_971 rfl (gG.toH ?_))
  refine gH.toG (h_iconst (hX.ok (rt := some .boolean) hn hw) dL_law_973 ki_1 (gG.toH ?_))
  refine gH.toG (h_iadd (hX.ok (rt := some .boolean) hn hw) dL_law_974 (gG.toH ?_))
  refine g_sld hX hS hi1 dL_law_975 ?_
  refine gH.toG (h_aload_n (hX.ok (rt := some .boolean) hn hw) dL_law_976 rfl rfl (gG.toH ?_))
  refine gH.toG (h_iload (hX.ok (rt := some .boolean) hn hw) dL_law_977 rfl (gG.toH ?_))
  refine gH.toG (h_iconst (hX.ok (rt := some .boolean) hn hw) dL_law_979 ki_2 (gG.toH ?_))
  refine gH.toG (h_iadd (hX.ok (rt := some .boolean) hn hw) dL_law_980 (gG.toH ?_))
  refine g_sld hX hS hi2 dL_law_981 ?_
  refine gH.toG (h_aload_n (hX.ok (rt := some .boolean) hn hw) dL_law_982 rfl rfl (gG.toH ?_))
  refine gH.toG (h_iload (hX.ok (rt := some .boolean) hn hw) dL_law_983 rfl (gG.toH ?_))
  refine gH.toG (h_iconst (hX.ok (rt := some .boolean) hn hw) dL_law_985 ki_3 (gG.toH ?_))
  refine gH.toG (h_iadd (hX.ok (rt := some .boolean) hn hw) dL_law_986 (gG.toH ?_))
  refine g_sld hX hS hi3 dL_law_987 ?_
  refine gG.perm gsw ?_
  refine gG.callVi (hX.ok (rt := some .boolean) hn hw) dL_law_988 cv_RL_116 (As := [.int (xs (i + 1 : Int32).toNatClampNeg), .int (xs (i + 2 : Int32).toNatClampNeg), .int (xs (i + 3 : Int32).toNatClampNeg)]) (st := [.int r1.1]) (c_M_lands h2) rc_M0 rfl rfl (by decide) (Nat.le_of_ble_eq_true rfl) ?_
  refine gG.perm gsw ?_
  exact g_icmpT (hX.ok (rt := some .boolean) hn hw) he dL_law_991 (tgt := 1742) (by decide) k
theorem wml_RL_117 : Cond.methodLink RL 117 yX10_aim ∈ gT := gw4 (i := 165) rfl rfl
theorem wim_X10_aim : Cond.instanceMethod yX10_aim ∈ gT := gw4 (i := 166) rfl rfl
theorem wsel_X10_aim : Cond.selects RX10 yX10_aim yX10_aim ∈ gT := gw4 (i := 167) rfl rfl
theorem wcod_X10_aim : Cond.code yX10_aim cX10_aim 3 (some .int) ∈ gT := gw4 (i := 168) rfl rfl
theorem cv_RL_117 : gCV RL 117 RX10 yX10_aim cX10_aim 3 (some .int) 2 := ⟨wml_RL_117, wim_X10_aim, wsel_X10_aim, wini_RX10, wcod_X10_aim, rfl, by decide +kernel⟩
theorem wml_RL_120 : Cond.methodLink RL 120 yX11_aim ∈ gT := gw8 (i := 66) rfl rfl
theorem wim_X11_aim : Cond.instanceMethod yX11_aim ∈ gT := gw8 (i := 67) rfl rfl
theorem wsel_X11_aim : Cond.selects RX11 yX11_aim yX11_aim ∈ gT := gw8 (i := 68) rfl rfl
theorem wcod_X11_aim : Cond.code yX11_aim cX11_aim 3 (some .int) ∈ gT := gw8 (i := 69) rfl rfl
theorem cv_RL_120 : gCV RL 120 RX11 yX11_aim cX11_aim 3 (some .int) 2 := ⟨wml_RL_120, wim_X11_aim, wsel_X11_aim, wini_RX11, wcod_X11_aim, rfl, by decide +kernel⟩
set_option maxRecDepth 4000 in
theorem lc_aim (hX : gOkI B X RL cL_law 7 1312 601024 7293034) (hS : gScr X b L xs) (hn : n ≤ 601024) (hw : w ≤ 7293034) {i : Int32} (hi1 : vp_in (i + 1) L) (hi2 : vp_in (i + 2) L) {r1 : (Int32 × (Nat → Int32) × (Nat → Int32))} {r2 : (Int32 × (Nat → Int32) × (Nat → Int32))} (h1 : f_Main_aim A_size A_chosen A_codes A_lengths A_stack Y_cells Y_clauses N_marbles N_chipped N_day N_owners L_letters (xs (i + 1 : Int32).toNatClampNeg) (xs (i + 2 : Int32).toNatClampNeg) = some r1) (h2 : f_M_aim m_boys m_marbles m_holding m_code m_value m_clauses m_testFrom m_sumFrom m_sumTo m_letters m_stack m_rule m_boy m_marble m_now (xs (i + 1 : Int32).toNatClampNeg) (xs (i + 2 : Int32).toNatClampNeg) = some r2) (he : r1.1 = r2.1) (k : gG B (gXc X n w) 1742 [(0, .ref b), (1, .ref (aC B 0)), (2, .ref (aM B 0)), (3, .ref qo), (4, .int i)] [] (wdC B W_spillsNow W_drawn T_length T_at T_bytes D_cells D_clauses G_length G_code A_size A_chosen A_codes A_lengths r1.2.1 Y_cells Y_clauses N_marbles N_chipped N_swallowed N_sweets N_day N_owners P_next P_kept P_hasImage P_image P_acts P_entries P_imageEntries S_fewest S_row S_strengths U_size U_found U_places U_kinds U_holds U_fitting U_tally r1.2.2 L_firstCells L_secondCells L_firstBest L_secondBest W_refusals ++ (wdM B m_thrown m_size m_at m_wrong m_deep m_laws m_text m_readBoys m_readMarbles m_readFarms m_boys m_marbles m_farms m_holding m_spills m_acts m_draws m_bestRow m_bestMany m_noted m_hasImage m_tape m_code m_value m_codes m_clauses m_testFrom m_sumFrom m_sumTo r2.2.1 r2.2.2 m_readRule m_readBoy m_readMarble m_readFarm m_rule m_boy m_marble m_farm m_now m_refused m_kept m_notePlace m_noteKind m_noteIs m_toldBy m_image ++ fr))) : gG B (gXc X n w) 996 [(0, .ref b), (1, .ref (aC B 0)), (2, .ref (aM B 0)), (3, .ref qo), (4, .int i)] [] (wdC B W_spillsNow W_drawn T_length T_at T_bytes D_cells D_clauses G_length G_code A_size A_chosen A_codes A_lengths A_stack Y_cells Y_clauses N_marbles N_chipped N_swallowed N_sweets N_day N_owners P_next P_kept P_hasImage P_image P_acts P_entries P_imageEntries S_fewest S_row S_strengths U_size U_found U_places U_kinds U_holds U_fitting U_tally L_letters L_firstCells L_secondCells L_firstBest L_secondBest W_refusals ++ (wdM B m_thrown m_size m_at m_wrong m_deep m_laws m_text m_readBoys m_readMarbles m_readFarms m_boys m_marbles m_farms m_holding m_spills m_acts m_draws m_bestRow m_bestMany m_noted m_hasImage m_tape m_code m_value m_codes m_clauses m_testFrom m_sumFrom m_sumTo m_letters m_stack m_readRule m_readBoy m_readMarble m_readFarm m_rule m_boy m_marble m_farm m_now m_refused m_kept m_notePlace m_noteKind m_noteIs m_toldBy m_image ++ fr)) := by
  refine gH.toG (h_aload_n (hX.ok (rt := some .boolean) hn hw) dL_law_996 rfl rfl (gG.toH ?_))
  refine gH.toG (h_aload_n (hX.ok (rt := some .boolean) hn hw) dL_law_997 rfl rfl (gG.toH ?_))
  refine gH.toG (h_iload (hX.ok (rt := some .boolean) hn hw) dL_law_998 rfl (gG.toH ?_))
  refine gH.toG (h_iconst (hX.ok (rt := some .boolean) hn hw) dL_law_1000 ki_1 (gG.toH ?_))
  refine gH.toG (h_iadd (hX.ok (rt := some .boolean) hn hw) dL_law_1001 (gG.toH ?_))
  refine g_sld hX hS hi1 dL_law_1002 ?_
  refine gH.toG (h_aload_n (hX.ok (rt := some .boolean) hn hw) dL_law_1003 rfl rfl (gG.toH ?_))
  refine gH.toG (h_iload (hX.ok (rt := some .boolean) hn hw) dL_law_1004 rfl (gG.toH ?_))
  refine gH.toG (h_iconst (hX.ok (rt := some .boolean) hn hw) dL_law_1006 ki_2 (gG.toH ?_))
  refine gH.toG (h_iadd (hX.ok (rt := some .boolean) hn hw) dL_law_1007 (gG.toH ?_))
  refine g_sld hX hS hi2 dL_law_1008 ?_
  refine gG.callVi (hX.ok (rt := some .boolean) hn hw) dL_law_1009 cv_RL_117 (As := [.int (xs (i + 1 : Int32).toNatClampNeg), .int (xs (i + 2 : Int32).toNatClampNeg)]) (st := []) (c_Main_aim h1) rc_C0 rfl rfl (by decide) (Nat.le_of_ble_eq_true rfl) ?_
  refine gH.toG (h_aload_n (hX.ok (rt := some .boolean) hn hw) dL_law_1012 rfl rfl (gG.toH ?_))
  refine gH.toG (h_aload_n (hX.ok (rt := some .boolean) hn hw) dL_law_1013 rfl rfl (gG.toH ?_))
  refine gH.toG (h_iload (hX.ok (rt := some .boolean) hn hw) dL_law_1014 rfl (gG.toH ?_))
  refine gH.toG (h_iconst (hX.ok (rt := some .boolean) hn hw) dL_law_1016 ki_1 (gG.toH ?_))
  refine gH.toG (h_iadd (hX.ok (rt := some .boolean) hn hw) dL_law_1017 (gG.toH ?_))
  refine g_sld hX hS hi1 dL_law_1018 ?_
  refine gH.toG (h_aload_n (hX.ok (rt := some .boolean) hn hw) dL_law_1019 rfl rfl (gG.toH ?_))
  refine gH.toG (h_iload (hX.ok (rt := some .boolean) hn hw) dL_law_1020 rfl (gG.toH ?_))
  refine gH.toG (h_iconst (hX.ok (rt := some .boolean) hn hw) dL_law_1022 ki_2 (gG.toH ?_))
  refine gH.toG (h_iadd (hX.ok (rt := some .boolean) hn hw) dL_law_1023 (gG.toH ?_))
  refine g_sld hX hS hi2 dL_law_1024 ?_
  refine gG.perm gsw ?_
  refine gG.callVi (hX.ok (rt := some .boolean) hn hw) dL_law_1025 cv_RL_120 (As := [.int (xs (i + 1 : Int32).toNatClampNeg), .int (xs (i + 2 : Int32).toNatClampNeg)]) (st := [.int r1.1]) (c_M_aim h2) rc_M0 rfl rfl (by decide) (Nat.le_of_ble_eq_true rfl) ?_
  refine gG.perm gsw ?_
  exact g_icmpT (hX.ok (rt := some .boolean) hn hw) he dL_law_1028 (tgt := 1742) (by decide) k
theorem wml_RL_121 : Cond.methodLink RL 121 yX10_wins ∈ gT := gw4 (i := 173) rfl rfl
theorem wim_X10_wins : Cond.instanceMethod yX10_wins ∈ gT := gw4 (i := 174) rfl rfl
theorem wsel_X10_wins : Cond.selects RX10 yX10_wins yX10_wins ∈ gT := gw4 (i := 175) rfl rfl
theorem wcod_X10_wins : Cond.code yX10_wins cX10_wins 5 (some .int) ∈ gT := gw4 (i := 176) rfl rfl
theorem cv_RL_121 : gCV RL 121 RX10 yX10_wins cX10_wins 5 (some .int) 4 := ⟨wml_RL_121, wim_X10_wins, wsel_X10_wins, wini_RX10, wcod_X10_wins, rfl, by decide +kernel⟩
theorem wml_RL_124 : Cond.methodLink RL 124 yX11_wins ∈ gT := gw8 (i := 74) rfl rfl
theorem wim_X11_wins : Cond.instanceMethod yX11_wins ∈ gT := gw8 (i := 75) rfl rfl
theorem wsel_X11_wins : Cond.selects RX11 yX11_wins yX11_wins ∈ gT := gw8 (i := 76) rfl rfl
theorem wcod_X11_wins : Cond.code yX11_wins cX11_wins 5 (some .int) ∈ gT := gw8 (i := 77) rfl rfl
theorem cv_RL_124 : gCV RL 124 RX11 yX11_wins cX11_wins 5 (some .int) 4 := ⟨wml_RL_124, wim_X11_wins, wsel_X11_wins, wini_RX11, wcod_X11_wins, rfl, by decide +kernel⟩
set_option maxRecDepth 4000 in
theorem lc_wins (hX : gOkI B X RL cL_law 7 1312 601024 7293034) (hS : gScr X b L xs) (hn : n ≤ 601024) (hw : w ≤ 7293034) {i : Int32} (hi1 : vp_in (i + 1) L) (hi2 : vp_in (i + 2) L) (hi3 : vp_in (i + 3) L) (hi4 : vp_in (i + 4) L) {r1 : (Int32 × (Nat → Int32) × (Nat → Int32))} {r2 : (Int32 × (Nat → Int32) × (Nat → Int32))} (h1 : f_Main_wins A_size A_chosen A_codes A_lengths A_stack Y_cells Y_clauses N_marbles N_chipped N_swallowed N_day N_owners L_letters (xs (i + 1 : Int32).toNatClampNeg) (xs (i + 2 : Int32).toNatClampNeg) (xs (i + 3 : Int32).toNatClampNeg) (xs (i + 4 : Int32).toNatClampNeg) = some r1) (h2 : f_M_wins m_marbles m_holding m_code m_value m_clauses m_testFrom m_sumFrom m_sumTo m_letters m_stack m_rule m_boy m_marble m_now (xs (i + 1 : Int32).toNatClampNeg) (xs (i + 2 : Int32).toNatClampNeg) (xs (i + 3 : Int32).toNatClampNeg) (xs (i + 4 : Int32).toNatClampNeg) = some r2) (he : r1.1 = r2.1) (k : gG B (gXc X n w) 1742 [(0, .ref b), (1, .ref (aC B 0)), (2, .ref (aM B 0)), (3, .ref qo), (4, .int i)] [] (wdC B W_spillsNow W_drawn T_length T_at T_bytes D_cells D_clauses G_length G_code A_size A_chosen A_codes A_lengths r1.2.1 Y_cells Y_clauses N_marbles N_chipped N_swallowed N_sweets N_day N_owners P_next P_kept P_hasImage P_image P_acts P_entries P_imageEntries S_fewest S_row S_strengths U_size U_found U_places U_kinds U_holds U_fitting U_tally r1.2.2 L_firstCells L_secondCells L_firstBest L_secondBest W_refusals ++ (wdM B m_thrown m_size m_at m_wrong m_deep m_laws m_text m_readBoys m_readMarbles m_readFarms m_boys m_marbles m_farms m_holding m_spills m_acts m_draws m_bestRow m_bestMany m_noted m_hasImage m_tape m_code m_value m_codes m_clauses m_testFrom m_sumFrom m_sumTo r2.2.1 r2.2.2 m_readRule m_readBoy m_readMarble m_readFarm m_rule m_boy m_marble m_farm m_now m_refused m_kept m_notePlace m_noteKind m_noteIs m_toldBy m_image ++ fr))) : gG B (gXc X n w) 1033 [(0, .ref b), (1, .ref (aC B 0)), (2, .ref (aM B 0)), (3, .ref qo), (4, .int i)] [] (wdC B W_spillsNow W_drawn T_length T_at T_bytes D_cells D_clauses G_length G_code A_size A_chosen A_codes A_lengths A_stack Y_cells Y_clauses N_marbles N_chipped N_swallowed N_sweets N_day N_owners P_next P_kept P_hasImage P_image P_acts P_entries P_imageEntries S_fewest S_row S_strengths U_size U_found U_places U_kinds U_holds U_fitting U_tally L_letters L_firstCells L_secondCells L_firstBest L_secondBest W_refusals ++ (wdM B m_thrown m_size m_at m_wrong m_deep m_laws m_text m_readBoys m_readMarbles m_readFarms m_boys m_marbles m_farms m_holding m_spills m_acts m_draws m_bestRow m_bestMany m_noted m_hasImage m_tape m_code m_value m_codes m_clauses m_testFrom m_sumFrom m_sumTo m_letters m_stack m_readRule m_readBoy m_readMarble m_readFarm m_rule m_boy m_marble m_farm m_now m_refused m_kept m_notePlace m_noteKind m_noteIs m_toldBy m_image ++ fr)) := by
  refine gH.toG (h_aload_n (hX.ok (rt := some .boolean) hn hw) dL_law_1033 rfl rfl (gG.toH ?_))
  refine gH.toG (h_aload_n (hX.ok (rt := some .boolean) hn hw) dL_law_1034 rfl rfl (gG.toH ?_))
  refine gH.toG (h_iload (hX.ok (rt := some .boolean) hn hw) dL_law_1035 rfl (gG.toH ?_))
  refine gH.toG (h_iconst (hX.ok (rt := some .boolean) hn hw) dL_law_1037 ki_1 (gG.toH ?_))
  refine gH.toG (h_iadd (hX.ok (rt := some .boolean) hn hw) dL_law_1038 (gG.toH ?_))
  refine g_sld hX hS hi1 dL_law_1039 ?_
  refine gH.toG (h_aload_n (hX.ok (rt := some .boolean) hn hw) dL_law_1040 rfl rfl (gG.toH ?_))
  refine gH.toG (h_iload (hX.ok (rt := some .boolean) hn hw) dL_law_1041 rfl (gG.toH ?_))
  refine gH.toG (h_iconst (hX.ok (rt := some .boolean) hn hw) dL_law_1043 ki_2 (gG.toH ?_))
  refine gH.toG (h_iadd (hX.ok (rt := some .boolean) hn hw) dL_law_1044 (gG.toH ?_))
  refine g_sld hX hS hi2 dL_law_1045 ?_
  refine gH.toG (h_aload_n (hX.ok (rt := some .boolean) hn hw) dL_law_1046 rfl rfl (gG.toH ?_))
  refine gH.toG (h_iload (hX.ok (rt := some .boolean) hn hw) dL_law_1047 rfl (gG.toH ?_))
  refine gH.toG (h_iconst (hX.ok (rt := some .boolean) hn hw) dL_law_1049 ki_3 (gG.toH ?_))
  refine gH.toG (h_iadd (hX.ok (rt := some .boolean) hn hw) dL_law_1050 (gG.toH ?_))
  refine g_sld hX hS hi3 dL_law_1051 ?_
  refine gH.toG (h_aload_n (hX.ok (rt := some .boolean) hn hw) dL_law_1052 rfl rfl (gG.toH ?_))
  refine gH.toG (h_iload (hX.ok (rt := some .boolean) hn hw) dL_law_1053 rfl (gG.toH ?_))
  refine gH.toG (h_iconst (hX.ok (rt := some .boolean) hn hw) dL_law_1055 ki_4 (gG.toH ?_))
  refine gH.toG (h_iadd (hX.ok (rt := some .boolean) hn hw) dL_law_1056 (gG.toH ?_))
  refine g_sld hX hS hi4 dL_law_1057 ?_
  refine gG.callVi (hX.ok (rt := some .boolean) hn hw) dL_law_1058 cv_RL_121 (As := [.int (xs (i + 1 : Int32).toNatClampNeg), .int (xs (i + 2 : Int32).toNatClampNeg), .int (xs (i + 3 : Int32).toNatClampNeg), .int (xs (i + 4 : Int32).toNatClampNeg)]) (st := []) (c_Main_wins h1) rc_C0 rfl rfl (by decide) (Nat.le_of_ble_eq_true rfl) ?_
  refine gH.toG (h_aload_n (hX.ok (rt := some .boolean) hn hw) dL_law_1061 rfl rfl (gG.toH ?_))
  refine gH.toG (h_aload_n (hX.ok (rt := some .boolean) hn hw) dL_law_1062 rfl rfl (gG.toH ?_))
  refine gH.toG (h_iload (hX.ok (rt := some .boolean) hn hw) dL_law_1063 rfl (gG.toH ?_))
  refine gH.toG (h_iconst (hX.ok (rt := some .boolean) hn hw) dL_law_1065 ki_1 (gG.toH ?_))
  refine gH.toG (h_iadd (hX.ok (rt := some .boolean) hn hw) dL_law_1066 (gG.toH ?_))
  refine g_sld hX hS hi1 dL_law_1067 ?_
  refine gH.toG (h_aload_n (hX.ok (rt := some .boolean) hn hw) dL_law_1068 rfl rfl (gG.toH ?_))
  refine gH.toG (h_iload (hX.ok (rt := some .boolean) hn hw) dL_law_1069 rfl (gG.toH ?_))
  refine gH.toG (h_iconst (hX.ok (rt := some .boolean) hn hw) dL_law_1071 ki_2 (gG.toH ?_))
  refine gH.toG (h_iadd (hX.ok (rt := some .boolean) hn hw) dL_law_1072 (gG.toH ?_))
  refine g_sld hX hS hi2 dL_law_1073 ?_
  refine gH.toG (h_aload_n (hX.ok (rt := some .boolean) hn hw) dL_law_1074 rfl rfl (gG.toH ?_))
  refine gH.toG (h_iload (hX.ok (rt := some .boolean) hn hw) dL_law_1075 rfl (gG.toH ?_))
  refine gH.toG (h_iconst (hX.ok (rt := some .boolean) hn hw) dL_law_1077 ki_3 (gG.toH ?_))
  refine gH.toG (h_iadd (hX.ok (rt := some .boolean) hn hw) dL_law_1078 (gG.toH ?_))
  refine g_sld hX hS hi3 dL_law_1079 ?_
  refine gH.toG (h_aload_n (hX.ok (rt := some .boolean) hn hw) dL_law_1080 rfl rfl (gG.toH ?_))
  refine gH.toG (h_iload (hX.ok (rt := some .boolean) hn hw) dL_law_1081 rfl (gG.toH ?_))
  refine gH.toG (h_iconst (hX.ok (rt := some .boolean) hn hw) dL_law_1083 ki_4 (gG.toH ?_))
  refine gH.toG (h_iadd (hX.ok (rt := some .boolean) hn hw) dL_law_1084 (gG.toH ?_))
  refine g_sld hX hS hi4 dL_law_1085 ?_
  refine gG.perm gsw ?_
  refine gG.callVi (hX.ok (rt := some .boolean) hn hw) dL_law_1086 cv_RL_124 (As := [.int (xs (i + 1 : Int32).toNatClampNeg), .int (xs (i + 2 : Int32).toNatClampNeg), .int (xs (i + 3 : Int32).toNatClampNeg), .int (xs (i + 4 : Int32).toNatClampNeg)]) (st := [.int r1.1]) (c_M_wins h2) rc_M0 rfl rfl (by decide) (Nat.le_of_ble_eq_true rfl) ?_
  refine gG.perm gsw ?_
  exact g_icmpT (hX.ok (rt := some .boolean) hn hw) he dL_law_1089 (tgt := 1742) (by decide) k
theorem wml_RL_125 : Cond.methodLink RL 125 yX10_weather ∈ gT := gw4 (i := 215) rfl rfl
theorem wim_X10_weather : Cond.instanceMethod yX10_weather ∈ gT := gw4 (i := 216) rfl rfl
theorem wsel_X10_weather : Cond.selects RX10 yX10_weather yX10_weather ∈ gT := gw4 (i := 217) rfl rfl
theorem wcod_X10_weather : Cond.code yX10_weather cX10_weather 2 (some .int) ∈ gT := gw4 (i := 218) rfl rfl
theorem cv_RL_125 : gCV RL 125 RX10 yX10_weather cX10_weather 2 (some .int) 1 := ⟨wml_RL_125, wim_X10_weather, wsel_X10_weather, wini_RX10, wcod_X10_weather, rfl, by decide +kernel⟩
theorem wml_RL_128 : Cond.methodLink RL 128 yX11_weather ∈ gT := gw8 (i := 78) rfl rfl
theorem wim_X11_weather : Cond.instanceMethod yX11_weather ∈ gT := gw8 (i := 79) rfl rfl
theorem wsel_X11_weather : Cond.selects RX11 yX11_weather yX11_weather ∈ gT := gw8 (i := 80) rfl rfl
theorem wcod_X11_weather : Cond.code yX11_weather cX11_weather 2 (some .int) ∈ gT := gw8 (i := 81) rfl rfl
theorem cv_RL_128 : gCV RL 128 RX11 yX11_weather cX11_weather 2 (some .int) 1 := ⟨wml_RL_128, wim_X11_weather, wsel_X11_weather, wini_RX11, wcod_X11_weather, rfl, by decide +kernel⟩
set_option maxRecDepth 4000 in
theorem lc_weather (hX : gOkI B X RL cL_law 7 1312 601024 7293034) (hS : gScr X b L xs) (hn : n ≤ 601024) (hw : w ≤ 7293034) {i : Int32} (hi1 : vp_in (i + 1) L) {r1 : (Int32 × (Nat → Int32))} {r2 : Int32} (h1 : f_Main_weather Y_cells Y_clauses N_marbles N_chipped N_owners S_strengths (xs (i + 1 : Int32).toNatClampNeg) = some r1) (h2 : f_M_weather m_marbles m_boy m_marble m_now (xs (i + 1 : Int32).toNatClampNeg) = some r2) (he : r1.1 = r2) (k : gG B (gXc X n w) 1742 [(0, .ref b), (1, .ref (aC B 0)), (2, .ref (aM B 0)), (3, .ref qo), (4, .int i)] [] (wdC B W_spillsNow W_drawn T_length T_at T_bytes D_cells D_clauses G_length G_code A_size A_chosen A_codes A_lengths A_stack Y_cells Y_clauses N_marbles N_chipped N_swallowed N_sweets N_day N_owners P_next P_kept P_hasImage P_image P_acts P_entries P_imageEntries S_fewest S_row r1.2 U_size U_found U_places U_kinds U_holds U_fitting U_tally L_letters L_firstCells L_secondCells L_firstBest L_secondBest W_refusals ++ (wdM B m_thrown m_size m_at m_wrong m_deep m_laws m_text m_readBoys m_readMarbles m_readFarms m_boys m_marbles m_farms m_holding m_spills m_acts m_draws m_bestRow m_bestMany m_noted m_hasImage m_tape m_code m_value m_codes m_clauses m_testFrom m_sumFrom m_sumTo m_letters m_stack m_readRule m_readBoy m_readMarble m_readFarm m_rule m_boy m_marble m_farm m_now m_refused m_kept m_notePlace m_noteKind m_noteIs m_toldBy m_image ++ fr))) : gG B (gXc X n w) 1094 [(0, .ref b), (1, .ref (aC B 0)), (2, .ref (aM B 0)), (3, .ref qo), (4, .int i)] [] (wdC B W_spillsNow W_drawn T_length T_at T_bytes D_cells D_clauses G_length G_code A_size A_chosen A_codes A_lengths A_stack Y_cells Y_clauses N_marbles N_chipped N_swallowed N_sweets N_day N_owners P_next P_kept P_hasImage P_image P_acts P_entries P_imageEntries S_fewest S_row S_strengths U_size U_found U_places U_kinds U_holds U_fitting U_tally L_letters L_firstCells L_secondCells L_firstBest L_secondBest W_refusals ++ (wdM B m_thrown m_size m_at m_wrong m_deep m_laws m_text m_readBoys m_readMarbles m_readFarms m_boys m_marbles m_farms m_holding m_spills m_acts m_draws m_bestRow m_bestMany m_noted m_hasImage m_tape m_code m_value m_codes m_clauses m_testFrom m_sumFrom m_sumTo m_letters m_stack m_readRule m_readBoy m_readMarble m_readFarm m_rule m_boy m_marble m_farm m_now m_refused m_kept m_notePlace m_noteKind m_noteIs m_toldBy m_image ++ fr)) := by
  refine gH.toG (h_aload_n (hX.ok (rt := some .boolean) hn hw) dL_law_1094 rfl rfl (gG.toH ?_))
  refine gH.toG (h_aload_n (hX.ok (rt := some .boolean) hn hw) dL_law_1095 rfl rfl (gG.toH ?_))
  refine gH.toG (h_iload (hX.ok (rt := some .boolean) hn hw) dL_law_1096 rfl (gG.toH ?_))
  refine gH.toG (h_iconst (hX.ok (rt := some .boolean) hn hw) dL_law_1098 ki_1 (gG.toH ?_))
  refine gH.toG (h_iadd (hX.ok (rt := some .boolean) hn hw) dL_law_1099 (gG.toH ?_))
  refine g_sld hX hS hi1 dL_law_1100 ?_
  refine gG.callVi (hX.ok (rt := some .boolean) hn hw) dL_law_1101 cv_RL_125 (As := [.int (xs (i + 1 : Int32).toNatClampNeg)]) (st := []) (c_Main_weather h1) rc_C0 rfl rfl (by decide) (Nat.le_of_ble_eq_true rfl) ?_
  refine gH.toG (h_aload_n (hX.ok (rt := some .boolean) hn hw) dL_law_1104 rfl rfl (gG.toH ?_))
  refine gH.toG (h_aload_n (hX.ok (rt := some .boolean) hn hw) dL_law_1105 rfl rfl (gG.toH ?_))
  refine gH.toG (h_iload (hX.ok (rt := some .boolean) hn hw) dL_law_1106 rfl (gG.toH ?_))
  refine gH.toG (h_iconst (hX.ok (rt := some .boolean) hn hw) dL_law_1108 ki_1 (gG.toH ?_))
  refine gH.toG (h_iadd (hX.ok (rt := some .boolean) hn hw) dL_law_1109 (gG.toH ?_))
  refine g_sld hX hS hi1 dL_law_1110 ?_
  refine gG.perm gsw ?_
  refine gG.callVi (hX.ok (rt := some .boolean) hn hw) dL_law_1111 cv_RL_128 (As := [.int (xs (i + 1 : Int32).toNatClampNeg)]) (st := [.int r1.1]) (c_M_weather h2) rc_M0 rfl rfl (by decide) (Nat.le_of_ble_eq_true rfl) ?_
  refine gG.perm gsw ?_
  exact g_icmpT (hX.ok (rt := some .boolean) hn hw) he dL_law_1114 (tgt := 1742) (by decide) k
theorem wml_RL_129 : Cond.methodLink RL 129 yX10_spell ∈ gT := gw4 (i := 220) rfl rfl
theorem wim_X10_spell : Cond.instanceMethod yX10_spell ∈ gT := gw4 (i := 221) rfl rfl
theorem wsel_X10_spell : Cond.selects RX10 yX10_spell yX10_spell ∈ gT := gw4 (i := 222) rfl rfl
theorem wcod_X10_spell : Cond.code yX10_spell cX10_spell 3 (some .int) ∈ gT := gw4 (i := 223) rfl rfl
theorem cv_RL_129 : gCV RL 129 RX10 yX10_spell cX10_spell 3 (some .int) 2 := ⟨wml_RL_129, wim_X10_spell, wsel_X10_spell, wini_RX10, wcod_X10_spell, rfl, by decide +kernel⟩
theorem wml_RL_132 : Cond.methodLink RL 132 yX11_spell ∈ gT := gw8 (i := 85) rfl rfl
theorem wim_X11_spell : Cond.instanceMethod yX11_spell ∈ gT := gw8 (i := 86) rfl rfl
theorem wsel_X11_spell : Cond.selects RX11 yX11_spell yX11_spell ∈ gT := gw8 (i := 87) rfl rfl
theorem wcod_X11_spell : Cond.code yX11_spell cX11_spell 3 (some .int) ∈ gT := gw8 (i := 88) rfl rfl
theorem cv_RL_132 : gCV RL 132 RX11 yX11_spell cX11_spell 3 (some .int) 2 := ⟨wml_RL_132, wim_X11_spell, wsel_X11_spell, wini_RX11, wcod_X11_spell, rfl, by decide +kernel⟩
set_option maxRecDepth 4000 in
theorem lc_spell (hX : gOkI B X RL cL_law 7 1312 601024 7293034) (hS : gScr X b L xs) (hn : n ≤ 601024) (hw : w ≤ 7293034) {i : Int32} (hi1 : vp_in (i + 1) L) (hi2 : vp_in (i + 2) L) {r1 : (Int32 × (Nat → Int32))} {r2 : Int32} (h1 : f_Main_spell Y_cells Y_clauses N_marbles N_chipped N_owners S_strengths (xs (i + 1 : Int32).toNatClampNeg) (xs (i + 2 : Int32).toNatClampNeg) = some r1) (h2 : f_M_spell m_marbles m_boy m_marble m_now (xs (i + 1 : Int32).toNatClampNeg) (xs (i + 2 : Int32).toNatClampNeg) = some r2) (he : r1.1 = r2) (k : gG B (gXc X n w) 1742 [(0, .ref b), (1, .ref (aC B 0)), (2, .ref (aM B 0)), (3, .ref qo), (4, .int i)] [] (wdC B W_spillsNow W_drawn T_length T_at T_bytes D_cells D_clauses G_length G_code A_size A_chosen A_codes A_lengths A_stack Y_cells Y_clauses N_marbles N_chipped N_swallowed N_sweets N_day N_owners P_next P_kept P_hasImage P_image P_acts P_entries P_imageEntries S_fewest S_row r1.2 U_size U_found U_places U_kinds U_holds U_fitting U_tally L_letters L_firstCells L_secondCells L_firstBest L_secondBest W_refusals ++ (wdM B m_thrown m_size m_at m_wrong m_deep m_laws m_text m_readBoys m_readMarbles m_readFarms m_boys m_marbles m_farms m_holding m_spills m_acts m_draws m_bestRow m_bestMany m_noted m_hasImage m_tape m_code m_value m_codes m_clauses m_testFrom m_sumFrom m_sumTo m_letters m_stack m_readRule m_readBoy m_readMarble m_readFarm m_rule m_boy m_marble m_farm m_now m_refused m_kept m_notePlace m_noteKind m_noteIs m_toldBy m_image ++ fr))) : gG B (gXc X n w) 1119 [(0, .ref b), (1, .ref (aC B 0)), (2, .ref (aM B 0)), (3, .ref qo), (4, .int i)] [] (wdC B W_spillsNow W_drawn T_length T_at T_bytes D_cells D_clauses G_length G_code A_size A_chosen A_codes A_lengths A_stack Y_cells Y_clauses N_marbles N_chipped N_swallowed N_sweets N_day N_owners P_next P_kept P_hasImage P_image P_acts P_entries P_imageEntries S_fewest S_row S_strengths U_size U_found U_places U_kinds U_holds U_fitting U_tally L_letters L_firstCells L_secondCells L_firstBest L_secondBest W_refusals ++ (wdM B m_thrown m_size m_at m_wrong m_deep m_laws m_text m_readBoys m_readMarbles m_readFarms m_boys m_marbles m_farms m_holding m_spills m_acts m_draws m_bestRow m_bestMany m_noted m_hasImage m_tape m_code m_value m_codes m_clauses m_testFrom m_sumFrom m_sumTo m_letters m_stack m_readRule m_readBoy m_readMarble m_readFarm m_rule m_boy m_marble m_farm m_now m_refused m_kept m_notePlace m_noteKind m_noteIs m_toldBy m_image ++ fr)) := by
  refine gH.toG (h_aload_n (hX.ok (rt := some .boolean) hn hw) dL_law_1119 rfl rfl (gG.toH ?_))
  refine gH.toG (h_aload_n (hX.ok (rt := some .boolean) hn hw) dL_law_1120 rfl rfl (gG.toH ?_))
  refine gH.toG (h_iload (hX.ok (rt := some .boolean) hn hw) dL_law_1121 rfl (gG.toH ?_))
  refine gH.toG (h_iconst (hX.ok (rt := some .boolean) hn hw) dL_law_1123 ki_1 (gG.toH ?_))
  refine gH.toG (h_iadd (hX.ok (rt := some .boolean) hn hw) dL_law_1124 (gG.toH ?_))
  refine g_sld hX hS hi1 dL_law_1125 ?_
  refine gH.toG (h_aload_n (hX.ok (rt := some .boolean) hn hw) dL_law_1126 rfl rfl (gG.toH ?_))
  refine gH.toG (h_iload (hX.ok (rt := some .boolean) hn hw) dL_law_1127 rfl (gG.toH ?_))
  refine gH.toG (h_iconst (hX.ok (rt := some .boolean) hn hw) dL_law_1129 ki_2 (gG.toH ?_))
  refine gH.toG (h_iadd (hX.ok (rt := some .boolean) hn hw) dL_law_1130 (gG.toH ?_))
  refine g_sld hX hS hi2 dL_law_1131 ?_
  refine gG.callVi (hX.ok (rt := some .boolean) hn hw) dL_law_1132 cv_RL_129 (As := [.int (xs (i + 1 : Int32).toNatClampNeg), .int (xs (i + 2 : Int32).toNatClampNeg)]) (st := []) (c_Main_spell h1) rc_C0 rfl rfl (by decide) (Nat.le_of_ble_eq_true rfl) ?_
  refine gH.toG (h_aload_n (hX.ok (rt := some .boolean) hn hw) dL_law_1135 rfl rfl (gG.toH ?_))
  refine gH.toG (h_aload_n (hX.ok (rt := some .boolean) hn hw) dL_law_1136 rfl rfl (gG.toH ?_))
  refine gH.toG (h_iload (hX.ok (rt := some .boolean) hn hw) dL_law_1137 rfl (gG.toH ?_))
  refine gH.toG (h_iconst (hX.ok (rt := some .boolean) hn hw) dL_law_1139 ki_1 (gG.toH ?_))
  refine gH.toG (h_iadd (hX.ok (rt := some .boolean) hn hw) dL_law_1140 (gG.toH ?_))
  refine g_sld hX hS hi1 dL_law_1141 ?_
  refine gH.toG (h_aload_n (hX.ok (rt := some .boolean) hn hw) dL_law_1142 rfl rfl (gG.toH ?_))
  refine gH.toG (h_iload (hX.ok (rt := some .boolean) hn hw) dL_law_1143 rfl (gG.toH ?_))
  refine gH.toG (h_iconst (hX.ok (rt := some .boolean) hn hw) dL_law_1145 ki_2 (gG.toH ?_))
  refine gH.toG (h_iadd (hX.ok (rt := some .boolean) hn hw) dL_law_1146 (gG.toH ?_))
  refine g_sld hX hS hi2 dL_law_1147 ?_
  refine gG.perm gsw ?_
  refine gG.callVi (hX.ok (rt := some .boolean) hn hw) dL_law_1148 cv_RL_132 (As := [.int (xs (i + 1 : Int32).toNatClampNeg), .int (xs (i + 2 : Int32).toNatClampNeg)]) (st := [.int r1.1]) (c_M_spell h2) rc_M0 rfl rfl (by decide) (Nat.le_of_ble_eq_true rfl) ?_
  refine gG.perm gsw ?_
  exact g_icmpT (hX.ok (rt := some .boolean) hn hw) he dL_law_1151 (tgt := 1742) (by decide) k
theorem wml_RL_133 : Cond.methodLink RL 133 yX10_arrange ∈ gT := gw4 (i := 229) rfl rfl
theorem wim_X10_arrange : Cond.instanceMethod yX10_arrange ∈ gT := gw4 (i := 230) rfl rfl
theorem wsel_X10_arrange : Cond.selects RX10 yX10_arrange yX10_arrange ∈ gT := gw4 (i := 231) rfl rfl
theorem wcod_X10_arrange : Cond.code yX10_arrange cX10_arrange 2 (some .int) ∈ gT := gw4 (i := 232) rfl rfl
theorem cv_RL_133 : gCV RL 133 RX10 yX10_arrange cX10_arrange 2 (some .int) 1 := ⟨wml_RL_133, wim_X10_arrange, wsel_X10_arrange, wini_RX10, wcod_X10_arrange, rfl, by decide +kernel⟩
theorem wml_RL_136 : Cond.methodLink RL 136 yX11_arrange ∈ gT := gw8 (i := 92) rfl rfl
theorem wim_X11_arrange : Cond.instanceMethod yX11_arrange ∈ gT := gw8 (i := 93) rfl rfl
theorem wsel_X11_arrange : Cond.selects RX11 yX11_arrange yX11_arrange ∈ gT := gw8 (i := 94) rfl rfl
theorem wcod_X11_arrange : Cond.code yX11_arrange cX11_arrange 2 (some .int) ∈ gT := gw8 (i := 95) rfl rfl
theorem cv_RL_136 : gCV RL 136 RX11 yX11_arrange cX11_arrange 2 (some .int) 1 := ⟨wml_RL_136, wim_X11_arrange, wsel_X11_arrange, wini_RX11, wcod_X11_arrange, rfl, by decide +kernel⟩
set_option maxRecDepth 4000 in
theorem lc_arrange (hX : gOkI B X RL cL_law 7 1312 601024 7293034) (hS : gScr X b L xs) (hn : n ≤ 601024) (hw : w ≤ 7293034) {i : Int32} (hi1 : vp_in (i + 1) L) {r1 : (Int32 × Int32 × Int32 × (Nat → Int32))} {r2 : (Int32 × Int32 × Int32 × (Nat → Int32))} (h1 : f_Main_arrange Y_cells Y_clauses N_marbles N_chipped N_swallowed N_owners S_fewest S_row S_strengths (xs (i + 1 : Int32).toNatClampNeg) = some r1) (h2 : f_M_arrange m_boys m_marbles m_farms m_bestRow m_bestMany m_boy m_marble m_farm m_now (xs (i + 1 : Int32).toNatClampNeg) = some r2) (he : r1.1 = r2.1) (k : gG B (gXc X n w) 1742 [(0, .ref b), (1, .ref (aC B 0)), (2, .ref (aM B 0)), (3, .ref qo), (4, .int i)] [] (wdC B W_spillsNow W_drawn T_length T_at T_bytes D_cells D_clauses G_length G_code A_size A_chosen A_codes A_lengths A_stack Y_cells Y_clauses N_marbles N_chipped N_swallowed N_sweets N_day N_owners P_next P_kept P_hasImage P_image P_acts P_entries P_imageEntries r1.2.1 r1.2.2.1 r1.2.2.2 U_size U_found U_places U_kinds U_holds U_fitting U_tally L_letters L_firstCells L_secondCells L_firstBest L_secondBest W_refusals ++ (wdM B m_thrown m_size m_at m_wrong m_deep m_laws m_text m_readBoys m_readMarbles m_readFarms m_boys m_marbles m_farms m_holding m_spills m_acts m_draws r2.2.1 r2.2.2.1 m_noted m_hasImage m_tape m_code m_value m_codes m_clauses m_testFrom m_sumFrom m_sumTo m_letters m_stack m_readRule m_readBoy m_readMarble m_readFarm m_rule m_boy m_marble m_farm r2.2.2.2 m_refused m_kept m_notePlace m_noteKind m_noteIs m_toldBy m_image ++ fr))) : gG B (gXc X n w) 1156 [(0, .ref b), (1, .ref (aC B 0)), (2, .ref (aM B 0)), (3, .ref qo), (4, .int i)] [] (wdC B W_spillsNow W_drawn T_length T_at T_bytes D_cells D_clauses G_length G_code A_size A_chosen A_codes A_lengths A_stack Y_cells Y_clauses N_marbles N_chipped N_swallowed N_sweets N_day N_owners P_next P_kept P_hasImage P_image P_acts P_entries P_imageEntries S_fewest S_row S_strengths U_size U_found U_places U_kinds U_holds U_fitting U_tally L_letters L_firstCells L_secondCells L_firstBest L_secondBest W_refusals ++ (wdM B m_thrown m_size m_at m_wrong m_deep m_laws m_text m_readBoys m_readMarbles m_readFarms m_boys m_marbles m_farms m_holding m_spills m_acts m_draws m_bestRow m_bestMany m_noted m_hasImage m_tape m_code m_value m_codes m_clauses m_testFrom m_sumFrom m_sumTo m_letters m_stack m_readRule m_readBoy m_readMarble m_readFarm m_rule m_boy m_marble m_farm m_now m_refused m_kept m_notePlace m_noteKind m_noteIs m_toldBy m_image ++ fr)) := by
  refine gH.toG (h_aload_n (hX.ok (rt := some .boolean) hn hw) dL_law_1156 rfl rfl (gG.toH ?_))
  refine gH.toG (h_aload_n (hX.ok (rt := some .boolean) hn hw) dL_law_1157 rfl rfl (gG.toH ?_))
  refine gH.toG (h_iload (hX.ok (rt := some .boolean) hn hw) dL_law_1158 rfl (gG.toH ?_))
  refine gH.toG (h_iconst (hX.ok (rt := some .boolean) hn hw) dL_law_1160 ki_1 (gG.toH ?_))
  refine gH.toG (h_iadd (hX.ok (rt := some .boolean) hn hw) dL_law_1161 (gG.toH ?_))
  refine g_sld hX hS hi1 dL_law_1162 ?_
  refine gG.callVi (hX.ok (rt := some .boolean) hn hw) dL_law_1163 cv_RL_133 (As := [.int (xs (i + 1 : Int32).toNatClampNeg)]) (st := []) (c_Main_arrange h1) rc_C0 rfl rfl (by decide) (Nat.le_of_ble_eq_true rfl) ?_
  refine gH.toG (h_aload_n (hX.ok (rt := some .boolean) hn hw) dL_law_1166 rfl rfl (gG.toH ?_))
  refine gH.toG (h_aload_n (hX.ok (rt := some .boolean) hn hw) dL_law_1167 rfl rfl (gG.toH ?_))
  refine gH.toG (h_iload (hX.ok (rt := some .boolean) hn hw) dL_law_1168 rfl (gG.toH ?_))
  refine gH.toG (h_iconst (hX.ok (rt := some .boolean) hn hw) dL_law_1170 ki_1 (gG.toH ?_))
  refine gH.toG (h_iadd (hX.ok (rt := some .boolean) hn hw) dL_law_1171 (gG.toH ?_))
  refine g_sld hX hS hi1 dL_law_1172 ?_
  refine gG.perm gsw ?_
  refine gG.callVi (hX.ok (rt := some .boolean) hn hw) dL_law_1173 cv_RL_136 (As := [.int (xs (i + 1 : Int32).toNatClampNeg)]) (st := [.int r1.1]) (c_M_arrange h2) rc_M0 rfl rfl (by decide) (Nat.le_of_ble_eq_true rfl) ?_
  refine gG.perm gsw ?_
  exact g_icmpT (hX.ok (rt := some .boolean) hn hw) he dL_law_1176 (tgt := 1742) (by decide) k
theorem wml_RL_137 : Cond.methodLink RL 137 yX10_seen ∈ gT := gw5 (i := 45) rfl rfl
theorem wim_X10_seen : Cond.instanceMethod yX10_seen ∈ gT := gw5 (i := 46) rfl rfl
theorem wsel_X10_seen : Cond.selects RX10 yX10_seen yX10_seen ∈ gT := gw5 (i := 47) rfl rfl
theorem wcod_X10_seen : Cond.code yX10_seen cX10_seen 4 (some .int) ∈ gT := gw5 (i := 48) rfl rfl
theorem cv_RL_137 : gCV RL 137 RX10 yX10_seen cX10_seen 4 (some .int) 3 := ⟨wml_RL_137, wim_X10_seen, wsel_X10_seen, wini_RX10, wcod_X10_seen, rfl, by decide +kernel⟩
theorem wml_RL_141 : Cond.methodLink RL 141 yX11_seen ∈ gT := gw8 (i := 100) rfl rfl
theorem wim_X11_seen : Cond.instanceMethod yX11_seen ∈ gT := gw8 (i := 101) rfl rfl
theorem wsel_X11_seen : Cond.selects RX11 yX11_seen yX11_seen ∈ gT := gw8 (i := 102) rfl rfl
theorem wcod_X11_seen : Cond.code yX11_seen cX11_seen 4 (some .int) ∈ gT := gw8 (i := 103) rfl rfl
theorem cv_RL_141 : gCV RL 141 RX11 yX11_seen cX11_seen 4 (some .int) 3 := ⟨wml_RL_141, wim_X11_seen, wsel_X11_seen, wini_RX11, wcod_X11_seen, rfl, by decide +kernel⟩
set_option maxRecDepth 4000 in
theorem lc_seen (hX : gOkI B X RL cL_law 7 1312 601024 7293034) (hS : gScr X b L xs) (hn : n ≤ 601024) (hw : w ≤ 7293034) {i : Int32} (hi1 : vp_in (i + 1) L) (hi2 : vp_in (i + 2) L) (hi3 : vp_in (i + 3) L) (z : Int32) (hz : z = if xs (i + 3 : Int32).toNatClampNeg = 0 then 0 else 1) {r1 : (Int32 × Int32 × (Nat → Int32) × (Nat → Int32) × (Nat → Int32))} {r2 : (Int32 × Int32 × (Nat → Int32) × (Nat → Int32) × (Nat → Int32))} (h1 : f_Main_seen Y_clauses U_size U_places U_kinds U_holds (xs (i + 1 : Int32).toNatClampNeg) (xs (i + 2 : Int32).toNatClampNeg) z = some r1) (h2 : f_M_seen m_marbles m_noted m_notePlace m_noteKind m_noteIs (xs (i + 1 : Int32).toNatClampNeg) (xs (i + 2 : Int32).toNatClampNeg) z = some r2) (he : r1.1 = r2.1) (k : gG B (gXc X n w) 1742 [(0, .ref b), (1, .ref (aC B 0)), (2, .ref (aM B 0)), (3, .ref qo), (4, .int i)] [] (wdC B W_spillsNow W_drawn T_length T_at T_bytes D_cells D_clauses G_length G_code A_size A_chosen A_codes A_lengths A_stack Y_cells Y_clauses N_marbles N_chipped N_swallowed N_sweets N_day N_owners P_next P_kept P_hasImage P_image P_acts P_entries P_imageEntries S_fewest S_row S_strengths r1.2.1 U_found r1.2.2.1 r1.2.2.2.1 r1.2.2.2.2 U_fitting U_tally L_letters L_firstCells L_secondCells L_firstBest L_secondBest W_refusals ++ (wdM B m_thrown m_size m_at m_wrong m_deep m_laws m_text m_readBoys m_readMarbles m_readFarms m_boys m_marbles m_farms m_holding m_spills m_acts m_draws m_bestRow m_bestMany r2.2.1 m_hasImage m_tape m_code m_value m_codes m_clauses m_testFrom m_sumFrom m_sumTo m_letters m_stack m_readRule m_readBoy m_readMarble m_readFarm m_rule m_boy m_marble m_farm m_now m_refused m_kept r2.2.2.1 r2.2.2.2.1 r2.2.2.2.2 m_toldBy m_image ++ fr))) : gG B (gXc X n w) 1181 [(0, .ref b), (1, .ref (aC B 0)), (2, .ref (aM B 0)), (3, .ref qo), (4, .int i)] [] (wdC B W_spillsNow W_drawn T_length T_at T_bytes D_cells D_clauses G_length G_code A_size A_chosen A_codes A_lengths A_stack Y_cells Y_clauses N_marbles N_chipped N_swallowed N_sweets N_day N_owners P_next P_kept P_hasImage P_image P_acts P_entries P_imageEntries S_fewest S_row S_strengths U_size U_found U_places U_kinds U_holds U_fitting U_tally L_letters L_firstCells L_secondCells L_firstBest L_secondBest W_refusals ++ (wdM B m_thrown m_size m_at m_wrong m_deep m_laws m_text m_readBoys m_readMarbles m_readFarms m_boys m_marbles m_farms m_holding m_spills m_acts m_draws m_bestRow m_bestMany m_noted m_hasImage m_tape m_code m_value m_codes m_clauses m_testFrom m_sumFrom m_sumTo m_letters m_stack m_readRule m_readBoy m_readMarble m_readFarm m_rule m_boy m_marble m_farm m_now m_refused m_kept m_notePlace m_noteKind m_noteIs m_toldBy m_image ++ fr)) := by
  by_cases hz0 : xs (i + 3 : Int32).toNatClampNeg = 0
  · rw [if_pos hz0] at hz
    subst hz
    refine gH.toG (h_aload_n (hX.ok (rt := some .boolean) hn hw) dL_law_1181 rfl rfl (gG.toH ?_))
    refine gH.toG (h_aload_n (hX.ok (rt := some .boolean) hn hw) dL_law_1182 rfl rfl (gG.toH ?_))
    refine gH.toG (h_iload (hX.ok (rt := some .boolean) hn hw) dL_law_1183 rfl (gG.toH ?_))
    refine gH.toG (h_iconst (hX.ok (rt := some .boolean) hn hw) dL_law_1185 ki_1 (gG.toH ?_))
    refine gH.toG (h_iadd (hX.ok (rt := some .boolean) hn hw) dL_law_1186 (gG.toH ?_))
    refine g_sld hX hS hi1 dL_law_1187 ?_
    refine gH.toG (h_aload_n (hX.ok (rt := some .boolean) hn hw) dL_law_1188 rfl rfl (gG.toH ?_))
    refine gH.toG (h_iload (hX.ok (rt := some .boolean) hn hw) dL_law_1189 rfl (gG.toH ?_))
    refine gH.toG (h_iconst (hX.ok (rt := some .boolean) hn hw) dL_law_1191 ki_2 (gG.toH ?_))
    refine gH.toG (h_iadd (hX.ok (rt := some .boolean) hn hw) dL_law_1192 (gG.toH ?_))
    refine g_sld hX hS hi2 dL_law_1193 ?_
    refine gH.toG (h_aload_n (hX.ok (rt := some .boolean) hn hw) dL_law_1194 rfl rfl (gG.toH ?_))
    refine gH.toG (h_iload (hX.ok (rt := some .boolean) hn hw) dL_law_1195 rfl (gG.toH ?_))
    refine gH.toG (h_iconst (hX.ok (rt := some .boolean) hn hw) dL_law_1197 ki_3 (gG.toH ?_))
    refine gH.toG (h_iadd (hX.ok (rt := some .boolean) hn hw) dL_law_1198 (gG.toH ?_))
    refine g_sld hX hS hi3 dL_law_1199 ?_
    refine g_ifT (hX.ok (rt := some .boolean) hn hw) hz0 dL_law_1200 (tgt := 1207) (by decide) ?_
    refine gH.toG (h_iconst (hX.ok (rt := some .boolean) hn hw) dL_law_1207 ki_0 (gG.toH ?_))
    refine gG.callVi (hX.ok (rt := some .boolean) hn hw) dL_law_1208 cv_RL_137 (As := [.int (xs (i + 1 : Int32).toNatClampNeg), .int (xs (i + 2 : Int32).toNatClampNeg), .int 0]) (st := []) (c_Main_seen h1) rc_C0 rfl rfl (by decide) (Nat.le_of_ble_eq_true rfl) ?_
    refine gH.toG (h_aload_n (hX.ok (rt := some .boolean) hn hw) dL_law_1211 rfl rfl (gG.toH ?_))
    refine gH.toG (h_aload_n (hX.ok (rt := some .boolean) hn hw) dL_law_1212 rfl rfl (gG.toH ?_))
    refine gH.toG (h_iload (hX.ok (rt := some .boolean) hn hw) dL_law_1213 rfl (gG.toH ?_))
    refine gH.toG (h_iconst (hX.ok (rt := some .boolean) hn hw) dL_law_1215 ki_1 (gG.toH ?_))
    refine gH.toG (h_iadd (hX.ok (rt := some .boolean) hn hw) dL_law_1216 (gG.toH ?_))
    refine g_sld hX hS hi1 dL_law_1217 ?_
    refine gH.toG (h_aload_n (hX.ok (rt := some .boolean) hn hw) dL_law_1218 rfl rfl (gG.toH ?_))
    refine gH.toG (h_iload (hX.ok (rt := some .boolean) hn hw) dL_law_1219 rfl (gG.toH ?_))
    refine gH.toG (h_iconst (hX.ok (rt := some .boolean) hn hw) dL_law_1221 ki_2 (gG.toH ?_))
    refine gH.toG (h_iadd (hX.ok (rt := some .boolean) hn hw) dL_law_1222 (gG.toH ?_))
    refine g_sld hX hS hi2 dL_law_1223 ?_
    refine gH.toG (h_aload_n (hX.ok (rt := some .boolean) hn hw) dL_law_1224 rfl rfl (gG.toH ?_))
    refine gH.toG (h_iload (hX.ok (rt := some .boolean) hn hw) dL_law_1225 rfl (gG.toH ?_))
    refine gH.toG (h_iconst (hX.ok (rt := some .boolean) hn hw) dL_law_1227 ki_3 (gG.toH ?_))
    refine gH.toG (h_iadd (hX.ok (rt := some .boolean) hn hw) dL_law_1228 (gG.toH ?_))
    refine g_sld hX hS hi3 dL_law_1229 ?_
    refine g_ifT (hX.ok (rt := some .boolean) hn hw) hz0 dL_law_1230 (tgt := 1237) (by decide) ?_
    refine gH.toG (h_iconst (hX.ok (rt := some .boolean) hn hw) dL_law_1237 ki_0 (gG.toH ?_))
    refine gG.perm gsw ?_
    refine gG.callVi (hX.ok (rt := some .boolean) hn hw) dL_law_1238 cv_RL_141 (As := [.int (xs (i + 1 : Int32).toNatClampNeg), .int (xs (i + 2 : Int32).toNatClampNeg), .int 0]) (st := [.int r1.1]) (c_M_seen h2) rc_M0 rfl rfl (by decide) (Nat.le_of_ble_eq_true rfl) ?_
    refine gG.perm gsw ?_
    exact g_icmpT (hX.ok (rt := some .boolean) hn hw) he dL_law_1241 (tgt := 1742) (by decide) k
  · rw [if_neg hz0] at hz
    subst hz
    refine gH.toG (h_aload_n (hX.ok (rt := some .boolean) hn hw) dL_law_1181 rfl rfl (gG.toH ?_))
    refine gH.toG (h_aload_n (hX.ok (rt := some .boolean) hn hw) dL_law_1182 rfl rfl (gG.toH ?_))
    refine gH.toG (h_iload (hX.ok (rt := some .boolean) hn hw) dL_law_1183 rfl (gG.toH ?_))
    refine gH.toG (h_iconst (hX.ok (rt := some .boolean) hn hw) dL_law_1185 ki_1 (gG.toH ?_))
    refine gH.toG (h_iadd (hX.ok (rt := some .boolean) hn hw) dL_law_1186 (gG.toH ?_))
    refine g_sld hX hS hi1 dL_law_1187 ?_
    refine gH.toG (h_aload_n (hX.ok (rt := some .boolean) hn hw) dL_law_1188 rfl rfl (gG.toH ?_))
    refine gH.toG (h_iload (hX.ok (rt := some .boolean) hn hw) dL_law_1189 rfl (gG.toH ?_))
    refine gH.toG (h_iconst (hX.ok (rt := some .boolean) hn hw) dL_law_1191 ki_2 (gG.toH ?_))
    refine gH.toG (h_iadd (hX.ok (rt := some .boolean) hn hw) dL_law_1192 (gG.toH ?_))
    refine g_sld hX hS hi2 dL_law_1193 ?_
    refine gH.toG (h_aload_n (hX.ok (rt := some .boolean) hn hw) dL_law_1194 rfl rfl (gG.toH ?_))
    refine gH.toG (h_iload (hX.ok (rt := some .boolean) hn hw) dL_law_1195 rfl (gG.toH ?_))
    refine gH.toG (h_iconst (hX.ok (rt := some .boolean) hn hw) dL_law_1197 ki_3 (gG.toH ?_))
    refine gH.toG (h_iadd (hX.ok (rt := some .boolean) hn hw) dL_law_1198 (gG.toH ?_))
    refine g_sld hX hS hi3 dL_law_1199 ?_
    refine g_ifF (hX.ok (rt := some .boolean) hn hw) hz0 dL_law_1200 (tgt := 1207) (by decide) ?_
    refine gH.toG (h_iconst (hX.ok (rt := some .boolean) hn hw) dL_law_1203 ki_1 (gG.toH ?_))
    refine gH.toG (h_goto (hX.ok (rt := some .boolean) hn hw) dL_law_1204 (tgt := 1208) (by decide) (gG.toH ?_))
    refine gG.callVi (hX.ok (rt := some .boolean) hn hw) dL_law_1208 cv_RL_137 (As := [.int (xs (i + 1 : Int32).toNatClampNeg), .int (xs (i + 2 : Int32).toNatClampNeg), .int 1]) (st := []) (c_Main_seen h1) rc_C0 rfl rfl (by decide) (Nat.le_of_ble_eq_true rfl) ?_
    refine gH.toG (h_aload_n (hX.ok (rt := some .boolean) hn hw) dL_law_1211 rfl rfl (gG.toH ?_))
    refine gH.toG (h_aload_n (hX.ok (rt := some .boolean) hn hw) dL_law_1212 rfl rfl (gG.toH ?_))
    refine gH.toG (h_iload (hX.ok (rt := some .boolean) hn hw) dL_law_1213 rfl (gG.toH ?_))
    refine gH.toG (h_iconst (hX.ok (rt := some .boolean) hn hw) dL_law_1215 ki_1 (gG.toH ?_))
    refine gH.toG (h_iadd (hX.ok (rt := some .boolean) hn hw) dL_law_1216 (gG.toH ?_))
    refine g_sld hX hS hi1 dL_law_1217 ?_
    refine gH.toG (h_aload_n (hX.ok (rt := some .boolean) hn hw) dL_law_1218 rfl rfl (gG.toH ?_))
    refine gH.toG (h_iload (hX.ok (rt := some .boolean) hn hw) dL_law_1219 rfl (gG.toH ?_))
    refine gH.toG (h_iconst (hX.ok (rt := some .boolean) hn hw) dL_law_1221 ki_2 (gG.toH ?_))
    refine gH.toG (h_iadd (hX.ok (rt := some .boolean) hn hw) dL_law_1222 (gG.toH ?_))
    refine g_sld hX hS hi2 dL_law_1223 ?_
    refine gH.toG (h_aload_n (hX.ok (rt := some .boolean) hn hw) dL_law_1224 rfl rfl (gG.toH ?_))
    refine gH.toG (h_iload (hX.ok (rt := some .boolean) hn hw) dL_law_1225 rfl (gG.toH ?_))
    refine gH.toG (h_iconst (hX.ok (rt := some .boolean) hn hw) dL_law_1227 ki_3 (gG.toH ?_))
    refine gH.toG (h_iadd (hX.ok (rt := some .boolean) hn hw) dL_law_1228 (gG.toH ?_))
    refine g_sld hX hS hi3 dL_law_1229 ?_
    refine g_ifF (hX.ok (rt := some .boolean) hn hw) hz0 dL_law_1230 (tgt := 1237) (by decide) ?_
    refine gH.toG (h_iconst (hX.ok (rt := some .boolean) hn hw) dL_law_1233 ki_1 (gG.toH ?_))
    refine gH.toG (h_goto (hX.ok (rt := some .boolean) hn hw) dL_law_1234 (tgt := 1238) (by decide) (gG.toH ?_))
    refine gG.perm gsw ?_
    refine gG.callVi (hX.ok (rt := some .boolean) hn hw) dL_law_1238 cv_RL_141 (As := [.int (xs (i + 1 : Int32).toNatClampNeg), .int (xs (i + 2 : Int32).toNatClampNeg), .int 1]) (st := [.int r1.1]) (c_M_seen h2) rc_M0 rfl rfl (by decide) (Nat.le_of_ble_eq_true rfl) ?_
    refine gG.perm gsw ?_
    exact g_icmpT (hX.ok (rt := some .boolean) hn hw) he dL_law_1241 (tgt := 1742) (by decide) k
theorem wml_RL_142 : Cond.methodLink RL 142 yX10_who ∈ gT := gw5 (i := 57) rfl rfl
theorem wim_X10_who : Cond.instanceMethod yX10_who ∈ gT := gw5 (i := 58) rfl rfl
theorem wsel_X10_who : Cond.selects RX10 yX10_who yX10_who ∈ gT := gw5 (i := 59) rfl rfl
theorem wcod_X10_who : Cond.code yX10_who cX10_who 3 (some .int) ∈ gT := gw5 (i := 60) rfl rfl
theorem cv_RL_142 : gCV RL 142 RX10 yX10_who cX10_who 3 (some .int) 1 := ⟨wml_RL_142, wim_X10_who, wsel_X10_who, wini_RX10, wcod_X10_who, rfl, by decide +kernel⟩
theorem wml_RL_145 : Cond.methodLink RL 145 yX11_who ∈ gT := gw8 (i := 104) rfl rfl
theorem cv_RL_145 : gCV RL 145 RX11 yX11_who cX11_who 4 (some .int) 1 := ⟨wml_RL_145, wim_X11_who, wsel_X11_who, wini_RX11, wcod_X11_who, rfl, by decide +kernel⟩
set_option maxRecDepth 4000 in
theorem lc_who (hX : gOkI B X RL cL_law 7 1312 601024 7293034) (hS : gScr X b L xs) (hn : n ≤ 601024) (hw : w ≤ 7293034) {i : Int32} (hi1 : vp_in (i + 1) L) {r1 : (Int32 × (Nat → Int32) × Int32 × (Nat → Int32))} {r2 : (Int32 × (Nat → Int32))} (h1 : f_Main_who Y_cells Y_clauses N_marbles N_chipped N_owners S_strengths U_size U_found U_places U_kinds U_holds U_fitting (xs (i + 1 : Int32).toNatClampNeg) = some r1) (h2 : f_M_who m_boys m_marbles m_noted m_boy m_marble m_now m_notePlace m_noteKind m_noteIs (xs (i + 1 : Int32).toNatClampNeg) = some r2) (he : r1.1 = r2.1) (k : gG B (gXc X n w) 1742 [(0, .ref b), (1, .ref (aC B 0)), (2, .ref (aM B 0)), (3, .ref qo), (4, .int i)] [] (wdC B W_spillsNow W_drawn T_length T_at T_bytes D_cells D_clauses G_length G_code A_size A_chosen A_codes A_lengths A_stack Y_cells Y_clauses N_marbles N_chipped N_swallowed N_sweets N_day N_owners P_next P_kept P_hasImage P_image P_acts P_entries P_imageEntries S_fewest S_row r1.2.1 U_size r1.2.2.1 U_places U_kinds U_holds r1.2.2.2 U_tally L_letters L_firstCells L_secondCells L_firstBest L_secondBest W_refusals ++ (wdM B m_thrown m_size m_at m_wrong m_deep m_laws m_text m_readBoys m_readMarbles m_readFarms m_boys m_marbles m_farms m_holding m_spills m_acts m_draws m_bestRow m_bestMany m_noted m_hasImage m_tape m_code m_value m_codes m_clauses m_testFrom m_sumFrom m_sumTo m_letters m_stack m_readRule m_readBoy m_readMarble m_readFarm m_rule m_boy m_marble m_farm r2.2 m_refused m_kept m_notePlace m_noteKind m_noteIs m_toldBy m_image ++ fr))) : gG B (gXc X n w) 1246 [(0, .ref b), (1, .ref (aC B 0)), (2, .ref (aM B 0)), (3, .ref qo), (4, .int i)] [] (wdC B W_spillsNow W_drawn T_length T_at T_bytes D_cells D_clauses G_length G_code A_size A_chosen A_codes A_lengths A_stack Y_cells Y_clauses N_marbles N_chipped N_swallowed N_sweets N_day N_owners P_next P_kept P_hasImage P_image P_acts P_entries P_imageEntries S_fewest S_row S_strengths U_size U_found U_places U_kinds U_holds U_fitting U_tally L_letters L_firstCells L_secondCells L_firstBest L_secondBest W_refusals ++ (wdM B m_thrown m_size m_at m_wrong m_deep m_laws m_text m_readBoys m_readMarbles m_readFarms m_boys m_marbles m_farms m_holding m_spills m_acts m_draws m_bestRow m_bestMany m_noted m_hasImage m_tape m_code m_value m_codes m_clauses m_testFrom m_sumFrom m_sumTo m_letters m_stack m_readRule m_readBoy m_readMarble m_readFarm m_rule m_boy m_marble m_farm m_now m_refused m_kept m_notePlace m_noteKind m_noteIs m_toldBy m_image ++ fr)) := by
  refine gH.toG (h_aload_n (hX.ok (rt := some .boolean) hn hw) dL_law_1246 rfl rfl (gG.toH ?_))
  refine gH.toG (h_aload_n (hX.ok (rt := some .boolean) hn hw) dL_law_1247 rfl rfl (gG.toH ?_))
  refine gH.toG (h_iload (hX.ok (rt := some .boolean) hn hw) dL_law_1248 rfl (gG.toH ?_))
  refine gH.toG (h_iconst (hX.ok (rt := some .boolean) hn hw) dL_law_1250 ki_1 (gG.toH ?_))
  refine gH.toG (h_iadd (hX.ok (rt := some .boolean) hn hw) dL_law_1251 (gG.toH ?_))
  refine g_sld hX hS hi1 dL_law_1252 ?_
  refine gG.callVi (hX.ok (rt := some .boolean) hn hw) dL_law_1253 cv_RL_142 (As := [.int (xs (i + 1 : Int32).toNatClampNeg)]) (st := []) (c_Main_who h1) rc_C0 rfl rfl (by decide) (Nat.le_of_ble_eq_true rfl) ?_
  refine gH.toG (h_aload_n (hX.ok (rt := some .boolean) hn hw) dL_law_1256 rfl rfl (gG.toH ?_))
  refine gH.toG (h_aload_n (hX.ok (rt := some .boolean) hn hw) dL_law_1257 rfl rfl (gG.toH ?_))
  refine gH.toG (h_iload (hX.ok (rt := some .boolean) hn hw) dL_law_1258 rfl (gG.toH ?_))
  refine gH.toG (h_iconst (hX.ok (rt := some .boolean) hn hw) dL_law_1260 ki_1 (gG.toH ?_))
  refine gH.toG (h_iadd (hX.ok (rt := some .boolean) hn hw) dL_law_1261 (gG.toH ?_))
  refine g_sld hX hS hi1 dL_law_1262 ?_
  refine gG.perm gsw ?_
  refine gG.callVi (hX.ok (rt := some .boolean) hn hw) dL_law_1263 cv_RL_145 (As := [.int (xs (i + 1 : Int32).toNatClampNeg)]) (st := [.int r1.1]) (c_M_who h2) rc_M0 rfl rfl (by decide) (Nat.le_of_ble_eq_true rfl) ?_
  refine gG.perm gsw ?_
  exact g_icmpT (hX.ok (rt := some .boolean) hn hw) he dL_law_1266 (tgt := 1742) (by decide) k
theorem wml_RL_146 : Cond.methodLink RL 146 yX10_best ∈ gT := gw5 (i := 86) rfl rfl
theorem wim_X10_best : Cond.instanceMethod yX10_best ∈ gT := gw5 (i := 87) rfl rfl
theorem wsel_X10_best : Cond.selects RX10 yX10_best yX10_best ∈ gT := gw5 (i := 88) rfl rfl
theorem wcod_X10_best : Cond.code yX10_best cX10_best 1 (some .int) ∈ gT := gw5 (i := 89) rfl rfl
theorem cv_RL_146 : gCV RL 146 RX10 yX10_best cX10_best 1 (some .int) 0 := ⟨wml_RL_146, wim_X10_best, wsel_X10_best, wini_RX10, wcod_X10_best, rfl, by decide +kernel⟩
theorem wml_RL_149 : Cond.methodLink RL 149 yX11_best ∈ gT := gw8 (i := 124) rfl rfl
theorem wim_X11_best : Cond.instanceMethod yX11_best ∈ gT := gw8 (i := 125) rfl rfl
theorem wsel_X11_best : Cond.selects RX11 yX11_best yX11_best ∈ gT := gw8 (i := 126) rfl rfl
theorem wcod_X11_best : Cond.code yX11_best cX11_best 6 (some .int) ∈ gT := gw8 (i := 127) rfl rfl
theorem cv_RL_149 : gCV RL 149 RX11 yX11_best cX11_best 6 (some .int) 0 := ⟨wml_RL_149, wim_X11_best, wsel_X11_best, wini_RX11, wcod_X11_best, rfl, by decide +kernel⟩
set_option maxRecDepth 4000 in
theorem lc_best (hX : gOkI B X RL cL_law 7 1312 601024 7293034) (hS : gScr X b L xs) (hn : n ≤ 601024) (hw : w ≤ 7293034) {i : Int32} {r1 : (Int32 × (Nat → Int32) × Int32 × (Nat → Int32) × (Nat → Int32))} {r2 : (Int32 × (Nat → Int32) × (Nat → Int32))} (h1 : f_Main_best Y_cells Y_clauses N_marbles N_chipped N_owners S_strengths U_size U_found U_places U_kinds U_holds U_fitting U_tally = some r1) (h2 : f_M_best m_boys m_marbles m_noted m_boy m_marble m_now m_notePlace m_noteKind m_noteIs m_toldBy = some r2) (he : r1.1 = r2.1) (k : gG B (gXc X n w) 1742 [(0, .ref b), (1, .ref (aC B 0)), (2, .ref (aM B 0)), (3, .ref qo), (4, .int i)] [] (wdC B W_spillsNow W_drawn T_length T_at T_bytes D_cells D_clauses G_length G_code A_size A_chosen A_codes A_lengths A_stack Y_cells Y_clauses N_marbles N_chipped N_swallowed N_sweets N_day N_owners P_next P_kept P_hasImage P_image P_acts P_entries P_imageEntries S_fewest S_row r1.2.1 U_size r1.2.2.1 U_places U_kinds U_holds r1.2.2.2.1 r1.2.2.2.2 L_letters L_firstCells L_secondCells L_firstBest L_secondBest W_refusals ++ (wdM B m_thrown m_size m_at m_wrong m_deep m_laws m_text m_readBoys m_readMarbles m_readFarms m_boys m_marbles m_farms m_holding m_spills m_acts m_draws m_bestRow m_bestMany m_noted m_hasImage m_tape m_code m_value m_codes m_clauses m_testFrom m_sumFrom m_sumTo m_letters m_stack m_readRule m_readBoy m_readMarble m_readFarm m_rule m_boy m_marble m_farm r2.2.1 m_refused m_kept m_notePlace m_noteKind m_noteIs r2.2.2 m_image ++ fr))) : gG B (gXc X n w) 1271 [(0, .ref b), (1, .ref (aC B 0)), (2, .ref (aM B 0)), (3, .ref qo), (4, .int i)] [] (wdC B W_spillsNow W_drawn T_length T_at T_bytes D_cells D_clauses G_length G_code A_size A_chosen A_codes A_lengths A_stack Y_cells Y_clauses N_marbles N_chipped N_swallowed N_sweets N_day N_owners P_next P_kept P_hasImage P_image P_acts P_entries P_imageEntries S_fewest S_row S_strengths U_size U_found U_places U_kinds U_holds U_fitting U_tally L_letters L_firstCells L_secondCells L_firstBest L_secondBest W_refusals ++ (wdM B m_thrown m_size m_at m_wrong m_deep m_laws m_text m_readBoys m_readMarbles m_readFarms m_boys m_marbles m_farms m_holding m_spills m_acts m_draws m_bestRow m_bestMany m_noted m_hasImage m_tape m_code m_value m_codes m_clauses m_testFrom m_sumFrom m_sumTo m_letters m_stack m_readRule m_readBoy m_readMarble m_readFarm m_rule m_boy m_marble m_farm m_now m_refused m_kept m_notePlace m_noteKind m_noteIs m_toldBy m_image ++ fr)) := by
  refine gH.toG (h_aload_n (hX.ok (rt := some .boolean) hn hw) dL_law_1271 rfl rfl (gG.toH ?_))
  refine gG.callVi (hX.ok (rt := some .boolean) hn hw) dL_law_1272 cv_RL_146 (As := []) (st := []) (c_Main_best h1) rc_C0 rfl rfl (by decide) (Nat.le_of_ble_eq_true rfl) ?_
  refine gH.toG (h_aload_n (hX.ok (rt := some .boolean) hn hw) dL_law_1275 rfl rfl (gG.toH ?_))
  refine gG.perm gsw ?_
  refine gG.callVi (hX.ok (rt := some .boolean) hn hw) dL_law_1276 cv_RL_149 (As := []) (st := [.int r1.1]) (c_M_best h2) rc_M0 rfl rfl (by decide) (Nat.le_of_ble_eq_true rfl) ?_
  refine gG.perm gsw ?_
  exact g_icmpT (hX.ok (rt := some .boolean) hn hw) he dL_law_1279 (tgt := 1742) (by decide) k
theorem wml_RL_150 : Cond.methodLink RL 150 yX10_game ∈ gT := gw4 (i := 181) rfl rfl
theorem wim_X10_game : Cond.instanceMethod yX10_game ∈ gT := gw4 (i := 182) rfl rfl
theorem wsel_X10_game : Cond.selects RX10 yX10_game yX10_game ∈ gT := gw4 (i := 183) rfl rfl
theorem wcod_X10_game : Cond.code yX10_game cX10_game 8 (some .int) ∈ gT := gw4 (i := 184) rfl rfl
theorem cv_RL_150 : gCV RL 150 RX10 yX10_game cX10_game 8 (some .int) 5 := ⟨wml_RL_150, wim_X10_game, wsel_X10_game, wini_RX10, wcod_X10_game, rfl, by decide +kernel⟩
theorem wml_RL_153 : Cond.methodLink RL 153 yX11_game ∈ gT := gw8 (i := 129) rfl rfl
theorem wim_X11_game : Cond.instanceMethod yX11_game ∈ gT := gw8 (i := 130) rfl rfl
theorem wsel_X11_game : Cond.selects RX11 yX11_game yX11_game ∈ gT := gw8 (i := 131) rfl rfl
theorem wcod_X11_game : Cond.code yX11_game cX11_game 6 (some .int) ∈ gT := gw8 (i := 132) rfl rfl
theorem cv_RL_153 : gCV RL 153 RX11 yX11_game cX11_game 6 (some .int) 5 := ⟨wml_RL_153, wim_X11_game, wsel_X11_game, wini_RX11, wcod_X11_game, rfl, by decide +kernel⟩
set_option maxRecDepth 4000 in
theorem lc_game (hX : gOkI B X RL cL_law 7 1312 601024 7293034) (hS : gScr X b L xs) (hn : n ≤ 601024) (hw : w ≤ 7293034) {i : Int32} (hi1 : vp_in (i + 1) L) (hi2 : vp_in (i + 2) L) (hi3 : vp_in (i + 3) L) (hi4 : vp_in (i + 4) L) (hi5 : vp_in (i + 5) L) {r1 : (Int32 × (Nat → Int32) × (Nat → Int32))} {r2 : (Int32 × (Nat → Int32) × (Nat → Int32))} (h1 : f_Main_game A_size A_chosen A_codes A_lengths A_stack Y_cells Y_clauses N_marbles N_chipped N_swallowed N_day N_owners L_letters (xs (i + 1 : Int32).toNatClampNeg) (xs (i + 2 : Int32).toNatClampNeg) (xs (i + 3 : Int32).toNatClampNeg) (xs (i + 4 : Int32).toNatClampNeg) (xs (i + 5 : Int32).toNatClampNeg) = some r1) (h2 : f_M_game m_marbles m_holding m_code m_value m_clauses m_testFrom m_sumFrom m_sumTo m_letters m_stack m_rule m_boy m_marble m_now (xs (i + 1 : Int32).toNatClampNeg) (xs (i + 2 : Int32).toNatClampNeg) (xs (i + 3 : Int32).toNatClampNeg) (xs (i + 4 : Int32).toNatClampNeg) (xs (i + 5 : Int32).toNatClampNeg) = some r2) (he : r1.1 = r2.1) (k : gG B (gXc X n w) 1742 [(0, .ref b), (1, .ref (aC B 0)), (2, .ref (aM B 0)), (3, .ref qo), (4, .int i)] [] (wdC B W_spillsNow W_drawn T_length T_at T_bytes D_cells D_clauses G_length G_code A_size A_chosen A_codes A_lengths r1.2.1 Y_cells Y_clauses N_marbles N_chipped N_swallowed N_sweets N_day N_owners P_next P_kept P_hasImage P_image P_acts P_entries P_imageEntries S_fewest S_row S_strengths U_size U_found U_places U_kinds U_holds U_fitting U_tally r1.2.2 L_firstCells L_secondCells L_firstBest L_secondBest W_refusals ++ (wdM B m_thrown m_size m_at m_wrong m_deep m_laws m_text m_readBoys m_readMarbles m_readFarms m_boys m_marbles m_farms m_holding m_spills m_acts m_draws m_bestRow m_bestMany m_noted m_hasImage m_tape m_code m_value m_codes m_clauses m_testFrom m_sumFrom m_sumTo r2.2.1 r2.2.2 m_readRule m_readBoy m_readMarble m_readFarm m_rule m_boy m_marble m_farm m_now m_refused m_kept m_notePlace m_noteKind m_noteIs m_toldBy m_image ++ fr))) : gG B (gXc X n w) 1284 [(0, .ref b), (1, .ref (aC B 0)), (2, .ref (aM B 0)), (3, .ref qo), (4, .int i)] [] (wdC B W_spillsNow W_drawn T_length T_at T_bytes D_cells D_clauses G_length G_code A_size A_chosen A_codes A_lengths A_stack Y_cells Y_clauses N_marbles N_chipped N_swallowed N_sweets N_day N_owners P_next P_kept P_hasImage P_image P_acts P_entries P_imageEntries S_fewest S_row S_strengths U_size U_found U_places U_kinds U_holds U_fitting U_tally L_letters L_firstCells L_secondCells L_firstBest L_secondBest W_refusals ++ (wdM B m_thrown m_size m_at m_wrong m_deep m_laws m_text m_readBoys m_readMarbles m_readFarms m_boys m_marbles m_farms m_holding m_spills m_acts m_draws m_bestRow m_bestMany m_noted m_hasImage m_tape m_code m_value m_codes m_clauses m_testFrom m_sumFrom m_sumTo m_letters m_stack m_readRule m_readBoy m_readMarble m_readFarm m_rule m_boy m_marble m_farm m_now m_refused m_kept m_notePlace m_noteKind m_noteIs m_toldBy m_image ++ fr)) := by
  refine gH.toG (h_aload_n (hX.ok (rt := some .boolean) hn hw) dL_law_1284 rfl rfl (gG.toH ?_))
  refine gH.toG (h_aload_n (hX.ok (rt := some .boolean) hn hw) dL_law_1285 rfl rfl (gG.toH ?_))
  refine gH.toG (h_iload (hX.ok (rt := some .boolean) hn hw) dL_law_1286 rfl (gG.toH ?_))
  refine gH.toG (h_iconst (hX.ok (rt := some .boolean) hn hw) dL_law_1288 ki_1 (gG.toH ?_))
  refine gH.toG (h_iadd (hX.ok (rt := some .boolean) hn hw) dL_law_1289 (gG.toH ?_))
  refine g_sld hX hS hi1 dL_law_1290 ?_
  refine gH.toG (h_aload_n (hX.ok (rt := some .boolean) hn hw) dL_law_1291 rfl rfl (gG.toH ?_))
  refine gH.toG (h_iload (hX.ok (rt := some .boolean) hn hw) dL_law_1292 rfl (gG.toH ?_))
  refine gH.toG (h_iconst (hX.ok (rt := some .boolean) hn hw) dL_law_1294 ki_2 (gG.toH ?_))
  refine gH.toG (h_iadd (hX.ok (rt := some .boolean) hn hw) dL_law_1295 (gG.toH ?_))
  refine g_sld hX hS hi2 dL_law_1296 ?_
  refine gH.toG (h_aload_n (hX.ok (rt := some .boolean) hn hw) dL_law_1297 rfl rfl (gG.toH ?_))
  refine gH.toG (h_iload (hX.ok (rt := some .boolean) hn hw) dL_law_1298 rfl (gG.toH ?_))
  refine gH.toG (h_iconst (hX.ok (rt := some .boolean) hn hw) dL_law_1300 ki_3 (gG.toH ?_))
  refine gH.toG (h_iadd (hX.ok (rt := some .boolean) hn hw) dL_law_1301 (gG.toH ?_))
  refine g_sld hX hS hi3 dL_law_1302 ?_
  refine gH.toG (h_aload_n (hX.ok (rt := some .boolean) hn hw) dL_law_1303 rfl rfl (gG.toH ?_))
  refine gH.toG (h_iload (hX.ok (rt := some .boolean) hn hw) dL_law_1304 rfl (gG.toH ?_))
  refine gH.toG (h_iconst (hX.ok (rt := some .boolean) hn hw) dL_law_1306 ki_4 (gG.toH ?_))
  refine gH.toG (h_iadd (hX.ok (rt := some .boolean) hn hw) dL_law_1307 (gG.toH ?_))
  refine g_sld hX hS hi4 dL_law_1308 ?_
  refine gH.toG (h_aload_n (hX.ok (rt := some .boolean) hn hw) dL_law_1309 rfl rfl (gG.toH ?_))
  refine gH.toG (h_iload (hX.ok (rt := some .boolean) hn hw) dL_law_1310 rfl (gG.toH ?_))
  refine gH.toG (h_iconst (hX.ok (rt := some .boolean) hn hw) dL_law_1312 ki_5 (gG.toH ?_))
  refine gH.toG (h_iadd (hX.ok (rt := some .boolean) hn hw) dL_law_1313 (gG.toH ?_))
  refine g_sld hX hS hi5 dL_law_1314 ?_
  refine gG.callVi (hX.ok (rt := some .boolean) hn hw) dL_law_1315 cv_RL_150 (As := [.int (xs (i + 1 : Int32).toNatClampNeg), .int (xs (i + 2 : Int32).toNatClampNeg), .int (xs (i + 3 : Int32).toNatClampNeg), .int (xs (i + 4 : Int32).toNatClampNeg), .int (xs (i + 5 : Int32).toNatClampNeg)]) (st := []) (c_Main_game h1) rc_C0 rfl rfl (by decide) (Nat.le_of_ble_eq_true rfl) ?_
  refine gH.toG (h_aload_n (hX.ok (rt := some .boolean) hn hw) dL_law_1318 rfl rfl (gG.toH ?_))
  refine gH.toG (h_aload_n (hX.ok (rt := some .boolean) hn hw) dL_law_1319 rfl rfl (gG.toH ?_))
  refine gH.toG (h_iload (hX.ok (rt := some .boolean) hn hw) dL_law_1320 rfl (gG.toH ?_))
  refine gH.toG (h_iconst (hX.ok (rt := some .boolean) hn hw) dL_law_1322 ki_1 (gG.toH ?_))
  refine gH.toG (h_iadd (hX.ok (rt := some .boolean) hn hw) dL_law_1323 (gG.toH ?_))
  refine g_sld hX hS hi1 dL_law_1324 ?_
  refine gH.toG (h_aload_n (hX.ok (rt := some .boolean) hn hw) dL_law_1325 rfl rfl (gG.toH ?_))
  refine gH.toG (h_iload (hX.ok (rt := some .boolean) hn hw) dL_law_1326 rfl (gG.toH ?_))
  refine gH.toG (h_iconst (hX.ok (rt := some .boolean) hn hw) dL_law_1328 ki_2 (gG.toH ?_))
  refine gH.toG (h_iadd (hX.ok (rt := some .boolean) hn hw) dL_law_1329 (gG.toH ?_))
  refine g_sld hX hS hi2 dL_law_1330 ?_
  refine gH.toG (h_aload_n (hX.ok (rt := some .boolean) hn hw) dL_law_1331 rfl rfl (gG.toH ?_))
  refine gH.toG (h_iload (hX.ok (rt := some .boolean) hn hw) dL_law_1332 rfl (gG.toH ?_))
  refine gH.toG (h_iconst (hX.ok (rt := some .boolean) hn hw) dL_law_1334 ki_3 (gG.toH ?_))
  refine gH.toG (h_iadd (hX.ok (rt := some .boolean) hn hw) dL_law_1335 (gG.toH ?_))
  refine g_sld hX hS hi3 dL_law_1336 ?_
  refine gH.toG (h_aload_n (hX.ok (rt := some .boolean) hn hw) dL_law_1337 rfl rfl (gG.toH ?_))
  refine gH.toG (h_iload (hX.ok (rt := some .boolean) hn hw) dL_law_1338 rfl (gG.toH ?_))
  refine gH.toG (h_iconst (hX.ok (rt := some .boolean) hn hw) dL_law_1340 ki_4 (gG.toH ?_))
  refine gH.toG (h_iadd (hX.ok (rt := some .boolean) hn hw) dL_law_1341 (gG.toH ?_))
  refine g_sld hX hS hi4 dL_law_1342 ?_
  refine gH.toG (h_aload_n (hX.ok (rt := some .boolean) hn hw) dL_law_1343 rfl rfl (gG.toH ?_))
  refine gH.toG (h_iload (hX.ok (rt := some .boolean) hn hw) dL_law_1344 rfl (gG.toH ?_))
  refine gH.toG (h_iconst (hX.ok (rt := some .boolean) hn hw) dL_law_1346 ki_5 (gG.toH ?_))
  refine gH.toG (h_iadd (hX.ok (rt := some .boolean) hn hw) dL_law_1347 (gG.toH ?_))
  refine g_sld hX hS hi5 dL_law_1348 ?_
  refine gG.perm gsw ?_
  refine gG.callVi (hX.ok (rt := some .boolean) hn hw) dL_law_1349 cv_RL_153 (As := [.int (xs (i + 1 : Int32).toNatClampNeg), .int (xs (i + 2 : Int32).toNatClampNeg), .int (xs (i + 3 : Int32).toNatClampNeg), .int (xs (i + 4 : Int32).toNatClampNeg), .int (xs (i + 5 : Int32).toNatClampNeg)]) (st := [.int r1.1]) (c_M_game h2) rc_M0 rfl rfl (by decide) (Nat.le_of_ble_eq_true rfl) ?_
  refine gG.perm gsw ?_
  exact g_icmpT (hX.ok (rt := some .boolean) hn hw) he dL_law_1352 (tgt := 1742) (by decide) k
theorem wml_RL_154 : Cond.methodLink RL 154 yX10_rests ∈ gT := gw4 (i := 189) rfl rfl
theorem wim_X10_rests : Cond.instanceMethod yX10_rests ∈ gT := gw4 (i := 190) rfl rfl
theorem wsel_X10_rests : Cond.selects RX10 yX10_rests yX10_rests ∈ gT := gw4 (i := 191) rfl rfl
theorem wcod_X10_rests : Cond.code yX10_rests cX10_rests 4 (some .int) ∈ gT := gw4 (i := 192) rfl rfl
theorem cv_RL_154 : gCV RL 154 RX10 yX10_rests cX10_rests 4 (some .int) 3 := ⟨wml_RL_154, wim_X10_rests, wsel_X10_rests, wini_RX10, wcod_X10_rests, rfl, by decide +kernel⟩
theorem wml_RL_157 : Cond.methodLink RL 157 yX11_rests ∈ gT := gw8 (i := 137) rfl rfl
theorem wim_X11_rests : Cond.instanceMethod yX11_rests ∈ gT := gw8 (i := 138) rfl rfl
theorem wsel_X11_rests : Cond.selects RX11 yX11_rests yX11_rests ∈ gT := gw8 (i := 139) rfl rfl
theorem wcod_X11_rests : Cond.code yX11_rests cX11_rests 7 (some .int) ∈ gT := gw8 (i := 140) rfl rfl
theorem cv_RL_157 : gCV RL 157 RX11 yX11_rests cX11_rests 7 (some .int) 3 := ⟨wml_RL_157, wim_X11_rests, wsel_X11_rests, wini_RX11, wcod_X11_rests, rfl, by decide +kernel⟩
set_option maxRecDepth 4000 in
theorem lc_rests (hX : gOkI B X RL cL_law 7 1312 601024 7293034) (hS : gScr X b L xs) (hn : n ≤ 601024) (hw : w ≤ 7293034) {i : Int32} (hi1 : vp_in (i + 1) L) (hi2 : vp_in (i + 2) L) (hi3 : vp_in (i + 3) L) {r1 : (Int32 × (Nat → Int32) × (Nat → Int32) × (Nat → Int32) × (Nat → Int32) × (Nat → Int32) × (Nat → Int32))} {r2 : (Int32 × (Nat → Int32) × (Nat → Int32))} (h1 : f_Main_rests A_size A_chosen A_codes A_lengths A_stack Y_cells Y_clauses N_marbles N_chipped N_swallowed N_day N_owners L_letters L_firstCells L_secondCells L_firstBest L_secondBest (xs (i + 1 : Int32).toNatClampNeg) (xs (i + 2 : Int32).toNatClampNeg) (xs (i + 3 : Int32).toNatClampNeg) = some r1) (h2 : f_M_rests m_marbles m_holding m_code m_value m_clauses m_testFrom m_sumFrom m_sumTo m_letters m_stack m_rule m_boy m_marble m_now (xs (i + 1 : Int32).toNatClampNeg) (xs (i + 2 : Int32).toNatClampNeg) (xs (i + 3 : Int32).toNatClampNeg) = some r2) (he : r1.1 = r2.1) (k : gG B (gXc X n w) 1742 [(0, .ref b), (1, .ref (aC B 0)), (2, .ref (aM B 0)), (3, .ref qo), (4, .int i)] [] (wdC B W_spillsNow W_drawn T_length T_at T_bytes D_cells D_clauses G_length G_code A_size A_chosen A_codes A_lengths r1.2.1 Y_cells Y_clauses N_marbles N_chipped N_swallowed N_sweets N_day N_owners P_next P_kept P_hasImage P_image P_acts P_entries P_imageEntries S_fewest S_row S_strengths U_size U_found U_places U_kinds U_holds U_fitting U_tally r1.2.2.1 r1.2.2.2.1 r1.2.2.2.2.1 r1.2.2.2.2.2.1 r1.2.2.2.2.2.2 W_refusals ++ (wdM B m_thrown m_size m_at m_wrong m_deep m_laws m_text m_readBoys m_readMarbles m_readFarms m_boys m_marbles m_farms m_holding m_spills m_acts m_draws m_bestRow m_bestMany m_noted m_hasImage m_tape m_code m_value m_codes m_clauses m_testFrom m_sumFrom m_sumTo r2.2.1 r2.2.2 m_readRule m_readBoy m_readMarble m_readFarm m_rule m_boy m_marble m_farm m_now m_refused m_kept m_notePlace m_noteKind m_noteIs m_toldBy m_image ++ fr))) : gG B (gXc X n w) 1357 [(0, .ref b), (1, .ref (aC B 0)), (2, .ref (aM B 0)), (3, .ref qo), (4, .int i)] [] (wdC B W_spillsNow W_drawn T_length T_at T_bytes D_cells D_clauses G_length G_code A_size A_chosen A_codes A_lengths A_stack Y_cells Y_clauses N_marbles N_chipped N_swallowed N_sweets N_day N_owners P_next P_kept P_hasImage P_image P_acts P_entries P_imageEntries S_fewest S_row S_strengths U_size U_found U_places U_kinds U_holds U_fitting U_tally L_letters L_firstCells L_secondCells L_firstBest L_secondBest W_refusals ++ (wdM B m_thrown m_size m_at m_wrong m_deep m_laws m_text m_readBoys m_readMarbles m_readFarms m_boys m_marbles m_farms m_holding m_spills m_acts m_draws m_bestRow m_bestMany m_noted m_hasImage m_tape m_code m_value m_codes m_clauses m_testFrom m_sumFrom m_sumTo m_letters m_stack m_readRule m_readBoy m_readMarble m_readFarm m_rule m_boy m_marble m_farm m_now m_refused m_kept m_notePlace m_noteKind m_noteIs m_toldBy m_image ++ fr)) := by
  refine gH.toG (h_aload_n (hX.ok (rt := some .boolean) hn hw) dL_law_1357 rfl rfl (gG.toH ?_))
  refine gH.toG (h_aload_n (hX.ok (rt := some .boolean) hn hw) dL_law_1358 rfl rfl (gG.toH ?_))
  refine gH.toG (h_iload (hX.ok (rt := some .boolean) hn hw) dL_law_1359 rfl (gG.toH ?_))
  refine gH.toG (h_iconst (hX.ok (rt := some .boolean) hn hw) dL_law_1361 ki_1 (gG.toH ?_))
  refine gH.toG (h_iadd (hX.ok (rt := some .boolean) hn hw) dL_law_1362 (gG.toH ?_))
  refine g_sld hX hS hi1 dL_law_1363 ?_
  refine gH.toG (h_aload_n (hX.ok (rt := some .boolean) hn hw) dL_law_1364 rfl rfl (gG.toH ?_))
  refine gH.toG (h_iload (hX.ok (rt := some .boolean) hn hw) dL_law_1365 rfl (gG.toH ?_))
  refine gH.toG (h_iconst (hX.ok (rt := some .boolean) hn hw) dL_law_1367 ki_2 (gG.toH ?_))
  refine gH.toG (h_iadd (hX.ok (rt := some .boolean) hn hw) dL_law_1368 (gG.toH ?_))
  refine g_sld hX hS hi2 dL_law_1369 ?_
  refine gH.toG (h_aload_n (hX.ok (rt := some .boolean) hn hw) dL_law_1370 rfl rfl (gG.toH ?_))
  refine gH.toG (h_iload (hX.ok (rt := some .boolean) hn hw) dL_law_1371 rfl (gG.toH ?_))
  refine gH.toG (h_iconst (hX.ok (rt := some .boolean) hn hw) dL_law_1373 ki_3 (gG.toH ?_))
  refine gH.toG (h_iadd (hX.ok (rt := some .boolean) hn hw) dL_law_1374 (gG.toH ?_))
  refine g_sld hX hS hi3 dL_law_1375 ?_
  refine gG.callVi (hX.ok (rt := some .boolean) hn hw) dL_law_1376 cv_RL_154 (As := [.int (xs (i + 1 : Int32).toNatClampNeg), .int (xs (i + 2 : Int32).toNatClampNeg), .int (xs (i + 3 : Int32).toNatClampNeg)]) (st := []) (c_Main_rests h1) rc_C0 rfl rfl (by decide) (Nat.le_of_ble_eq_true rfl) ?_
  refine gH.toG (h_aload_n (hX.ok (rt := some .boolean) hn hw) dL_law_1379 rfl rfl (gG.toH ?_))
  refine gH.toG (h_aload_n (hX.ok (rt := some .boolean) hn hw) dL_law_1380 rfl rfl (gG.toH ?_))
  refine gH.toG (h_iload (hX.ok (rt := some .boolean) hn hw) dL_law_1381 rfl (gG.toH ?_))
  refine gH.toG (h_iconst (hX.ok (rt := some .boolean) hn hw) dL_law_1383 ki_1 (gG.toH ?_))
  refine gH.toG (h_iadd (hX.ok (rt := some .boolean) hn hw) dL_law_1384 (gG.toH ?_))
  refine g_sld hX hS hi1 dL_law_1385 ?_
  refine gH.toG (h_aload_n (hX.ok (rt := some .boolean) hn hw) dL_law_1386 rfl rfl (gG.toH ?_))
  refine gH.toG (h_iload (hX.ok (rt := some .boolean) hn hw) dL_law_1387 rfl (gG.toH ?_))
  refine gH.toG (h_iconst (hX.ok (rt := some .boolean) hn hw) dL_law_1389 ki_2 (gG.toH ?_))
  refine gH.toG (h_iadd (hX.ok (rt := some .boolean) hn hw) dL_law_1390 (gG.toH ?_))
  refine g_sld hX hS hi2 dL_law_1391 ?_
  refine gH.toG (h_aload_n (hX.ok (rt := some .boolean) hn hw) dL_law_1392 rfl rfl (gG.toH ?_))
  refine gH.toG (h_iload (hX.ok (rt := some .boolean) hn hw) dL_law_1393 rfl (gG.toH ?_))
  refine gH.toG (h_iconst (hX.ok (rt := some .boolean) hn hw) dL_law_1395 ki_3 (gG.toH ?_))
  refine gH.toG (h_iadd (hX.ok (rt := some .boolean) hn hw) dL_law_1396 (gG.toH ?_))
  refine g_sld hX hS hi3 dL_law_1397 ?_
  refine gG.perm gsw ?_
  refine gG.callVi (hX.ok (rt := some .boolean) hn hw) dL_law_1398 cv_RL_157 (As := [.int (xs (i + 1 : Int32).toNatClampNeg), .int (xs (i + 2 : Int32).toNatClampNeg), .int (xs (i + 3 : Int32).toNatClampNeg)]) (st := [.int r1.1]) (c_M_rests h2) rc_M0 rfl rfl (by decide) (Nat.le_of_ble_eq_true rfl) ?_
  refine gG.perm gsw ?_
  exact g_icmpT (hX.ok (rt := some .boolean) hn hw) he dL_law_1401 (tgt := 1742) (by decide) k
theorem wml_RL_158 : Cond.methodLink RL 158 yX10_corner ∈ gT := gw5 (i := 105) rfl rfl
theorem wim_X10_corner : Cond.instanceMethod yX10_corner ∈ gT := gw5 (i := 106) rfl rfl
theorem wsel_X10_corner : Cond.selects RX10 yX10_corner yX10_corner ∈ gT := gw5 (i := 107) rfl rfl
theorem wcod_X10_corner : Cond.code yX10_corner cX10_corner 4 (some .int) ∈ gT := gw5 (i := 108) rfl rfl
theorem cv_RL_158 : gCV RL 158 RX10 yX10_corner cX10_corner 4 (some .int) 1 := ⟨wml_RL_158, wim_X10_corner, wsel_X10_corner, wini_RX10, wcod_X10_corner, rfl, by decide +kernel⟩
theorem wml_RL_161 : Cond.methodLink RL 161 yX11_corner ∈ gT := gw8 (i := 145) rfl rfl
theorem wim_X11_corner : Cond.instanceMethod yX11_corner ∈ gT := gw8 (i := 146) rfl rfl
theorem wsel_X11_corner : Cond.selects RX11 yX11_corner yX11_corner ∈ gT := gw8 (i := 147) rfl rfl
theorem wcod_X11_corner : Cond.code yX11_corner cX11_corner 5 (some .int) ∈ gT := gw8 (i := 148) rfl rfl
theorem cv_RL_161 : gCV RL 161 RX11 yX11_corner cX11_corner 5 (some .int) 1 := ⟨wml_RL_161, wim_X11_corner, wsel_X11_corner, wini_RX11, wcod_X11_corner, rfl, by decide +kernel⟩
set_option maxRecDepth 4000 in
theorem lc_corner (hX : gOkI B X RL cL_law 7 1312 601024 7293034) (hS : gScr X b L xs) (hn : n ≤ 601024) (hw : w ≤ 7293034) {i : Int32} (hi1 : vp_in (i + 1) L) {r1 : Int32} {r2 : Int32} (h1 : f_Main_corner Y_cells Y_clauses N_marbles N_owners (xs (i + 1 : Int32).toNatClampNeg) = some r1) (h2 : f_M_corner m_marbles m_marble m_now (xs (i + 1 : Int32).toNatClampNeg) = some r2) (he : r1 = r2) (k : gG B (gXc X n w) 1742 [(0, .ref b), (1, .ref (aC B 0)), (2, .ref (aM B 0)), (3, .ref qo), (4, .int i)] [] (wdC B W_spillsNow W_drawn T_length T_at T_bytes D_cells D_clauses G_length G_code A_size A_chosen A_codes A_lengths A_stack Y_cells Y_clauses N_marbles N_chipped N_swallowed N_sweets N_day N_owners P_next P_kept P_hasImage P_image P_acts P_entries P_imageEntries S_fewest S_row S_strengths U_size U_found U_places U_kinds U_holds U_fitting U_tally L_letters L_firstCells L_secondCells L_firstBest L_secondBest W_refusals ++ (wdM B m_thrown m_size m_at m_wrong m_deep m_laws m_text m_readBoys m_readMarbles m_readFarms m_boys m_marbles m_farms m_holding m_spills m_acts m_draws m_bestRow m_bestMany m_noted m_hasImage m_tape m_code m_value m_codes m_clauses m_testFrom m_sumFrom m_sumTo m_letters m_stack m_readRule m_readBoy m_readMarble m_readFarm m_rule m_boy m_marble m_farm m_now m_refused m_kept m_notePlace m_noteKind m_noteIs m_toldBy m_image ++ fr))) : gG B (gXc X n w) 1406 [(0, .ref b), (1, .ref (aC B 0)), (2, .ref (aM B 0)), (3, .ref qo), (4, .int i)] [] (wdC B W_spillsNow W_drawn T_length T_at T_bytes D_cells D_clauses G_length G_code A_size A_chosen A_codes A_lengths A_stack Y_cells Y_clauses N_marbles N_chipped N_swallowed N_sweets N_day N_owners P_next P_kept P_hasImage P_image P_acts P_entries P_imageEntries S_fewest S_row S_strengths U_size U_found U_places U_kinds U_holds U_fitting U_tally L_letters L_firstCells L_secondCells L_firstBest L_secondBest W_refusals ++ (wdM B m_thrown m_size m_at m_wrong m_deep m_laws m_text m_readBoys m_readMarbles m_readFarms m_boys m_marbles m_farms m_holding m_spills m_acts m_draws m_bestRow m_bestMany m_noted m_hasImage m_tape m_code m_value m_codes m_clauses m_testFrom m_sumFrom m_sumTo m_letters m_stack m_readRule m_readBoy m_readMarble m_readFarm m_rule m_boy m_marble m_farm m_now m_refused m_kept m_notePlace m_noteKind m_noteIs m_toldBy m_image ++ fr)) := by
  refine gH.toG (h_aload_n (hX.ok (rt := some .boolean) hn hw) dL_law_1406 rfl rfl (gG.toH ?_))
  refine gH.toG (h_aload_n (hX.ok (rt := some .boolean) hn hw) dL_law_1407 rfl rfl (gG.toH ?_))
  refine gH.toG (h_iload (hX.ok (rt := some .boolean) hn hw) dL_law_1408 rfl (gG.toH ?_))
  refine gH.toG (h_iconst (hX.ok (rt := some .boolean) hn hw) dL_law_1410 ki_1 (gG.toH ?_))
  refine gH.toG (h_iadd (hX.ok (rt := some .boolean) hn hw) dL_law_1411 (gG.toH ?_))
  refine g_sld hX hS hi1 dL_law_1412 ?_
  refine gG.callVi (hX.ok (rt := some .boolean) hn hw) dL_law_1413 cv_RL_158 (As := [.int (xs (i + 1 : Int32).toNatClampNeg)]) (st := []) (c_Main_corner h1) rc_C0 rfl rfl (by decide) (Nat.le_of_ble_eq_true rfl) ?_
  refine gH.toG (h_aload_n (hX.ok (rt := some .boolean) hn hw) dL_law_1416 rfl rfl (gG.toH ?_))
  refine gH.toG (h_aload_n (hX.ok (rt := some .boolean) hn hw) dL_law_1417 rfl rfl (gG.toH ?_))
  refine gH.toG (h_iload (hX.ok (rt := some .boolean) hn hw) dL_law_1418 rfl (gG.toH ?_))
  refine gH.toG (h_iconst (hX.ok (rt := some .boolean) hn hw) dL_law_1420 ki_1 (gG.toH ?_))
  refine gH.toG (h_iadd (hX.ok (rt := some .boolean) hn hw) dL_law_1421 (gG.toH ?_))
  refine g_sld hX hS hi1 dL_law_1422 ?_
  refine gG.perm gsw ?_
  refine gG.callVi (hX.ok (rt := some .boolean) hn hw) dL_law_1423 cv_RL_161 (As := [.int (xs (i + 1 : Int32).toNatClampNeg)]) (st := [.int r1]) (c_M_corner h2) rc_M0 rfl rfl (by decide) (Nat.le_of_ble_eq_true rfl) ?_
  refine gG.perm gsw ?_
  exact g_icmpT (hX.ok (rt := some .boolean) hn hw) he dL_law_1426 (tgt := 1742) (by decide) k
theorem wml_RL_162 : Cond.methodLink RL 162 yX10_liking ∈ gT := gw5 (i := 109) rfl rfl
theorem wim_X10_liking : Cond.instanceMethod yX10_liking ∈ gT := gw5 (i := 110) rfl rfl
theorem wsel_X10_liking : Cond.selects RX10 yX10_liking yX10_liking ∈ gT := gw5 (i := 111) rfl rfl
theorem wcod_X10_liking : Cond.code yX10_liking cX10_liking 3 (some .int) ∈ gT := gw5 (i := 112) rfl rfl
theorem cv_RL_162 : gCV RL 162 RX10 yX10_liking cX10_liking 3 (some .int) 2 := ⟨wml_RL_162, wim_X10_liking, wsel_X10_liking, wini_RX10, wcod_X10_liking, rfl, by decide +kernel⟩
theorem wml_RL_165 : Cond.methodLink RL 165 yX11_liking ∈ gT := gw8 (i := 149) rfl rfl
theorem wim_X11_liking : Cond.instanceMethod yX11_liking ∈ gT := gw8 (i := 150) rfl rfl
theorem wsel_X11_liking : Cond.selects RX11 yX11_liking yX11_liking ∈ gT := gw8 (i := 151) rfl rfl
theorem wcod_X11_liking : Cond.code yX11_liking cX11_liking 3 (some .int) ∈ gT := gw8 (i := 152) rfl rfl
theorem cv_RL_165 : gCV RL 165 RX11 yX11_liking cX11_liking 3 (some .int) 2 := ⟨wml_RL_165, wim_X11_liking, wsel_X11_liking, wini_RX11, wcod_X11_liking, rfl, by decide +kernel⟩
set_option maxRecDepth 4000 in
theorem lc_liking (hX : gOkI B X RL cL_law 7 1312 601024 7293034) (hS : gScr X b L xs) (hn : n ≤ 601024) (hw : w ≤ 7293034) {i : Int32} (hi1 : vp_in (i + 1) L) (hi2 : vp_in (i + 2) L) {r1 : Int32} {r2 : Int32} (h1 : f_Main_liking Y_cells Y_clauses N_chipped (xs (i + 1 : Int32).toNatClampNeg) (xs (i + 2 : Int32).toNatClampNeg) = some r1) (h2 : f_M_liking m_boys m_marbles m_farms m_boy m_marble m_farm m_now (xs (i + 1 : Int32).toNatClampNeg) (xs (i + 2 : Int32).toNatClampNeg) = some r2) (he : r1 = r2) (k : gG B (gXc X n w) 1742 [(0, .ref b), (1, .ref (aC B 0)), (2, .ref (aM B 0)), (3, .ref qo), (4, .int i)] [] (wdC B W_spillsNow W_drawn T_length T_at T_bytes D_cells D_clauses G_length G_code A_size A_chosen A_codes A_lengths A_stack Y_cells Y_clauses N_marbles N_chipped N_swallowed N_sweets N_day N_owners P_next P_kept P_hasImage P_image P_acts P_entries P_imageEntries S_fewest S_row S_strengths U_size U_found U_places U_kinds U_holds U_fitting U_tally L_letters L_firstCells L_secondCells L_firstBest L_secondBest W_refusals ++ (wdM B m_thrown m_size m_at m_wrong m_deep m_laws m_text m_readBoys m_readMarbles m_readFarms m_boys m_marbles m_farms m_holding m_spills m_acts m_draws m_bestRow m_bestMany m_noted m_hasImage m_tape m_code m_value m_codes m_clauses m_testFrom m_sumFrom m_sumTo m_letters m_stack m_readRule m_readBoy m_readMarble m_readFarm m_rule m_boy m_marble m_farm m_now m_refused m_kept m_notePlace m_noteKind m_noteIs m_toldBy m_image ++ fr))) : gG B (gXc X n w) 1431 [(0, .ref b), (1, .ref (aC B 0)), (2, .ref (aM B 0)), (3, .ref qo), (4, .int i)] [] (wdC B W_spillsNow W_drawn T_length T_at T_bytes D_cells D_clauses G_length G_code A_size A_chosen A_codes A_lengths A_stack Y_cells Y_clauses N_marbles N_chipped N_swallowed N_sweets N_day N_owners P_next P_kept P_hasImage P_image P_acts P_entries P_imageEntries S_fewest S_row S_strengths U_size U_found U_places U_kinds U_holds U_fitting U_tally L_letters L_firstCells L_secondCells L_firstBest L_secondBest W_refusals ++ (wdM B m_thrown m_size m_at m_wrong m_deep m_laws m_text m_readBoys m_readMarbles m_readFarms m_boys m_marbles m_farms m_holding m_spills m_acts m_draws m_bestRow m_bestMany m_noted m_hasImage m_tape m_code m_value m_codes m_clauses m_testFrom m_sumFrom m_sumTo m_letters m_stack m_readRule m_readBoy m_readMarble m_readFarm m_rule m_boy m_marble m_farm m_now m_refused m_kept m_notePlace m_noteKind m_noteIs m_toldBy m_image ++ fr)) := by
  refine gH.toG (h_aload_n (hX.ok (rt := some .boolean) hn hw) dL_law_1431 rfl rfl (gG.toH ?_))
  refine gH.toG (h_aload_n (hX.ok (rt := some .boolean) hn hw) dL_law_1432 rfl rfl (gG.toH ?_))
  refine gH.toG (h_iload (hX.ok (rt := some .boolean) hn hw) dL_law_1433 rfl (gG.toH ?_))
  refine gH.toG (h_iconst (hX.ok (rt := some .boolean) hn hw) dL_law_1435 ki_1 (gG.toH ?_))
  refine gH.toG (h_iadd (hX.ok (rt := some .boolean) hn hw) dL_law_1436 (gG.toH ?_))
  refine g_sld hX hS hi1 dL_law_1437 ?_
  refine gH.toG (h_aload_n (hX.ok (rt := some .boolean) hn hw) dL_law_1438 rfl rfl (gG.toH ?_))
  refine gH.toG (h_iload (hX.ok (rt := some .boolean) hn hw) dL_law_1439 rfl (gG.toH ?_))
  refine gH.toG (h_iconst (hX.ok (rt := some .boolean) hn hw) dL_law_1441 ki_2 (gG.toH ?_))
  refine gH.toG (h_iadd (hX.ok (rt := some .boolean) hn hw) dL_law_1442 (gG.toH ?_))
  refine g_sld hX hS hi2 dL_law_1443 ?_
  refine gG.callVi (hX.ok (rt := some .boolean) hn hw) dL_law_1444 cv_RL_162 (As := [.int (xs (i + 1 : Int32).toNatClampNeg), .int (xs (i + 2 : Int32).toNatClampNeg)]) (st := []) (c_Main_liking h1) rc_C0 rfl rfl (by decide) (Nat.le_of_ble_eq_true rfl) ?_
  refine gH.toG (h_aload_n (hX.ok (rt := some .boolean) hn hw) dL_law_1447 rfl rfl (gG.toH ?_))
  refine gH.toG (h_aload_n (hX.ok (rt := some .boolean) hn hw) dL_law_1448 rfl rfl (gG.toH ?_))
  refine gH.toG (h_iload (hX.ok (rt := some .boolean) hn hw) dL_law_1449 rfl (gG.toH ?_))
  refine gH.toG (h_iconst (hX.ok (rt := some .boolean) hn hw) dL_law_1451 ki_1 (gG.toH ?_))
  refine gH.toG (h_iadd (hX.ok (rt := some .boolean) hn hw) dL_law_1452 (gG.toH ?_))
  refine g_sld hX hS hi1 dL_law_1453 ?_
  refine gH.toG (h_aload_n (hX.ok (rt := some .boolean) hn hw) dL_law_1454 rfl rfl (gG.toH ?_))
  refine gH.toG (h_iload (hX.ok (rt := some .boolean) hn hw) dL_law_1455 rfl (gG.toH ?_))
  refine gH.toG (h_iconst (hX.ok (rt := some .boolean) hn hw) dL_law_1457 ki_2 (gG.toH ?_))
  refine gH.toG (h_iadd (hX.ok (rt := some .boolean) hn hw) dL_law_1458 (gG.toH ?_))
  refine g_sld hX hS hi2 dL_law_1459 ?_
  refine gG.perm gsw ?_
  refine gG.callVi (hX.ok (rt := some .boolean) hn hw) dL_law_1460 cv_RL_165 (As := [.int (xs (i + 1 : Int32).toNatClampNeg), .int (xs (i + 2 : Int32).toNatClampNeg)]) (st := [.int r1]) (c_M_liking h2) rc_M0 rfl rfl (by decide) (Nat.le_of_ble_eq_true rfl) ?_
  refine gG.perm gsw ?_
  exact g_icmpT (hX.ok (rt := some .boolean) hn hw) he dL_law_1463 (tgt := 1742) (by decide) k
theorem wml_RL_166 : Cond.methodLink RL 166 yX10_trades ∈ gT := gw5 (i := 120) rfl rfl
theorem wim_X10_trades : Cond.instanceMethod yX10_trades ∈ gT := gw5 (i := 121) rfl rfl
theorem wsel_X10_trades : Cond.selects RX10 yX10_trades yX10_trades ∈ gT := gw5 (i := 122) rfl rfl
theorem wcod_X10_trades : Cond.code yX10_trades cX10_trades 5 (some .int) ∈ gT := gw5 (i := 123) rfl rfl
theorem cv_RL_166 : gCV RL 166 RX10 yX10_trades cX10_trades 5 (some .int) 1 := ⟨wml_RL_166, wim_X10_trades, wsel_X10_trades, wini_RX10, wcod_X10_trades, rfl, by decide +kernel⟩
theorem wml_RL_169 : Cond.methodLink RL 169 yX11_trades ∈ gT := gw8 (i := 157) rfl rfl
theorem wim_X11_trades : Cond.instanceMethod yX11_trades ∈ gT := gw8 (i := 158) rfl rfl
theorem wsel_X11_trades : Cond.selects RX11 yX11_trades yX11_trades ∈ gT := gw8 (i := 159) rfl rfl
theorem wcod_X11_trades : Cond.code yX11_trades cX11_trades 5 (some .int) ∈ gT := gw8 (i := 160) rfl rfl
theorem cv_RL_169 : gCV RL 169 RX11 yX11_trades cX11_trades 5 (some .int) 1 := ⟨wml_RL_169, wim_X11_trades, wsel_X11_trades, wini_RX11, wcod_X11_trades, rfl, by decide +kernel⟩
set_option maxRecDepth 4000 in
theorem lc_trades (hX : gOkI B X RL cL_law 7 1312 601024 7293034) (hS : gScr X b L xs) (hn : n ≤ 601024) (hw : w ≤ 7293034) {i : Int32} (hi1 : vp_in (i + 1) L) {r1 : Int32} {r2 : Int32} (h1 : f_Main_trades Y_cells Y_clauses N_marbles N_chipped N_swallowed N_owners (xs (i + 1 : Int32).toNatClampNeg) = some r1) (h2 : f_M_trades m_marbles m_farms m_boy m_marble m_farm m_now (xs (i + 1 : Int32).toNatClampNeg) = some r2) (he : r1 = r2) (k : gG B (gXc X n w) 1742 [(0, .ref b), (1, .ref (aC B 0)), (2, .ref (aM B 0)), (3, .ref qo), (4, .int i)] [] (wdC B W_spillsNow W_drawn T_length T_at T_bytes D_cells D_clauses G_length G_code A_size A_chosen A_codes A_lengths A_stack Y_cells Y_clauses N_marbles N_chipped N_swallowed N_sweets N_day N_owners P_next P_kept P_hasImage P_image P_acts P_entries P_imageEntries S_fewest S_row S_strengths U_size U_found U_places U_kinds U_holds U_fitting U_tally L_letters L_firstCells L_secondCells L_firstBest L_secondBest W_refusals ++ (wdM B m_thrown m_size m_at m_wrong m_deep m_laws m_text m_readBoys m_readMarbles m_readFarms m_boys m_marbles m_farms m_holding m_spills m_acts m_draws m_bestRow m_bestMany m_noted m_hasImage m_tape m_code m_value m_codes m_clauses m_testFrom m_sumFrom m_sumTo m_letters m_stack m_readRule m_readBoy m_readMarble m_readFarm m_rule m_boy m_marble m_farm m_now m_refused m_kept m_notePlace m_noteKind m_noteIs m_toldBy m_image ++ fr))) : gG B (gXc X n w) 1468 [(0, .ref b), (1, .ref (aC B 0)), (2, .ref (aM B 0)), (3, .ref qo), (4, .int i)] [] (wdC B W_spillsNow W_drawn T_length T_at T_bytes D_cells D_clauses G_length G_code A_size A_chosen A_codes A_lengths A_stack Y_cells Y_clauses N_marbles N_chipped N_swallowed N_sweets N_day N_owners P_next P_kept P_hasImage P_image P_acts P_entries P_imageEntries S_fewest S_row S_strengths U_size U_found U_places U_kinds U_holds U_fitting U_tally L_letters L_firstCells L_secondCells L_firstBest L_secondBest W_refusals ++ (wdM B m_thrown m_size m_at m_wrong m_deep m_laws m_text m_readBoys m_readMarbles m_readFarms m_boys m_marbles m_farms m_holding m_spills m_acts m_draws m_bestRow m_bestMany m_noted m_hasImage m_tape m_code m_value m_codes m_clauses m_testFrom m_sumFrom m_sumTo m_letters m_stack m_readRule m_readBoy m_readMarble m_readFarm m_rule m_boy m_marble m_farm m_now m_refused m_kept m_notePlace m_noteKind m_noteIs m_toldBy m_image ++ fr)) := by
  refine gH.toG (h_aload_n (hX.ok (rt := some .boolean) hn hw) dL_law_1468 rfl rfl (gG.toH ?_))
  refine gH.toG (h_aload_n (hX.ok (rt := some .boolean) hn hw) dL_law_1469 rfl rfl (gG.toH ?_))
  refine gH.toG (h_iload (hX.ok (rt := some .boolean) hn hw) dL_law_1470 rfl (gG.toH ?_))
  refine gH.toG (h_iconst (hX.ok (rt := some .boolean) hn hw) dL_law_1472 ki_1 (gG.toH ?_))
  refine gH.toG (h_iadd (hX.ok (rt := some .boolean) hn hw) dL_law_1473 (gG.toH ?_))
  refine g_sld hX hS hi1 dL_law_1474 ?_
  refine gG.callVi (hX.ok (rt := some .boolean) hn hw) dL_law_1475 cv_RL_166 (As := [.int (xs (i + 1 : Int32).toNatClampNeg)]) (st := []) (c_Main_trades h1) rc_C0 rfl rfl (by decide) (Nat.le_of_ble_eq_true rfl) ?_
  refine gH.toG (h_aload_n (hX.ok (rt := some .boolean) hn hw) dL_law_1478 rfl rfl (gG.toH ?_))
  refine gH.toG (h_aload_n (hX.ok (rt := some .boolean) hn hw) dL_law_1479 rfl rfl (gG.toH ?_))
  refine gH.toG (h_iload (hX.ok (rt := some .boolean) hn hw) dL_law_1480 rfl (gG.toH ?_))
  refine gH.toG (h_iconst (hX.ok (rt := some .boolean) hn hw) dL_law_1482 ki_1 (gG.toH ?_))
  refine gH.toG (h_iadd (hX.ok (rt := some .boolean) hn hw) dL_law_1483 (gG.toH ?_))
  refine g_sld hX hS hi1 dL_law_1484 ?_
  refine gG.perm gsw ?_
  refine gG.callVi (hX.ok (rt := some .boolean) hn hw) dL_law_1485 cv_RL_169 (As := [.int (xs (i + 1 : Int32).toNatClampNeg)]) (st := [.int r1]) (c_M_trades h2) rc_M0 rfl rfl (by decide) (Nat.le_of_ble_eq_true rfl) ?_
  refine gG.perm gsw ?_
  exact g_icmpT (hX.ok (rt := some .boolean) hn hw) he dL_law_1488 (tgt := 1742) (by decide) k
theorem wml_RL_170 : Cond.methodLink RL 170 yX10_odds ∈ gT := gw4 (i := 202) rfl rfl
theorem wim_X10_odds : Cond.instanceMethod yX10_odds ∈ gT := gw4 (i := 203) rfl rfl
theorem wsel_X10_odds : Cond.selects RX10 yX10_odds yX10_odds ∈ gT := gw4 (i := 204) rfl rfl
theorem wcod_X10_odds : Cond.code yX10_odds cX10_odds 8 (some .int) ∈ gT := gw4 (i := 205) rfl rfl
theorem cv_RL_170 : gCV RL 170 RX10 yX10_odds cX10_odds 8 (some .int) 5 := ⟨wml_RL_170, wim_X10_odds, wsel_X10_odds, wini_RX10, wcod_X10_odds, rfl, by decide +kernel⟩
theorem wml_RL_173 : Cond.methodLink RL 173 yX11_odds ∈ gT := gw8 (i := 165) rfl rfl
theorem wim_X11_odds : Cond.instanceMethod yX11_odds ∈ gT := gw8 (i := 166) rfl rfl
theorem wsel_X11_odds : Cond.selects RX11 yX11_odds yX11_odds ∈ gT := gw8 (i := 167) rfl rfl
theorem wcod_X11_odds : Cond.code yX11_odds cX11_odds 12 (some .int) ∈ gT := gw8 (i := 168) rfl rfl
theorem cv_RL_173 : gCV RL 173 RX11 yX11_odds cX11_odds 12 (some .int) 5 := ⟨wml_RL_173, wim_X11_odds, wsel_X11_odds, wini_RX11, wcod_X11_odds, rfl, by decide +kernel⟩
set_option maxRecDepth 4000 in
theorem lc_odds (hX : gOkI B X RL cL_law 7 1312 601024 7293034) (hS : gScr X b L xs) (hn : n ≤ 601024) (hw : w ≤ 7293034) {i : Int32} (hi1 : vp_in (i + 1) L) (hi2 : vp_in (i + 2) L) (hi3 : vp_in (i + 3) L) (hi4 : vp_in (i + 4) L) (hi5 : vp_in (i + 5) L) {r1 : (Int32 × (Nat → Int32) × (Nat → Int32))} {r2 : (Int32 × (Nat → Int32) × (Nat → Int32))} (h1 : f_Main_odds A_size A_chosen A_codes A_lengths A_stack Y_cells Y_clauses N_marbles N_chipped N_swallowed N_day N_owners L_letters (xs (i + 1 : Int32).toNatClampNeg) (xs (i + 2 : Int32).toNatClampNeg) (xs (i + 3 : Int32).toNatClampNeg) (xs (i + 4 : Int32).toNatClampNeg) (xs (i + 5 : Int32).toNatClampNeg) = some r1) (h2 : f_M_odds m_marbles m_holding m_code m_value m_clauses m_testFrom m_sumFrom m_sumTo m_letters m_stack m_rule m_boy m_marble m_now (xs (i + 1 : Int32).toNatClampNeg) (xs (i + 2 : Int32).toNatClampNeg) (xs (i + 3 : Int32).toNatClampNeg) (xs (i + 4 : Int32).toNatClampNeg) (xs (i + 5 : Int32).toNatClampNeg) = some r2) (he : r1.1 = r2.1) (k : gG B (gXc X n w) 1742 [(0, .ref b), (1, .ref (aC B 0)), (2, .ref (aM B 0)), (3, .ref qo), (4, .int i)] [] (wdC B W_spillsNow W_drawn T_length T_at T_bytes D_cells D_clauses G_length G_code A_size A_chosen A_codes A_lengths r1.2.1 Y_cells Y_clauses N_marbles N_chipped N_swallowed N_sweets N_day N_owners P_next P_kept P_hasImage P_image P_acts P_entries P_imageEntries S_fewest S_row S_strengths U_size U_found U_places U_kinds U_holds U_fitting U_tally r1.2.2 L_firstCells L_secondCells L_firstBest L_secondBest W_refusals ++ (wdM B m_thrown m_size m_at m_wrong m_deep m_laws m_text m_readBoys m_readMarbles m_readFarms m_boys m_marbles m_farms m_holding m_spills m_acts m_draws m_bestRow m_bestMany m_noted m_hasImage m_tape m_code m_value m_codes m_clauses m_testFrom m_sumFrom m_sumTo r2.2.1 r2.2.2 m_readRule m_readBoy m_readMarble m_readFarm m_rule m_boy m_marble m_farm m_now m_refused m_kept m_notePlace m_noteKind m_noteIs m_toldBy m_image ++ fr))) : gG B (gXc X n w) 1493 [(0, .ref b), (1, .ref (aC B 0)), (2, .ref (aM B 0)), (3, .ref qo), (4, .int i)] [] (wdC B W_spillsNow W_drawn T_length T_at T_bytes D_cells D_clauses G_length G_code A_size A_chosen A_codes A_lengths A_stack Y_cells Y_clauses N_marbles N_chipped N_swallowed N_sweets N_day N_owners P_next P_kept P_hasImage P_image P_acts P_entries P_imageEntries S_fewest S_row S_strengths U_size U_found U_places U_kinds U_holds U_fitting U_tally L_letters L_firstCells L_secondCells L_firstBest L_secondBest W_refusals ++ (wdM B m_thrown m_size m_at m_wrong m_deep m_laws m_text m_readBoys m_readMarbles m_readFarms m_boys m_marbles m_farms m_holding m_spills m_acts m_draws m_bestRow m_bestMany m_noted m_hasImage m_tape m_code m_value m_codes m_clauses m_testFrom m_sumFrom m_sumTo m_letters m_stack m_readRule m_readBoy m_readMarble m_readFarm m_rule m_boy m_marble m_farm m_now m_refused m_kept m_notePlace m_noteKind m_noteIs m_toldBy m_image ++ fr)) := by
  refine gH.toG (h_aload_n (hX.ok (rt := some .boolean) hn hw) dL_law_1493 rfl rfl (gG.toH ?_))
  refine gH.toG (h_aload_n (hX.ok (rt := some .boolean) hn hw) dL_law_1494 rfl rfl (gG.toH ?_))
  refine gH.toG (h_iload (hX.ok (rt := some .boolean) hn hw) dL_law_1495 rfl (gG.toH ?_))
  refine gH.toG (h_iconst (hX.ok (rt := some .boolean) hn hw) dL_law_1497 ki_1 (gG.toH ?_))
  refine gH.toG (h_iadd (hX.ok (rt := some .boolean) hn hw) dL_law_1498 (gG.toH ?_))
  refine g_sld hX hS hi1 dL_law_1499 ?_
  refine gH.toG (h_aload_n (hX.ok (rt := some .boolean) hn hw) dL_law_1500 rfl rfl (gG.toH ?_))
  refine gH.toG (h_iload (hX.ok (rt := some .boolean) hn hw) dL_law_1501 rfl (gG.toH ?_))
  refine gH.toG (h_iconst (hX.ok (rt := some .boolean) hn hw) dL_law_1503 ki_2 (gG.toH ?_))
  refine gH.toG (h_iadd (hX.ok (rt := some .boolean) hn hw) dL_law_1504 (gG.toH ?_))
  refine g_sld hX hS hi2 dL_law_1505 ?_
  refine gH.toG (h_aload_n (hX.ok (rt := some .boolean) hn hw) dL_law_1506 rfl rfl (gG.toH ?_))
  refine gH.toG (h_iload (hX.ok (rt := some .boolean) hn hw) dL_law_1507 rfl (gG.toH ?_))
  refine gH.toG (h_iconst (hX.ok (rt := some .boolean) hn hw) dL_law_1509 ki_3 (gG.toH ?_))
  refine gH.toG (h_iadd (hX.ok (rt := some .boolean) hn hw) dL_law_1510 (gG.toH ?_))
  refine g_sld hX hS hi3 dL_law_1511 ?_
  refine gH.toG (h_aload_n (hX.ok (rt := some .boolean) hn hw) dL_law_1512 rfl rfl (gG.toH ?_))
  refine gH.toG (h_iload (hX.ok (rt := some .boolean) hn hw) dL_law_1513 rfl (gG.toH ?_))
  refine gH.toG (h_iconst (hX.ok (rt := some .boolean) hn hw) dL_law_1515 ki_4 (gG.toH ?_))
  refine gH.toG (h_iadd (hX.ok (rt := some .boolean) hn hw) dL_law_1516 (gG.toH ?_))
  refine g_sld hX hS hi4 dL_law_1517 ?_
  refine gH.toG (h_aload_n (hX.ok (rt := some .boolean) hn hw) dL_law_1518 rfl rfl (gG.toH ?_))
  refine gH.toG (h_iload (hX.ok (rt := some .boolean) hn hw) dL_law_1519 rfl (gG.toH ?_))
  refine gH.toG (h_iconst (hX.ok (rt := some .boolean) hn hw) dL_law_1521 ki_5 (gG.toH ?_))
  refine gH.toG (h_iadd (hX.ok (rt := some .boolean) hn hw) dL_law_1522 (gG.toH ?_))
  refine g_sld hX hS hi5 dL_law_1523 ?_
  refine gG.callVi (hX.ok (rt := some .boolean) hn hw) dL_law_1524 cv_RL_170 (As := [.int (xs (i + 1 : Int32).toNatClampNeg), .int (xs (i + 2 : Int32).toNatClampNeg), .int (xs (i + 3 : Int32).toNatClampNeg), .int (xs (i + 4 : Int32).toNatClampNeg), .int (xs (i + 5 : Int32).toNatClampNeg)]) (st := []) (c_Main_odds h1) rc_C0 rfl rfl (by decide) (Nat.le_of_ble_eq_true rfl) ?_
  refine gH.toG (h_aload_n (hX.ok (rt := some .boolean) hn hw) dL_law_1527 rfl rfl (gG.toH ?_))
  refine gH.toG (h_aload_n (hX.ok (rt := some .boolean) hn hw) dL_law_1528 rfl rfl (gG.toH ?_))
  refine gH.toG (h_iload (hX.ok (rt := some .boolean) hn hw) dL_law_1529 rfl (gG.toH ?_))
  refine gH.toG (h_iconst (hX.ok (rt := some .boolean) hn hw) dL_law_1531 ki_1 (gG.toH ?_))
  refine gH.toG (h_iadd (hX.ok (rt := some .boolean) hn hw) dL_law_1532 (gG.toH ?_))
  refine g_sld hX hS hi1 dL_law_1533 ?_
  refine gH.toG (h_aload_n (hX.ok (rt := some .boolean) hn hw) dL_law_1534 rfl rfl (gG.toH ?_))
  refine gH.toG (h_iload (hX.ok (rt := some .boolean) hn hw) dL_law_1535 rfl (gG.toH ?_))
  refine gH.toG (h_iconst (hX.ok (rt := some .boolean) hn hw) dL_law_1537 ki_2 (gG.toH ?_))
  refine gH.toG (h_iadd (hX.ok (rt := some .boolean) hn hw) dL_law_1538 (gG.toH ?_))
  refine g_sld hX hS hi2 dL_law_1539 ?_
  refine gH.toG (h_aload_n (hX.ok (rt := some .boolean) hn hw) dL_law_1540 rfl rfl (gG.toH ?_))
  refine gH.toG (h_iload (hX.ok (rt := some .boolean) hn hw) dL_law_1541 rfl (gG.toH ?_))
  refine gH.toG (h_iconst (hX.ok (rt := some .boolean) hn hw) dL_law_1543 ki_3 (gG.toH ?_))
  refine gH.toG (h_iadd (hX.ok (rt := some .boolean) hn hw) dL_law_1544 (gG.toH ?_))
  refine g_sld hX hS hi3 dL_law_1545 ?_
  refine gH.toG (h_aload_n (hX.ok (rt := some .boolean) hn hw) dL_law_1546 rfl rfl (gG.toH ?_))
  refine gH.toG (h_iload (hX.ok (rt := some .boolean) hn hw) dL_law_1547 rfl (gG.toH ?_))
  refine gH.toG (h_iconst (hX.ok (rt := some .boolean) hn hw) dL_law_1549 ki_4 (gG.toH ?_))
  refine gH.toG (h_iadd (hX.ok (rt := some .boolean) hn hw) dL_law_1550 (gG.toH ?_))
  refine g_sld hX hS hi4 dL_law_1551 ?_
  refine gH.toG (h_aload_n (hX.ok (rt := some .boolean) hn hw) dL_law_1552 rfl rfl (gG.toH ?_))
  refine gH.toG (h_iload (hX.ok (rt := some .boolean) hn hw) dL_law_1553 rfl (gG.toH ?_))
  refine gH.toG (h_iconst (hX.ok (rt := some .boolean) hn hw) dL_law_1555 ki_5 (gG.toH ?_))
  refine gH.toG (h_iadd (hX.ok (rt := some .boolean) hn hw) dL_law_1556 (gG.toH ?_))
  refine g_sld hX hS hi5 dL_law_1557 ?_
  refine gG.perm gsw ?_
  refine gG.callVi (hX.ok (rt := some .boolean) hn hw) dL_law_1558 cv_RL_173 (As := [.int (xs (i + 1 : Int32).toNatClampNeg), .int (xs (i + 2 : Int32).toNatClampNeg), .int (xs (i + 3 : Int32).toNatClampNeg), .int (xs (i + 4 : Int32).toNatClampNeg), .int (xs (i + 5 : Int32).toNatClampNeg)]) (st := [.int r1.1]) (c_M_odds h2) rc_M0 rfl rfl (by decide) (Nat.le_of_ble_eq_true rfl) ?_
  refine gG.perm gsw ?_
  exact g_icmpT (hX.ok (rt := some .boolean) hn hw) he dL_law_1561 (tgt := 1742) (by decide) k
theorem wml_RL_174 : Cond.methodLink RL 174 yX10_shares ∈ gT := gw5 (i := 128) rfl rfl
theorem wim_X10_shares : Cond.instanceMethod yX10_shares ∈ gT := gw5 (i := 129) rfl rfl
theorem wsel_X10_shares : Cond.selects RX10 yX10_shares yX10_shares ∈ gT := gw5 (i := 130) rfl rfl
theorem wcod_X10_shares : Cond.code yX10_shares cX10_shares 6 (some .int) ∈ gT := gw5 (i := 131) rfl rfl
theorem cv_RL_174 : gCV RL 174 RX10 yX10_shares cX10_shares 6 (some .int) 2 := ⟨wml_RL_174, wim_X10_shares, wsel_X10_shares, wini_RX10, wcod_X10_shares, rfl, by decide +kernel⟩
theorem wml_RL_177 : Cond.methodLink RL 177 yX11_shares ∈ gT := gw8 (i := 177) rfl rfl
theorem wim_X11_shares : Cond.instanceMethod yX11_shares ∈ gT := gw8 (i := 178) rfl rfl
theorem wsel_X11_shares : Cond.selects RX11 yX11_shares yX11_shares ∈ gT := gw8 (i := 179) rfl rfl
theorem wcod_X11_shares : Cond.code yX11_shares cX11_shares 4 (some .int) ∈ gT := gw8 (i := 180) rfl rfl
theorem cv_RL_177 : gCV RL 177 RX11 yX11_shares cX11_shares 4 (some .int) 2 := ⟨wml_RL_177, wim_X11_shares, wsel_X11_shares, wini_RX11, wcod_X11_shares, rfl, by decide +kernel⟩
set_option maxRecDepth 4000 in
theorem lc_shares (hX : gOkI B X RL cL_law 7 1312 601024 7293034) (hS : gScr X b L xs) (hn : n ≤ 601024) (hw : w ≤ 7293034) {i : Int32} (hi1 : vp_in (i + 1) L) (hi2 : vp_in (i + 2) L) {r1 : Int32} {r2 : Int32} (h1 : f_Main_shares Y_cells Y_clauses N_marbles N_owners (xs (i + 1 : Int32).toNatClampNeg) (xs (i + 2 : Int32).toNatClampNeg) = some r1) (h2 : f_M_shares m_boys m_marbles m_marble m_now (xs (i + 1 : Int32).toNatClampNeg) (xs (i + 2 : Int32).toNatClampNeg) = some r2) (he : r1 = r2) (k : gG B (gXc X n w) 1742 [(0, .ref b), (1, .ref (aC B 0)), (2, .ref (aM B 0)), (3, .ref qo), (4, .int i)] [] (wdC B W_spillsNow W_drawn T_length T_at T_bytes D_cells D_clauses G_length G_code A_size A_chosen A_codes A_lengths A_stack Y_cells Y_clauses N_marbles N_chipped N_swallowed N_sweets N_day N_owners P_next P_kept P_hasImage P_image P_acts P_entries P_imageEntries S_fewest S_row S_strengths U_size U_found U_places U_kinds U_holds U_fitting U_tally L_letters L_firstCells L_secondCells L_firstBest L_secondBest W_refusals ++ (wdM B m_thrown m_size m_at m_wrong m_deep m_laws m_text m_readBoys m_readMarbles m_readFarms m_boys m_marbles m_farms m_holding m_spills m_acts m_draws m_bestRow m_bestMany m_noted m_hasImage m_tape m_code m_value m_codes m_clauses m_testFrom m_sumFrom m_sumTo m_letters m_stack m_readRule m_readBoy m_readMarble m_readFarm m_rule m_boy m_marble m_farm m_now m_refused m_kept m_notePlace m_noteKind m_noteIs m_toldBy m_image ++ fr))) : gG B (gXc X n w) 1566 [(0, .ref b), (1, .ref (aC B 0)), (2, .ref (aM B 0)), (3, .ref qo), (4, .int i)] [] (wdC B W_spillsNow W_drawn T_length T_at T_bytes D_cells D_clauses G_length G_code A_size A_chosen A_codes A_lengths A_stack Y_cells Y_clauses N_marbles N_chipped N_swallowed N_sweets N_day N_owners P_next P_kept P_hasImage P_image P_acts P_entries P_imageEntries S_fewest S_row S_strengths U_size U_found U_places U_kinds U_holds U_fitting U_tally L_letters L_firstCells L_secondCells L_firstBest L_secondBest W_refusals ++ (wdM B m_thrown m_size m_at m_wrong m_deep m_laws m_text m_readBoys m_readMarbles m_readFarms m_boys m_marbles m_farms m_holding m_spills m_acts m_draws m_bestRow m_bestMany m_noted m_hasImage m_tape m_code m_value m_codes m_clauses m_testFrom m_sumFrom m_sumTo m_letters m_stack m_readRule m_readBoy m_readMarble m_readFarm m_rule m_boy m_marble m_farm m_now m_refused m_kept m_notePlace m_noteKind m_noteIs m_toldBy m_image ++ fr)) := by
  refine gH.toG (h_aload_n (hX.ok (rt := some .boolean) hn hw) dL_law_1566 rfl rfl (gG.toH ?_))
  refine gH.toG (h_aload_n (hX.ok (rt := some .boolean) hn hw) dL_law_1567 rfl rfl (gG.toH ?_))
  refine gH.toG (h_iload (hX.ok (rt := some .boolean) hn hw) dL_law_1568 rfl (gG.toH ?_))
  refine gH.toG (h_iconst (hX.ok (rt := some .boolean) hn hw) dL_law_1570 ki_1 (gG.toH ?_))
  refine gH.toG (h_iadd (hX.ok (rt := some .boolean) hn hw) dL_law_1571 (gG.toH ?_))
  refine g_sld hX hS hi1 dL_law_1572 ?_
  refine gH.toG (h_aload_n (hX.ok (rt := some .boolean) hn hw) dL_law_1573 rfl rfl (gG.toH ?_))
  refine gH.toG (h_iload (hX.ok (rt := some .boolean) hn hw) dL_law_1574 rfl (gG.toH ?_))
  refine gH.toG (h_iconst (hX.ok (rt := some .boolean) hn hw) dL_law_1576 ki_2 (gG.toH ?_))
  refine gH.toG (h_iadd (hX.ok (rt := some .boolean) hn hw) dL_law_1577 (gG.toH ?_))
  refine g_sld hX hS hi2 dL_law_1578 ?_
  refine gG.callVi (hX.ok (rt := some .boolean) hn hw) dL_law_1579 cv_RL_174 (As := [.int (xs (i + 1 : Int32).toNatClampNeg), .int (xs (i + 2 : Int32).toNatClampNeg)]) (st := []) (c_Main_shares h1) rc_C0 rfl rfl (by decide) (Nat.le_of_ble_eq_true rfl) ?_
  refine gH.toG (h_aload_n (hX.ok (rt := some .boolean) hn hw) dL_law_1582 rfl rfl (gG.toH ?_))
  refine gH.toG (h_aload_n (hX.ok (rt := some .boolean) hn hw) dL_law_1583 rfl rfl (gG.toH ?_))
  refine gH.toG (h_iload (hX.ok (rt := some .boolean) hn hw) dL_law_1584 rfl (gG.toH ?_))
  refine gH.toG (h_iconst (hX.ok (rt := some .boolean) hn hw) dL_law_1586 ki_1 (gG.toH ?_))
  refine gH.toG (h_iadd (hX.ok (rt := some .boolean) hn hw) dL_law_1587 (gG.toH ?_))
  refine g_sld hX hS hi1 dL_law_1588 ?_
  refine gH.toG (h_aload_n (hX.ok (rt := some .boolean) hn hw) dL_law_1589 rfl rfl (gG.toH ?_))
  refine gH.toG (h_iload (hX.ok (rt := some .boolean) hn hw) dL_law_1590 rfl (gG.toH ?_))
  refine gH.toG (h_iconst (hX.ok (rt := some .boolean) hn hw) dL_law_1592 ki_2 (gG.toH ?_))
  refine gH.toG (h_iadd (hX.ok (rt := some .boolean) hn hw) dL_law_1593 (gG.toH ?_))
  refine g_sld hX hS hi2 dL_law_1594 ?_
  refine gG.perm gsw ?_
  refine gG.callVi (hX.ok (rt := some .boolean) hn hw) dL_law_1595 cv_RL_177 (As := [.int (xs (i + 1 : Int32).toNatClampNeg), .int (xs (i + 2 : Int32).toNatClampNeg)]) (st := [.int r1]) (c_M_shares h2) rc_M0 rfl rfl (by decide) (Nat.le_of_ble_eq_true rfl) ?_
  refine gG.perm gsw ?_
  exact g_icmpT (hX.ok (rt := some .boolean) hn hw) he dL_law_1598 (tgt := 1742) (by decide) k
theorem wml_RL_178 : Cond.methodLink RL 178 yX10_pays ∈ gT := gw5 (i := 132) rfl rfl
theorem wim_X10_pays : Cond.instanceMethod yX10_pays ∈ gT := gw5 (i := 133) rfl rfl
theorem wsel_X10_pays : Cond.selects RX10 yX10_pays yX10_pays ∈ gT := gw5 (i := 134) rfl rfl
theorem wcod_X10_pays : Cond.code yX10_pays cX10_pays 1 (some .int) ∈ gT := gw5 (i := 135) rfl rfl
theorem cv_RL_178 : gCV RL 178 RX10 yX10_pays cX10_pays 1 (some .int) 0 := ⟨wml_RL_178, wim_X10_pays, wsel_X10_pays, wini_RX10, wcod_X10_pays, rfl, by decide +kernel⟩
theorem wml_RL_181 : Cond.methodLink RL 181 yX11_pays ∈ gT := gw8 (i := 189) rfl rfl
theorem wim_X11_pays : Cond.instanceMethod yX11_pays ∈ gT := gw8 (i := 190) rfl rfl
theorem wsel_X11_pays : Cond.selects RX11 yX11_pays yX11_pays ∈ gT := gw8 (i := 191) rfl rfl
theorem wcod_X11_pays : Cond.code yX11_pays cX11_pays 1 (some .int) ∈ gT := gw8 (i := 192) rfl rfl
theorem cv_RL_181 : gCV RL 181 RX11 yX11_pays cX11_pays 1 (some .int) 0 := ⟨wml_RL_181, wim_X11_pays, wsel_X11_pays, wini_RX11, wcod_X11_pays, rfl, by decide +kernel⟩
set_option maxRecDepth 4000 in
theorem lc_pays (hX : gOkI B X RL cL_law 7 1312 601024 7293034) (hS : gScr X b L xs) (hn : n ≤ 601024) (hw : w ≤ 7293034) {i : Int32} {r1 : (Int32 × (Nat → Int32))} {r2 : Int32} (h1 : f_Main_pays Y_cells Y_clauses N_marbles N_chipped N_owners S_strengths = some r1) (h2 : f_M_pays m_marbles m_farms m_boy m_marble m_farm m_now = some r2) (he : r1.1 = r2) (k : gG B (gXc X n w) 1742 [(0, .ref b), (1, .ref (aC B 0)), (2, .ref (aM B 0)), (3, .ref qo), (4, .int i)] [] (wdC B W_spillsNow W_drawn T_length T_at T_bytes D_cells D_clauses G_length G_code A_size A_chosen A_codes A_lengths A_stack Y_cells Y_clauses N_marbles N_chipped N_swallowed N_sweets N_day N_owners P_next P_kept P_hasImage P_image P_acts P_entries P_imageEntries S_fewest S_row r1.2 U_size U_found U_places U_kinds U_holds U_fitting U_tally L_letters L_firstCells L_secondCells L_firstBest L_secondBest W_refusals ++ (wdM B m_thrown m_size m_at m_wrong m_deep m_laws m_text m_readBoys m_readMarbles m_readFarms m_boys m_marbles m_farms m_holding m_spills m_acts m_draws m_bestRow m_bestMany m_noted m_hasImage m_tape m_code m_value m_codes m_clauses m_testFrom m_sumFrom m_sumTo m_letters m_stack m_readRule m_readBoy m_readMarble m_readFarm m_rule m_boy m_marble m_farm m_now m_refused m_kept m_notePlace m_noteKind m_noteIs m_toldBy m_image ++ fr))) : gG B (gXc X n w) 1603 [(0, .ref b), (1, .ref (aC B 0)), (2, .ref (aM B 0)), (3, .ref qo), (4, .int i)] [] (wdC B W_spillsNow W_drawn T_length T_at T_bytes D_cells D_clauses G_length G_code A_size A_chosen A_codes A_lengths A_stack Y_cells Y_clauses N_marbles N_chipped N_swallowed N_sweets N_day N_owners P_next P_kept P_hasImage P_image P_acts P_entries P_imageEntries S_fewest S_row S_strengths U_size U_found U_places U_kinds U_holds U_fitting U_tally L_letters L_firstCells L_secondCells L_firstBest L_secondBest W_refusals ++ (wdM B m_thrown m_size m_at m_wrong m_deep m_laws m_text m_readBoys m_readMarbles m_readFarms m_boys m_marbles m_farms m_holding m_spills m_acts m_draws m_bestRow m_bestMany m_noted m_hasImage m_tape m_code m_value m_codes m_clauses m_testFrom m_sumFrom m_sumTo m_letters m_stack m_readRule m_readBoy m_readMarble m_readFarm m_rule m_boy m_marble m_farm m_now m_refused m_kept m_notePlace m_noteKind m_noteIs m_toldBy m_image ++ fr)) := by
  refine gH.toG (h_aload_n (hX.ok (rt := some .boolean) hn hw) dL_law_1603 rfl rfl (gG.toH ?_))
  refine gG.callVi (hX.ok (rt := some .boolean) hn hw) dL_law_1604 cv_RL_178 (As := []) (st := []) (c_Main_pays h1) rc_C0 rfl rfl (by decide) (Nat.le_of_ble_eq_true rfl) ?_
  refine gH.toG (h_aload_n (hX.ok (rt := some .boolean) hn hw) dL_law_1607 rfl rfl (gG.toH ?_))
  refine gG.perm gsw ?_
  refine gG.callVi (hX.ok (rt := some .boolean) hn hw) dL_law_1608 cv_RL_181 (As := []) (st := [.int r1.1]) (c_M_pays h2) rc_M0 rfl rfl (by decide) (Nat.le_of_ble_eq_true rfl) ?_
  refine gG.perm gsw ?_
  exact g_icmpT (hX.ok (rt := some .boolean) hn hw) he dL_law_1611 (tgt := 1742) (by decide) k
theorem wml_RL_182 : Cond.methodLink RL 182 yX10_saves ∈ gT := gw5 (i := 136) rfl rfl
theorem wim_X10_saves : Cond.instanceMethod yX10_saves ∈ gT := gw5 (i := 137) rfl rfl
theorem wsel_X10_saves : Cond.selects RX10 yX10_saves yX10_saves ∈ gT := gw5 (i := 138) rfl rfl
theorem wcod_X10_saves : Cond.code yX10_saves cX10_saves 4 (some .int) ∈ gT := gw5 (i := 139) rfl rfl
theorem cv_RL_182 : gCV RL 182 RX10 yX10_saves cX10_saves 4 (some .int) 1 := ⟨wml_RL_182, wim_X10_saves, wsel_X10_saves, wini_RX10, wcod_X10_saves, rfl, by decide +kernel⟩
theorem wml_RL_185 : Cond.methodLink RL 185 yX11_saves ∈ gT := gw8 (i := 193) rfl rfl
theorem wim_X11_saves : Cond.instanceMethod yX11_saves ∈ gT := gw8 (i := 194) rfl rfl
theorem wsel_X11_saves : Cond.selects RX11 yX11_saves yX11_saves ∈ gT := gw8 (i := 195) rfl rfl
theorem wcod_X11_saves : Cond.code yX11_saves cX11_saves 4 (some .int) ∈ gT := gw8 (i := 196) rfl rfl
theorem cv_RL_185 : gCV RL 185 RX11 yX11_saves cX11_saves 4 (some .int) 1 := ⟨wml_RL_185, wim_X11_saves, wsel_X11_saves, wini_RX11, wcod_X11_saves, rfl, by decide +kernel⟩
set_option maxRecDepth 4000 in
theorem lc_saves (hX : gOkI B X RL cL_law 7 1312 601024 7293034) (hS : gScr X b L xs) (hn : n ≤ 601024) (hw : w ≤ 7293034) {i : Int32} (hi1 : vp_in (i + 1) L) {r1 : (Int32 × (Nat → Int32))} {r2 : Int32} (h1 : f_Main_saves Y_cells Y_clauses N_marbles N_chipped N_sweets N_owners S_strengths (xs (i + 1 : Int32).toNatClampNeg) = some r1) (h2 : f_M_saves m_marbles m_farms m_boy m_marble m_farm m_now (xs (i + 1 : Int32).toNatClampNeg) = some r2) (he : r1.1 = r2) (k : gG B (gXc X n w) 1742 [(0, .ref b), (1, .ref (aC B 0)), (2, .ref (aM B 0)), (3, .ref qo), (4, .int i)] [] (wdC B W_spillsNow W_drawn T_length T_at T_bytes D_cells D_clauses G_length G_code A_size A_chosen A_codes A_lengths A_stack Y_cells Y_clauses N_marbles N_chipped N_swallowed N_sweets N_day N_owners P_next P_kept P_hasImage P_image P_acts P_entries P_imageEntries S_fewest S_row r1.2 U_size U_found U_places U_kinds U_holds U_fitting U_tally L_letters L_firstCells L_secondCells L_firstBest L_secondBest W_refusals ++ (wdM B m_thrown m_size m_at m_wrong m_deep m_laws m_text m_readBoys m_readMarbles m_readFarms m_boys m_marbles m_farms m_holding m_spills m_acts m_draws m_bestRow m_bestMany m_noted m_hasImage m_tape m_code m_value m_codes m_clauses m_testFrom m_sumFrom m_sumTo m_letters m_stack m_readRule m_readBoy m_readMarble m_readFarm m_rule m_boy m_marble m_farm m_now m_refused m_kept m_notePlace m_noteKind m_noteIs m_toldBy m_image ++ fr))) : gG B (gXc X n w) 1616 [(0, .ref b), (1, .ref (aC B 0)), (2, .ref (aM B 0)), (3, .ref qo), (4, .int i)] [] (wdC B W_spillsNow W_drawn T_length T_at T_bytes D_cells D_clauses G_length G_code A_size A_chosen A_codes A_lengths A_stack Y_cells Y_clauses N_marbles N_chipped N_swallowed N_sweets N_day N_owners P_next P_kept P_hasImage P_image P_acts P_entries P_imageEntries S_fewest S_row S_strengths U_size U_found U_places U_kinds U_holds U_fitting U_tally L_letters L_firstCells L_secondCells L_firstBest L_secondBest W_refusals ++ (wdM B m_thrown m_size m_at m_wrong m_deep m_laws m_text m_readBoys m_readMarbles m_readFarms m_boys m_marbles m_farms m_holding m_spills m_acts m_draws m_bestRow m_bestMany m_noted m_hasImage m_tape m_code m_value m_codes m_clauses m_testFrom m_sumFrom m_sumTo m_letters m_stack m_readRule m_readBoy m_readMarble m_readFarm m_rule m_boy m_marble m_farm m_now m_refused m_kept m_notePlace m_noteKind m_noteIs m_toldBy m_image ++ fr)) := by
  refine gH.toG (h_aload_n (hX.ok (rt := some .boolean) hn hw) dL_law_1616 rfl rfl (gG.toH ?_))
  refine gH.toG (h_aload_n (hX.ok (rt := some .boolean) hn hw) dL_law_1617 rfl rfl (gG.toH ?_))
  refine gH.toG (h_iload (hX.ok (rt := some .boolean) hn hw) dL_law_1618 rfl (gG.toH ?_))
  refine gH.toG (h_iconst (hX.ok (rt := some .boolean) hn hw) dL_law_1620 ki_1 (gG.toH ?_))
  refine gH.toG (h_iadd (hX.ok (rt := some .boolean) hn hw) dL_law_1621 (gG.toH ?_))
  refine g_sld hX hS hi1 dL_law_1622 ?_
  refine gG.callVi (hX.ok (rt := some .boolean) hn hw) dL_law_1623 cv_RL_182 (As := [.int (xs (i + 1 : Int32).toNatClampNeg)]) (st := []) (c_Main_saves h1) rc_C0 rfl rfl (by decide) (Nat.le_of_ble_eq_true rfl) ?_
  refine gH.toG (h_aload_n (hX.ok (rt := some .boolean) hn hw) dL_law_1626 rfl rfl (gG.toH ?_))
  refine gH.toG (h_aload_n (hX.ok (rt := some .boolean) hn hw) dL_law_1627 rfl rfl (gG.toH ?_))
  refine gH.toG (h_iload (hX.ok (rt := some .boolean) hn hw) dL_law_1628 rfl (gG.toH ?_))
  refine gH.toG (h_iconst (hX.ok (rt := some .boolean) hn hw) dL_law_1630 ki_1 (gG.toH ?_))
  refine gH.toG (h_iadd (hX.ok (rt := some .boolean) hn hw) dL_law_1631 (gG.toH ?_))
  refine g_sld hX hS hi1 dL_law_1632 ?_
  refine gG.perm gsw ?_
  refine gG.callVi (hX.ok (rt := some .boolean) hn hw) dL_law_1633 cv_RL_185 (As := [.int (xs (i + 1 : Int32).toNatClampNeg)]) (st := [.int r1.1]) (c_M_saves h2) rc_M0 rfl rfl (by decide) (Nat.le_of_ble_eq_true rfl) ?_
  refine gG.perm gsw ?_
  exact g_icmpT (hX.ok (rt := some .boolean) hn hw) he dL_law_1636 (tgt := 1742) (by decide) k
theorem wml_RL_186 : Cond.methodLink RL 186 yX10_hands ∈ gT := gw5 (i := 140) rfl rfl
theorem wim_X10_hands : Cond.instanceMethod yX10_hands ∈ gT := gw5 (i := 141) rfl rfl
theorem wsel_X10_hands : Cond.selects RX10 yX10_hands yX10_hands ∈ gT := gw5 (i := 142) rfl rfl
theorem wcod_X10_hands : Cond.code yX10_hands cX10_hands 2 (some .int) ∈ gT := gw5 (i := 143) rfl rfl
theorem cv_RL_186 : gCV RL 186 RX10 yX10_hands cX10_hands 2 (some .int) 1 := ⟨wml_RL_186, wim_X10_hands, wsel_X10_hands, wini_RX10, wcod_X10_hands, rfl, by decide +kernel⟩
theorem wml_RL_189 : Cond.methodLink RL 189 yX11_hands ∈ gT := gw8 (i := 197) rfl rfl
theorem wim_X11_hands : Cond.instanceMethod yX11_hands ∈ gT := gw8 (i := 198) rfl rfl
theorem wsel_X11_hands : Cond.selects RX11 yX11_hands yX11_hands ∈ gT := gw8 (i := 199) rfl rfl
theorem wcod_X11_hands : Cond.code yX11_hands cX11_hands 2 (some .int) ∈ gT := gw8 (i := 200) rfl rfl
theorem cv_RL_189 : gCV RL 189 RX11 yX11_hands cX11_hands 2 (some .int) 1 := ⟨wml_RL_189, wim_X11_hands, wsel_X11_hands, wini_RX11, wcod_X11_hands, rfl, by decide +kernel⟩
set_option maxRecDepth 4000 in
theorem lc_hands (hX : gOkI B X RL cL_law 7 1312 601024 7293034) (hS : gScr X b L xs) (hn : n ≤ 601024) (hw : w ≤ 7293034) {i : Int32} (hi1 : vp_in (i + 1) L) {r1 : Int32} {r2 : Int32} (h1 : f_Main_hands Y_clauses N_marbles N_owners (xs (i + 1 : Int32).toNatClampNeg) = some r1) (h2 : f_M_hands m_boys m_marbles m_now (xs (i + 1 : Int32).toNatClampNeg) = some r2) (he : r1 = r2) (k : gG B (gXc X n w) 1742 [(0, .ref b), (1, .ref (aC B 0)), (2, .ref (aM B 0)), (3, .ref qo), (4, .int i)] [] (wdC B W_spillsNow W_drawn T_length T_at T_bytes D_cells D_clauses G_length G_code A_size A_chosen A_codes A_lengths A_stack Y_cells Y_clauses N_marbles N_chipped N_swallowed N_sweets N_day N_owners P_next P_kept P_hasImage P_image P_acts P_entries P_imageEntries S_fewest S_row S_strengths U_size U_found U_places U_kinds U_holds U_fitting U_tally L_letters L_firstCells L_secondCells L_firstBest L_secondBest W_refusals ++ (wdM B m_thrown m_size m_at m_wrong m_deep m_laws m_text m_readBoys m_readMarbles m_readFarms m_boys m_marbles m_farms m_holding m_spills m_acts m_draws m_bestRow m_bestMany m_noted m_hasImage m_tape m_code m_value m_codes m_clauses m_testFrom m_sumFrom m_sumTo m_letters m_stack m_readRule m_readBoy m_readMarble m_readFarm m_rule m_boy m_marble m_farm m_now m_refused m_kept m_notePlace m_noteKind m_noteIs m_toldBy m_image ++ fr))) : gG B (gXc X n w) 1641 [(0, .ref b), (1, .ref (aC B 0)), (2, .ref (aM B 0)), (3, .ref qo), (4, .int i)] [] (wdC B W_spillsNow W_drawn T_length T_at T_bytes D_cells D_clauses G_length G_code A_size A_chosen A_codes A_lengths A_stack Y_cells Y_clauses N_marbles N_chipped N_swallowed N_sweets N_day N_owners P_next P_kept P_hasImage P_image P_acts P_entries P_imageEntries S_fewest S_row S_strengths U_size U_found U_places U_kinds U_holds U_fitting U_tally L_letters L_firstCells L_secondCells L_firstBest L_secondBest W_refusals ++ (wdM B m_thrown m_size m_at m_wrong m_deep m_laws m_text m_readBoys m_readMarbles m_readFarms m_boys m_marbles m_farms m_holding m_spills m_acts m_draws m_bestRow m_bestMany m_noted m_hasImage m_tape m_code m_value m_codes m_clauses m_testFrom m_sumFrom m_sumTo m_letters m_stack m_readRule m_readBoy m_readMarble m_readFarm m_rule m_boy m_marble m_farm m_now m_refused m_kept m_notePlace m_noteKind m_noteIs m_toldBy m_image ++ fr)) := by
  refine gH.toG (h_aload_n (hX.ok (rt := some .boolean) hn hw) dL_law_1641 rfl rfl (gG.toH ?_))
  refine gH.toG (h_aload_n (hX.ok (rt := some .boolean) hn hw) dL_law_1642 rfl rfl (gG.toH ?_))
  refine gH.toG (h_iload (hX.ok (rt := some .boolean) hn hw) dL_law_1643 rfl (gG.toH ?_))
  refine gH.toG (h_iconst (hX.ok (rt := some .boolean) hn hw) dL_law_1645 ki_1 (gG.toH ?_))
  refine gH.toG (h_iadd (hX.ok (rt := some .boolean) hn hw) dL_law_1646 (gG.toH ?_))
  refine g_sld hX hS hi1 dL_law_1647 ?_
  refine gG.callVi (hX.ok (rt := some .boolean) hn hw) dL_law_1648 cv_RL_186 (As := [.int (xs (i + 1 : Int32).toNatClampNeg)]) (st := []) (c_Main_hands h1) rc_C0 rfl rfl (by decide) (Nat.le_of_ble_eq_true rfl) ?_
  refine gH.toG (h_aload_n (hX.ok (rt := some .boolean) hn hw) dL_law_1651 rfl rfl (gG.toH ?_))
  refine gH.toG (h_aload_n (hX.ok (rt := some .boolean) hn hw) dL_law_1652 rfl rfl (gG.toH ?_))
  refine gH.toG (h_iload (hX.ok (rt := some .boolean) hn hw) dL_law_1653 rfl (gG.toH ?_))
  refine gH.toG (h_iconst (hX.ok (rt := some .boolean) hn hw) dL_law_1655 ki_1 (gG.toH ?_))
  refine gH.toG (h_iadd (hX.ok (rt := some .boolean) hn hw) dL_law_1656 (gG.toH ?_))
  refine g_sld hX hS hi1 dL_law_1657 ?_
  refine gG.perm gsw ?_
  refine gG.callVi (hX.ok (rt := some .boolean) hn hw) dL_law_1658 cv_RL_189 (As := [.int (xs (i + 1 : Int32).toNatClampNeg)]) (st := [.int r1]) (c_M_hands h2) rc_M0 rfl rfl (by decide) (Nat.le_of_ble_eq_true rfl) ?_
  refine gG.perm gsw ?_
  exact g_icmpT (hX.ok (rt := some .boolean) hn hw) he dL_law_1661 (tgt := 1742) (by decide) k
theorem wml_RL_190 : Cond.methodLink RL 190 yX10_most ∈ gT := gw5 (i := 145) rfl rfl
theorem wim_X10_most : Cond.instanceMethod yX10_most ∈ gT := gw5 (i := 146) rfl rfl
theorem wsel_X10_most : Cond.selects RX10 yX10_most yX10_most ∈ gT := gw5 (i := 147) rfl rfl
theorem wcod_X10_most : Cond.code yX10_most cX10_most 2 (some .int) ∈ gT := gw5 (i := 148) rfl rfl
theorem cv_RL_190 : gCV RL 190 RX10 yX10_most cX10_most 2 (some .int) 1 := ⟨wml_RL_190, wim_X10_most, wsel_X10_most, wini_RX10, wcod_X10_most, rfl, by decide +kernel⟩
theorem wml_RL_193 : Cond.methodLink RL 193 yX11_most ∈ gT := gw8 (i := 201) rfl rfl
theorem wim_X11_most : Cond.instanceMethod yX11_most ∈ gT := gw8 (i := 202) rfl rfl
theorem wsel_X11_most : Cond.selects RX11 yX11_most yX11_most ∈ gT := gw8 (i := 203) rfl rfl
theorem wcod_X11_most : Cond.code yX11_most cX11_most 4 (some .int) ∈ gT := gw8 (i := 204) rfl rfl
theorem cv_RL_193 : gCV RL 193 RX11 yX11_most cX11_most 4 (some .int) 1 := ⟨wml_RL_193, wim_X11_most, wsel_X11_most, wini_RX11, wcod_X11_most, rfl, by decide +kernel⟩
set_option maxRecDepth 4000 in
theorem lc_most (hX : gOkI B X RL cL_law 7 1312 601024 7293034) (hS : gScr X b L xs) (hn : n ≤ 601024) (hw : w ≤ 7293034) {i : Int32} (hi1 : vp_in (i + 1) L) {r1 : (Int32 × (Nat → Int32) × (Nat → Int32) × (Nat → Int32))} {r2 : (Int32 × (Nat → Int32) × (Nat → Int32))} (h1 : f_Main_most A_size A_chosen A_codes A_lengths A_stack Y_cells Y_clauses N_marbles N_chipped N_swallowed N_day N_owners S_strengths L_letters (xs (i + 1 : Int32).toNatClampNeg) = some r1) (h2 : f_M_most m_boys m_marbles m_holding m_code m_value m_clauses m_testFrom m_sumFrom m_sumTo m_letters m_stack m_rule m_boy m_marble m_now (xs (i + 1 : Int32).toNatClampNeg) = some r2) (he : r1.1 = r2.1) (k : gG B (gXc X n w) 1742 [(0, .ref b), (1, .ref (aC B 0)), (2, .ref (aM B 0)), (3, .ref qo), (4, .int i)] [] (wdC B W_spillsNow W_drawn T_length T_at T_bytes D_cells D_clauses G_length G_code A_size A_chosen A_codes A_lengths r1.2.1 Y_cells Y_clauses N_marbles N_chipped N_swallowed N_sweets N_day N_owners P_next P_kept P_hasImage P_image P_acts P_entries P_imageEntries S_fewest S_row r1.2.2.1 U_size U_found U_places U_kinds U_holds U_fitting U_tally r1.2.2.2 L_firstCells L_secondCells L_firstBest L_secondBest W_refusals ++ (wdM B m_thrown m_size m_at m_wrong m_deep m_laws m_text m_readBoys m_readMarbles m_readFarms m_boys m_marbles m_farms m_holding m_spills m_acts m_draws m_bestRow m_bestMany m_noted m_hasImage m_tape m_code m_value m_codes m_clauses m_testFrom m_sumFrom m_sumTo r2.2.1 r2.2.2 m_readRule m_readBoy m_readMarble m_readFarm m_rule m_boy m_marble m_farm m_now m_refused m_kept m_notePlace m_noteKind m_noteIs m_toldBy m_image ++ fr))) : gG B (gXc X n w) 1666 [(0, .ref b), (1, .ref (aC B 0)), (2, .ref (aM B 0)), (3, .ref qo), (4, .int i)] [] (wdC B W_spillsNow W_drawn T_length T_at T_bytes D_cells D_clauses G_length G_code A_size A_chosen A_codes A_lengths A_stack Y_cells Y_clauses N_marbles N_chipped N_swallowed N_sweets N_day N_owners P_next P_kept P_hasImage P_image P_acts P_entries P_imageEntries S_fewest S_row S_strengths U_size U_found U_places U_kinds U_holds U_fitting U_tally L_letters L_firstCells L_secondCells L_firstBest L_secondBest W_refusals ++ (wdM B m_thrown m_size m_at m_wrong m_deep m_laws m_text m_readBoys m_readMarbles m_readFarms m_boys m_marbles m_farms m_holding m_spills m_acts m_draws m_bestRow m_bestMany m_noted m_hasImage m_tape m_code m_value m_codes m_clauses m_testFrom m_sumFrom m_sumTo m_letters m_stack m_readRule m_readBoy m_readMarble m_readFarm m_rule m_boy m_marble m_farm m_now m_refused m_kept m_notePlace m_noteKind m_noteIs m_toldBy m_image ++ fr)) := by
  refine gH.toG (h_aload_n (hX.ok (rt := some .boolean) hn hw) dL_law_1666 rfl rfl (gG.toH ?_))
  refine gH.toG (h_aload_n (hX.ok (rt := some .boolean) hn hw) dL_law_1667 rfl rfl (gG.toH ?_))
  refine gH.toG (h_iload (hX.ok (rt := some .boolean) hn hw) dL_law_1668 rfl (gG.toH ?_))
  refine gH.toG (h_iconst (hX.ok (rt := some .boolean) hn hw) dL_law_1670 ki_1 (gG.toH ?_))
  refine gH.toG (h_iadd (hX.ok (rt := some .boolean) hn hw) dL_law_1671 (gG.toH ?_))
  refine g_sld hX hS hi1 dL_law_1672 ?_
  refine gG.callVi (hX.ok (rt := some .boolean) hn hw) dL_law_1673 cv_RL_190 (As := [.int (xs (i + 1 : Int32).toNatClampNeg)]) (st := []) (c_Main_most h1) rc_C0 rfl rfl (by decide) (Nat.le_of_ble_eq_true rfl) ?_
  refine gH.toG (h_aload_n (hX.ok (rt := some .boolean) hn hw) dL_law_1676 rfl rfl (gG.toH ?_))
  refine gH.toG (h_aload_n (hX.ok (rt := some .boolean) hn hw) dL_law_1677 rfl rfl (gG.toH ?_))
  refine gH.toG (h_iload (hX.ok (rt := some .boolean) hn hw) dL_law_1678 rfl (gG.toH ?_))
  refine gH.toG (h_iconst (hX.ok (rt := some .boolean) hn hw) dL_law_1680 ki_1 (gG.toH ?_))
  refine gH.toG (h_iadd (hX.ok (rt := some .boolean) hn hw) dL_law_1681 (gG.toH ?_))
  refine g_sld hX hS hi1 dL_law_1682 ?_
  refine gG.perm gsw ?_
  refine gG.callVi (hX.ok (rt := some .boolean) hn hw) dL_law_1683 cv_RL_193 (As := [.int (xs (i + 1 : Int32).toNatClampNeg)]) (st := [.int r1.1]) (c_M_most h2) rc_M0 rfl rfl (by decide) (Nat.le_of_ble_eq_true rfl) ?_
  refine gG.perm gsw ?_
  exact g_icmpT (hX.ok (rt := some .boolean) hn hw) he dL_law_1686 (tgt := 1742) (by decide) k
theorem wml_RL_194 : Cond.methodLink RL 194 yX10_image ∈ gT := gw5 (i := 171) rfl rfl
theorem wim_X10_image : Cond.instanceMethod yX10_image ∈ gT := gw5 (i := 172) rfl rfl
theorem wsel_X10_image : Cond.selects RX10 yX10_image yX10_image ∈ gT := gw5 (i := 173) rfl rfl
theorem wcod_X10_image : Cond.code yX10_image cX10_image 1 (some .int) ∈ gT := gw5 (i := 174) rfl rfl
theorem cv_RL_194 : gCV RL 194 RX10 yX10_image cX10_image 1 (some .int) 0 := ⟨wml_RL_194, wim_X10_image, wsel_X10_image, wini_RX10, wcod_X10_image, rfl, by decide +kernel⟩
theorem wml_RL_197 : Cond.methodLink RL 197 yX11_image ∈ gT := gw8 (i := 217) rfl rfl
theorem wim_X11_image : Cond.instanceMethod yX11_image ∈ gT := gw8 (i := 218) rfl rfl
theorem wsel_X11_image : Cond.selects RX11 yX11_image yX11_image ∈ gT := gw8 (i := 219) rfl rfl
theorem wcod_X11_image : Cond.code yX11_image cX11_image 2 (some .int) ∈ gT := gw8 (i := 220) rfl rfl
theorem cv_RL_197 : gCV RL 197 RX11 yX11_image cX11_image 2 (some .int) 0 := ⟨wml_RL_197, wim_X11_image, wsel_X11_image, wini_RX11, wcod_X11_image, rfl, by decide +kernel⟩
set_option maxRecDepth 4000 in
theorem lc_image (hX : gOkI B X RL cL_law 7 1312 601024 7293034) (hS : gScr X b L xs) (hn : n ≤ 601024) (hw : w ≤ 7293034) {i : Int32} {r1 : (Int32 × Int32 × Int64 × (Nat → Int32))} {r2 : (Int32 × Int32 × (Nat → Int32))} (h1 : f_Main_image Y_clauses N_marbles N_chipped N_swallowed N_sweets N_day N_owners P_hasImage P_image P_entries P_imageEntries = some r1) (h2 : f_M_image m_marbles m_hasImage m_now m_image = some r2) (he : r1.1 = r2.1) (k : gG B (gXc X n w) 1742 [(0, .ref b), (1, .ref (aC B 0)), (2, .ref (aM B 0)), (3, .ref qo), (4, .int i)] [] (wdC B W_spillsNow W_drawn T_length T_at T_bytes D_cells D_clauses G_length G_code A_size A_chosen A_codes A_lengths A_stack Y_cells Y_clauses N_marbles N_chipped N_swallowed N_sweets N_day N_owners P_next P_kept r1.2.1 r1.2.2.1 P_acts P_entries r1.2.2.2 S_fewest S_row S_strengths U_size U_found U_places U_kinds U_holds U_fitting U_tally L_letters L_firstCells L_secondCells L_firstBest L_secondBest W_refusals ++ (wdM B m_thrown m_size m_at m_wrong m_deep m_laws m_text m_readBoys m_readMarbles m_readFarms m_boys m_marbles m_farms m_holding m_spills m_acts m_draws m_bestRow m_bestMany m_noted r2.2.1 m_tape m_code m_value m_codes m_clauses m_testFrom m_sumFrom m_sumTo m_letters m_stack m_readRule m_readBoy m_readMarble m_readFarm m_rule m_boy m_marble m_farm m_now m_refused m_kept m_notePlace m_noteKind m_noteIs m_toldBy r2.2.2 ++ fr))) : gG B (gXc X n w) 1691 [(0, .ref b), (1, .ref (aC B 0)), (2, .ref (aM B 0)), (3, .ref qo), (4, .int i)] [] (wdC B W_spillsNow W_drawn T_length T_at T_bytes D_cells D_clauses G_length G_code A_size A_chosen A_codes A_lengths A_stack Y_cells Y_clauses N_marbles N_chipped N_swallowed N_sweets N_day N_owners P_next P_kept P_hasImage P_image P_acts P_entries P_imageEntries S_fewest S_row S_strengths U_size U_found U_places U_kinds U_holds U_fitting U_tally L_letters L_firstCells L_secondCells L_firstBest L_secondBest W_refusals ++ (wdM B m_thrown m_size m_at m_wrong m_deep m_laws m_text m_readBoys m_readMarbles m_readFarms m_boys m_marbles m_farms m_holding m_spills m_acts m_draws m_bestRow m_bestMany m_noted m_hasImage m_tape m_code m_value m_codes m_clauses m_testFrom m_sumFrom m_sumTo m_letters m_stack m_readRule m_readBoy m_readMarble m_readFarm m_rule m_boy m_marble m_farm m_now m_refused m_kept m_notePlace m_noteKind m_noteIs m_toldBy m_image ++ fr)) := by
  refine gH.toG (h_aload_n (hX.ok (rt := some .boolean) hn hw) dL_law_1691 rfl rfl (gG.toH ?_))
  refine gG.callVi (hX.ok (rt := some .boolean) hn hw) dL_law_1692 cv_RL_194 (As := []) (st := []) (c_Main_image h1) rc_C0 rfl rfl (by decide) (Nat.le_of_ble_eq_true rfl) ?_
  refine gH.toG (h_aload_n (hX.ok (rt := some .boolean) hn hw) dL_law_1695 rfl rfl (gG.toH ?_))
  refine gG.perm gsw ?_
  refine gG.callVi (hX.ok (rt := some .boolean) hn hw) dL_law_1696 cv_RL_197 (As := []) (st := [.int r1.1]) (c_M_image h2) rc_M0 rfl rfl (by decide) (Nat.le_of_ble_eq_true rfl) ?_
  refine gG.perm gsw ?_
  exact g_icmpT (hX.ok (rt := some .boolean) hn hw) he dL_law_1699 (tgt := 1742) (by decide) k
theorem wml_RL_198 : Cond.methodLink RL 198 yX10_back ∈ gT := gw5 (i := 180) rfl rfl
theorem wim_X10_back : Cond.instanceMethod yX10_back ∈ gT := gw5 (i := 181) rfl rfl
theorem wsel_X10_back : Cond.selects RX10 yX10_back yX10_back ∈ gT := gw5 (i := 182) rfl rfl
theorem wcod_X10_back : Cond.code yX10_back cX10_back 1 (some .int) ∈ gT := gw5 (i := 183) rfl rfl
theorem cv_RL_198 : gCV RL 198 RX10 yX10_back cX10_back 1 (some .int) 0 := ⟨wml_RL_198, wim_X10_back, wsel_X10_back, wini_RX10, wcod_X10_back, rfl, by decide +kernel⟩
theorem wml_RL_201 : Cond.methodLink RL 201 yX11_back ∈ gT := gw8 (i := 221) rfl rfl
theorem wim_X11_back : Cond.instanceMethod yX11_back ∈ gT := gw8 (i := 222) rfl rfl
theorem wsel_X11_back : Cond.selects RX11 yX11_back yX11_back ∈ gT := gw8 (i := 223) rfl rfl
theorem wcod_X11_back : Cond.code yX11_back cX11_back 2 (some .int) ∈ gT := gw8 (i := 224) rfl rfl
theorem cv_RL_201 : gCV RL 201 RX11 yX11_back cX11_back 2 (some .int) 0 := ⟨wml_RL_201, wim_X11_back, wsel_X11_back, wini_RX11, wcod_X11_back, rfl, by decide +kernel⟩
set_option maxRecDepth 4000 in
theorem lc_back (hX : gOkI B X RL cL_law 7 1312 601024 7293034) (hS : gScr X b L xs) (hn : n ≤ 601024) (hw : w ≤ 7293034) {i : Int32} {r1 : (Int32 × Int32 × Int32 × Int32 × Int32 × (Nat → Int32) × Int32 × (Nat → Int32))} {r2 : (Int32 × Int32 × (Nat → Int32))} (h1 : f_Main_back N_marbles N_chipped N_swallowed N_sweets N_day N_owners P_kept P_hasImage P_image P_entries P_imageEntries = some r1) (h2 : f_M_back m_acts m_hasImage m_now m_image = some r2) (he : r1.1 = r2.1) (k : gG B (gXc X n w) 1742 [(0, .ref b), (1, .ref (aC B 0)), (2, .ref (aM B 0)), (3, .ref qo), (4, .int i)] [] (wdC B W_spillsNow W_drawn T_length T_at T_bytes D_cells D_clauses G_length G_code A_size A_chosen A_codes A_lengths A_stack Y_cells Y_clauses N_marbles r1.2.1 r1.2.2.1 r1.2.2.2.1 r1.2.2.2.2.1 r1.2.2.2.2.2.1 P_next r1.2.2.2.2.2.2.1 P_hasImage P_image P_acts r1.2.2.2.2.2.2.2 P_imageEntries S_fewest S_row S_strengths U_size U_found U_places U_kinds U_holds U_fitting U_tally L_letters L_firstCells L_secondCells L_firstBest L_secondBest W_refusals ++ (wdM B m_thrown m_size m_at m_wrong m_deep m_laws m_text m_readBoys m_readMarbles m_readFarms m_boys m_marbles m_farms m_holding m_spills r2.2.1 m_draws m_bestRow m_bestMany m_noted m_hasImage m_tape m_code m_value m_codes m_clauses m_testFrom m_sumFrom m_sumTo m_letters m_stack m_readRule m_readBoy m_readMarble m_readFarm m_rule m_boy m_marble m_farm r2.2.2 m_refused m_kept m_notePlace m_noteKind m_noteIs m_toldBy m_image ++ fr))) : gG B (gXc X n w) 1704 [(0, .ref b), (1, .ref (aC B 0)), (2, .ref (aM B 0)), (3, .ref qo), (4, .int i)] [] (wdC B W_spillsNow W_drawn T_length T_at T_bytes D_cells D_clauses G_length G_code A_size A_chosen A_codes A_lengths A_stack Y_cells Y_clauses N_marbles N_chipped N_swallowed N_sweets N_day N_owners P_next P_kept P_hasImage P_image P_acts P_entries P_imageEntries S_fewest S_row S_strengths U_size U_found U_places U_kinds U_holds U_fitting U_tally L_letters L_firstCells L_secondCells L_firstBest L_secondBest W_refusals ++ (wdM B m_thrown m_size m_at m_wrong m_deep m_laws m_text m_readBoys m_readMarbles m_readFarms m_boys m_marbles m_farms m_holding m_spills m_acts m_draws m_bestRow m_bestMany m_noted m_hasImage m_tape m_code m_value m_codes m_clauses m_testFrom m_sumFrom m_sumTo m_letters m_stack m_readRule m_readBoy m_readMarble m_readFarm m_rule m_boy m_marble m_farm m_now m_refused m_kept m_notePlace m_noteKind m_noteIs m_toldBy m_image ++ fr)) := by
  refine gH.toG (h_aload_n (hX.ok (rt := some .boolean) hn hw) dL_law_1704 rfl rfl (gG.toH ?_))
  refine gG.callVi (hX.ok (rt := some .boolean) hn hw) dL_law_1705 cv_RL_198 (As := []) (st := []) (c_Main_back h1) rc_C0 rfl rfl (by decide) (Nat.le_of_ble_eq_true rfl) ?_
  refine gH.toG (h_aload_n (hX.ok (rt := some .boolean) hn hw) dL_law_1708 rfl rfl (gG.toH ?_))
  refine gG.perm gsw ?_
  refine gG.callVi (hX.ok (rt := some .boolean) hn hw) dL_law_1709 cv_RL_201 (As := []) (st := [.int r1.1]) (c_M_back h2) rc_M0 rfl rfl (by decide) (Nat.le_of_ble_eq_true rfl) ?_
  refine gG.perm gsw ?_
  exact g_icmpT (hX.ok (rt := some .boolean) hn hw) he dL_law_1712 (tgt := 1742) (by decide) k
theorem wml_RL_202 : Cond.methodLink RL 202 yX10_count ∈ gT := gw5 (i := 188) rfl rfl
theorem wim_X10_count : Cond.instanceMethod yX10_count ∈ gT := gw5 (i := 189) rfl rfl
theorem wsel_X10_count : Cond.selects RX10 yX10_count yX10_count ∈ gT := gw5 (i := 190) rfl rfl
theorem wcod_X10_count : Cond.code yX10_count cX10_count 2 (some .int) ∈ gT := gw5 (i := 191) rfl rfl
theorem cv_RL_202 : gCV RL 202 RX10 yX10_count cX10_count 2 (some .int) 1 := ⟨wml_RL_202, wim_X10_count, wsel_X10_count, wini_RX10, wcod_X10_count, rfl, by decide +kernel⟩
theorem wml_RL_205 : Cond.methodLink RL 205 yX11_count ∈ gT := gw8 (i := 225) rfl rfl
theorem wim_X11_count : Cond.instanceMethod yX11_count ∈ gT := gw8 (i := 226) rfl rfl
theorem wsel_X11_count : Cond.selects RX11 yX11_count yX11_count ∈ gT := gw8 (i := 227) rfl rfl
theorem wcod_X11_count : Cond.code yX11_count cX11_count 2 (some .int) ∈ gT := gw8 (i := 228) rfl rfl
theorem cv_RL_205 : gCV RL 205 RX11 yX11_count cX11_count 2 (some .int) 1 := ⟨wml_RL_205, wim_X11_count, wsel_X11_count, wini_RX11, wcod_X11_count, rfl, by decide +kernel⟩
set_option maxRecDepth 4000 in
theorem lc_count (hX : gOkI B X RL cL_law 7 1312 601024 7293034) (hS : gScr X b L xs) (hn : n ≤ 601024) (hw : w ≤ 7293034) {i : Int32} (hi1 : vp_in (i + 1) L) {r1 : (Int32 × (Nat → Int32))} {r2 : Int32} (h1 : f_Main_count W_spillsNow T_length A_size A_chosen Y_cells Y_clauses N_marbles N_chipped N_day N_owners P_kept S_strengths U_size (xs (i + 1 : Int32).toNatClampNeg) = some r1) (h2 : f_M_count m_size m_laws m_boys m_marbles m_farms m_holding m_spills m_acts m_noted m_boy m_marble m_farm m_now (xs (i + 1 : Int32).toNatClampNeg) = some r2) (he : r1.1 = r2) (k : gG B (gXc X n w) 1742 [(0, .ref b), (1, .ref (aC B 0)), (2, .ref (aM B 0)), (3, .ref qo), (4, .int i)] [] (wdC B W_spillsNow W_drawn T_length T_at T_bytes D_cells D_clauses G_length G_code A_size A_chosen A_codes A_lengths A_stack Y_cells Y_clauses N_marbles N_chipped N_swallowed N_sweets N_day N_owners P_next P_kept P_hasImage P_image P_acts P_entries P_imageEntries S_fewest S_row r1.2 U_size U_found U_places U_kinds U_holds U_fitting U_tally L_letters L_firstCells L_secondCells L_firstBest L_secondBest W_refusals ++ (wdM B m_thrown m_size m_at m_wrong m_deep m_laws m_text m_readBoys m_readMarbles m_readFarms m_boys m_marbles m_farms m_holding m_spills m_acts m_draws m_bestRow m_bestMany m_noted m_hasImage m_tape m_code m_value m_codes m_clauses m_testFrom m_sumFrom m_sumTo m_letters m_stack m_readRule m_readBoy m_readMarble m_readFarm m_rule m_boy m_marble m_farm m_now m_refused m_kept m_notePlace m_noteKind m_noteIs m_toldBy m_image ++ fr))) : gG B (gXc X n w) 1717 [(0, .ref b), (1, .ref (aC B 0)), (2, .ref (aM B 0)), (3, .ref qo), (4, .int i)] [] (wdC B W_spillsNow W_drawn T_length T_at T_bytes D_cells D_clauses G_length G_code A_size A_chosen A_codes A_lengths A_stack Y_cells Y_clauses N_marbles N_chipped N_swallowed N_sweets N_day N_owners P_next P_kept P_hasImage P_image P_acts P_entries P_imageEntries S_fewest S_row S_strengths U_size U_found U_places U_kinds U_holds U_fitting U_tally L_letters L_firstCells L_secondCells L_firstBest L_secondBest W_refusals ++ (wdM B m_thrown m_size m_at m_wrong m_deep m_laws m_text m_readBoys m_readMarbles m_readFarms m_boys m_marbles m_farms m_holding m_spills m_acts m_draws m_bestRow m_bestMany m_noted m_hasImage m_tape m_code m_value m_codes m_clauses m_testFrom m_sumFrom m_sumTo m_letters m_stack m_readRule m_readBoy m_readMarble m_readFarm m_rule m_boy m_marble m_farm m_now m_refused m_kept m_notePlace m_noteKind m_noteIs m_toldBy m_image ++ fr)) := by
  refine gH.toG (h_aload_n (hX.ok (rt := some .boolean) hn hw) dL_law_1717 rfl rfl (gG.toH ?_))
  refine gH.toG (h_aload_n (hX.ok (rt := some .boolean) hn hw) dL_law_1718 rfl rfl (gG.toH ?_))
  refine gH.toG (h_iload (hX.ok (rt := some .boolean) hn hw) dL_law_1719 rfl (gG.toH ?_))
  refine gH.toG (h_iconst (hX.ok (rt := some .boolean) hn hw) dL_law_1721 ki_1 (gG.toH ?_))
  refine gH.toG (h_iadd (hX.ok (rt := some .boolean) hn hw) dL_law_1722 (gG.toH ?_))
  refine g_sld hX hS hi1 dL_law_1723 ?_
  refine gG.callVi (hX.ok (rt := some .boolean) hn hw) dL_law_1724 cv_RL_202 (As := [.int (xs (i + 1 : Int32).toNatClampNeg)]) (st := []) (c_Main_count h1) rc_C0 rfl rfl (by decide) (Nat.le_of_ble_eq_true rfl) ?_
  refine gH.toG (h_aload_n (hX.ok (rt := some .boolean) hn hw) dL_law_1727 rfl rfl (gG.toH ?_))
  refine gH.toG (h_aload_n (hX.ok (rt := some .boolean) hn hw) dL_law_1728 rfl rfl (gG.toH ?_))
  refine gH.toG (h_iload (hX.ok (rt := some .boolean) hn hw) dL_law_1729 rfl (gG.toH ?_))
  refine gH.toG (h_iconst (hX.ok (rt := some .boolean) hn hw) dL_law_1731 ki_1 (gG.toH ?_))
  refine gH.toG (h_iadd (hX.ok (rt := some .boolean) hn hw) dL_law_1732 (gG.toH ?_))
  refine g_sld hX hS hi1 dL_law_1733 ?_
  refine gG.perm gsw ?_
  refine gG.callVi (hX.ok (rt := some .boolean) hn hw) dL_law_1734 cv_RL_205 (As := [.int (xs (i + 1 : Int32).toNatClampNeg)]) (st := [.int r1.1]) (c_M_count h2) rc_M0 rfl rfl (by decide) (Nat.le_of_ble_eq_true rfl) ?_
  refine gG.perm gsw ?_
  exact g_icmpT (hX.ok (rt := some .boolean) hn hw) he dL_law_1737 (tgt := 1742) (by decide) k
