/-! what class and model have in common, and each call -/
def Rel (W_spillsNow : Int32) (W_drawn : Int64) (T_length : Int32) (T_at : Int32) (T_bytes : Nat → Int32) (D_cells : Nat → Int32) (D_clauses : Nat → Int32) (G_length : Int32) (G_code : Nat → Int32) (A_size : Int32) (A_chosen : Int32) (A_codes : Nat → Int32) (A_lengths : Nat → Int32) (A_stack : Nat → Int32) (Y_cells : Nat → Int32) (Y_clauses : Nat → Int32) (N_marbles : Int32) (N_chipped : Int32) (N_swallowed : Int32) (N_sweets : Int32) (N_day : Int32) (N_owners : Nat → Int32) (P_next : Int32) (P_kept : Int32) (P_hasImage : Int32) (P_image : Int64) (P_acts : Nat → Int64) (P_entries : Nat → Int32) (P_imageEntries : Nat → Int32) (S_fewest : Int32) (S_row : Int32) (S_strengths : Nat → Int32) (U_size : Int32) (U_found : Int32) (U_places : Nat → Int32) (U_kinds : Nat → Int32) (U_holds : Nat → Int32) (U_fitting : Nat → Int32) (U_tally : Nat → Int32) (L_letters : Nat → Int32) (L_firstCells : Nat → Int32) (L_secondCells : Nat → Int32) (L_firstBest : Nat → Int32) (L_secondBest : Nat → Int32) (W_refusals : Nat → Int32) (m_thrown : Int32) (m_size : Int32) (m_at : Int32) (m_wrong : Int32) (m_deep : Int32) (m_laws : Int32) (m_text : Int32) (m_readBoys : Int32) (m_readMarbles : Int32) (m_readFarms : Int32) (m_boys : Int32) (m_marbles : Int32) (m_farms : Int32) (m_holding : Int32) (m_spills : Int32) (m_acts : Int32) (m_draws : Int64) (m_bestRow : Int32) (m_bestMany : Int32) (m_noted : Int32) (m_hasImage : Int32) (m_tape : Nat → Int32) (m_code : Nat → Int32) (m_value : Nat → Int32) (m_codes : Nat → Int32) (m_clauses : Nat → Int32) (m_testFrom : Nat → Int32) (m_sumFrom : Nat → Int32) (m_sumTo : Nat → Int32) (m_letters : Nat → Int32) (m_stack : Nat → Int32) (m_readRule : Nat → Int32) (m_readBoy : Nat → Int32) (m_readMarble : Nat → Int32) (m_readFarm : Nat → Int32) (m_rule : Nat → Int32) (m_boy : Nat → Int32) (m_marble : Nat → Int32) (m_farm : Nat → Int32) (m_now : Nat → Int32) (m_refused : Nat → Int32) (m_kept : Nat → Int32) (m_notePlace : Nat → Int32) (m_noteKind : Nat → Int32) (m_noteIs : Nat → Int32) (m_toldBy : Nat → Int32) (m_image : Nat → Int32) : Prop := ∃ nb nm nf nt N : Nat, rTape T_length T_bytes m_size m_tape ∧ yA Y_cells Y_clauses m_boys m_marbles m_farms m_rule m_boy m_marble m_farm nb nm nf ∧ N_marbles = nI nm ∧ N_chipped = m_now 6 ∧ N_swallowed = m_now 7 ∧ N_sweets = m_now 8 ∧ N_day = m_now 9 ∧ (∀ m, m < nm → N_owners m = m_now m) ∧ psA nb nm P_next P_kept P_acts P_entries m_acts m_kept m_now ∧ imA nb nm P_hasImage P_image P_imageEntries m_hasImage m_image ∧ lwsA N A_size A_chosen A_codes A_lengths m_laws m_holding m_code m_value m_clauses m_testFrom m_sumFrom m_sumTo ∧ ntA U_size m_noted U_places U_kinds U_holds m_notePlace m_noteKind m_noteIs nt ∧ rfA W_refusals m_refused ∧ W_spillsNow = m_spills
theorem Rel_mk {W_spillsNow : Int32} {W_drawn : Int64} {T_length : Int32} {T_at : Int32} {T_bytes : Nat → Int32} {D_cells : Nat → Int32} {D_clauses : Nat → Int32} {G_length : Int32} {G_code : Nat → Int32} {A_size : Int32} {A_chosen : Int32} {A_codes : Nat → Int32} {A_lengths : Nat → Int32} {A_stack : Nat → Int32} {Y_cells : Nat → Int32} {Y_clauses : Nat → Int32} {N_marbles : Int32} {N_chipped : Int32} {N_swallowed : Int32} {N_sweets : Int32} {N_day : Int32} {N_owners : Nat → Int32} {P_next : Int32} {P_kept : Int32} {P_hasImage : Int32} {P_image : Int64} {P_acts : Nat → Int64} {P_entries : Nat → Int32} {P_imageEntries : Nat → Int32} {S_fewest : Int32} {S_row : Int32} {S_strengths : Nat → Int32} {U_size : Int32} {U_found : Int32} {U_places : Nat → Int32} {U_kinds : Nat → Int32} {U_holds : Nat → Int32} {U_fitting : Nat → Int32} {U_tally : Nat → Int32} {L_letters : Nat → Int32} {L_firstCells : Nat → Int32} {L_secondCells : Nat → Int32} {L_firstBest : Nat → Int32} {L_secondBest : Nat → Int32} {W_refusals : Nat → Int32} {m_thrown : Int32} {m_size : Int32} {m_at : Int32} {m_wrong : Int32} {m_deep : Int32} {m_laws : Int32} {m_text : Int32} {m_readBoys : Int32} {m_readMarbles : Int32} {m_readFarms : Int32} {m_boys : Int32} {m_marbles : Int32} {m_farms : Int32} {m_holding : Int32} {m_spills : Int32} {m_acts : Int32} {m_draws : Int64} {m_bestRow : Int32} {m_bestMany : Int32} {m_noted : Int32} {m_hasImage : Int32} {m_tape : Nat → Int32} {m_code : Nat → Int32} {m_value : Nat → Int32} {m_codes : Nat → Int32} {m_clauses : Nat → Int32} {m_testFrom : Nat → Int32} {m_sumFrom : Nat → Int32} {m_sumTo : Nat → Int32} {m_letters : Nat → Int32} {m_stack : Nat → Int32} {m_readRule : Nat → Int32} {m_readBoy : Nat → Int32} {m_readMarble : Nat → Int32} {m_readFarm : Nat → Int32} {m_rule : Nat → Int32} {m_boy : Nat → Int32} {m_marble : Nat → Int32} {m_farm : Nat → Int32} {m_now : Nat → Int32} {m_refused : Nat → Int32} {m_kept : Nat → Int32} {m_notePlace : Nat → Int32} {m_noteKind : Nat → Int32} {m_noteIs : Nat → Int32} {m_toldBy : Nat → Int32} {m_image : Nat → Int32} {nb nm nf nt N : Nat} (a1 : rTape T_length T_bytes m_size m_tape) (a2 : yA Y_cells Y_clauses m_boys m_marbles m_farms m_rule m_boy m_marble m_farm nb nm nf) (e1 : N_marbles = nI nm) (e2 : N_chipped = m_now 6) (e3 : N_swallowed = m_now 7) (e4 : N_sweets = m_now 8) (e5 : N_day = m_now 9) (a5 : ∀ m, m < nm → N_owners m = m_now m) (a6 : psA nb nm P_next P_kept P_acts P_entries m_acts m_kept m_now) (a7 : imA nb nm P_hasImage P_image P_imageEntries m_hasImage m_image) (a8 : lwsA N A_size A_chosen A_codes A_lengths m_laws m_holding m_code m_value m_clauses m_testFrom m_sumFrom m_sumTo) (a9 : ntA U_size m_noted U_places U_kinds U_holds m_notePlace m_noteKind m_noteIs nt) (a10 : rfA W_refusals m_refused) (e6 : W_spillsNow = m_spills) : Rel W_spillsNow W_drawn T_length T_at T_bytes D_cells D_clauses G_length G_code A_size A_chosen A_codes A_lengths A_stack Y_cells Y_clauses N_marbles N_chipped N_swallowed N_sweets N_day N_owners P_next P_kept P_hasImage P_image P_acts P_entries P_imageEntries S_fewest S_row S_strengths U_size U_found U_places U_kinds U_holds U_fitting U_tally L_letters L_firstCells L_secondCells L_firstBest L_secondBest W_refusals m_thrown m_size m_at m_wrong m_deep m_laws m_text m_readBoys m_readMarbles m_readFarms m_boys m_marbles m_farms m_holding m_spills m_acts m_draws m_bestRow m_bestMany m_noted m_hasImage m_tape m_code m_value m_codes m_clauses m_testFrom m_sumFrom m_sumTo m_letters m_stack m_readRule m_readBoy m_readMarble m_readFarm m_rule m_boy m_marble m_farm m_now m_refused m_kept m_notePlace m_noteKind m_noteIs m_toldBy m_image := ⟨nb, nm, nf, nt, N, a1, a2, e1, e2, e3, e4, e5, a5, a6, a7, a8, a9, a10, e6⟩
theorem s_rule : S_rule Rel := by
  unfold S_rule
  intro W_spillsNow W_drawn T_length T_at T_bytes D_cells D_clauses G_length G_code A_size A_chosen A_codes A_lengths A_stack Y_cells Y_clauses N_marbles N_chipped N_swallowed N_sweets N_day N_owners P_next P_kept P_hasImage P_image P_acts P_entries P_imageEntries S_fewest S_row S_strengths U_size U_found U_places U_kinds U_holds U_fitting U_tally L_letters L_firstCells L_secondCells L_firstBest L_secondBest W_refusals m_thrown m_size m_at m_wrong m_deep m_laws m_text m_readBoys m_readMarbles m_readFarms m_boys m_marbles m_farms m_holding m_spills m_acts m_draws m_bestRow m_bestMany m_noted m_hasImage m_tape m_code m_value m_codes m_clauses m_testFrom m_sumFrom m_sumTo m_letters m_stack m_readRule m_readBoy m_readMarble m_readFarm m_rule m_boy m_marble m_farm m_now m_refused m_kept m_notePlace m_noteKind m_noteIs m_toldBy m_image p0
  rintro ⟨nb, nm, nf, nt, N, a1, a2, rfl, rfl, rfl, rfl, rfl, a5, a6, a7, a8, a9, a10, rfl⟩
  obtain ⟨w, hw⟩ := lws_lwA a8
  obtain ⟨D, kk, yy, dd, st, _⟩ := id a6
  have x := cx_of a2 a5 st hw
  obtain ⟨v, h1, h2⟩ := q_rule (p0 := p0) x
  exact ⟨_, _, h1, h2, rfl, Rel_mk a1 a2 rfl rfl rfl rfl rfl a5 a6 a7 a8 a9 a10 rfl⟩
theorem s_marble : S_marble Rel := by
  unfold S_marble
  intro W_spillsNow W_drawn T_length T_at T_bytes D_cells D_clauses G_length G_code A_size A_chosen A_codes A_lengths A_stack Y_cells Y_clauses N_marbles N_chipped N_swallowed N_sweets N_day N_owners P_next P_kept P_hasImage P_image P_acts P_entries P_imageEntries S_fewest S_row S_strengths U_size U_found U_places U_kinds U_holds U_fitting U_tally L_letters L_firstCells L_secondCells L_firstBest L_secondBest W_refusals m_thrown m_size m_at m_wrong m_deep m_laws m_text m_readBoys m_readMarbles m_readFarms m_boys m_marbles m_farms m_holding m_spills m_acts m_draws m_bestRow m_bestMany m_noted m_hasImage m_tape m_code m_value m_codes m_clauses m_testFrom m_sumFrom m_sumTo m_letters m_stack m_readRule m_readBoy m_readMarble m_readFarm m_rule m_boy m_marble m_farm m_now m_refused m_kept m_notePlace m_noteKind m_noteIs m_toldBy m_image p0 p1
  rintro ⟨nb, nm, nf, nt, N, a1, a2, rfl, rfl, rfl, rfl, rfl, a5, a6, a7, a8, a9, a10, rfl⟩
  obtain ⟨w, hw⟩ := lws_lwA a8
  obtain ⟨D, kk, yy, dd, st, _⟩ := id a6
  have x := cx_of a2 a5 st hw
  obtain ⟨v, h1, h2⟩ := q_marble (p0 := p0) (p1 := p1) x
  exact ⟨_, _, h1, h2, rfl, Rel_mk a1 a2 rfl rfl rfl rfl rfl a5 a6 a7 a8 a9 a10 rfl⟩
theorem s_farm : S_farm Rel := by
  unfold S_farm
  intro W_spillsNow W_drawn T_length T_at T_bytes D_cells D_clauses G_length G_code A_size A_chosen A_codes A_lengths A_stack Y_cells Y_clauses N_marbles N_chipped N_swallowed N_sweets N_day N_owners P_next P_kept P_hasImage P_image P_acts P_entries P_imageEntries S_fewest S_row S_strengths U_size U_found U_places U_kinds U_holds U_fitting U_tally L_letters L_firstCells L_secondCells L_firstBest L_secondBest W_refusals m_thrown m_size m_at m_wrong m_deep m_laws m_text m_readBoys m_readMarbles m_readFarms m_boys m_marbles m_farms m_holding m_spills m_acts m_draws m_bestRow m_bestMany m_noted m_hasImage m_tape m_code m_value m_codes m_clauses m_testFrom m_sumFrom m_sumTo m_letters m_stack m_readRule m_readBoy m_readMarble m_readFarm m_rule m_boy m_marble m_farm m_now m_refused m_kept m_notePlace m_noteKind m_noteIs m_toldBy m_image p0 p1
  rintro ⟨nb, nm, nf, nt, N, a1, a2, rfl, rfl, rfl, rfl, rfl, a5, a6, a7, a8, a9, a10, rfl⟩
  obtain ⟨w, hw⟩ := lws_lwA a8
  obtain ⟨D, kk, yy, dd, st, _⟩ := id a6
  have x := cx_of a2 a5 st hw
  obtain ⟨v, u, h1, h2⟩ := q_farm (p0 := p0) (p1 := p1) (S := S_strengths) x
  exact ⟨_, _, h1, h2, rfl, Rel_mk a1 a2 rfl rfl rfl rfl rfl a5 a6 a7 a8 a9 a10 rfl⟩
theorem s_lands : S_lands Rel := by
  unfold S_lands
  intro W_spillsNow W_drawn T_length T_at T_bytes D_cells D_clauses G_length G_code A_size A_chosen A_codes A_lengths A_stack Y_cells Y_clauses N_marbles N_chipped N_swallowed N_sweets N_day N_owners P_next P_kept P_hasImage P_image P_acts P_entries P_imageEntries S_fewest S_row S_strengths U_size U_found U_places U_kinds U_holds U_fitting U_tally L_letters L_firstCells L_secondCells L_firstBest L_secondBest W_refusals m_thrown m_size m_at m_wrong m_deep m_laws m_text m_readBoys m_readMarbles m_readFarms m_boys m_marbles m_farms m_holding m_spills m_acts m_draws m_bestRow m_bestMany m_noted m_hasImage m_tape m_code m_value m_codes m_clauses m_testFrom m_sumFrom m_sumTo m_letters m_stack m_readRule m_readBoy m_readMarble m_readFarm m_rule m_boy m_marble m_farm m_now m_refused m_kept m_notePlace m_noteKind m_noteIs m_toldBy m_image p0 p1 p2
  rintro ⟨nb, nm, nf, nt, N, a1, a2, rfl, rfl, rfl, rfl, rfl, a5, a6, a7, a8, a9, a10, rfl⟩
  obtain ⟨w, hw⟩ := lws_lwA a8
  obtain ⟨D, kk, yy, dd, st, _⟩ := id a6
  have x := cx_of a2 a5 st hw
  obtain ⟨v, u, u', h1, h2⟩ := q_lands (p0 := p0) (p1 := p1) (p2 := p2) (s := A_stack) (L := L_letters) (s' := m_stack) (L' := m_letters) x
  exact ⟨_, _, h1, h2, rfl, Rel_mk a1 a2 rfl rfl rfl rfl rfl a5 a6 a7 a8 a9 a10 rfl⟩
theorem s_aim : S_aim Rel := by
  unfold S_aim
  intro W_spillsNow W_drawn T_length T_at T_bytes D_cells D_clauses G_length G_code A_size A_chosen A_codes A_lengths A_stack Y_cells Y_clauses N_marbles N_chipped N_swallowed N_sweets N_day N_owners P_next P_kept P_hasImage P_image P_acts P_entries P_imageEntries S_fewest S_row S_strengths U_size U_found U_places U_kinds U_holds U_fitting U_tally L_letters L_firstCells L_secondCells L_firstBest L_secondBest W_refusals m_thrown m_size m_at m_wrong m_deep m_laws m_text m_readBoys m_readMarbles m_readFarms m_boys m_marbles m_farms m_holding m_spills m_acts m_draws m_bestRow m_bestMany m_noted m_hasImage m_tape m_code m_value m_codes m_clauses m_testFrom m_sumFrom m_sumTo m_letters m_stack m_readRule m_readBoy m_readMarble m_readFarm m_rule m_boy m_marble m_farm m_now m_refused m_kept m_notePlace m_noteKind m_noteIs m_toldBy m_image p0 p1
  rintro ⟨nb, nm, nf, nt, N, a1, a2, rfl, rfl, rfl, rfl, rfl, a5, a6, a7, a8, a9, a10, rfl⟩
  obtain ⟨w, hw⟩ := lws_lwA a8
  obtain ⟨D, kk, yy, dd, st, _⟩ := id a6
  have x := cx_of a2 a5 st hw
  obtain ⟨v, u, u', h1, h2⟩ := q_aim (p0 := p0) (p1 := p1) (s := A_stack) (L := L_letters) (s' := m_stack) (L' := m_letters) x
  exact ⟨_, _, h1, h2, rfl, Rel_mk a1 a2 rfl rfl rfl rfl rfl a5 a6 a7 a8 a9 a10 rfl⟩
theorem s_wins : S_wins Rel := by
  unfold S_wins
  intro W_spillsNow W_drawn T_length T_at T_bytes D_cells D_clauses G_length G_code A_size A_chosen A_codes A_lengths A_stack Y_cells Y_clauses N_marbles N_chipped N_swallowed N_sweets N_day N_owners P_next P_kept P_hasImage P_image P_acts P_entries P_imageEntries S_fewest S_row S_strengths U_size U_found U_places U_kinds U_holds U_fitting U_tally L_letters L_firstCells L_secondCells L_firstBest L_secondBest W_refusals m_thrown m_size m_at m_wrong m_deep m_laws m_text m_readBoys m_readMarbles m_readFarms m_boys m_marbles m_farms m_holding m_spills m_acts m_draws m_bestRow m_bestMany m_noted m_hasImage m_tape m_code m_value m_codes m_clauses m_testFrom m_sumFrom m_sumTo m_letters m_stack m_readRule m_readBoy m_readMarble m_readFarm m_rule m_boy m_marble m_farm m_now m_refused m_kept m_notePlace m_noteKind m_noteIs m_toldBy m_image p0 p1 p2 p3
  rintro ⟨nb, nm, nf, nt, N, a1, a2, rfl, rfl, rfl, rfl, rfl, a5, a6, a7, a8, a9, a10, rfl⟩
  obtain ⟨w, hw⟩ := lws_lwA a8
  obtain ⟨D, kk, yy, dd, st, _⟩ := id a6
  have x := cx_of a2 a5 st hw
  obtain ⟨v, u, u', h1, h2⟩ := q_wins (p0 := p0) (p1 := p1) (p2 := p2) (p3 := p3) (s := A_stack) (L := L_letters) (s' := m_stack) (L' := m_letters) x
  exact ⟨_, _, h1, h2, rfl, Rel_mk a1 a2 rfl rfl rfl rfl rfl a5 a6 a7 a8 a9 a10 rfl⟩
theorem s_weather : S_weather Rel := by
  unfold S_weather
  intro W_spillsNow W_drawn T_length T_at T_bytes D_cells D_clauses G_length G_code A_size A_chosen A_codes A_lengths A_stack Y_cells Y_clauses N_marbles N_chipped N_swallowed N_sweets N_day N_owners P_next P_kept P_hasImage P_image P_acts P_entries P_imageEntries S_fewest S_row S_strengths U_size U_found U_places U_kinds U_holds U_fitting U_tally L_letters L_firstCells L_secondCells L_firstBest L_secondBest W_refusals m_thrown m_size m_at m_wrong m_deep m_laws m_text m_readBoys m_readMarbles m_readFarms m_boys m_marbles m_farms m_holding m_spills m_acts m_draws m_bestRow m_bestMany m_noted m_hasImage m_tape m_code m_value m_codes m_clauses m_testFrom m_sumFrom m_sumTo m_letters m_stack m_readRule m_readBoy m_readMarble m_readFarm m_rule m_boy m_marble m_farm m_now m_refused m_kept m_notePlace m_noteKind m_noteIs m_toldBy m_image p0
  rintro ⟨nb, nm, nf, nt, N, a1, a2, rfl, rfl, rfl, rfl, rfl, a5, a6, a7, a8, a9, a10, rfl⟩
  obtain ⟨w, hw⟩ := lws_lwA a8
  obtain ⟨D, kk, yy, dd, st, _⟩ := id a6
  have x := cx_of a2 a5 st hw
  obtain ⟨v, u, h1, h2⟩ := q_weather (p0 := p0) (S := S_strengths) x
  exact ⟨_, _, h1, h2, rfl, Rel_mk a1 a2 rfl rfl rfl rfl rfl a5 a6 a7 a8 a9 a10 rfl⟩
theorem s_spell : S_spell Rel := by
  unfold S_spell
  intro W_spillsNow W_drawn T_length T_at T_bytes D_cells D_clauses G_length G_code A_size A_chosen A_codes A_lengths A_stack Y_cells Y_clauses N_marbles N_chipped N_swallowed N_sweets N_day N_owners P_next P_kept P_hasImage P_image P_acts P_entries P_imageEntries S_fewest S_row S_strengths U_size U_found U_places U_kinds U_holds U_fitting U_tally L_letters L_firstCells L_secondCells L_firstBest L_secondBest W_refusals m_thrown m_size m_at m_wrong m_deep m_laws m_text m_readBoys m_readMarbles m_readFarms m_boys m_marbles m_farms m_holding m_spills m_acts m_draws m_bestRow m_bestMany m_noted m_hasImage m_tape m_code m_value m_codes m_clauses m_testFrom m_sumFrom m_sumTo m_letters m_stack m_readRule m_readBoy m_readMarble m_readFarm m_rule m_boy m_marble m_farm m_now m_refused m_kept m_notePlace m_noteKind m_noteIs m_toldBy m_image p0 p1
  rintro ⟨nb, nm, nf, nt, N, a1, a2, rfl, rfl, rfl, rfl, rfl, a5, a6, a7, a8, a9, a10, rfl⟩
  obtain ⟨w, hw⟩ := lws_lwA a8
  obtain ⟨D, kk, yy, dd, st, _⟩ := id a6
  have x := cx_of a2 a5 st hw
  obtain ⟨v, u, h1, h2⟩ := q_spell (p0 := p0) (p1 := p1) (S := S_strengths) x
  exact ⟨_, _, h1, h2, rfl, Rel_mk a1 a2 rfl rfl rfl rfl rfl a5 a6 a7 a8 a9 a10 rfl⟩
theorem s_arrange : S_arrange Rel := by
  unfold S_arrange
  intro W_spillsNow W_drawn T_length T_at T_bytes D_cells D_clauses G_length G_code A_size A_chosen A_codes A_lengths A_stack Y_cells Y_clauses N_marbles N_chipped N_swallowed N_sweets N_day N_owners P_next P_kept P_hasImage P_image P_acts P_entries P_imageEntries S_fewest S_row S_strengths U_size U_found U_places U_kinds U_holds U_fitting U_tally L_letters L_firstCells L_secondCells L_firstBest L_secondBest W_refusals m_thrown m_size m_at m_wrong m_deep m_laws m_text m_readBoys m_readMarbles m_readFarms m_boys m_marbles m_farms m_holding m_spills m_acts m_draws m_bestRow m_bestMany m_noted m_hasImage m_tape m_code m_value m_codes m_clauses m_testFrom m_sumFrom m_sumTo m_letters m_stack m_readRule m_readBoy m_readMarble m_readFarm m_rule m_boy m_marble m_farm m_now m_refused m_kept m_notePlace m_noteKind m_noteIs m_toldBy m_image p0
  rintro ⟨nb, nm, nf, nt, N, a1, a2, rfl, rfl, rfl, rfl, rfl, a5, a6, a7, a8, a9, a10, rfl⟩
  obtain ⟨w, hw⟩ := lws_lwA a8
  obtain ⟨D, kk, yy, dd, st, _⟩ := id a6
  have x := cx_of a2 a5 st hw
  obtain ⟨v, u, u1, u2, h1, h2⟩ := q_arrange (p0 := p0) (Sf := S_fewest) (Sr := S_row) (br := m_bestRow) (bm := m_bestMany) (S := S_strengths) x
  exact ⟨_, _, h1, h2, rfl, Rel_mk a1 a2 rfl rfl rfl rfl rfl a5 a6 a7 a8 a9 a10 rfl⟩
theorem s_who : S_who Rel := by
  unfold S_who
  intro W_spillsNow W_drawn T_length T_at T_bytes D_cells D_clauses G_length G_code A_size A_chosen A_codes A_lengths A_stack Y_cells Y_clauses N_marbles N_chipped N_swallowed N_sweets N_day N_owners P_next P_kept P_hasImage P_image P_acts P_entries P_imageEntries S_fewest S_row S_strengths U_size U_found U_places U_kinds U_holds U_fitting U_tally L_letters L_firstCells L_secondCells L_firstBest L_secondBest W_refusals m_thrown m_size m_at m_wrong m_deep m_laws m_text m_readBoys m_readMarbles m_readFarms m_boys m_marbles m_farms m_holding m_spills m_acts m_draws m_bestRow m_bestMany m_noted m_hasImage m_tape m_code m_value m_codes m_clauses m_testFrom m_sumFrom m_sumTo m_letters m_stack m_readRule m_readBoy m_readMarble m_readFarm m_rule m_boy m_marble m_farm m_now m_refused m_kept m_notePlace m_noteKind m_noteIs m_toldBy m_image p0
  rintro ⟨nb, nm, nf, nt, N, a1, a2, rfl, rfl, rfl, rfl, rfl, a5, a6, a7, a8, a9, a10, rfl⟩
  obtain ⟨w, hw⟩ := lws_lwA a8
  obtain ⟨D, kk, yy, dd, st, _⟩ := id a6
  have x := cx_of a2 a5 st hw
  obtain ⟨v, u, h1, h2⟩ := q_who (S := S_strengths) (Fit := U_fitting) (Uf := U_found) (p0 := p0) x a9
  exact ⟨_, _, h1, h2, rfl, Rel_mk a1 a2 rfl rfl rfl rfl rfl a5 a6 a7 a8 a9 a10 rfl⟩
theorem s_best : S_best Rel := by
  unfold S_best
  intro W_spillsNow W_drawn T_length T_at T_bytes D_cells D_clauses G_length G_code A_size A_chosen A_codes A_lengths A_stack Y_cells Y_clauses N_marbles N_chipped N_swallowed N_sweets N_day N_owners P_next P_kept P_hasImage P_image P_acts P_entries P_imageEntries S_fewest S_row S_strengths U_size U_found U_places U_kinds U_holds U_fitting U_tally L_letters L_firstCells L_secondCells L_firstBest L_secondBest W_refusals m_thrown m_size m_at m_wrong m_deep m_laws m_text m_readBoys m_readMarbles m_readFarms m_boys m_marbles m_farms m_holding m_spills m_acts m_draws m_bestRow m_bestMany m_noted m_hasImage m_tape m_code m_value m_codes m_clauses m_testFrom m_sumFrom m_sumTo m_letters m_stack m_readRule m_readBoy m_readMarble m_readFarm m_rule m_boy m_marble m_farm m_now m_refused m_kept m_notePlace m_noteKind m_noteIs m_toldBy m_image
  rintro ⟨nb, nm, nf, nt, N, a1, a2, rfl, rfl, rfl, rfl, rfl, a5, a6, a7, a8, a9, a10, rfl⟩
  obtain ⟨w, hw⟩ := lws_lwA a8
  obtain ⟨D, kk, yy, dd, st, _⟩ := id a6
  have x := cx_of a2 a5 st hw
  obtain ⟨v, u, u', h1, h2⟩ := q_best (S := S_strengths) (Fit := U_fitting) (Tl := U_tally) (Tm := m_toldBy) (Uf := U_found) x a9
  exact ⟨_, _, h1, h2, rfl, Rel_mk a1 a2 rfl rfl rfl rfl rfl a5 a6 a7 a8 a9 a10 rfl⟩
theorem s_game : S_game Rel := by
  unfold S_game
  intro W_spillsNow W_drawn T_length T_at T_bytes D_cells D_clauses G_length G_code A_size A_chosen A_codes A_lengths A_stack Y_cells Y_clauses N_marbles N_chipped N_swallowed N_sweets N_day N_owners P_next P_kept P_hasImage P_image P_acts P_entries P_imageEntries S_fewest S_row S_strengths U_size U_found U_places U_kinds U_holds U_fitting U_tally L_letters L_firstCells L_secondCells L_firstBest L_secondBest W_refusals m_thrown m_size m_at m_wrong m_deep m_laws m_text m_readBoys m_readMarbles m_readFarms m_boys m_marbles m_farms m_holding m_spills m_acts m_draws m_bestRow m_bestMany m_noted m_hasImage m_tape m_code m_value m_codes m_clauses m_testFrom m_sumFrom m_sumTo m_letters m_stack m_readRule m_readBoy m_readMarble m_readFarm m_rule m_boy m_marble m_farm m_now m_refused m_kept m_notePlace m_noteKind m_noteIs m_toldBy m_image p0 p1 p2 p3 p4
  rintro ⟨nb, nm, nf, nt, N, a1, a2, rfl, rfl, rfl, rfl, rfl, a5, a6, a7, a8, a9, a10, rfl⟩
  obtain ⟨w, hw⟩ := lws_lwA a8
  obtain ⟨D, kk, yy, dd, st, _⟩ := id a6
  have x := cx_of a2 a5 st hw
  obtain ⟨v, u, u', h1, h2⟩ := q_game (p0 := p0) (p1 := p1) (p2 := p2) (p3 := p3) (p4 := p4) (s := A_stack) (L := L_letters) (s' := m_stack) (L' := m_letters) x
  exact ⟨_, _, h1, h2, rfl, Rel_mk a1 a2 rfl rfl rfl rfl rfl a5 a6 a7 a8 a9 a10 rfl⟩
theorem s_rests : S_rests Rel := by
  unfold S_rests
  intro W_spillsNow W_drawn T_length T_at T_bytes D_cells D_clauses G_length G_code A_size A_chosen A_codes A_lengths A_stack Y_cells Y_clauses N_marbles N_chipped N_swallowed N_sweets N_day N_owners P_next P_kept P_hasImage P_image P_acts P_entries P_imageEntries S_fewest S_row S_strengths U_size U_found U_places U_kinds U_holds U_fitting U_tally L_letters L_firstCells L_secondCells L_firstBest L_secondBest W_refusals m_thrown m_size m_at m_wrong m_deep m_laws m_text m_readBoys m_readMarbles m_readFarms m_boys m_marbles m_farms m_holding m_spills m_acts m_draws m_bestRow m_bestMany m_noted m_hasImage m_tape m_code m_value m_codes m_clauses m_testFrom m_sumFrom m_sumTo m_letters m_stack m_readRule m_readBoy m_readMarble m_readFarm m_rule m_boy m_marble m_farm m_now m_refused m_kept m_notePlace m_noteKind m_noteIs m_toldBy m_image p0 p1 p2
  rintro ⟨nb, nm, nf, nt, N, a1, a2, rfl, rfl, rfl, rfl, rfl, a5, a6, a7, a8, a9, a10, rfl⟩
  obtain ⟨w, hw⟩ := lws_lwA a8
  obtain ⟨D, kk, yy, dd, st, _⟩ := id a6
  have x := cx_of a2 a5 st hw
  obtain ⟨v, u, u', h1, h2⟩ := q_rests (p0 := p0) (p1 := p1) (p2 := p2) (s := A_stack) (L := L_letters) (FC := L_firstCells) (SC := L_secondCells) (FB := L_firstBest) (SB := L_secondBest) (s' := m_stack) (L' := m_letters) x
  exact ⟨_, _, h1, h2, rfl, Rel_mk a1 a2 rfl rfl rfl rfl rfl a5 a6 a7 a8 a9 a10 rfl⟩
theorem s_corner : S_corner Rel := by
  unfold S_corner
  intro W_spillsNow W_drawn T_length T_at T_bytes D_cells D_clauses G_length G_code A_size A_chosen A_codes A_lengths A_stack Y_cells Y_clauses N_marbles N_chipped N_swallowed N_sweets N_day N_owners P_next P_kept P_hasImage P_image P_acts P_entries P_imageEntries S_fewest S_row S_strengths U_size U_found U_places U_kinds U_holds U_fitting U_tally L_letters L_firstCells L_secondCells L_firstBest L_secondBest W_refusals m_thrown m_size m_at m_wrong m_deep m_laws m_text m_readBoys m_readMarbles m_readFarms m_boys m_marbles m_farms m_holding m_spills m_acts m_draws m_bestRow m_bestMany m_noted m_hasImage m_tape m_code m_value m_codes m_clauses m_testFrom m_sumFrom m_sumTo m_letters m_stack m_readRule m_readBoy m_readMarble m_readFarm m_rule m_boy m_marble m_farm m_now m_refused m_kept m_notePlace m_noteKind m_noteIs m_toldBy m_image p0
  rintro ⟨nb, nm, nf, nt, N, a1, a2, rfl, rfl, rfl, rfl, rfl, a5, a6, a7, a8, a9, a10, rfl⟩
  obtain ⟨w, hw⟩ := lws_lwA a8
  obtain ⟨D, kk, yy, dd, st, _⟩ := id a6
  have x := cx_of a2 a5 st hw
  obtain ⟨v, h1, h2⟩ := q_corner (p0 := p0) x
  exact ⟨_, _, h1, h2, rfl, Rel_mk a1 a2 rfl rfl rfl rfl rfl a5 a6 a7 a8 a9 a10 rfl⟩
theorem s_liking : S_liking Rel := by
  unfold S_liking
  intro W_spillsNow W_drawn T_length T_at T_bytes D_cells D_clauses G_length G_code A_size A_chosen A_codes A_lengths A_stack Y_cells Y_clauses N_marbles N_chipped N_swallowed N_sweets N_day N_owners P_next P_kept P_hasImage P_image P_acts P_entries P_imageEntries S_fewest S_row S_strengths U_size U_found U_places U_kinds U_holds U_fitting U_tally L_letters L_firstCells L_secondCells L_firstBest L_secondBest W_refusals m_thrown m_size m_at m_wrong m_deep m_laws m_text m_readBoys m_readMarbles m_readFarms m_boys m_marbles m_farms m_holding m_spills m_acts m_draws m_bestRow m_bestMany m_noted m_hasImage m_tape m_code m_value m_codes m_clauses m_testFrom m_sumFrom m_sumTo m_letters m_stack m_readRule m_readBoy m_readMarble m_readFarm m_rule m_boy m_marble m_farm m_now m_refused m_kept m_notePlace m_noteKind m_noteIs m_toldBy m_image p0 p1
  rintro ⟨nb, nm, nf, nt, N, a1, a2, rfl, rfl, rfl, rfl, rfl, a5, a6, a7, a8, a9, a10, rfl⟩
  obtain ⟨w, hw⟩ := lws_lwA a8
  obtain ⟨D, kk, yy, dd, st, _⟩ := id a6
  have x := cx_of a2 a5 st hw
  obtain ⟨v, h1, h2⟩ := q_liking (p0 := p0) (p1 := p1) x
  exact ⟨_, _, h1, h2, rfl, Rel_mk a1 a2 rfl rfl rfl rfl rfl a5 a6 a7 a8 a9 a10 rfl⟩
theorem s_trades : S_trades Rel := by
  unfold S_trades
  intro W_spillsNow W_drawn T_length T_at T_bytes D_cells D_clauses G_length G_code A_size A_chosen A_codes A_lengths A_stack Y_cells Y_clauses N_marbles N_chipped N_swallowed N_sweets N_day N_owners P_next P_kept P_hasImage P_image P_acts P_entries P_imageEntries S_fewest S_row S_strengths U_size U_found U_places U_kinds U_holds U_fitting U_tally L_letters L_firstCells L_secondCells L_firstBest L_secondBest W_refusals m_thrown m_size m_at m_wrong m_deep m_laws m_text m_readBoys m_readMarbles m_readFarms m_boys m_marbles m_farms m_holding m_spills m_acts m_draws m_bestRow m_bestMany m_noted m_hasImage m_tape m_code m_value m_codes m_clauses m_testFrom m_sumFrom m_sumTo m_letters m_stack m_readRule m_readBoy m_readMarble m_readFarm m_rule m_boy m_marble m_farm m_now m_refused m_kept m_notePlace m_noteKind m_noteIs m_toldBy m_image p0
  rintro ⟨nb, nm, nf, nt, N, a1, a2, rfl, rfl, rfl, rfl, rfl, a5, a6, a7, a8, a9, a10, rfl⟩
  obtain ⟨w, hw⟩ := lws_lwA a8
  obtain ⟨D, kk, yy, dd, st, _⟩ := id a6
  have x := cx_of a2 a5 st hw
  obtain ⟨v, h1, h2⟩ := q_trades (p0 := p0) x
  exact ⟨_, _, h1, h2, rfl, Rel_mk a1 a2 rfl rfl rfl rfl rfl a5 a6 a7 a8 a9 a10 rfl⟩
theorem s_odds : S_odds Rel := by
  unfold S_odds
  intro W_spillsNow W_drawn T_length T_at T_bytes D_cells D_clauses G_length G_code A_size A_chosen A_codes A_lengths A_stack Y_cells Y_clauses N_marbles N_chipped N_swallowed N_sweets N_day N_owners P_next P_kept P_hasImage P_image P_acts P_entries P_imageEntries S_fewest S_row S_strengths U_size U_found U_places U_kinds U_holds U_fitting U_tally L_letters L_firstCells L_secondCells L_firstBest L_secondBest W_refusals m_thrown m_size m_at m_wrong m_deep m_laws m_text m_readBoys m_readMarbles m_readFarms m_boys m_marbles m_farms m_holding m_spills m_acts m_draws m_bestRow m_bestMany m_noted m_hasImage m_tape m_code m_value m_codes m_clauses m_testFrom m_sumFrom m_sumTo m_letters m_stack m_readRule m_readBoy m_readMarble m_readFarm m_rule m_boy m_marble m_farm m_now m_refused m_kept m_notePlace m_noteKind m_noteIs m_toldBy m_image p0 p1 p2 p3 p4
  rintro ⟨nb, nm, nf, nt, N, a1, a2, rfl, rfl, rfl, rfl, rfl, a5, a6, a7, a8, a9, a10, rfl⟩
  obtain ⟨w, hw⟩ := lws_lwA a8
  obtain ⟨D, kk, yy, dd, st, _⟩ := id a6
  have x := cx_of a2 a5 st hw
  obtain ⟨v, u, u', h1, h2⟩ := q_odds (p0 := p0) (p1 := p1) (p2 := p2) (p3 := p3) (p4 := p4) (s := A_stack) (L := L_letters) (s' := m_stack) (L' := m_letters) x
  exact ⟨_, _, h1, h2, rfl, Rel_mk a1 a2 rfl rfl rfl rfl rfl a5 a6 a7 a8 a9 a10 rfl⟩
theorem s_shares : S_shares Rel := by
  unfold S_shares
  intro W_spillsNow W_drawn T_length T_at T_bytes D_cells D_clauses G_length G_code A_size A_chosen A_codes A_lengths A_stack Y_cells Y_clauses N_marbles N_chipped N_swallowed N_sweets N_day N_owners P_next P_kept P_hasImage P_image P_acts P_entries P_imageEntries S_fewest S_row S_strengths U_size U_found U_places U_kinds U_holds U_fitting U_tally L_letters L_firstCells L_secondCells L_firstBest L_secondBest W_refusals m_thrown m_size m_at m_wrong m_deep m_laws m_text m_readBoys m_readMarbles m_readFarms m_boys m_marbles m_farms m_holding m_spills m_acts m_draws m_bestRow m_bestMany m_noted m_hasImage m_tape m_code m_value m_codes m_clauses m_testFrom m_sumFrom m_sumTo m_letters m_stack m_readRule m_readBoy m_readMarble m_readFarm m_rule m_boy m_marble m_farm m_now m_refused m_kept m_notePlace m_noteKind m_noteIs m_toldBy m_image p0 p1
  rintro ⟨nb, nm, nf, nt, N, a1, a2, rfl, rfl, rfl, rfl, rfl, a5, a6, a7, a8, a9, a10, rfl⟩
  obtain ⟨w, hw⟩ := lws_lwA a8
  obtain ⟨D, kk, yy, dd, st, _⟩ := id a6
  have x := cx_of a2 a5 st hw
  obtain ⟨v, h1, h2⟩ := q_shares (p0 := p0) (p1 := p1) x
  exact ⟨_, _, h1, h2, rfl, Rel_mk a1 a2 rfl rfl rfl rfl rfl a5 a6 a7 a8 a9 a10 rfl⟩
theorem s_pays : S_pays Rel := by
  unfold S_pays
  intro W_spillsNow W_drawn T_length T_at T_bytes D_cells D_clauses G_length G_code A_size A_chosen A_codes A_lengths A_stack Y_cells Y_clauses N_marbles N_chipped N_swallowed N_sweets N_day N_owners P_next P_kept P_hasImage P_image P_acts P_entries P_imageEntries S_fewest S_row S_strengths U_size U_found U_places U_kinds U_holds U_fitting U_tally L_letters L_firstCells L_secondCells L_firstBest L_secondBest W_refusals m_thrown m_size m_at m_wrong m_deep m_laws m_text m_readBoys m_readMarbles m_readFarms m_boys m_marbles m_farms m_holding m_spills m_acts m_draws m_bestRow m_bestMany m_noted m_hasImage m_tape m_code m_value m_codes m_clauses m_testFrom m_sumFrom m_sumTo m_letters m_stack m_readRule m_readBoy m_readMarble m_readFarm m_rule m_boy m_marble m_farm m_now m_refused m_kept m_notePlace m_noteKind m_noteIs m_toldBy m_image
  rintro ⟨nb, nm, nf, nt, N, a1, a2, rfl, rfl, rfl, rfl, rfl, a5, a6, a7, a8, a9, a10, rfl⟩
  obtain ⟨w, hw⟩ := lws_lwA a8
  obtain ⟨D, kk, yy, dd, st, _⟩ := id a6
  have x := cx_of a2 a5 st hw
  obtain ⟨v, u, h1, h2⟩ := q_pays (S := S_strengths) x
  exact ⟨_, _, h1, h2, rfl, Rel_mk a1 a2 rfl rfl rfl rfl rfl a5 a6 a7 a8 a9 a10 rfl⟩
theorem s_saves : S_saves Rel := by
  unfold S_saves
  intro W_spillsNow W_drawn T_length T_at T_bytes D_cells D_clauses G_length G_code A_size A_chosen A_codes A_lengths A_stack Y_cells Y_clauses N_marbles N_chipped N_swallowed N_sweets N_day N_owners P_next P_kept P_hasImage P_image P_acts P_entries P_imageEntries S_fewest S_row S_strengths U_size U_found U_places U_kinds U_holds U_fitting U_tally L_letters L_firstCells L_secondCells L_firstBest L_secondBest W_refusals m_thrown m_size m_at m_wrong m_deep m_laws m_text m_readBoys m_readMarbles m_readFarms m_boys m_marbles m_farms m_holding m_spills m_acts m_draws m_bestRow m_bestMany m_noted m_hasImage m_tape m_code m_value m_codes m_clauses m_testFrom m_sumFrom m_sumTo m_letters m_stack m_readRule m_readBoy m_readMarble m_readFarm m_rule m_boy m_marble m_farm m_now m_refused m_kept m_notePlace m_noteKind m_noteIs m_toldBy m_image p0
  rintro ⟨nb, nm, nf, nt, N, a1, a2, rfl, rfl, rfl, rfl, rfl, a5, a6, a7, a8, a9, a10, rfl⟩
  obtain ⟨w, hw⟩ := lws_lwA a8
  obtain ⟨D, kk, yy, dd, st, _⟩ := id a6
  have x := cx_of a2 a5 st hw
  obtain ⟨v, u, h1, h2⟩ := q_saves (p0 := p0) (S := S_strengths) x
  exact ⟨_, _, h1, h2, rfl, Rel_mk a1 a2 rfl rfl rfl rfl rfl a5 a6 a7 a8 a9 a10 rfl⟩
theorem s_hands : S_hands Rel := by
  unfold S_hands
  intro W_spillsNow W_drawn T_length T_at T_bytes D_cells D_clauses G_length G_code A_size A_chosen A_codes A_lengths A_stack Y_cells Y_clauses N_marbles N_chipped N_swallowed N_sweets N_day N_owners P_next P_kept P_hasImage P_image P_acts P_entries P_imageEntries S_fewest S_row S_strengths U_size U_found U_places U_kinds U_holds U_fitting U_tally L_letters L_firstCells L_secondCells L_firstBest L_secondBest W_refusals m_thrown m_size m_at m_wrong m_deep m_laws m_text m_readBoys m_readMarbles m_readFarms m_boys m_marbles m_farms m_holding m_spills m_acts m_draws m_bestRow m_bestMany m_noted m_hasImage m_tape m_code m_value m_codes m_clauses m_testFrom m_sumFrom m_sumTo m_letters m_stack m_readRule m_readBoy m_readMarble m_readFarm m_rule m_boy m_marble m_farm m_now m_refused m_kept m_notePlace m_noteKind m_noteIs m_toldBy m_image p0
  rintro ⟨nb, nm, nf, nt, N, a1, a2, rfl, rfl, rfl, rfl, rfl, a5, a6, a7, a8, a9, a10, rfl⟩
  obtain ⟨w, hw⟩ := lws_lwA a8
  obtain ⟨D, kk, yy, dd, st, _⟩ := id a6
  have x := cx_of a2 a5 st hw
  obtain ⟨v, h1, h2⟩ := q_hands (p0 := p0) x
  exact ⟨_, _, h1, h2, rfl, Rel_mk a1 a2 rfl rfl rfl rfl rfl a5 a6 a7 a8 a9 a10 rfl⟩
theorem s_most : S_most Rel := by
  unfold S_most
  intro W_spillsNow W_drawn T_length T_at T_bytes D_cells D_clauses G_length G_code A_size A_chosen A_codes A_lengths A_stack Y_cells Y_clauses N_marbles N_chipped N_swallowed N_sweets N_day N_owners P_next P_kept P_hasImage P_image P_acts P_entries P_imageEntries S_fewest S_row S_strengths U_size U_found U_places U_kinds U_holds U_fitting U_tally L_letters L_firstCells L_secondCells L_firstBest L_secondBest W_refusals m_thrown m_size m_at m_wrong m_deep m_laws m_text m_readBoys m_readMarbles m_readFarms m_boys m_marbles m_farms m_holding m_spills m_acts m_draws m_bestRow m_bestMany m_noted m_hasImage m_tape m_code m_value m_codes m_clauses m_testFrom m_sumFrom m_sumTo m_letters m_stack m_readRule m_readBoy m_readMarble m_readFarm m_rule m_boy m_marble m_farm m_now m_refused m_kept m_notePlace m_noteKind m_noteIs m_toldBy m_image p0
  rintro ⟨nb, nm, nf, nt, N, a1, a2, rfl, rfl, rfl, rfl, rfl, a5, a6, a7, a8, a9, a10, rfl⟩
  obtain ⟨w, hw⟩ := lws_lwA a8
  obtain ⟨D, kk, yy, dd, st, _⟩ := id a6
  have x := cx_of a2 a5 st hw
  obtain ⟨v, u, u', h1, h2⟩ := q_most (p0 := p0) (s := A_stack) (L := L_letters) (s' := m_stack) (L' := m_letters) (S := S_strengths) x
  exact ⟨_, _, h1, h2, rfl, Rel_mk a1 a2 rfl rfl rfl rfl rfl a5 a6 a7 a8 a9 a10 rfl⟩
theorem s_boy : S_boy Rel := by
  unfold S_boy
  intro W_spillsNow W_drawn T_length T_at T_bytes D_cells D_clauses G_length G_code A_size A_chosen A_codes A_lengths A_stack Y_cells Y_clauses N_marbles N_chipped N_swallowed N_sweets N_day N_owners P_next P_kept P_hasImage P_image P_acts P_entries P_imageEntries S_fewest S_row S_strengths U_size U_found U_places U_kinds U_holds U_fitting U_tally L_letters L_firstCells L_secondCells L_firstBest L_secondBest W_refusals m_thrown m_size m_at m_wrong m_deep m_laws m_text m_readBoys m_readMarbles m_readFarms m_boys m_marbles m_farms m_holding m_spills m_acts m_draws m_bestRow m_bestMany m_noted m_hasImage m_tape m_code m_value m_codes m_clauses m_testFrom m_sumFrom m_sumTo m_letters m_stack m_readRule m_readBoy m_readMarble m_readFarm m_rule m_boy m_marble m_farm m_now m_refused m_kept m_notePlace m_noteKind m_noteIs m_toldBy m_image p0 p1
  rintro ⟨nb, nm, nf, nt, N, a1, a2, rfl, rfl, rfl, rfl, rfl, a5, a6, a7, a8, a9, a10, rfl⟩
  obtain ⟨w, hw⟩ := lws_lwA a8
  obtain ⟨D, kk, yy, dd, st, _⟩ := id a6
  have x := cx_of a2 a5 st hw
  rcases q_boy (p0 := p0) (p1 := p1) (T := m_thrown) x with ⟨v, h1, h2⟩ | ⟨r, v, h1, h2, h3⟩
  · exact Or.inl ⟨_, _, h1, h2, rfl, rfl, Rel_mk a1 a2 rfl rfl rfl rfl rfl a5 a6 a7 a8 a9 a10 rfl⟩
  · exact Or.inr ⟨_, _, h1, h2, h3, rfl, Rel_mk a1 a2 rfl rfl rfl rfl rfl a5 a6 a7 a8 a9 a10 rfl⟩
theorem s_end : S_end Rel := by
  unfold S_end
  intro W_spillsNow W_drawn T_length T_at T_bytes D_cells D_clauses G_length G_code A_size A_chosen A_codes A_lengths A_stack Y_cells Y_clauses N_marbles N_chipped N_swallowed N_sweets N_day N_owners P_next P_kept P_hasImage P_image P_acts P_entries P_imageEntries S_fewest S_row S_strengths U_size U_found U_places U_kinds U_holds U_fitting U_tally L_letters L_firstCells L_secondCells L_firstBest L_secondBest W_refusals m_thrown m_size m_at m_wrong m_deep m_laws m_text m_readBoys m_readMarbles m_readFarms m_boys m_marbles m_farms m_holding m_spills m_acts m_draws m_bestRow m_bestMany m_noted m_hasImage m_tape m_code m_value m_codes m_clauses m_testFrom m_sumFrom m_sumTo m_letters m_stack m_readRule m_readBoy m_readMarble m_readFarm m_rule m_boy m_marble m_farm m_now m_refused m_kept m_notePlace m_noteKind m_noteIs m_toldBy m_image p0
  rintro ⟨nb, nm, nf, nt, N, a1, a2, rfl, rfl, rfl, rfl, rfl, a5, a6, a7, a8, a9, a10, rfl⟩
  obtain ⟨r1, r2, h1, h2, h3, h4⟩ := p_end (p0 := p0) a1
  exact ⟨r1, r2, h1, h2, h3, Rel_mk h4 a2 rfl rfl rfl rfl rfl a5 a6 a7 a8 a9 a10 rfl⟩
theorem s_feed : S_feed Rel := by
  unfold S_feed
  intro W_spillsNow W_drawn T_length T_at T_bytes D_cells D_clauses G_length G_code A_size A_chosen A_codes A_lengths A_stack Y_cells Y_clauses N_marbles N_chipped N_swallowed N_sweets N_day N_owners P_next P_kept P_hasImage P_image P_acts P_entries P_imageEntries S_fewest S_row S_strengths U_size U_found U_places U_kinds U_holds U_fitting U_tally L_letters L_firstCells L_secondCells L_firstBest L_secondBest W_refusals m_thrown m_size m_at m_wrong m_deep m_laws m_text m_readBoys m_readMarbles m_readFarms m_boys m_marbles m_farms m_holding m_spills m_acts m_draws m_bestRow m_bestMany m_noted m_hasImage m_tape m_code m_value m_codes m_clauses m_testFrom m_sumFrom m_sumTo m_letters m_stack m_readRule m_readBoy m_readMarble m_readFarm m_rule m_boy m_marble m_farm m_now m_refused m_kept m_notePlace m_noteKind m_noteIs m_toldBy m_image p0 p1 p2 p3 p4
  rintro ⟨nb, nm, nf, nt, N, a1, a2, rfl, rfl, rfl, rfl, rfl, a5, a6, a7, a8, a9, a10, rfl⟩
  obtain ⟨v, t1, t2, t3, t4, h1, h2, h4⟩ := p_feed (a := p0) (b := p1) (c := p2) (d := p3) (e := p4) a1
  exact ⟨_, _, h1, h2, rfl, Rel_mk h4 a2 rfl rfl rfl rfl rfl a5 a6 a7 a8 a9 a10 rfl⟩
theorem s_spills : S_spills Rel := by
  unfold S_spills
  intro W_spillsNow W_drawn T_length T_at T_bytes D_cells D_clauses G_length G_code A_size A_chosen A_codes A_lengths A_stack Y_cells Y_clauses N_marbles N_chipped N_swallowed N_sweets N_day N_owners P_next P_kept P_hasImage P_image P_acts P_entries P_imageEntries S_fewest S_row S_strengths U_size U_found U_places U_kinds U_holds U_fitting U_tally L_letters L_firstCells L_secondCells L_firstBest L_secondBest W_refusals m_thrown m_size m_at m_wrong m_deep m_laws m_text m_readBoys m_readMarbles m_readFarms m_boys m_marbles m_farms m_holding m_spills m_acts m_draws m_bestRow m_bestMany m_noted m_hasImage m_tape m_code m_value m_codes m_clauses m_testFrom m_sumFrom m_sumTo m_letters m_stack m_readRule m_readBoy m_readMarble m_readFarm m_rule m_boy m_marble m_farm m_now m_refused m_kept m_notePlace m_noteKind m_noteIs m_toldBy m_image p0
  rintro ⟨nb, nm, nf, nt, N, a1, a2, rfl, rfl, rfl, rfl, rfl, a5, a6, a7, a8, a9, a10, rfl⟩
  obtain ⟨v, u, h1, h2⟩ := q_spills (A := W_spillsNow) (p0 := p0)
  exact ⟨_, _, h1, h2, rfl, Rel_mk a1 a2 rfl rfl rfl rfl rfl a5 a6 a7 a8 a9 a10 rfl⟩
theorem s_status : S_status Rel := by
  unfold S_status
  intro W_spillsNow W_drawn T_length T_at T_bytes D_cells D_clauses G_length G_code A_size A_chosen A_codes A_lengths A_stack Y_cells Y_clauses N_marbles N_chipped N_swallowed N_sweets N_day N_owners P_next P_kept P_hasImage P_image P_acts P_entries P_imageEntries S_fewest S_row S_strengths U_size U_found U_places U_kinds U_holds U_fitting U_tally L_letters L_firstCells L_secondCells L_firstBest L_secondBest W_refusals m_thrown m_size m_at m_wrong m_deep m_laws m_text m_readBoys m_readMarbles m_readFarms m_boys m_marbles m_farms m_holding m_spills m_acts m_draws m_bestRow m_bestMany m_noted m_hasImage m_tape m_code m_value m_codes m_clauses m_testFrom m_sumFrom m_sumTo m_letters m_stack m_readRule m_readBoy m_readMarble m_readFarm m_rule m_boy m_marble m_farm m_now m_refused m_kept m_notePlace m_noteKind m_noteIs m_toldBy m_image p0
  rintro ⟨nb, nm, nf, nt, N, a1, a2, rfl, rfl, rfl, rfl, rfl, a5, a6, a7, a8, a9, a10, rfl⟩
  obtain ⟨v, h1, h2⟩ := q_status (p0 := p0) a10
  exact ⟨_, _, h1, h2, rfl, Rel_mk a1 a2 rfl rfl rfl rfl rfl a5 a6 a7 a8 a9 a10 rfl⟩
theorem s_log : S_log Rel := by
  unfold S_log
  intro W_spillsNow W_drawn T_length T_at T_bytes D_cells D_clauses G_length G_code A_size A_chosen A_codes A_lengths A_stack Y_cells Y_clauses N_marbles N_chipped N_swallowed N_sweets N_day N_owners P_next P_kept P_hasImage P_image P_acts P_entries P_imageEntries S_fewest S_row S_strengths U_size U_found U_places U_kinds U_holds U_fitting U_tally L_letters L_firstCells L_secondCells L_firstBest L_secondBest W_refusals m_thrown m_size m_at m_wrong m_deep m_laws m_text m_readBoys m_readMarbles m_readFarms m_boys m_marbles m_farms m_holding m_spills m_acts m_draws m_bestRow m_bestMany m_noted m_hasImage m_tape m_code m_value m_codes m_clauses m_testFrom m_sumFrom m_sumTo m_letters m_stack m_readRule m_readBoy m_readMarble m_readFarm m_rule m_boy m_marble m_farm m_now m_refused m_kept m_notePlace m_noteKind m_noteIs m_toldBy m_image p0 p1
  rintro ⟨nb, nm, nf, nt, N, a1, a2, rfl, rfl, rfl, rfl, rfl, a5, a6, a7, a8, a9, a10, rfl⟩
  obtain ⟨D, kk, yy, dd, st, _⟩ := id a6
  obtain ⟨v, h1, h2⟩ := q_log (p0 := p0) (p1 := p1) st
  exact ⟨_, _, h1, h2, rfl, Rel_mk a1 a2 rfl rfl rfl rfl rfl a5 a6 a7 a8 a9 a10 rfl⟩
theorem s_law : S_law Rel := by
  unfold S_law
  intro W_spillsNow W_drawn T_length T_at T_bytes D_cells D_clauses G_length G_code A_size A_chosen A_codes A_lengths A_stack Y_cells Y_clauses N_marbles N_chipped N_swallowed N_sweets N_day N_owners P_next P_kept P_hasImage P_image P_acts P_entries P_imageEntries S_fewest S_row S_strengths U_size U_found U_places U_kinds U_holds U_fitting U_tally L_letters L_firstCells L_secondCells L_firstBest L_secondBest W_refusals m_thrown m_size m_at m_wrong m_deep m_laws m_text m_readBoys m_readMarbles m_readFarms m_boys m_marbles m_farms m_holding m_spills m_acts m_draws m_bestRow m_bestMany m_noted m_hasImage m_tape m_code m_value m_codes m_clauses m_testFrom m_sumFrom m_sumTo m_letters m_stack m_readRule m_readBoy m_readMarble m_readFarm m_rule m_boy m_marble m_farm m_now m_refused m_kept m_notePlace m_noteKind m_noteIs m_toldBy m_image p0
  rintro ⟨nb, nm, nf, nt, N, a1, a2, rfl, rfl, rfl, rfl, rfl, a5, a6, a7, a8, a9, a10, rfl⟩
  obtain ⟨v, u1, u2, h1, h2, h4⟩ := p_law (p0 := p0) a8
  exact ⟨_, _, h1, h2, rfl, Rel_mk a1 a2 rfl rfl rfl rfl rfl a5 a6 a7 h4 a9 a10 rfl⟩
theorem s_undo : S_undo Rel := by
  unfold S_undo
  intro W_spillsNow W_drawn T_length T_at T_bytes D_cells D_clauses G_length G_code A_size A_chosen A_codes A_lengths A_stack Y_cells Y_clauses N_marbles N_chipped N_swallowed N_sweets N_day N_owners P_next P_kept P_hasImage P_image P_acts P_entries P_imageEntries S_fewest S_row S_strengths U_size U_found U_places U_kinds U_holds U_fitting U_tally L_letters L_firstCells L_secondCells L_firstBest L_secondBest W_refusals m_thrown m_size m_at m_wrong m_deep m_laws m_text m_readBoys m_readMarbles m_readFarms m_boys m_marbles m_farms m_holding m_spills m_acts m_draws m_bestRow m_bestMany m_noted m_hasImage m_tape m_code m_value m_codes m_clauses m_testFrom m_sumFrom m_sumTo m_letters m_stack m_readRule m_readBoy m_readMarble m_readFarm m_rule m_boy m_marble m_farm m_now m_refused m_kept m_notePlace m_noteKind m_noteIs m_toldBy m_image
  rintro ⟨nb, nm, nf, nt, N, a1, a2, rfl, rfl, rfl, rfl, rfl, a5, a6, a7, a8, a9, a10, rfl⟩
  have b5 := a2.1
  obtain ⟨v, W1, On1, Pn1, Pk1, Ma1, h1, h2, h3, h4⟩ := ps_undo b5.1 b5.2.1 a5 a6
  exact ⟨_, _, h1, h2, rfl, Rel_mk a1 a2 rfl rfl rfl rfl rfl h3 h4 a7 a8 a9 a10 rfl⟩
theorem s_back : S_back Rel := by
  unfold S_back
  intro W_spillsNow W_drawn T_length T_at T_bytes D_cells D_clauses G_length G_code A_size A_chosen A_codes A_lengths A_stack Y_cells Y_clauses N_marbles N_chipped N_swallowed N_sweets N_day N_owners P_next P_kept P_hasImage P_image P_acts P_entries P_imageEntries S_fewest S_row S_strengths U_size U_found U_places U_kinds U_holds U_fitting U_tally L_letters L_firstCells L_secondCells L_firstBest L_secondBest W_refusals m_thrown m_size m_at m_wrong m_deep m_laws m_text m_readBoys m_readMarbles m_readFarms m_boys m_marbles m_farms m_holding m_spills m_acts m_draws m_bestRow m_bestMany m_noted m_hasImage m_tape m_code m_value m_codes m_clauses m_testFrom m_sumFrom m_sumTo m_letters m_stack m_readRule m_readBoy m_readMarble m_readFarm m_rule m_boy m_marble m_farm m_now m_refused m_kept m_notePlace m_noteKind m_noteIs m_toldBy m_image
  rintro ⟨nb, nm, nf, nt, N, a1, a2, rfl, rfl, rfl, rfl, rfl, a5, a6, a7, a8, a9, a10, rfl⟩
  have b5 := a2.1
  obtain ⟨v, W1, On1, Pk1, E1, Ma1, h1, h2, h3, h4⟩ := ps_back b5.1 b5.2.1 a5 a6 a7
  exact ⟨_, _, h1, h2, rfl, Rel_mk a1 a2 rfl rfl rfl rfl rfl h3 h4 a7 a8 a9 a10 rfl⟩
theorem s_image : S_image Rel := by
  unfold S_image
  intro W_spillsNow W_drawn T_length T_at T_bytes D_cells D_clauses G_length G_code A_size A_chosen A_codes A_lengths A_stack Y_cells Y_clauses N_marbles N_chipped N_swallowed N_sweets N_day N_owners P_next P_kept P_hasImage P_image P_acts P_entries P_imageEntries S_fewest S_row S_strengths U_size U_found U_places U_kinds U_holds U_fitting U_tally L_letters L_firstCells L_secondCells L_firstBest L_secondBest W_refusals m_thrown m_size m_at m_wrong m_deep m_laws m_text m_readBoys m_readMarbles m_readFarms m_boys m_marbles m_farms m_holding m_spills m_acts m_draws m_bestRow m_bestMany m_noted m_hasImage m_tape m_code m_value m_codes m_clauses m_testFrom m_sumFrom m_sumTo m_letters m_stack m_readRule m_readBoy m_readMarble m_readFarm m_rule m_boy m_marble m_farm m_now m_refused m_kept m_notePlace m_noteKind m_noteIs m_toldBy m_image
  rintro ⟨nb, nm, nf, nt, N, a1, a2, rfl, rfl, rfl, rfl, rfl, a5, a6, a7, a8, a9, a10, rfl⟩
  obtain ⟨D, kk, yy, dd, st, _⟩ := id a6
  obtain ⟨v, u1, u2, u3, u4, u5, h1, h2, h3⟩ := ps_image a2 a5 st a7
  exact ⟨_, _, h1, h2, rfl, Rel_mk a1 a2 rfl rfl rfl rfl rfl a5 a6 h3 a8 a9 a10 rfl⟩
theorem s_play : S_play Rel := by
  unfold S_play
  intro W_spillsNow W_drawn T_length T_at T_bytes D_cells D_clauses G_length G_code A_size A_chosen A_codes A_lengths A_stack Y_cells Y_clauses N_marbles N_chipped N_swallowed N_sweets N_day N_owners P_next P_kept P_hasImage P_image P_acts P_entries P_imageEntries S_fewest S_row S_strengths U_size U_found U_places U_kinds U_holds U_fitting U_tally L_letters L_firstCells L_secondCells L_firstBest L_secondBest W_refusals m_thrown m_size m_at m_wrong m_deep m_laws m_text m_readBoys m_readMarbles m_readFarms m_boys m_marbles m_farms m_holding m_spills m_acts m_draws m_bestRow m_bestMany m_noted m_hasImage m_tape m_code m_value m_codes m_clauses m_testFrom m_sumFrom m_sumTo m_letters m_stack m_readRule m_readBoy m_readMarble m_readFarm m_rule m_boy m_marble m_farm m_now m_refused m_kept m_notePlace m_noteKind m_noteIs m_toldBy m_image p0 p1 p2 p3
  rintro ⟨nb, nm, nf, nt, N, a1, a2, rfl, rfl, rfl, rfl, rfl, a5, a6, a7, a8, a9, a10, rfl⟩
  obtain ⟨w, hw⟩ := lws_lwA a8
  obtain ⟨D, kk, yy, dd, st, _⟩ := id a6
  have x := cx_of a2 a5 st hw
  obtain ⟨v, s1, O1, Pn1, Pk1, Pa1, L1, Rc1, Ma1, L3, s3, W1, Rm1, Mk1, h1, h2, h3, h4, h5, h6⟩ := a_play (s := A_stack) (L := L_letters) (s2 := m_stack) (L2 := m_letters) (p0 := p0) (p1 := p1) (p2 := p2) (p3 := p3) x a6 a10
  exact ⟨_, _, h1, h2, rfl, Rel_mk a1 a2 rfl (h5 6 (by decide)).symm (h5 7 (by decide)).symm (h5 8 (by decide)).symm (h5 9 (by decide)).symm h3 h4 a7 a8 a9 h6 rfl⟩
theorem s_swap : S_swap Rel := by
  unfold S_swap
  intro W_spillsNow W_drawn T_length T_at T_bytes D_cells D_clauses G_length G_code A_size A_chosen A_codes A_lengths A_stack Y_cells Y_clauses N_marbles N_chipped N_swallowed N_sweets N_day N_owners P_next P_kept P_hasImage P_image P_acts P_entries P_imageEntries S_fewest S_row S_strengths U_size U_found U_places U_kinds U_holds U_fitting U_tally L_letters L_firstCells L_secondCells L_firstBest L_secondBest W_refusals m_thrown m_size m_at m_wrong m_deep m_laws m_text m_readBoys m_readMarbles m_readFarms m_boys m_marbles m_farms m_holding m_spills m_acts m_draws m_bestRow m_bestMany m_noted m_hasImage m_tape m_code m_value m_codes m_clauses m_testFrom m_sumFrom m_sumTo m_letters m_stack m_readRule m_readBoy m_readMarble m_readFarm m_rule m_boy m_marble m_farm m_now m_refused m_kept m_notePlace m_noteKind m_noteIs m_toldBy m_image p0 p1
  rintro ⟨nb, nm, nf, nt, N, a1, a2, rfl, rfl, rfl, rfl, rfl, a5, a6, a7, a8, a9, a10, rfl⟩
  obtain ⟨w, hw⟩ := lws_lwA a8
  obtain ⟨D, kk, yy, dd, st, _⟩ := id a6
  have x := cx_of a2 a5 st hw
  obtain ⟨v, O1, Pn1, Pk1, Pa1, Rc1, Ma1, W1, Rm1, Mk1, h1, h2, h3, h4, h5, h6⟩ := a_swap (p0 := p0) (p1 := p1) x a6 a10
  exact ⟨_, _, h1, h2, rfl, Rel_mk a1 a2 rfl (h5 6 (by decide)).symm (h5 7 (by decide)).symm (h5 8 (by decide)).symm (h5 9 (by decide)).symm h3 h4 a7 a8 a9 h6 rfl⟩
theorem s_give : S_give Rel := by
  unfold S_give
  intro W_spillsNow W_drawn T_length T_at T_bytes D_cells D_clauses G_length G_code A_size A_chosen A_codes A_lengths A_stack Y_cells Y_clauses N_marbles N_chipped N_swallowed N_sweets N_day N_owners P_next P_kept P_hasImage P_image P_acts P_entries P_imageEntries S_fewest S_row S_strengths U_size U_found U_places U_kinds U_holds U_fitting U_tally L_letters L_firstCells L_secondCells L_firstBest L_secondBest W_refusals m_thrown m_size m_at m_wrong m_deep m_laws m_text m_readBoys m_readMarbles m_readFarms m_boys m_marbles m_farms m_holding m_spills m_acts m_draws m_bestRow m_bestMany m_noted m_hasImage m_tape m_code m_value m_codes m_clauses m_testFrom m_sumFrom m_sumTo m_letters m_stack m_readRule m_readBoy m_readMarble m_readFarm m_rule m_boy m_marble m_farm m_now m_refused m_kept m_notePlace m_noteKind m_noteIs m_toldBy m_image p0 p1
  rintro ⟨nb, nm, nf, nt, N, a1, a2, rfl, rfl, rfl, rfl, rfl, a5, a6, a7, a8, a9, a10, rfl⟩
  obtain ⟨w, hw⟩ := lws_lwA a8
  obtain ⟨D, kk, yy, dd, st, _⟩ := id a6
  have x := cx_of a2 a5 st hw
  obtain ⟨v, O1, Pn1, Pk1, Pa1, Rc1, Ma1, W1, Rm1, Mk1, h1, h2, h3, h4, h5, h6⟩ := a_give (p0 := p0) (p1 := p1) x a6 a10
  exact ⟨_, _, h1, h2, rfl, Rel_mk a1 a2 rfl (h5 6 (by decide) (by decide)).symm (h5 7 (by decide) (by decide)).symm rfl (h5 9 (by decide) (by decide)).symm h3 h4 a7 a8 a9 h6 rfl⟩
theorem s_chip : S_chip Rel := by
  unfold S_chip
  intro W_spillsNow W_drawn T_length T_at T_bytes D_cells D_clauses G_length G_code A_size A_chosen A_codes A_lengths A_stack Y_cells Y_clauses N_marbles N_chipped N_swallowed N_sweets N_day N_owners P_next P_kept P_hasImage P_image P_acts P_entries P_imageEntries S_fewest S_row S_strengths U_size U_found U_places U_kinds U_holds U_fitting U_tally L_letters L_firstCells L_secondCells L_firstBest L_secondBest W_refusals m_thrown m_size m_at m_wrong m_deep m_laws m_text m_readBoys m_readMarbles m_readFarms m_boys m_marbles m_farms m_holding m_spills m_acts m_draws m_bestRow m_bestMany m_noted m_hasImage m_tape m_code m_value m_codes m_clauses m_testFrom m_sumFrom m_sumTo m_letters m_stack m_readRule m_readBoy m_readMarble m_readFarm m_rule m_boy m_marble m_farm m_now m_refused m_kept m_notePlace m_noteKind m_noteIs m_toldBy m_image p0
  rintro ⟨nb, nm, nf, nt, N, a1, a2, rfl, rfl, rfl, rfl, rfl, a5, a6, a7, a8, a9, a10, rfl⟩
  obtain ⟨w, hw⟩ := lws_lwA a8
  obtain ⟨D, kk, yy, dd, st, _⟩ := id a6
  have x := cx_of a2 a5 st hw
  obtain ⟨v, Pn1, Pk1, Pa1, Rc1, Ma1, W1, Rm1, Mk1, h1, h2, h3, h4, h5, h6⟩ := a_chip (p0 := p0) x a6 a10
  exact ⟨_, _, h1, h2, rfl, Rel_mk a1 a2 rfl rfl (h5 7 (by decide) (by decide)).symm (h5 8 (by decide) (by decide)).symm (h5 9 (by decide) (by decide)).symm h3 h4 a7 a8 a9 h6 rfl⟩
theorem s_swallow : S_swallow Rel := by
  unfold S_swallow
  intro W_spillsNow W_drawn T_length T_at T_bytes D_cells D_clauses G_length G_code A_size A_chosen A_codes A_lengths A_stack Y_cells Y_clauses N_marbles N_chipped N_swallowed N_sweets N_day N_owners P_next P_kept P_hasImage P_image P_acts P_entries P_imageEntries S_fewest S_row S_strengths U_size U_found U_places U_kinds U_holds U_fitting U_tally L_letters L_firstCells L_secondCells L_firstBest L_secondBest W_refusals m_thrown m_size m_at m_wrong m_deep m_laws m_text m_readBoys m_readMarbles m_readFarms m_boys m_marbles m_farms m_holding m_spills m_acts m_draws m_bestRow m_bestMany m_noted m_hasImage m_tape m_code m_value m_codes m_clauses m_testFrom m_sumFrom m_sumTo m_letters m_stack m_readRule m_readBoy m_readMarble m_readFarm m_rule m_boy m_marble m_farm m_now m_refused m_kept m_notePlace m_noteKind m_noteIs m_toldBy m_image p0
  rintro ⟨nb, nm, nf, nt, N, a1, a2, rfl, rfl, rfl, rfl, rfl, a5, a6, a7, a8, a9, a10, rfl⟩
  obtain ⟨w, hw⟩ := lws_lwA a8
  obtain ⟨D, kk, yy, dd, st, _⟩ := id a6
  have x := cx_of a2 a5 st hw
  obtain ⟨v, Pn1, Pk1, Pa1, Rc1, Ma1, W1, Rm1, Mk1, h1, h2, h3, h4, h5, h6⟩ := a_swallow (p0 := p0) x a6 a10
  exact ⟨_, _, h1, h2, rfl, Rel_mk a1 a2 rfl (h5 6 (by decide) (by decide)).symm rfl (h5 8 (by decide) (by decide)).symm (h5 9 (by decide) (by decide)).symm h3 h4 a7 a8 a9 h6 rfl⟩
theorem s_days : S_days Rel := by
  unfold S_days
  intro W_spillsNow W_drawn T_length T_at T_bytes D_cells D_clauses G_length G_code A_size A_chosen A_codes A_lengths A_stack Y_cells Y_clauses N_marbles N_chipped N_swallowed N_sweets N_day N_owners P_next P_kept P_hasImage P_image P_acts P_entries P_imageEntries S_fewest S_row S_strengths U_size U_found U_places U_kinds U_holds U_fitting U_tally L_letters L_firstCells L_secondCells L_firstBest L_secondBest W_refusals m_thrown m_size m_at m_wrong m_deep m_laws m_text m_readBoys m_readMarbles m_readFarms m_boys m_marbles m_farms m_holding m_spills m_acts m_draws m_bestRow m_bestMany m_noted m_hasImage m_tape m_code m_value m_codes m_clauses m_testFrom m_sumFrom m_sumTo m_letters m_stack m_readRule m_readBoy m_readMarble m_readFarm m_rule m_boy m_marble m_farm m_now m_refused m_kept m_notePlace m_noteKind m_noteIs m_toldBy m_image p0
  rintro ⟨nb, nm, nf, nt, N, a1, a2, rfl, rfl, rfl, rfl, rfl, a5, a6, a7, a8, a9, a10, rfl⟩
  obtain ⟨w, hw⟩ := lws_lwA a8
  obtain ⟨D, kk, yy, dd, st, _⟩ := id a6
  have x := cx_of a2 a5 st hw
  have b5 := a2.1
  obtain ⟨v, Pn1, Pk1, Pa1, E1, S1, Rc1, Ma1, W1, Rm1, Mk1, h1, h2, h4, h5, h6⟩ := a_days (S := S_strengths) (p0 := p0) x a6 a10
  exact ⟨_, _, h1, h2, rfl, Rel_mk a1 a2 rfl (h5 6 (by decide)).symm (h5 7 (by decide)).symm rfl rfl (fun m hm => (a5 m hm).trans (h5 m (by omega)).symm) h4 a7 a8 a9 h6 rfl⟩
theorem s_years : S_years Rel := by
  unfold S_years
  intro W_spillsNow W_drawn T_length T_at T_bytes D_cells D_clauses G_length G_code A_size A_chosen A_codes A_lengths A_stack Y_cells Y_clauses N_marbles N_chipped N_swallowed N_sweets N_day N_owners P_next P_kept P_hasImage P_image P_acts P_entries P_imageEntries S_fewest S_row S_strengths U_size U_found U_places U_kinds U_holds U_fitting U_tally L_letters L_firstCells L_secondCells L_firstBest L_secondBest W_refusals m_thrown m_size m_at m_wrong m_deep m_laws m_text m_readBoys m_readMarbles m_readFarms m_boys m_marbles m_farms m_holding m_spills m_acts m_draws m_bestRow m_bestMany m_noted m_hasImage m_tape m_code m_value m_codes m_clauses m_testFrom m_sumFrom m_sumTo m_letters m_stack m_readRule m_readBoy m_readMarble m_readFarm m_rule m_boy m_marble m_farm m_now m_refused m_kept m_notePlace m_noteKind m_noteIs m_toldBy m_image p0 p1
  rintro ⟨nb, nm, nf, nt, N, a1, a2, rfl, rfl, rfl, rfl, rfl, a5, a6, a7, a8, a9, a10, rfl⟩
  obtain ⟨w, hw⟩ := lws_lwA a8
  obtain ⟨D, kk, yy, dd, st, _⟩ := id a6
  have x := cx_of a2 a5 st hw
  obtain ⟨v, z1, s1, O1, Pn1, Pk1, Pa1, E1, S1, L1, Ma1, z2, L3, s3, W1, Mk1, h1, h2, h3, h4, h5⟩ := a_years (S := S_strengths) (s := A_stack) (L := L_letters) (s2 := m_stack) (L2 := m_letters) (p0 := p0) (p1 := p1) (sp := W_spillsNow) (z := W_drawn) (z' := m_draws) x a6
  exact ⟨_, _, h1, h2, rfl, Rel_mk a1 a2 rfl rfl h5.symm rfl rfl h3 h4 a7 a8 a9 a10 rfl⟩
