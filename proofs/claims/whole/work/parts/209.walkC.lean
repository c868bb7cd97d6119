variable {B : gB} {X : gX} {fr : va_W} {W_spillsNow : Int32} {W_drawn : Int64} {T_length : Int32} {T_at : Int32} {T_bytes : Nat → Int32} {D_cells : Nat → Int32} {D_clauses : Nat → Int32} {G_length : Int32} {G_code : Nat → Int32} {A_size : Int32} {A_chosen : Int32} {A_codes : Nat → Int32} {A_lengths : Nat → Int32} {A_stack : Nat → Int32} {Y_cells : Nat → Int32} {Y_clauses : Nat → Int32} {N_marbles : Int32} {N_chipped : Int32} {N_swallowed : Int32} {N_sweets : Int32} {N_day : Int32} {N_owners : Nat → Int32} {P_next : Int32} {P_kept : Int32} {P_hasImage : Int32} {P_image : Int64} {P_acts : Nat → Int64} {P_entries : Nat → Int32} {P_imageEntries : Nat → Int32} {S_fewest : Int32} {S_row : Int32} {S_strengths : Nat → Int32} {U_size : Int32} {U_found : Int32} {U_places : Nat → Int32} {U_kinds : Nat → Int32} {U_holds : Nat → Int32} {U_fitting : Nat → Int32} {U_tally : Nat → Int32} {L_letters : Nat → Int32} {L_firstCells : Nat → Int32} {L_secondCells : Nat → Int32} {L_firstBest : Nat → Int32} {L_secondBest : Nat → Int32} {W_refusals : Nat → Int32}
set_option maxRecDepth 4000 in
theorem w_Laws_choose {p0 : Int32} (hX : gOk B X RX3 cX3_choose 2 0 (some .boolean)) : gH B X (fun r : (Int32 × Int32) => gFin X (some (.int r.1)) (wdC B W_spillsNow W_drawn T_length T_at T_bytes D_cells D_clauses G_length G_code A_size r.2 A_codes A_lengths A_stack Y_cells Y_clauses N_marbles N_chipped N_swallowed N_sweets N_day N_owners P_next P_kept P_hasImage P_image P_acts P_entries P_imageEntries S_fewest S_row S_strengths U_size U_found U_places U_kinds U_holds U_fitting U_tally L_letters L_firstCells L_secondCells L_firstBest L_secondBest W_refusals ++ fr)) 0 [(0, .ref (aC B 9)), (1, .int p0)] [] (wdC B W_spillsNow W_drawn T_length T_at T_bytes D_cells D_clauses G_length G_code A_size A_chosen A_codes A_lengths A_stack Y_cells Y_clauses N_marbles N_chipped N_swallowed N_sweets N_day N_owners P_next P_kept P_hasImage P_image P_acts P_entries P_imageEntries S_fewest S_row S_strengths U_size U_found U_places U_kinds U_holds U_fitting U_tally L_letters L_firstCells L_secondCells L_firstBest L_secondBest W_refusals ++ fr) (f_Laws_choose A_size A_chosen p0) := by
  unfold f_Laws_choose
  refine h_iload_n hX dX3_choose_0 rfl rfl ?_
  refine h_iconst hX dX3_choose_1 ki_m1 ?_
  refine h_icmp_lt hX dX3_choose_2 (tgt := 13) (by decide) (fun _ => ?_) (fun _ => ?_)
  · refine h_iconst hX dX3_choose_13 ki_0 ?_
    exact h_ret hX (rv := some (.int 0)) dX3_choose_14 rfl (fun h => h)
  · refine h_iload_n hX dX3_choose_5 rfl rfl ?_
    refine h_aload_n hX dX3_choose_6 rfl rfl ?_
    refine get_RX3_25_C9 hX dX3_choose_7 ?_
    refine h_icmp_lt hX dX3_choose_10 (tgt := 15) (by decide) (fun _ => ?_) (fun _ => ?_)
    · refine h_aload_n hX dX3_choose_15 rfl rfl ?_
      refine h_iload_n hX dX3_choose_16 rfl rfl ?_
      refine put_RX3_18_C9 hX dX3_choose_17 ?_
      refine h_iconst hX dX3_choose_20 ki_1 ?_
      exact h_ret hX (rv := some (.int 1)) dX3_choose_21 rfl (fun h => h)
    · refine h_iconst hX dX3_choose_13 ki_0 ?_
      exact h_ret hX (rv := some (.int 0)) dX3_choose_14 rfl (fun h => h)
theorem c_Laws_choose {p0 : Int32} {r : (Int32 × Int32)} (h : f_Laws_choose A_size A_chosen p0 = some r) : gMet B 0 yX3_choose cX3_choose 2 (some .boolean) [.ref (aC B 9), .int p0] (wdC B W_spillsNow W_drawn T_length T_at T_bytes D_cells D_clauses G_length G_code A_size A_chosen A_codes A_lengths A_stack Y_cells Y_clauses N_marbles N_chipped N_swallowed N_sweets N_day N_owners P_next P_kept P_hasImage P_image P_acts P_entries P_imageEntries S_fewest S_row S_strengths U_size U_found U_places U_kinds U_holds U_fitting U_tally L_letters L_firstCells L_secondCells L_firstBest L_secondBest W_refusals ++ fr) (some (.int r.1)) (wdC B W_spillsNow W_drawn T_length T_at T_bytes D_cells D_clauses G_length G_code A_size r.2 A_codes A_lengths A_stack Y_cells Y_clauses N_marbles N_chipped N_swallowed N_sweets N_day N_owners P_next P_kept P_hasImage P_image P_acts P_entries P_imageEntries S_fewest S_row S_strengths U_size U_found U_places U_kinds U_holds U_fitting U_tally L_letters L_firstCells L_secondCells L_firstBest L_secondBest W_refusals ++ fr) :=
  gMet.of rfl (Nat.le_of_ble_eq_true rfl) (fun X hX hF => w_Laws_choose hX r h hF)
set_option maxRecDepth 4000 in
theorem w_Main_law {p0 : Int32} (hX : gOk B X RX10 cX10_law 2 1 (some .boolean)) : gH B X (fun r : (Int32 × Int32) => gFin X (some (.int r.1)) (wdC B W_spillsNow W_drawn T_length T_at T_bytes D_cells D_clauses G_length G_code A_size r.2 A_codes A_lengths A_stack Y_cells Y_clauses N_marbles N_chipped N_swallowed N_sweets N_day N_owners P_next P_kept P_hasImage P_image P_acts P_entries P_imageEntries S_fewest S_row S_strengths U_size U_found U_places U_kinds U_holds U_fitting U_tally L_letters L_firstCells L_secondCells L_firstBest L_secondBest W_refusals ++ fr)) 0 [(0, .ref (aC B 0)), (1, .int p0)] [] (wdC B W_spillsNow W_drawn T_length T_at T_bytes D_cells D_clauses G_length G_code A_size A_chosen A_codes A_lengths A_stack Y_cells Y_clauses N_marbles N_chipped N_swallowed N_sweets N_day N_owners P_next P_kept P_hasImage P_image P_acts P_entries P_imageEntries S_fewest S_row S_strengths U_size U_found U_places U_kinds U_holds U_fitting U_tally L_letters L_firstCells L_secondCells L_firstBest L_secondBest W_refusals ++ fr) (f_Main_law A_size A_chosen p0) := by
  unfold f_Main_law
  refine h_aload_n hX dX10_law_0 rfl rfl ?_
  refine get_RX10_35_C0 hX dX10_law_1 ?_
  refine h_iload_n hX dX10_law_4 rfl rfl ?_
  refine h_callVi hX dX10_law_5 (cv_RX10_210) rc_C9 (As := [.int p0]) (st := []) (fun _ h => c_Laws_choose h) rfl rfl (by decide) (Nat.le_of_ble_eq_true rfl) (fun a_1 => ?_)
  exact h_retz hX dX10_law_8 (fun h => h)
theorem c_Main_law {p0 : Int32} {r : (Int32 × Int32)} (h : f_Main_law A_size A_chosen p0 = some r) : gMet B 1 yX10_law cX10_law 2 (some .boolean) [.ref (aC B 0), .int p0] (wdC B W_spillsNow W_drawn T_length T_at T_bytes D_cells D_clauses G_length G_code A_size A_chosen A_codes A_lengths A_stack Y_cells Y_clauses N_marbles N_chipped N_swallowed N_sweets N_day N_owners P_next P_kept P_hasImage P_image P_acts P_entries P_imageEntries S_fewest S_row S_strengths U_size U_found U_places U_kinds U_holds U_fitting U_tally L_letters L_firstCells L_secondCells L_firstBest L_secondBest W_refusals ++ fr) (some (.int r.1)) (wdC B W_spillsNow W_drawn T_length T_at T_bytes D_cells D_clauses G_length G_code A_size r.2 A_codes A_lengths A_stack Y_cells Y_clauses N_marbles N_chipped N_swallowed N_sweets N_day N_owners P_next P_kept P_hasImage P_image P_acts P_entries P_imageEntries S_fewest S_row S_strengths U_size U_found U_places U_kinds U_holds U_fitting U_tally L_letters L_firstCells L_secondCells L_firstBest L_secondBest W_refusals ++ fr) :=
  gMet.of rfl (Nat.le_of_ble_eq_true rfl) (fun X hX hF => w_Main_law hX r h hF)
set_option maxRecDepth 4000 in
theorem w_Main_liking {p0 : Int32} {p1 : Int32} (hX : gOk B X RX10 cX10_liking 3 4 (some .int)) : gH B X (fun r : Int32 => gFin X (some (.int r)) (wdC B W_spillsNow W_drawn T_length T_at T_bytes D_cells D_clauses G_length G_code A_size A_chosen A_codes A_lengths A_stack Y_cells Y_clauses N_marbles N_chipped N_swallowed N_sweets N_day N_owners P_next P_kept P_hasImage P_image P_acts P_entries P_imageEntries S_fewest S_row S_strengths U_size U_found U_places U_kinds U_holds U_fitting U_tally L_letters L_firstCells L_secondCells L_firstBest L_secondBest W_refusals ++ fr)) 0 [(0, .ref (aC B 0)), (1, .int p0), (2, .int p1)] [] (wdC B W_spillsNow W_drawn T_length T_at T_bytes D_cells D_clauses G_length G_code A_size A_chosen A_codes A_lengths A_stack Y_cells Y_clauses N_marbles N_chipped N_swallowed N_sweets N_day N_owners P_next P_kept P_hasImage P_image P_acts P_entries P_imageEntries S_fewest S_row S_strengths U_size U_found U_places U_kinds U_holds U_fitting U_tally L_letters L_firstCells L_secondCells L_firstBest L_secondBest W_refusals ++ fr) (f_Main_liking Y_cells Y_clauses N_chipped p0 p1) := by
  unfold f_Main_liking
  refine h_aload_n hX dX10_liking_0 rfl rfl ?_
  refine get_RX10_42_C0 hX dX10_liking_1 ?_
  refine h_iload_n hX dX10_liking_4 rfl rfl ?_
  refine h_callVi hX dX10_liking_5 (cv_RX10_152) rc_C13 (As := [.int p0]) (st := []) (fun _ h => c_Yard_hasBoy h) rfl rfl (by decide) (Nat.le_of_ble_eq_true rfl) (fun a_1 => ?_)
  refine h_if_eq hX dX10_liking_8 (tgt := 22) (by decide) (fun _ => ?_) (fun _ => ?_)
  · refine h_iconst hX dX10_liking_22 ki_m1 ?_
    exact h_ret hX (rv := some (.int ((-1)))) dX10_liking_23 trivial (fun h => h)
  · refine h_aload_n hX dX10_liking_11 rfl rfl ?_
    refine get_RX10_42_C0 hX dX10_liking_12 ?_
    refine h_iload_n hX dX10_liking_15 rfl rfl ?_
    refine h_callVi hX dX10_liking_16 (cv_RX10_177) rc_C13 (As := [.int p1]) (st := []) (fun _ h => c_Yard_hasMarble h) rfl rfl (by decide) (Nat.le_of_ble_eq_true rfl) (fun a_2 => ?_)
    refine h_if_ne hX dX10_liking_19 (tgt := 24) (by decide) (fun _ => ?_) (fun _ => ?_)
    · refine h_aload_n hX dX10_liking_24 rfl rfl ?_
      refine h_iload_n hX dX10_liking_25 rfl rfl ?_
      refine h_iload_n hX dX10_liking_26 rfl rfl ?_
      refine h_callVi hX dX10_liking_27 (cv_RX10_331) rc_C0 (As := [.int p0, .int p1]) (st := []) (fun _ h => c_Main_likingFor h) rfl rfl (by decide) (Nat.le_of_ble_eq_true rfl) (fun a_3 => ?_)
      exact h_ret hX (rv := some (.int a_3)) dX10_liking_30 trivial (fun h => h)
    · refine h_iconst hX dX10_liking_22 ki_m1 ?_
      exact h_ret hX (rv := some (.int ((-1)))) dX10_liking_23 trivial (fun h => h)
theorem c_Main_liking {p0 : Int32} {p1 : Int32} {r : Int32} (h : f_Main_liking Y_cells Y_clauses N_chipped p0 p1 = some r) : gMet B 4 yX10_liking cX10_liking 3 (some .int) [.ref (aC B 0), .int p0, .int p1] (wdC B W_spillsNow W_drawn T_length T_at T_bytes D_cells D_clauses G_length G_code A_size A_chosen A_codes A_lengths A_stack Y_cells Y_clauses N_marbles N_chipped N_swallowed N_sweets N_day N_owners P_next P_kept P_hasImage P_image P_acts P_entries P_imageEntries S_fewest S_row S_strengths U_size U_found U_places U_kinds U_holds U_fitting U_tally L_letters L_firstCells L_secondCells L_firstBest L_secondBest W_refusals ++ fr) (some (.int r)) (wdC B W_spillsNow W_drawn T_length T_at T_bytes D_cells D_clauses G_length G_code A_size A_chosen A_codes A_lengths A_stack Y_cells Y_clauses N_marbles N_chipped N_swallowed N_sweets N_day N_owners P_next P_kept P_hasImage P_image P_acts P_entries P_imageEntries S_fewest S_row S_strengths U_size U_found U_places U_kinds U_holds U_fitting U_tally L_letters L_firstCells L_secondCells L_firstBest L_secondBest W_refusals ++ fr) :=
  gMet.of rfl (Nat.le_of_ble_eq_true rfl) (fun X hX hF => w_Main_liking hX r h hF)
set_option maxRecDepth 4000 in
theorem w_Past_sweetsThen {p0 : Int32} (hX : gOk B X RX5 cX5_sweetsThen 2 1 (some .int)) : gH B X (fun r : Int32 => gFin X (some (.int r)) (wdC B W_spillsNow W_drawn T_length T_at T_bytes D_cells D_clauses G_length G_code A_size A_chosen A_codes A_lengths A_stack Y_cells Y_clauses N_marbles N_chipped N_swallowed N_sweets N_day N_owners P_next P_kept P_hasImage P_image P_acts P_entries P_imageEntries S_fewest S_row S_strengths U_size U_found U_places U_kinds U_holds U_fitting U_tally L_letters L_firstCells L_secondCells L_firstBest L_secondBest W_refusals ++ fr)) 0 [(0, .ref (aC B 18)), (1, .int p0)] [] (wdC B W_spillsNow W_drawn T_length T_at T_bytes D_cells D_clauses G_length G_code A_size A_chosen A_codes A_lengths A_stack Y_cells Y_clauses N_marbles N_chipped N_swallowed N_sweets N_day N_owners P_next P_kept P_hasImage P_image P_acts P_entries P_imageEntries S_fewest S_row S_strengths U_size U_found U_places U_kinds U_holds U_fitting U_tally L_letters L_firstCells L_secondCells L_firstBest L_secondBest W_refusals ++ fr) (f_Past_sweetsThen N_day P_entries p0) := by
  unfold f_Past_sweetsThen
  refine h_aload_n hX dX5_sweetsThen_0 rfl rfl ?_
  refine get_RX5_15_C18 hX dX5_sweetsThen_1 ?_
  refine h_aload_n hX dX5_sweetsThen_4 rfl rfl ?_
  refine h_iload_n hX dX5_sweetsThen_5 rfl rfl ?_
  refine h_callVi hX dX5_sweetsThen_6 (cv_RX5_56) rc_C18 (As := [.int p0]) (st := [.ref (aC B 20)]) (fun _ h => c_Past_ringIndex h) rfl rfl (by decide) (Nat.le_of_ble_eq_true rfl) (fun a_1 => ?_)
  refine ald_C20 hX dX5_sweetsThen_9 ?_
  refine h_bipush hX dX5_sweetsThen_10 kb_6 ?_
  refine h_ishr hX dX5_sweetsThen_12 ?_
  exact h_ret hX (rv := some (.int ((P_entries a_1.toNatClampNeg) >>> (6 &&& 31)))) dX5_sweetsThen_13 trivial (fun h => h)
theorem c_Past_sweetsThen {p0 : Int32} {r : Int32} (h : f_Past_sweetsThen N_day P_entries p0 = some r) : gMet B 1 yX5_sweetsThen cX5_sweetsThen 2 (some .int) [.ref (aC B 18), .int p0] (wdC B W_spillsNow W_drawn T_length T_at T_bytes D_cells D_clauses G_length G_code A_size A_chosen A_codes A_lengths A_stack Y_cells Y_clauses N_marbles N_chipped N_swallowed N_sweets N_day N_owners P_next P_kept P_hasImage P_image P_acts P_entries P_imageEntries S_fewest S_row S_strengths U_size U_found U_places U_kinds U_holds U_fitting U_tally L_letters L_firstCells L_secondCells L_firstBest L_secondBest W_refusals ++ fr) (some (.int r)) (wdC B W_spillsNow W_drawn T_length T_at T_bytes D_cells D_clauses G_length G_code A_size A_chosen A_codes A_lengths A_stack Y_cells Y_clauses N_marbles N_chipped N_swallowed N_sweets N_day N_owners P_next P_kept P_hasImage P_image P_acts P_entries P_imageEntries S_fewest S_row S_strengths U_size U_found U_places U_kinds U_holds U_fitting U_tally L_letters L_firstCells L_secondCells L_firstBest L_secondBest W_refusals ++ fr) :=
  gMet.of rfl (Nat.le_of_ble_eq_true rfl) (fun X hX hF => w_Past_sweetsThen hX r h hF)
set_option maxRecDepth 4000 in
theorem w_Past_contentThen {p0 : Int32} (hX : gOk B X RX5 cX5_contentThen 2 1 (some .int)) : gH B X (fun r : Int32 => gFin X (some (.int r)) (wdC B W_spillsNow W_drawn T_length T_at T_bytes D_cells D_clauses G_length G_code A_size A_chosen A_codes A_lengths A_stack Y_cells Y_clauses N_marbles N_chipped N_swallowed N_sweets N_day N_owners P_next P_kept P_hasImage P_image P_acts P_entries P_imageEntries S_fewest S_row S_strengths U_size U_found U_places U_kinds U_holds U_fitting U_tally L_letters L_firstCells L_secondCells L_firstBest L_secondBest W_refusals ++ fr)) 0 [(0, .ref (aC B 18)), (1, .int p0)] [] (wdC B W_spillsNow W_drawn T_length T_at T_bytes D_cells D_clauses G_length G_code A_size A_chosen A_codes A_lengths A_stack Y_cells Y_clauses N_marbles N_chipped N_swallowed N_sweets N_day N_owners P_next P_kept P_hasImage P_image P_acts P_entries P_imageEntries S_fewest S_row S_strengths U_size U_found U_places U_kinds U_holds U_fitting U_tally L_letters L_firstCells L_secondCells L_firstBest L_secondBest W_refusals ++ fr) (f_Past_contentThen N_day P_entries p0) := by
  unfold f_Past_contentThen
  refine h_aload_n hX dX5_contentThen_0 rfl rfl ?_
  refine get_RX5_15_C18 hX dX5_contentThen_1 ?_
  refine h_aload_n hX dX5_contentThen_4 rfl rfl ?_
  refine h_iload_n hX dX5_contentThen_5 rfl rfl ?_
  refine h_callVi hX dX5_contentThen_6 (cv_RX5_56) rc_C18 (As := [.int p0]) (st := [.ref (aC B 20)]) (fun _ h => c_Past_ringIndex h) rfl rfl (by decide) (Nat.le_of_ble_eq_true rfl) (fun a_1 => ?_)
  refine ald_C20 hX dX5_contentThen_9 ?_
  refine h_bipush hX dX5_contentThen_10 kb_63 ?_
  refine h_iand hX dX5_contentThen_12 ?_
  exact h_ret hX (rv := some (.int ((P_entries a_1.toNatClampNeg) &&& 63))) dX5_contentThen_13 trivial (fun h => h)
theorem c_Past_contentThen {p0 : Int32} {r : Int32} (h : f_Past_contentThen N_day P_entries p0 = some r) : gMet B 1 yX5_contentThen cX5_contentThen 2 (some .int) [.ref (aC B 18), .int p0] (wdC B W_spillsNow W_drawn T_length T_at T_bytes D_cells D_clauses G_length G_code A_size A_chosen A_codes A_lengths A_stack Y_cells Y_clauses N_marbles N_chipped N_swallowed N_sweets N_day N_owners P_next P_kept P_hasImage P_image P_acts P_entries P_imageEntries S_fewest S_row S_strengths U_size U_found U_places U_kinds U_holds U_fitting U_tally L_letters L_firstCells L_secondCells L_firstBest L_secondBest W_refusals ++ fr) (some (.int r)) (wdC B W_spillsNow W_drawn T_length T_at T_bytes D_cells D_clauses G_length G_code A_size A_chosen A_codes A_lengths A_stack Y_cells Y_clauses N_marbles N_chipped N_swallowed N_sweets N_day N_owners P_next P_kept P_hasImage P_image P_acts P_entries P_imageEntries S_fewest S_row S_strengths U_size U_found U_places U_kinds U_holds U_fitting U_tally L_letters L_firstCells L_secondCells L_firstBest L_secondBest W_refusals ++ fr) :=
  gMet.of rfl (Nat.le_of_ble_eq_true rfl) (fun X hX hF => w_Past_contentThen hX r h hF)
set_option maxRecDepth 4000 in
theorem w_Main_log {p0 : Int32} {p1 : Int32} (hX : gOk B X RX10 cX10_log 3 2 (some .int)) : gH B X (fun r : Int32 => gFin X (some (.int r)) (wdC B W_spillsNow W_drawn T_length T_at T_bytes D_cells D_clauses G_length G_code A_size A_chosen A_codes A_lengths A_stack Y_cells Y_clauses N_marbles N_chipped N_swallowed N_sweets N_day N_owners P_next P_kept P_hasImage P_image P_acts P_entries P_imageEntries S_fewest S_row S_strengths U_size U_found U_places U_kinds U_holds U_fitting U_tally L_letters L_firstCells L_secondCells L_firstBest L_secondBest W_refusals ++ fr)) 0 [(0, .ref (aC B 0)), (1, .int p0), (2, .int p1)] [] (wdC B W_spillsNow W_drawn T_length T_at T_bytes D_cells D_clauses G_length G_code A_size A_chosen A_codes A_lengths A_stack Y_cells Y_clauses N_marbles N_chipped N_swallowed N_sweets N_day N_owners P_next P_kept P_hasImage P_image P_acts P_entries P_imageEntries S_fewest S_row S_strengths U_size U_found U_places U_kinds U_holds U_fitting U_tally L_letters L_firstCells L_secondCells L_firstBest L_secondBest W_refusals ++ fr) (f_Main_log N_day P_entries p0 p1) := by
  unfold f_Main_log
  refine h_iload_n hX dX10_log_0 rfl rfl ?_
  refine h_if_lt hX dX10_log_1 (tgt := 15) (by decide) (fun _ => ?_) (fun _ => ?_)
  · refine h_iconst hX dX10_log_15 ki_m1 ?_
    exact h_ret hX (rv := some (.int ((-1)))) dX10_log_16 trivial (fun h => h)
  · refine h_iload_n hX dX10_log_4 rfl rfl ?_
    refine h_aload_n hX dX10_log_5 rfl rfl ?_
    refine get_RX10_58_C0 hX dX10_log_6 ?_
    refine h_callVi hX dX10_log_9 (cv_RX10_264) rc_C18 (As := []) (st := [.int p0]) (fun _ h => c_Past_logLength h) rfl rfl (by decide) (Nat.le_of_ble_eq_true rfl) (fun a_1 => ?_)
    refine h_icmp_lt hX dX10_log_12 (tgt := 17) (by decide) (fun _ => ?_) (fun _ => ?_)
    · refine h_iload_n hX dX10_log_17 rfl rfl ?_
      refine h_if_ne hX dX10_log_18 (tgt := 30) (by decide) (fun _ => ?_) (fun _ => ?_)
      · refine h_iload_n hX dX10_log_30 rfl rfl ?_
        refine h_iconst hX dX10_log_31 ki_1 ?_
        refine h_icmp_ne hX dX10_log_32 (tgt := 46) (by decide) (fun _ => ?_) (fun _ => ?_)
        · refine h_iconst hX dX10_log_46 ki_m1 ?_
          exact h_ret hX (rv := some (.int ((-1)))) dX10_log_47 trivial (fun h => h)
        · refine h_aload_n hX dX10_log_35 rfl rfl ?_
          refine get_RX10_58_C0 hX dX10_log_36 ?_
          refine h_iload_n hX dX10_log_39 rfl rfl ?_
          refine h_callVi hX dX10_log_40 (cv_RX10_270) rc_C18 (As := [.int p0]) (st := []) (fun _ h => c_Past_contentThen h) rfl rfl (by decide) (Nat.le_of_ble_eq_true rfl) (fun a_2 => ?_)
          refine h_goto hX dX10_log_43 (tgt := 47) (by decide) ?_
          exact h_ret hX (rv := some (.int a_2)) dX10_log_47 trivial (fun h => h)
      · refine h_aload_n hX dX10_log_21 rfl rfl ?_
        refine get_RX10_58_C0 hX dX10_log_22 ?_
        refine h_iload_n hX dX10_log_25 rfl rfl ?_
        refine h_callVi hX dX10_log_26 (cv_RX10_267) rc_C18 (As := [.int p0]) (st := []) (fun _ h => c_Past_sweetsThen h) rfl rfl (by decide) (Nat.le_of_ble_eq_true rfl) (fun a_3 => ?_)
        exact h_ret hX (rv := some (.int a_3)) dX10_log_29 trivial (fun h => h)
    · refine h_iconst hX dX10_log_15 ki_m1 ?_
      exact h_ret hX (rv := some (.int ((-1)))) dX10_log_16 trivial (fun h => h)
theorem c_Main_log {p0 : Int32} {p1 : Int32} {r : Int32} (h : f_Main_log N_day P_entries p0 p1 = some r) : gMet B 2 yX10_log cX10_log 3 (some .int) [.ref (aC B 0), .int p0, .int p1] (wdC B W_spillsNow W_drawn T_length T_at T_bytes D_cells D_clauses G_length G_code A_size A_chosen A_codes A_lengths A_stack Y_cells Y_clauses N_marbles N_chipped N_swallowed N_sweets N_day N_owners P_next P_kept P_hasImage P_image P_acts P_entries P_imageEntries S_fewest S_row S_strengths U_size U_found U_places U_kinds U_holds U_fitting U_tally L_letters L_firstCells L_secondCells L_firstBest L_secondBest W_refusals ++ fr) (some (.int r)) (wdC B W_spillsNow W_drawn T_length T_at T_bytes D_cells D_clauses G_length G_code A_size A_chosen A_codes A_lengths A_stack Y_cells Y_clauses N_marbles N_chipped N_swallowed N_sweets N_day N_owners P_next P_kept P_hasImage P_image P_acts P_entries P_imageEntries S_fewest S_row S_strengths U_size U_found U_places U_kinds U_holds U_fitting U_tally L_letters L_firstCells L_secondCells L_firstBest L_secondBest W_refusals ++ fr) :=
  gMet.of rfl (Nat.le_of_ble_eq_true rfl) (fun X hX hF => w_Main_log hX r h hF)
set_option maxRecDepth 4000 in
theorem w_Main_marble {p0 : Int32} {p1 : Int32} (hX : gOk B X RX10 cX10_marble 3 2 (some .int)) : gH B X (fun r : Int32 => gFin X (some (.int r)) (wdC B W_spillsNow W_drawn T_length T_at T_bytes D_cells D_clauses G_length G_code A_size A_chosen A_codes A_lengths A_stack Y_cells Y_clauses N_marbles N_chipped N_swallowed N_sweets N_day N_owners P_next P_kept P_hasImage P_image P_acts P_entries P_imageEntries S_fewest S_row S_strengths U_size U_found U_places U_kinds U_holds U_fitting U_tally L_letters L_firstCells L_secondCells L_firstBest L_secondBest W_refusals ++ fr)) 0 [(0, .ref (aC B 0)), (1, .int p0), (2, .int p1)] [] (wdC B W_spillsNow W_drawn T_length T_at T_bytes D_cells D_clauses G_length G_code A_size A_chosen A_codes A_lengths A_stack Y_cells Y_clauses N_marbles N_chipped N_swallowed N_sweets N_day N_owners P_next P_kept P_hasImage P_image P_acts P_entries P_imageEntries S_fewest S_row S_strengths U_size U_found U_places U_kinds U_holds U_fitting U_tally L_letters L_firstCells L_secondCells L_firstBest L_secondBest W_refusals ++ fr) (f_Main_marble Y_cells Y_clauses N_marbles N_chipped N_swallowed N_owners p0 p1) := by
  unfold f_Main_marble
  refine h_aload_n hX dX10_marble_0 rfl rfl ?_
  refine get_RX10_42_C0 hX dX10_marble_1 ?_
  refine h_iload_n hX dX10_marble_4 rfl rfl ?_
  refine h_callVi hX dX10_marble_5 (cv_RX10_177) rc_C13 (As := [.int p0]) (st := []) (fun _ h => c_Yard_hasMarble h) rfl rfl (by decide) (Nat.le_of_ble_eq_true rfl) (fun a_1 => ?_)
  refine h_if_ne hX dX10_marble_8 (tgt := 14) (by decide) (fun _ => ?_) (fun _ => ?_)
  · refine h_iload_n hX dX10_marble_14 rfl rfl ?_
    refine gH.ite (fun hc0 => ?_) (fun hc0 => ?_)
    · refine h_tsin hX dX10_marble_15 hc0 (by decide) (by decide) rfl (tgt := 48) (by decide) ?_
      refine h_aload_n hX dX10_marble_48 rfl rfl ?_
      refine get_RX10_49_C0 hX dX10_marble_49 ?_
      refine h_iload_n hX dX10_marble_52 rfl rfl ?_
      refine h_callVi hX dX10_marble_53 (cv_RX10_181) rc_C16 (As := [.int p0]) (st := []) (fun _ h => c_Now_ownerOf h) rfl rfl (by decide) (Nat.le_of_ble_eq_true rfl) (fun a_2 => ?_)
      exact h_ret hX (rv := some (.int a_2)) dX10_marble_56 trivial (fun h => h)
    refine gH.ite (fun hc1 => ?_) (fun hc1 => ?_)
    · refine h_tsin hX dX10_marble_15 hc1 (by decide) (by decide) rfl (tgt := 57) (by decide) ?_
      refine h_aload_n hX dX10_marble_57 rfl rfl ?_
      refine get_RX10_42_C0 hX dX10_marble_58 ?_
      refine h_iload_n hX dX10_marble_61 rfl rfl ?_
      refine h_callVi hX dX10_marble_62 (cv_RX10_184) rc_C13 (As := [.int p0]) (st := []) (fun _ h => c_Yard_kind h) rfl rfl (by decide) (Nat.le_of_ble_eq_true rfl) (fun a_3 => ?_)
      exact h_ret hX (rv := some (.int a_3)) dX10_marble_65 trivial (fun h => h)
    refine gH.ite (fun hc2 => ?_) (fun hc2 => ?_)
    · refine h_tsin hX dX10_marble_15 hc2 (by decide) (by decide) rfl (tgt := 66) (by decide) ?_
      refine h_aload_n hX dX10_marble_66 rfl rfl ?_
      refine get_RX10_42_C0 hX dX10_marble_67 ?_
      refine h_iload_n hX dX10_marble_70 rfl rfl ?_
      refine h_callVi hX dX10_marble_71 (cv_RX10_187) rc_C13 (As := [.int p0]) (st := []) (fun _ h => c_Yard_size h) rfl rfl (by decide) (Nat.le_of_ble_eq_true rfl) (fun a_4 => ?_)
      exact h_ret hX (rv := some (.int a_4)) dX10_marble_74 trivial (fun h => h)
    refine gH.ite (fun hc3 => ?_) (fun hc3 => ?_)
    · refine h_tsin hX dX10_marble_15 hc3 (by decide) (by decide) rfl (tgt := 75) (by decide) ?_
      refine h_aload_n hX dX10_marble_75 rfl rfl ?_
      refine get_RX10_49_C0 hX dX10_marble_76 ?_
      refine h_iload_n hX dX10_marble_79 rfl rfl ?_
      refine h_callVi hX dX10_marble_80 (cv_RX10_189) rc_C16 (As := [.int p0]) (st := []) (fun _ h => c_Now_isChipped h) rfl rfl (by decide) (Nat.le_of_ble_eq_true rfl) (fun a_5 => ?_)
      refine h_if_eq hX dX10_marble_83 (tgt := 90) (by decide) (fun _ => ?_) (fun _ => ?_)
      · refine h_iconst hX dX10_marble_90 ki_0 ?_
        exact h_ret hX (rv := some (.int 0)) dX10_marble_91 trivial (fun h => h)
      · refine h_iconst hX dX10_marble_86 ki_1 ?_
        refine h_goto hX dX10_marble_87 (tgt := 91) (by decide) ?_
        exact h_ret hX (rv := some (.int 1)) dX10_marble_91 trivial (fun h => h)
    refine gH.ite (fun hc4 => ?_) (fun hc4 => ?_)
    · refine h_tsin hX dX10_marble_15 hc4 (by decide) (by decide) rfl (tgt := 92) (by decide) ?_
      refine h_aload_n hX dX10_marble_92 rfl rfl ?_
      refine get_RX10_49_C0 hX dX10_marble_93 ?_
      refine h_iload_n hX dX10_marble_96 rfl rfl ?_
      refine h_callVi hX dX10_marble_97 (cv_RX10_192) rc_C16 (As := [.int p0]) (st := []) (fun _ h => c_Now_isSwallowed h) rfl rfl (by decide) (Nat.le_of_ble_eq_true rfl) (fun a_6 => ?_)
      refine h_if_eq hX dX10_marble_100 (tgt := 107) (by decide) (fun _ => ?_) (fun _ => ?_)
      · refine h_iconst hX dX10_marble_107 ki_0 ?_
        exact h_ret hX (rv := some (.int 0)) dX10_marble_108 trivial (fun h => h)
      · refine h_iconst hX dX10_marble_103 ki_1 ?_
        refine h_goto hX dX10_marble_104 (tgt := 108) (by decide) ?_
        exact h_ret hX (rv := some (.int 1)) dX10_marble_108 trivial (fun h => h)
    refine h_tsdef hX dX10_marble_15 (cs := [0, 1, 2, 3, 4]) (by decide) (by decide) (List.forall_mem_cons.mpr ⟨hc0, (List.forall_mem_cons.mpr ⟨hc1, (List.forall_mem_cons.mpr ⟨hc2, (List.forall_mem_cons.mpr ⟨hc3, (List.forall_mem_cons.mpr ⟨hc4, fun _ h => absurd h List.not_mem_nil⟩)⟩)⟩)⟩)⟩) (tgt := 109) (by decide) ?_
    refine h_ldc hX dX10_marble_109 cst_RX10_180 ?_
    exact h_ret hX (rv := some (.int ((-1000000)))) dX10_marble_111 trivial (fun h => h)
  · refine h_ldc hX dX10_marble_11 cst_RX10_180 ?_
    exact h_ret hX (rv := some (.int ((-1000000)))) dX10_marble_13 trivial (fun h => h)
theorem c_Main_marble {p0 : Int32} {p1 : Int32} {r : Int32} (h : f_Main_marble Y_cells Y_clauses N_marbles N_chipped N_swallowed N_owners p0 p1 = some r) : gMet B 2 yX10_marble cX10_marble 3 (some .int) [.ref (aC B 0), .int p0, .int p1] (wdC B W_spillsNow W_drawn T_length T_at T_bytes D_cells D_clauses G_length G_code A_size A_chosen A_codes A_lengths A_stack Y_cells Y_clauses N_marbles N_chipped N_swallowed N_sweets N_day N_owners P_next P_kept P_hasImage P_image P_acts P_entries P_imageEntries S_fewest S_row S_strengths U_size U_found U_places U_kinds U_holds U_fitting U_tally L_letters L_firstCells L_secondCells L_firstBest L_secondBest W_refusals ++ fr) (some (.int r)) (wdC B W_spillsNow W_drawn T_length T_at T_bytes D_cells D_clauses G_length G_code A_size A_chosen A_codes A_lengths A_stack Y_cells Y_clauses N_marbles N_chipped N_swallowed N_sweets N_day N_owners P_next P_kept P_hasImage P_image P_acts P_entries P_imageEntries S_fewest S_row S_strengths U_size U_found U_places U_kinds U_holds U_fitting U_tally L_letters L_firstCells L_secondCells L_firstBest L_secondBest W_refusals ++ fr) :=
  gMet.of rfl (Nat.le_of_ble_eq_true rfl) (fun X hX hF => w_Main_marble hX r h hF)
set_option maxRecDepth 4000 in
theorem w_Sky_placesWithout_J27 {v2 : Int32} {k0 : Int32} {k1 : Int32} (hX : gOk B X RX6 cX6_placesWithout 3 2 (some .int)) : gH B X (Sum.elim (fun s : (Int32 × Int32) => gG B X 4 [(0, .ref (aC B 22)), (1, .int s.1), (2, .int s.2)] [] (wdC B W_spillsNow W_drawn T_length T_at T_bytes D_cells D_clauses G_length G_code A_size A_chosen A_codes A_lengths A_stack Y_cells Y_clauses N_marbles N_chipped N_swallowed N_sweets N_day N_owners P_next P_kept P_hasImage P_image P_acts P_entries P_imageEntries S_fewest S_row S_strengths U_size U_found U_places U_kinds U_holds U_fitting U_tally L_letters L_firstCells L_secondCells L_firstBest L_secondBest W_refusals ++ fr)) (fun r : Int32 => gFin X (some (.int r)) (wdC B W_spillsNow W_drawn T_length T_at T_bytes D_cells D_clauses G_length G_code A_size A_chosen A_codes A_lengths A_stack Y_cells Y_clauses N_marbles N_chipped N_swallowed N_sweets N_day N_owners P_next P_kept P_hasImage P_image P_acts P_entries P_imageEntries S_fewest S_row S_strengths U_size U_found U_places U_kinds U_holds U_fitting U_tally L_letters L_firstCells L_secondCells L_firstBest L_secondBest W_refusals ++ fr))) 27 [(0, .ref (aC B 22)), (2, .int v2)] [.int k1, .int k0] (wdC B W_spillsNow W_drawn T_length T_at T_bytes D_cells D_clauses G_length G_code A_size A_chosen A_codes A_lengths A_stack Y_cells Y_clauses N_marbles N_chipped N_swallowed N_sweets N_day N_owners P_next P_kept P_hasImage P_image P_acts P_entries P_imageEntries S_fewest S_row S_strengths U_size U_found U_places U_kinds U_holds U_fitting U_tally L_letters L_firstCells L_secondCells L_firstBest L_secondBest W_refusals ++ fr) (f_Sky_placesWithout_J27 v2 k0 k1) := by
  unfold f_Sky_placesWithout_J27
  refine h_ior hX dX6_placesWithout_27 ?_
  refine gH.leti (fun v1_2 => ?_)
  refine h_istore_n hX dX6_placesWithout_28 rfl (by decide) (lv' := [(0, .ref (aC B 22)), (1, .int v1_2), (2, .int v2)]) rfl ?_
  refine h_iincc hX dX6_placesWithout_29 rfl ki_1 (by decide) (lv' := [(0, .ref (aC B 22)), (1, .int v1_2), (2, .int (v2 + 1))]) rfl ?_
  refine h_goto hX dX6_placesWithout_32 (tgt := 4) (by decide) ?_
  exact gH.some' (fun h => h)
set_option maxRecDepth 4000 in
theorem w_Sky_placesWithout_L4 (hX : gOk B X RX6 cX6_placesWithout 3 2 (some .int)) (s : (Int32 × Int32)) : gH B X (Sum.elim (fun s : (Int32 × Int32) => gG B X 4 [(0, .ref (aC B 22)), (1, .int s.1), (2, .int s.2)] [] (wdC B W_spillsNow W_drawn T_length T_at T_bytes D_cells D_clauses G_length G_code A_size A_chosen A_codes A_lengths A_stack Y_cells Y_clauses N_marbles N_chipped N_swallowed N_sweets N_day N_owners P_next P_kept P_hasImage P_image P_acts P_entries P_imageEntries S_fewest S_row S_strengths U_size U_found U_places U_kinds U_holds U_fitting U_tally L_letters L_firstCells L_secondCells L_firstBest L_secondBest W_refusals ++ fr)) (fun r : Int32 => gFin X (some (.int r)) (wdC B W_spillsNow W_drawn T_length T_at T_bytes D_cells D_clauses G_length G_code A_size A_chosen A_codes A_lengths A_stack Y_cells Y_clauses N_marbles N_chipped N_swallowed N_sweets N_day N_owners P_next P_kept P_hasImage P_image P_acts P_entries P_imageEntries S_fewest S_row S_strengths U_size U_found U_places U_kinds U_holds U_fitting U_tally L_letters L_firstCells L_secondCells L_firstBest L_secondBest W_refusals ++ fr))) 4 [(0, .ref (aC B 22)), (1, .int s.1), (2, .int s.2)] [] (wdC B W_spillsNow W_drawn T_length T_at T_bytes D_cells D_clauses G_length G_code A_size A_chosen A_codes A_lengths A_stack Y_cells Y_clauses N_marbles N_chipped N_swallowed N_sweets N_day N_owners P_next P_kept P_hasImage P_image P_acts P_entries P_imageEntries S_fewest S_row S_strengths U_size U_found U_places U_kinds U_holds U_fitting U_tally L_letters L_firstCells L_secondCells L_firstBest L_secondBest W_refusals ++ fr) (f_Sky_placesWithout_L4 S_strengths s) := by
  unfold f_Sky_placesWithout_L4
  refine h_iload_n hX dX6_placesWithout_4 rfl rfl ?_
  refine h_bipush hX dX6_placesWithout_5 kb_10 ?_
  refine h_icmp_ge hX dX6_placesWithout_7 (tgt := 35) (by decide) (fun _ => ?_) (fun _ => ?_)
  · refine h_iload_n hX dX6_placesWithout_35 rfl rfl ?_
    exact h_ret hX (rv := some (.int s.1)) dX6_placesWithout_36 trivial (fun h => h)
  · refine h_iload_n hX dX6_placesWithout_10 rfl rfl ?_
    refine h_aload_n hX dX6_placesWithout_11 rfl rfl ?_
    refine h_iload_n hX dX6_placesWithout_12 rfl rfl ?_
    refine h_callVi hX dX6_placesWithout_13 (cv_RX6_75) rc_C22 (As := [.int s.2]) (st := [.int s.1]) (fun _ h => c_Sky_strongestKind h) rfl rfl (by decide) (Nat.le_of_ble_eq_true rfl) (fun a_1 => ?_)
    refine h_iconst hX dX6_placesWithout_16 ki_m1 ?_
    refine h_icmp_ne hX dX6_placesWithout_17 (tgt := 26) (by decide) (fun _ => ?_) (fun _ => ?_)
    · refine h_iconst hX dX6_placesWithout_26 ki_0 ?_
      refine gH.dead [0, 2] rfl ?_
      exact w_Sky_placesWithout_J27 hX
    · refine h_iconst hX dX6_placesWithout_20 ki_1 ?_
      refine h_iload_n hX dX6_placesWithout_21 rfl rfl ?_
      refine h_ishl hX dX6_placesWithout_22 ?_
      refine h_goto hX dX6_placesWithout_23 (tgt := 27) (by decide) ?_
      refine gH.dead [0, 2] rfl ?_
      exact w_Sky_placesWithout_J27 hX
set_option maxRecDepth 4000 in
theorem w_Sky_placesWithout (hX : gOk B X RX6 cX6_placesWithout 3 2 (some .int)) : gH B X (fun r : Int32 => gFin X (some (.int r)) (wdC B W_spillsNow W_drawn T_length T_at T_bytes D_cells D_clauses G_length G_code A_size A_chosen A_codes A_lengths A_stack Y_cells Y_clauses N_marbles N_chipped N_swallowed N_sweets N_day N_owners P_next P_kept P_hasImage P_image P_acts P_entries P_imageEntries S_fewest S_row S_strengths U_size U_found U_places U_kinds U_holds U_fitting U_tally L_letters L_firstCells L_secondCells L_firstBest L_secondBest W_refusals ++ fr)) 0 [(0, .ref (aC B 22))] [] (wdC B W_spillsNow W_drawn T_length T_at T_bytes D_cells D_clauses G_length G_code A_size A_chosen A_codes A_lengths A_stack Y_cells Y_clauses N_marbles N_chipped N_swallowed N_sweets N_day N_owners P_next P_kept P_hasImage P_image P_acts P_entries P_imageEntries S_fewest S_row S_strengths U_size U_found U_places U_kinds U_holds U_fitting U_tally L_letters L_firstCells L_secondCells L_firstBest L_secondBest W_refusals ++ fr) (f_Sky_placesWithout S_strengths) := by
  unfold f_Sky_placesWithout
  refine h_iconst hX dX6_placesWithout_0 ki_0 ?_
  refine h_istore_n hX dX6_placesWithout_1 rfl (by decide) (lv' := [(0, .ref (aC B 22)), (1, .int 0)]) rfl ?_
  refine h_iconst hX dX6_placesWithout_2 ki_0 ?_
  refine h_istore_n hX dX6_placesWithout_3 rfl (by decide) (lv' := [(0, .ref (aC B 22)), (1, .int 0), (2, .int 0)]) rfl ?_
  exact gH.loop (lvf := fun z : (Int32 × Int32) => [(0, .ref (aC B 22)), (1, .int z.1), (2, .int z.2)]) (wf := fun z : (Int32 × Int32) => wdC B W_spillsNow W_drawn T_length T_at T_bytes D_cells D_clauses G_length G_code A_size A_chosen A_codes A_lengths A_stack Y_cells Y_clauses N_marbles N_chipped N_swallowed N_sweets N_day N_owners P_next P_kept P_hasImage P_image P_acts P_entries P_imageEntries S_fewest S_row S_strengths U_size U_found U_places U_kinds U_holds U_fitting U_tally L_letters L_firstCells L_secondCells L_firstBest L_secondBest W_refusals ++ fr) (fun z => w_Sky_placesWithout_L4 hX z) (0, 0)
theorem c_Sky_placesWithout {r : Int32} (h : f_Sky_placesWithout S_strengths = some r) : gMet B 2 yX6_placesWithout cX6_placesWithout 3 (some .int) [.ref (aC B 22)] (wdC B W_spillsNow W_drawn T_length T_at T_bytes D_cells D_clauses G_length G_code A_size A_chosen A_codes A_lengths A_stack Y_cells Y_clauses N_marbles N_chipped N_swallowed N_sweets N_day N_owners P_next P_kept P_hasImage P_image P_acts P_entries P_imageEntries S_fewest S_row S_strengths U_size U_found U_places U_kinds U_holds U_fitting U_tally L_letters L_firstCells L_secondCells L_firstBest L_secondBest W_refusals ++ fr) (some (.int r)) (wdC B W_spillsNow W_drawn T_length T_at T_bytes D_cells D_clauses G_length G_code A_size A_chosen A_codes A_lengths A_stack Y_cells Y_clauses N_marbles N_chipped N_swallowed N_sweets N_day N_owners P_next P_kept P_hasImage P_image P_acts P_entries P_imageEntries S_fewest S_row S_strengths U_size U_found U_places U_kinds U_holds U_fitting U_tally L_letters L_firstCells L_secondCells L_firstBest L_secondBest W_refusals ++ fr) :=
  gMet.of rfl (Nat.le_of_ble_eq_true rfl) (fun X hX hF => w_Sky_placesWithout hX r h hF)
set_option maxRecDepth 4000 in
theorem w_Main_strongestMarble_J52 {v1 : Int32} {v2 : Int32} (hX : gOk B X RX10 cX10_strongestMarble 3 2 (some .int)) : gH B X (Sum.elim (fun s : (Int32 × Int32) => gG B X 4 [(0, .ref (aC B 0)), (1, .int s.1), (2, .int s.2)] [] (wdC B W_spillsNow W_drawn T_length T_at T_bytes D_cells D_clauses G_length G_code A_size A_chosen A_codes A_lengths A_stack Y_cells Y_clauses N_marbles N_chipped N_swallowed N_sweets N_day N_owners P_next P_kept P_hasImage P_image P_acts P_entries P_imageEntries S_fewest S_row S_strengths U_size U_found U_places U_kinds U_holds U_fitting U_tally L_letters L_firstCells L_secondCells L_firstBest L_secondBest W_refusals ++ fr)) (fun r : Int32 => gFin X (some (.int r)) (wdC B W_spillsNow W_drawn T_length T_at T_bytes D_cells D_clauses G_length G_code A_size A_chosen A_codes A_lengths A_stack Y_cells Y_clauses N_marbles N_chipped N_swallowed N_sweets N_day N_owners P_next P_kept P_hasImage P_image P_acts P_entries P_imageEntries S_fewest S_row S_strengths U_size U_found U_places U_kinds U_holds U_fitting U_tally L_letters L_firstCells L_secondCells L_firstBest L_secondBest W_refusals ++ fr))) 52 [(0, .ref (aC B 0)), (1, .int v1), (2, .int v2)] [] (wdC B W_spillsNow W_drawn T_length T_at T_bytes D_cells D_clauses G_length G_code A_size A_chosen A_codes A_lengths A_stack Y_cells Y_clauses N_marbles N_chipped N_swallowed N_sweets N_day N_owners P_next P_kept P_hasImage P_image P_acts P_entries P_imageEntries S_fewest S_row S_strengths U_size U_found U_places U_kinds U_holds U_fitting U_tally L_letters L_firstCells L_secondCells L_firstBest L_secondBest W_refusals ++ fr) (f_Main_strongestMarble_J52 v1 v2) := by
  unfold f_Main_strongestMarble_J52
  refine h_iincc hX dX10_strongestMarble_52 rfl ki_1 (by decide) (lv' := [(0, .ref (aC B 0)), (1, .int v1), (2, .int (v2 + 1))]) rfl ?_
  refine h_goto hX dX10_strongestMarble_55 (tgt := 4) (by decide) ?_
  exact gH.some' (fun h => h)
set_option maxRecDepth 4000 in
theorem w_Main_strongestMarble_J50 {v2 : Int32} (hX : gOk B X RX10 cX10_strongestMarble 3 2 (some .int)) : gH B X (Sum.elim (fun s : (Int32 × Int32) => gG B X 4 [(0, .ref (aC B 0)), (1, .int s.1), (2, .int s.2)] [] (wdC B W_spillsNow W_drawn T_length T_at T_bytes D_cells D_clauses G_length G_code A_size A_chosen A_codes A_lengths A_stack Y_cells Y_clauses N_marbles N_chipped N_swallowed N_sweets N_day N_owners P_next P_kept P_hasImage P_image P_acts P_entries P_imageEntries S_fewest S_row S_strengths U_size U_found U_places U_kinds U_holds U_fitting U_tally L_letters L_firstCells L_secondCells L_firstBest L_secondBest W_refusals ++ fr)) (fun r : Int32 => gFin X (some (.int r)) (wdC B W_spillsNow W_drawn T_length T_at T_bytes D_cells D_clauses G_length G_code A_size A_chosen A_codes A_lengths A_stack Y_cells Y_clauses N_marbles N_chipped N_swallowed N_sweets N_day N_owners P_next P_kept P_hasImage P_image P_acts P_entries P_imageEntries S_fewest S_row S_strengths U_size U_found U_places U_kinds U_holds U_fitting U_tally L_letters L_firstCells L_secondCells L_firstBest L_secondBest W_refusals ++ fr))) 50 [(0, .ref (aC B 0)), (2, .int v2)] [] (wdC B W_spillsNow W_drawn T_length T_at T_bytes D_cells D_clauses G_length G_code A_size A_chosen A_codes A_lengths A_stack Y_cells Y_clauses N_marbles N_chipped N_swallowed N_sweets N_day N_owners P_next P_kept P_hasImage P_image P_acts P_entries P_imageEntries S_fewest S_row S_strengths U_size U_found U_places U_kinds U_holds U_fitting U_tally L_letters L_firstCells L_secondCells L_firstBest L_secondBest W_refusals ++ fr) (f_Main_strongestMarble_J50 v2) := by
  unfold f_Main_strongestMarble_J50
  refine h_iload_n hX dX10_strongestMarble_50 rfl rfl ?_
  refine h_istore_n hX dX10_strongestMarble_51 rfl (by decide) (lv' := [(0, .ref (aC B 0)), (1, .int v2), (2, .int v2)]) rfl ?_
  exact w_Main_strongestMarble_J52 hX
set_option maxRecDepth 4000 in
theorem w_Main_strongestMarble_L4 (hX : gOk B X RX10 cX10_strongestMarble 3 2 (some .int)) (s : (Int32 × Int32)) : gH B X (Sum.elim (fun s : (Int32 × Int32) => gG B X 4 [(0, .ref (aC B 0)), (1, .int s.1), (2, .int s.2)] [] (wdC B W_spillsNow W_drawn T_length T_at T_bytes D_cells D_clauses G_length G_code A_size A_chosen A_codes A_lengths A_stack Y_cells Y_clauses N_marbles N_chipped N_swallowed N_sweets N_day N_owners P_next P_kept P_hasImage P_image P_acts P_entries P_imageEntries S_fewest S_row S_strengths U_size U_found U_places U_kinds U_holds U_fitting U_tally L_letters L_firstCells L_secondCells L_firstBest L_secondBest W_refusals ++ fr)) (fun r : Int32 => gFin X (some (.int r)) (wdC B W_spillsNow W_drawn T_length T_at T_bytes D_cells D_clauses G_length G_code A_size A_chosen A_codes A_lengths A_stack Y_cells Y_clauses N_marbles N_chipped N_swallowed N_sweets N_day N_owners P_next P_kept P_hasImage P_image P_acts P_entries P_imageEntries S_fewest S_row S_strengths U_size U_found U_places U_kinds U_holds U_fitting U_tally L_letters L_firstCells L_secondCells L_firstBest L_secondBest W_refusals ++ fr))) 4 [(0, .ref (aC B 0)), (1, .int s.1), (2, .int s.2)] [] (wdC B W_spillsNow W_drawn T_length T_at T_bytes D_cells D_clauses G_length G_code A_size A_chosen A_codes A_lengths A_stack Y_cells Y_clauses N_marbles N_chipped N_swallowed N_sweets N_day N_owners P_next P_kept P_hasImage P_image P_acts P_entries P_imageEntries S_fewest S_row S_strengths U_size U_found U_places U_kinds U_holds U_fitting U_tally L_letters L_firstCells L_secondCells L_firstBest L_secondBest W_refusals ++ fr) (f_Main_strongestMarble_L4 Y_cells Y_clauses N_marbles N_owners s) := by
  unfold f_Main_strongestMarble_L4
  refine h_iload_n hX dX10_strongestMarble_4 rfl rfl ?_
  refine h_aload_n hX dX10_strongestMarble_5 rfl rfl ?_
  refine get_RX10_42_C0 hX dX10_strongestMarble_6 ?_
  refine h_callVi hX dX10_strongestMarble_9 (cv_RX10_131) rc_C13 (As := []) (st := [.int s.2]) (fun _ h => c_Yard_marbles h) rfl rfl (by decide) (Nat.le_of_ble_eq_true rfl) (fun a_1 => ?_)
  refine h_icmp_ge hX dX10_strongestMarble_12 (tgt := 58) (by decide) (fun _ => ?_) (fun _ => ?_)
  · refine h_iload_n hX dX10_strongestMarble_58 rfl rfl ?_
    exact h_ret hX (rv := some (.int s.1)) dX10_strongestMarble_59 trivial (fun h => h)
  · refine h_aload_n hX dX10_strongestMarble_15 rfl rfl ?_
    refine get_RX10_49_C0 hX dX10_strongestMarble_16 ?_
    refine h_iload_n hX dX10_strongestMarble_19 rfl rfl ?_
    refine h_callVi hX dX10_strongestMarble_20 (cv_RX10_233) rc_C16 (As := [.int s.2]) (st := []) (fun _ h => c_Now_isDrained h) rfl rfl (by decide) (Nat.le_of_ble_eq_true rfl) (fun a_2 => ?_)
    refine h_if_ne hX dX10_strongestMarble_23 (tgt := 52) (by decide) (fun _ => ?_) (fun _ => ?_)
    · exact w_Main_strongestMarble_J52 hX
    · refine h_iload_n hX dX10_strongestMarble_26 rfl rfl ?_
      refine h_iconst hX dX10_strongestMarble_27 ki_m1 ?_
      refine h_icmp_eq hX dX10_strongestMarble_28 (tgt := 50) (by decide) (fun _ => ?_) (fun _ => ?_)
      · refine gH.dead [0, 2] rfl ?_
        exact w_Main_strongestMarble_J50 hX
      · refine h_aload_n hX dX10_strongestMarble_31 rfl rfl ?_
        refine get_RX10_42_C0 hX dX10_strongestMarble_32 ?_
        refine h_iload_n hX dX10_strongestMarble_35 rfl rfl ?_
        refine h_callVi hX dX10_strongestMarble_36 (cv_RX10_187) rc_C13 (As := [.int s.2]) (st := []) (fun _ h => c_Yard_size h) rfl rfl (by decide) (Nat.le_of_ble_eq_true rfl) (fun a_4 => ?_)
        refine h_aload_n hX dX10_strongestMarble_39 rfl rfl ?_
        refine get_RX10_42_C0 hX dX10_strongestMarble_40 ?_
        refine h_iload_n hX dX10_strongestMarble_43 rfl rfl ?_
        refine h_callVi hX dX10_strongestMarble_44 (cv_RX10_187) rc_C13 (As := [.int s.1]) (st := [.int a_4]) (fun _ h => c_Yard_size h) rfl rfl (by decide) (Nat.le_of_ble_eq_true rfl) (fun a_5 => ?_)
        refine h_icmp_le hX dX10_strongestMarble_47 (tgt := 52) (by decide) (fun _ => ?_) (fun _ => ?_)
        · exact w_Main_strongestMarble_J52 hX
        · refine gH.dead [0, 2] rfl ?_
          exact w_Main_strongestMarble_J50 hX
set_option maxRecDepth 4000 in
theorem w_Main_strongestMarble (hX : gOk B X RX10 cX10_strongestMarble 3 2 (some .int)) : gH B X (fun r : Int32 => gFin X (some (.int r)) (wdC B W_spillsNow W_drawn T_length T_at T_bytes D_cells D_clauses G_length G_code A_size A_chosen A_codes A_lengths A_stack Y_cells Y_clauses N_marbles N_chipped N_swallowed N_sweets N_day N_owners P_next P_kept P_hasImage P_image P_acts P_entries P_imageEntries S_fewest S_row S_strengths U_size U_found U_places U_kinds U_holds U_fitting U_tally L_letters L_firstCells L_secondCells L_firstBest L_secondBest W_refusals ++ fr)) 0 [(0, .ref (aC B 0))] [] (wdC B W_spillsNow W_drawn T_length T_at T_bytes D_cells D_clauses G_length G_code A_size A_chosen A_codes A_lengths A_stack Y_cells Y_clauses N_marbles N_chipped N_swallowed N_sweets N_day N_owners P_next P_kept P_hasImage P_image P_acts P_entries P_imageEntries S_fewest S_row S_strengths U_size U_found U_places U_kinds U_holds U_fitting U_tally L_letters L_firstCells L_secondCells L_firstBest L_secondBest W_refusals ++ fr) (f_Main_strongestMarble Y_cells Y_clauses N_marbles N_owners) := by
  unfold f_Main_strongestMarble
  refine h_iconst hX dX10_strongestMarble_0 ki_m1 ?_
  refine h_istore_n hX dX10_strongestMarble_1 rfl (by decide) (lv' := [(0, .ref (aC B 0)), (1, .int ((-1)))]) rfl ?_
  refine h_iconst hX dX10_strongestMarble_2 ki_0 ?_
  refine h_istore_n hX dX10_strongestMarble_3 rfl (by decide) (lv' := [(0, .ref (aC B 0)), (1, .int ((-1))), (2, .int 0)]) rfl ?_
  exact gH.loop (lvf := fun z : (Int32 × Int32) => [(0, .ref (aC B 0)), (1, .int z.1), (2, .int z.2)]) (wf := fun z : (Int32 × Int32) => wdC B W_spillsNow W_drawn T_length T_at T_bytes D_cells D_clauses G_length G_code A_size A_chosen A_codes A_lengths A_stack Y_cells Y_clauses N_marbles N_chipped N_swallowed N_sweets N_day N_owners P_next P_kept P_hasImage P_image P_acts P_entries P_imageEntries S_fewest S_row S_strengths U_size U_found U_places U_kinds U_holds U_fitting U_tally L_letters L_firstCells L_secondCells L_firstBest L_secondBest W_refusals ++ fr) (fun z => w_Main_strongestMarble_L4 hX z) ((-1), 0)
theorem c_Main_strongestMarble {r : Int32} (h : f_Main_strongestMarble Y_cells Y_clauses N_marbles N_owners = some r) : gMet B 2 yX10_strongestMarble cX10_strongestMarble 3 (some .int) [.ref (aC B 0)] (wdC B W_spillsNow W_drawn T_length T_at T_bytes D_cells D_clauses G_length G_code A_size A_chosen A_codes A_lengths A_stack Y_cells Y_clauses N_marbles N_chipped N_swallowed N_sweets N_day N_owners P_next P_kept P_hasImage P_image P_acts P_entries P_imageEntries S_fewest S_row S_strengths U_size U_found U_places U_kinds U_holds U_fitting U_tally L_letters L_firstCells L_secondCells L_firstBest L_secondBest W_refusals ++ fr) (some (.int r)) (wdC B W_spillsNow W_drawn T_length T_at T_bytes D_cells D_clauses G_length G_code A_size A_chosen A_codes A_lengths A_stack Y_cells Y_clauses N_marbles N_chipped N_swallowed N_sweets N_day N_owners P_next P_kept P_hasImage P_image P_acts P_entries P_imageEntries S_fewest S_row S_strengths U_size U_found U_places U_kinds U_holds U_fitting U_tally L_letters L_firstCells L_secondCells L_firstBest L_secondBest W_refusals ++ fr) :=
  gMet.of rfl (Nat.le_of_ble_eq_true rfl) (fun X hX hF => w_Main_strongestMarble hX r h hF)
set_option maxRecDepth 4000 in
theorem w_Main_richestBoy_J42 {v1 : Int32} {v2 : Int32} (hX : gOk B X RX10 cX10_richestBoy 3 1 (some .int)) : gH B X (Sum.elim (fun s : (Int32 × Int32) => gG B X 4 [(0, .ref (aC B 0)), (1, .int s.1), (2, .int s.2)] [] (wdC B W_spillsNow W_drawn T_length T_at T_bytes D_cells D_clauses G_length G_code A_size A_chosen A_codes A_lengths A_stack Y_cells Y_clauses N_marbles N_chipped N_swallowed N_sweets N_day N_owners P_next P_kept P_hasImage P_image P_acts P_entries P_imageEntries S_fewest S_row S_strengths U_size U_found U_places U_kinds U_holds U_fitting U_tally L_letters L_firstCells L_secondCells L_firstBest L_secondBest W_refusals ++ fr)) (fun r : Int32 => gFin X (some (.int r)) (wdC B W_spillsNow W_drawn T_length T_at T_bytes D_cells D_clauses G_length G_code A_size A_chosen A_codes A_lengths A_stack Y_cells Y_clauses N_marbles N_chipped N_swallowed N_sweets N_day N_owners P_next P_kept P_hasImage P_image P_acts P_entries P_imageEntries S_fewest S_row S_strengths U_size U_found U_places U_kinds U_holds U_fitting U_tally L_letters L_firstCells L_secondCells L_firstBest L_secondBest W_refusals ++ fr))) 42 [(0, .ref (aC B 0)), (1, .int v1), (2, .int v2)] [] (wdC B W_spillsNow W_drawn T_length T_at T_bytes D_cells D_clauses G_length G_code A_size A_chosen A_codes A_lengths A_stack Y_cells Y_clauses N_marbles N_chipped N_swallowed N_sweets N_day N_owners P_next P_kept P_hasImage P_image P_acts P_entries P_imageEntries S_fewest S_row S_strengths U_size U_found U_places U_kinds U_holds U_fitting U_tally L_letters L_firstCells L_secondCells L_firstBest L_secondBest W_refusals ++ fr) (f_Main_richestBoy_J42 v1 v2) := by
  unfold f_Main_richestBoy_J42
  refine h_iincc hX dX10_richestBoy_42 rfl ki_1 (by decide) (lv' := [(0, .ref (aC B 0)), (1, .int v1), (2, .int (v2 + 1))]) rfl ?_
  refine h_goto hX dX10_richestBoy_45 (tgt := 4) (by decide) ?_
  exact gH.some' (fun h => h)
set_option maxRecDepth 4000 in
theorem w_Main_richestBoy_L4 (hX : gOk B X RX10 cX10_richestBoy 3 1 (some .int)) (s : (Int32 × Int32)) : gH B X (Sum.elim (fun s : (Int32 × Int32) => gG B X 4 [(0, .ref (aC B 0)), (1, .int s.1), (2, .int s.2)] [] (wdC B W_spillsNow W_drawn T_length T_at T_bytes D_cells D_clauses G_length G_code A_size A_chosen A_codes A_lengths A_stack Y_cells Y_clauses N_marbles N_chipped N_swallowed N_sweets N_day N_owners P_next P_kept P_hasImage P_image P_acts P_entries P_imageEntries S_fewest S_row S_strengths U_size U_found U_places U_kinds U_holds U_fitting U_tally L_letters L_firstCells L_secondCells L_firstBest L_secondBest W_refusals ++ fr)) (fun r : Int32 => gFin X (some (.int r)) (wdC B W_spillsNow W_drawn T_length T_at T_bytes D_cells D_clauses G_length G_code A_size A_chosen A_codes A_lengths A_stack Y_cells Y_clauses N_marbles N_chipped N_swallowed N_sweets N_day N_owners P_next P_kept P_hasImage P_image P_acts P_entries P_imageEntries S_fewest S_row S_strengths U_size U_found U_places U_kinds U_holds U_fitting U_tally L_letters L_firstCells L_secondCells L_firstBest L_secondBest W_refusals ++ fr))) 4 [(0, .ref (aC B 0)), (1, .int s.1), (2, .int s.2)] [] (wdC B W_spillsNow W_drawn T_length T_at T_bytes D_cells D_clauses G_length G_code A_size A_chosen A_codes A_lengths A_stack Y_cells Y_clauses N_marbles N_chipped N_swallowed N_sweets N_day N_owners P_next P_kept P_hasImage P_image P_acts P_entries P_imageEntries S_fewest S_row S_strengths U_size U_found U_places U_kinds U_holds U_fitting U_tally L_letters L_firstCells L_secondCells L_firstBest L_secondBest W_refusals ++ fr) (f_Main_richestBoy_L4 Y_clauses N_marbles N_owners s) := by
  unfold f_Main_richestBoy_L4
  refine h_iload_n hX dX10_richestBoy_4 rfl rfl ?_
  refine h_aload_n hX dX10_richestBoy_5 rfl rfl ?_
  refine get_RX10_42_C0 hX dX10_richestBoy_6 ?_
  refine h_callVi hX dX10_richestBoy_9 (cv_RX10_358) rc_C13 (As := []) (st := [.int s.2]) (fun _ h => c_Yard_boys h) rfl rfl (by decide) (Nat.le_of_ble_eq_true rfl) (fun a_1 => ?_)
  refine h_icmp_ge hX dX10_richestBoy_12 (tgt := 48) (by decide) (fun _ => ?_) (fun _ => ?_)
  · refine h_iload_n hX dX10_richestBoy_48 rfl rfl ?_
    exact h_ret hX (rv := some (.int s.1)) dX10_richestBoy_49 trivial (fun h => h)
  · refine h_aload_n hX dX10_richestBoy_15 rfl rfl ?_
    refine get_RX10_49_C0 hX dX10_richestBoy_16 ?_
    refine h_iload_n hX dX10_richestBoy_19 rfl rfl ?_
    refine h_callVi hX dX10_richestBoy_20 (cv_RX10_169) rc_C16 (As := [.int s.2]) (st := []) (fun _ h => c_Now_handOf h) rfl rfl (by decide) (Nat.le_of_ble_eq_true rfl) (fun a_2 => ?_)
    refine h_callSi hX dX10_richestBoy_23 (cs_RX10_172) (As := [.int a_2]) (st := []) (fun _ h => c_J_bitCount h) rfl rfl (by decide) (Nat.le_of_ble_eq_true rfl) (fun a_3 => ?_)
    refine h_aload_n hX dX10_richestBoy_26 rfl rfl ?_
    refine get_RX10_49_C0 hX dX10_richestBoy_27 ?_
    refine h_iload_n hX dX10_richestBoy_30 rfl rfl ?_
    refine h_callVi hX dX10_richestBoy_31 (cv_RX10_169) rc_C16 (As := [.int s.1]) (st := [.int a_3]) (fun _ h => c_Now_handOf h) rfl rfl (by decide) (Nat.le_of_ble_eq_true rfl) (fun a_4 => ?_)
    refine h_callSi hX dX10_richestBoy_34 (cs_RX10_172) (As := [.int a_4]) (st := [.int a_3]) (fun _ h => c_J_bitCount h) rfl rfl (by decide) (Nat.le_of_ble_eq_true rfl) (fun a_5 => ?_)
    refine h_icmp_le hX dX10_richestBoy_37 (tgt := 42) (by decide) (fun _ => ?_) (fun _ => ?_)
    · exact w_Main_richestBoy_J42 hX
    · refine h_iload_n hX dX10_richestBoy_40 rfl rfl ?_
      refine h_istore_n hX dX10_richestBoy_41 rfl (by decide) (lv' := [(0, .ref (aC B 0)), (1, .int s.2), (2, .int s.2)]) rfl ?_
      exact w_Main_richestBoy_J42 hX
set_option maxRecDepth 4000 in
theorem w_Main_richestBoy (hX : gOk B X RX10 cX10_richestBoy 3 1 (some .int)) : gH B X (fun r : Int32 => gFin X (some (.int r)) (wdC B W_spillsNow W_drawn T_length T_at T_bytes D_cells D_clauses G_length G_code A_size A_chosen A_codes A_lengths A_stack Y_cells Y_clauses N_marbles N_chipped N_swallowed N_sweets N_day N_owners P_next P_kept P_hasImage P_image P_acts P_entries P_imageEntries S_fewest S_row S_strengths U_size U_found U_places U_kinds U_holds U_fitting U_tally L_letters L_firstCells L_secondCells L_firstBest L_secondBest W_refusals ++ fr)) 0 [(0, .ref (aC B 0))] [] (wdC B W_spillsNow W_drawn T_length T_at T_bytes D_cells D_clauses G_length G_code A_size A_chosen A_codes A_lengths A_stack Y_cells Y_clauses N_marbles N_chipped N_swallowed N_sweets N_day N_owners P_next P_kept P_hasImage P_image P_acts P_entries P_imageEntries S_fewest S_row S_strengths U_size U_found U_places U_kinds U_holds U_fitting U_tally L_letters L_firstCells L_secondCells L_firstBest L_secondBest W_refusals ++ fr) (f_Main_richestBoy Y_clauses N_marbles N_owners) := by
  unfold f_Main_richestBoy
  refine h_iconst hX dX10_richestBoy_0 ki_0 ?_
  refine h_istore_n hX dX10_richestBoy_1 rfl (by decide) (lv' := [(0, .ref (aC B 0)), (1, .int 0)]) rfl ?_
  refine h_iconst hX dX10_richestBoy_2 ki_1 ?_
  refine h_istore_n hX dX10_richestBoy_3 rfl (by decide) (lv' := [(0, .ref (aC B 0)), (1, .int 0), (2, .int 1)]) rfl ?_
  exact gH.loop (lvf := fun z : (Int32 × Int32) => [(0, .ref (aC B 0)), (1, .int z.1), (2, .int z.2)]) (wf := fun z : (Int32 × Int32) => wdC B W_spillsNow W_drawn T_length T_at T_bytes D_cells D_clauses G_length G_code A_size A_chosen A_codes A_lengths A_stack Y_cells Y_clauses N_marbles N_chipped N_swallowed N_sweets N_day N_owners P_next P_kept P_hasImage P_image P_acts P_entries P_imageEntries S_fewest S_row S_strengths U_size U_found U_places U_kinds U_holds U_fitting U_tally L_letters L_firstCells L_secondCells L_firstBest L_secondBest W_refusals ++ fr) (fun z => w_Main_richestBoy_L4 hX z) (0, 1)
theorem c_Main_richestBoy {r : Int32} (h : f_Main_richestBoy Y_clauses N_marbles N_owners = some r) : gMet B 1 yX10_richestBoy cX10_richestBoy 3 (some .int) [.ref (aC B 0)] (wdC B W_spillsNow W_drawn T_length T_at T_bytes D_cells D_clauses G_length G_code A_size A_chosen A_codes A_lengths A_stack Y_cells Y_clauses N_marbles N_chipped N_swallowed N_sweets N_day N_owners P_next P_kept P_hasImage P_image P_acts P_entries P_imageEntries S_fewest S_row S_strengths U_size U_found U_places U_kinds U_holds U_fitting U_tally L_letters L_firstCells L_secondCells L_firstBest L_secondBest W_refusals ++ fr) (some (.int r)) (wdC B W_spillsNow W_drawn T_length T_at T_bytes D_cells D_clauses G_length G_code A_size A_chosen A_codes A_lengths A_stack Y_cells Y_clauses N_marbles N_chipped N_swallowed N_sweets N_day N_owners P_next P_kept P_hasImage P_image P_acts P_entries P_imageEntries S_fewest S_row S_strengths U_size U_found U_places U_kinds U_holds U_fitting U_tally L_letters L_firstCells L_secondCells L_firstBest L_secondBest W_refusals ++ fr) :=
  gMet.of rfl (Nat.le_of_ble_eq_true rfl) (fun X hX hF => w_Main_richestBoy hX r h hF)
set_option maxRecDepth 4000 in
theorem w_Main_most {p0 : Int32} (hX : gOk B X RX10 cX10_most 2 7 (some .int)) : gH B X (fun r : (Int32 × (Nat → Int32) × (Nat → Int32) × (Nat → Int32)) => gFin X (some (.int r.1)) (wdC B W_spillsNow W_drawn T_length T_at T_bytes D_cells D_clauses G_length G_code A_size A_chosen A_codes A_lengths r.2.1 Y_cells Y_clauses N_marbles N_chipped N_swallowed N_sweets N_day N_owners P_next P_kept P_hasImage P_image P_acts P_entries P_imageEntries S_fewest S_row r.2.2.1 U_size U_found U_places U_kinds U_holds U_fitting U_tally r.2.2.2 L_firstCells L_secondCells L_firstBest L_secondBest W_refusals ++ fr)) 0 [(0, .ref (aC B 0)), (1, .int p0)] [] (wdC B W_spillsNow W_drawn T_length T_at T_bytes D_cells D_clauses G_length G_code A_size A_chosen A_codes A_lengths A_stack Y_cells Y_clauses N_marbles N_chipped N_swallowed N_sweets N_day N_owners P_next P_kept P_hasImage P_image P_acts P_entries P_imageEntries S_fewest S_row S_strengths U_size U_found U_places U_kinds U_holds U_fitting U_tally L_letters L_firstCells L_secondCells L_firstBest L_secondBest W_refusals ++ fr) (f_Main_most A_size A_chosen A_codes A_lengths A_stack Y_cells Y_clauses N_marbles N_chipped N_swallowed N_day N_owners S_strengths L_letters p0) := by
  unfold f_Main_most
  refine h_aload_n hX dX10_most_0 rfl rfl ?_
  refine get_RX10_42_C0 hX dX10_most_1 ?_
  refine h_callVi hX dX10_most_4 (cv_RX10_139) rc_C13 (As := []) (st := []) (fun _ h => c_Yard_stands h) rfl rfl (by decide) (Nat.le_of_ble_eq_true rfl) (fun a_1 => ?_)
  refine h_if_ne hX dX10_most_7 (tgt := 12) (by decide) (fun _ => ?_) (fun _ => ?_)
  · refine h_iload_n hX dX10_most_12 rfl rfl ?_
    refine gH.ite (fun hc0 => ?_) (fun hc0 => ?_)
    · refine h_tsin hX dX10_most_13 hc0 (by decide) (by decide) rfl (tgt := 44) (by decide) ?_
      refine h_aload_n hX dX10_most_44 rfl rfl ?_
      refine h_callVi hX dX10_most_45 (cv_RX10_340) rc_C0 (As := []) (st := []) (fun _ h => c_Main_richestBoy h) rfl rfl (by decide) (Nat.le_of_ble_eq_true rfl) (fun a_2 => ?_)
      exact h_ret hX (rv := some (.int a_2)) dX10_most_48 trivial (fun h => h)
    refine gH.ite (fun hc1 => ?_) (fun hc1 => ?_)
    · refine h_tsin hX dX10_most_13 hc1 (by decide) (by decide) rfl (tgt := 49) (by decide) ?_
      refine h_aload_n hX dX10_most_49 rfl rfl ?_
      refine h_callVi hX dX10_most_50 (cv_RX10_343) rc_C0 (As := []) (st := []) (fun _ h => c_Main_strongestMarble h) rfl rfl (by decide) (Nat.le_of_ble_eq_true rfl) (fun a_3 => ?_)
      exact h_ret hX (rv := some (.int a_3)) dX10_most_53 trivial (fun h => h)
    refine gH.ite (fun hc2 => ?_) (fun hc2 => ?_)
    · refine h_tsin hX dX10_most_13 hc2 (by decide) (by decide) rfl (tgt := 54) (by decide) ?_
      refine h_aload_n hX dX10_most_54 rfl rfl ?_
      refine get_RX10_67_C0 hX dX10_most_55 ?_
      refine h_callVv hX dX10_most_58 (cv_RX10_296) rc_C22 (As := []) (st := []) (fun _ h => c_Sky_measure h) rfl rfl (by decide) (Nat.le_of_ble_eq_true rfl) (fun a_4 => ?_)
      refine h_aload_n hX dX10_most_61 rfl rfl ?_
      refine get_RX10_67_C0 hX dX10_most_62 ?_
      refine h_callVi hX dX10_most_65 (cv_RX10_346) rc_C22 (As := []) (st := []) (fun _ h => c_Sky_placesWithout h) rfl rfl (by decide) (Nat.le_of_ble_eq_true rfl) (fun a_5 => ?_)
      exact h_ret hX (rv := some (.int a_5)) dX10_most_68 trivial (fun h => h)
    refine gH.ite (fun hc3 => ?_) (fun hc3 => ?_)
    · refine h_tsin hX dX10_most_13 hc3 (by decide) (by decide) rfl (tgt := 69) (by decide) ?_
      refine h_aload_n hX dX10_most_69 rfl rfl ?_
      refine h_callVi hX dX10_most_70 (cv_RX10_349) rc_C0 (As := []) (st := []) (fun _ h => c_Main_champion h) rfl rfl (by decide) (Nat.le_of_ble_eq_true rfl) (fun a_6 => ?_)
      exact h_ret hX (rv := some (.int a_6.1)) dX10_most_73 trivial (fun h => h)
    refine h_tsdef hX dX10_most_13 (cs := [0, 1, 2, 3]) (by decide) (by decide) (List.forall_mem_cons.mpr ⟨hc0, (List.forall_mem_cons.mpr ⟨hc1, (List.forall_mem_cons.mpr ⟨hc2, (List.forall_mem_cons.mpr ⟨hc3, fun _ h => absurd h List.not_mem_nil⟩)⟩)⟩)⟩) (tgt := 74) (by decide) ?_
    refine h_iconst hX dX10_most_74 ki_m1 ?_
    exact h_ret hX (rv := some (.int ((-1)))) dX10_most_75 trivial (fun h => h)
  · refine h_iconst hX dX10_most_10 ki_m1 ?_
    exact h_ret hX (rv := some (.int ((-1)))) dX10_most_11 trivial (fun h => h)
theorem c_Main_most {p0 : Int32} {r : (Int32 × (Nat → Int32) × (Nat → Int32) × (Nat → Int32))} (h : f_Main_most A_size A_chosen A_codes A_lengths A_stack Y_cells Y_clauses N_marbles N_chipped N_swallowed N_day N_owners S_strengths L_letters p0 = some r) : gMet B 7 yX10_most cX10_most 2 (some .int) [.ref (aC B 0), .int p0] (wdC B W_spillsNow W_drawn T_length T_at T_bytes D_cells D_clauses G_length G_code A_size A_chosen A_codes A_lengths A_stack Y_cells Y_clauses N_marbles N_chipped N_swallowed N_sweets N_day N_owners P_next P_kept P_hasImage P_image P_acts P_entries P_imageEntries S_fewest S_row S_strengths U_size U_found U_places U_kinds U_holds U_fitting U_tally L_letters L_firstCells L_secondCells L_firstBest L_secondBest W_refusals ++ fr) (some (.int r.1)) (wdC B W_spillsNow W_drawn T_length T_at T_bytes D_cells D_clauses G_length G_code A_size A_chosen A_codes A_lengths r.2.1 Y_cells Y_clauses N_marbles N_chipped N_swallowed N_sweets N_day N_owners P_next P_kept P_hasImage P_image P_acts P_entries P_imageEntries S_fewest S_row r.2.2.1 U_size U_found U_places U_kinds U_holds U_fitting U_tally r.2.2.2 L_firstCells L_secondCells L_firstBest L_secondBest W_refusals ++ fr) :=
  gMet.of rfl (Nat.le_of_ble_eq_true rfl) (fun X hX hF => w_Main_most hX r h hF)
set_option maxRecDepth 4000 in
theorem w_Main_odds {p0 : Int32} {p1 : Int32} {p2 : Int32} {p3 : Int32} {p4 : Int32} (hX : gOk B X RX10 cX10_odds 8 5 (some .int)) : gH B X (fun r : (Int32 × (Nat → Int32) × (Nat → Int32)) => gFin X (some (.int r.1)) (wdC B W_spillsNow W_drawn T_length T_at T_bytes D_cells D_clauses G_length G_code A_size A_chosen A_codes A_lengths r.2.1 Y_cells Y_clauses N_marbles N_chipped N_swallowed N_sweets N_day N_owners P_next P_kept P_hasImage P_image P_acts P_entries P_imageEntries S_fewest S_row S_strengths U_size U_found U_places U_kinds U_holds U_fitting U_tally r.2.2 L_firstCells L_secondCells L_firstBest L_secondBest W_refusals ++ fr)) 0 [(0, .ref (aC B 0)), (1, .int p0), (2, .int p1), (3, .int p2), (4, .int p3), (5, .int p4)] [] (wdC B W_spillsNow W_drawn T_length T_at T_bytes D_cells D_clauses G_length G_code A_size A_chosen A_codes A_lengths A_stack Y_cells Y_clauses N_marbles N_chipped N_swallowed N_sweets N_day N_owners P_next P_kept P_hasImage P_image P_acts P_entries P_imageEntries S_fewest S_row S_strengths U_size U_found U_places U_kinds U_holds U_fitting U_tally L_letters L_firstCells L_secondCells L_firstBest L_secondBest W_refusals ++ fr) (f_Main_odds A_size A_chosen A_codes A_lengths A_stack Y_cells Y_clauses N_marbles N_chipped N_swallowed N_day N_owners L_letters p0 p1 p2 p3 p4) := by
  unfold f_Main_odds
  refine h_iload hX dX10_odds_0 rfl ?_
  refine h_if_lt hX dX10_odds_2 (tgt := 28) (by decide) (fun _ => ?_) (fun _ => ?_)
  · refine h_iconst hX dX10_odds_28 ki_m1 ?_
    exact h_ret hX (rv := some (.int ((-1)))) dX10_odds_29 trivial (fun h => h)
  · refine h_iload hX dX10_odds_5 rfl ?_
    refine h_bipush hX dX10_odds_7 kb_100 ?_
    refine h_icmp_gt hX dX10_odds_9 (tgt := 28) (by decide) (fun _ => ?_) (fun _ => ?_)
    · refine h_iconst hX dX10_odds_28 ki_m1 ?_
      exact h_ret hX (rv := some (.int ((-1)))) dX10_odds_29 trivial (fun h => h)
    · refine h_aload_n hX dX10_odds_12 rfl rfl ?_
      refine get_RX10_85_C0 hX dX10_odds_13 ?_
      refine h_iload_n hX dX10_odds_16 rfl rfl ?_
      refine h_iload_n hX dX10_odds_17 rfl rfl ?_
      refine h_iload_n hX dX10_odds_18 rfl rfl ?_
      refine h_iload hX dX10_odds_19 rfl ?_
      refine h_callVi hX dX10_odds_21 (cv_RX10_213) rc_C30 (As := [.int p0, .int p1, .int p2, .int p3]) (st := []) (fun _ h => c_Lane_refusalOf h) rfl rfl (by decide) (Nat.le_of_ble_eq_true rfl) (fun a_1 => ?_)
      refine h_iconst hX dX10_odds_24 ki_m1 ?_
      refine h_icmp_eq hX dX10_odds_25 (tgt := 30) (by decide) (fun _ => ?_) (fun _ => ?_)
      · refine h_aload_n hX dX10_odds_30 rfl rfl ?_
        refine get_RX10_85_C0 hX dX10_odds_31 ?_
        refine h_aload_n hX dX10_odds_34 rfl rfl ?_
        refine get_RX10_49_C0 hX dX10_odds_35 ?_
        refine h_iload_n hX dX10_odds_38 rfl rfl ?_
        refine h_callVi hX dX10_odds_39 (cv_RX10_181) rc_C16 (As := [.int p0]) (st := [.ref (aC B 30)]) (fun _ h => c_Now_ownerOf h) rfl rfl (by decide) (Nat.le_of_ble_eq_true rfl) (fun a_2 => ?_)
        refine h_iload_n hX dX10_odds_42 rfl rfl ?_
        refine h_iload_n hX dX10_odds_43 rfl rfl ?_
        refine h_callVi hX dX10_odds_44 (cv_RX10_276) rc_C30 (As := [.int a_2, .int p0, .int p1]) (st := []) (fun _ h => c_Lane_flick h) rfl rfl (by decide) (Nat.le_of_ble_eq_true rfl) (fun a_3 => ?_)
        refine h_istore hX dX10_odds_47 (by decide) (lv' := [(0, .ref (aC B 0)), (1, .int p0), (2, .int p1), (3, .int p2), (4, .int p3), (5, .int p4), (6, .int a_3.1)]) rfl ?_
        refine h_aload_n hX dX10_odds_49 rfl rfl ?_
        refine get_RX10_85_C0 hX dX10_odds_50 ?_
        refine h_aload_n hX dX10_odds_53 rfl rfl ?_
        refine get_RX10_49_C0 hX dX10_odds_54 ?_
        refine h_iload_n hX dX10_odds_57 rfl rfl ?_
        refine h_callVi hX dX10_odds_58 (cv_RX10_181) rc_C16 (As := [.int p2]) (st := [.ref (aC B 30)]) (fun _ h => c_Now_ownerOf h) rfl rfl (by decide) (Nat.le_of_ble_eq_true rfl) (fun a_4 => ?_)
        refine h_iload_n hX dX10_odds_61 rfl rfl ?_
        refine h_iload hX dX10_odds_62 rfl ?_
        refine h_callVi hX dX10_odds_64 (cv_RX10_276) rc_C30 (As := [.int a_4, .int p2, .int p3]) (st := []) (fun _ h => c_Lane_flick h) rfl rfl (by decide) (Nat.le_of_ble_eq_true rfl) (fun a_5 => ?_)
        refine h_istore hX dX10_odds_67 (by decide) (lv' := [(0, .ref (aC B 0)), (1, .int p0), (2, .int p1), (3, .int p2), (4, .int p3), (5, .int p4), (6, .int a_3.1), (7, .int a_5.1)]) rfl ?_
        refine h_aload_n hX dX10_odds_69 rfl rfl ?_
        refine get_RX10_85_C0 hX dX10_odds_70 ?_
        refine h_iload hX dX10_odds_73 rfl ?_
        refine h_iload hX dX10_odds_75 rfl ?_
        refine h_iload hX dX10_odds_77 rfl ?_
        refine h_callVi hX dX10_odds_79 (cv_RX10_293) rc_C30 (As := [.int a_3.1, .int a_5.1, .int p4]) (st := []) (fun _ h => c_Lane_winningParts h) rfl rfl (by decide) (Nat.le_of_ble_eq_true rfl) (fun a_6 => ?_)
        exact h_ret hX (rv := some (.int a_6)) dX10_odds_82 trivial (fun h => h)
      · refine h_iconst hX dX10_odds_28 ki_m1 ?_
        exact h_ret hX (rv := some (.int ((-1)))) dX10_odds_29 trivial (fun h => h)
theorem c_Main_odds {p0 : Int32} {p1 : Int32} {p2 : Int32} {p3 : Int32} {p4 : Int32} {r : (Int32 × (Nat → Int32) × (Nat → Int32))} (h : f_Main_odds A_size A_chosen A_codes A_lengths A_stack Y_cells Y_clauses N_marbles N_chipped N_swallowed N_day N_owners L_letters p0 p1 p2 p3 p4 = some r) : gMet B 5 yX10_odds cX10_odds 8 (some .int) [.ref (aC B 0), .int p0, .int p1, .int p2, .int p3, .int p4] (wdC B W_spillsNow W_drawn T_length T_at T_bytes D_cells D_clauses G_length G_code A_size A_chosen A_codes A_lengths A_stack Y_cells Y_clauses N_marbles N_chipped N_swallowed N_sweets N_day N_owners P_next P_kept P_hasImage P_image P_acts P_entries P_imageEntries S_fewest S_row S_strengths U_size U_found U_places U_kinds U_holds U_fitting U_tally L_letters L_firstCells L_secondCells L_firstBest L_secondBest W_refusals ++ fr) (some (.int r.1)) (wdC B W_spillsNow W_drawn T_length T_at T_bytes D_cells D_clauses G_length G_code A_size A_chosen A_codes A_lengths r.2.1 Y_cells Y_clauses N_marbles N_chipped N_swallowed N_sweets N_day N_owners P_next P_kept P_hasImage P_image P_acts P_entries P_imageEntries S_fewest S_row S_strengths U_size U_found U_places U_kinds U_holds U_fitting U_tally r.2.2 L_firstCells L_secondCells L_firstBest L_secondBest W_refusals ++ fr) :=
  gMet.of rfl (Nat.le_of_ble_eq_true rfl) (fun X hX hF => w_Main_odds hX r h hF)
set_option maxRecDepth 4000 in
theorem w_Main_pays (hX : gOk B X RX10 cX10_pays 1 5 (some .int)) : gH B X (fun r : (Int32 × (Nat → Int32)) => gFin X (some (.int r.1)) (wdC B W_spillsNow W_drawn T_length T_at T_bytes D_cells D_clauses G_length G_code A_size A_chosen A_codes A_lengths A_stack Y_cells Y_clauses N_marbles N_chipped N_swallowed N_sweets N_day N_owners P_next P_kept P_hasImage P_image P_acts P_entries P_imageEntries S_fewest S_row r.2 U_size U_found U_places U_kinds U_holds U_fitting U_tally L_letters L_firstCells L_secondCells L_firstBest L_secondBest W_refusals ++ fr)) 0 [(0, .ref (aC B 0))] [] (wdC B W_spillsNow W_drawn T_length T_at T_bytes D_cells D_clauses G_length G_code A_size A_chosen A_codes A_lengths A_stack Y_cells Y_clauses N_marbles N_chipped N_swallowed N_sweets N_day N_owners P_next P_kept P_hasImage P_image P_acts P_entries P_imageEntries S_fewest S_row S_strengths U_size U_found U_places U_kinds U_holds U_fitting U_tally L_letters L_firstCells L_secondCells L_firstBest L_secondBest W_refusals ++ fr) (f_Main_pays Y_cells Y_clauses N_marbles N_chipped N_owners S_strengths) := by
  unfold f_Main_pays
  refine h_aload_n hX dX10_pays_0 rfl rfl ?_
  refine get_RX10_42_C0 hX dX10_pays_1 ?_
  refine h_callVi hX dX10_pays_4 (cv_RX10_139) rc_C13 (As := []) (st := []) (fun _ h => c_Yard_stands h) rfl rfl (by decide) (Nat.le_of_ble_eq_true rfl) (fun a_1 => ?_)
  refine h_if_eq hX dX10_pays_7 (tgt := 24) (by decide) (fun _ => ?_) (fun _ => ?_)
  · refine h_iconst hX dX10_pays_24 ki_m1 ?_
    exact h_ret hX (rv := some (.int ((-1)))) dX10_pays_25 trivial (fun h => h)
  · refine h_aload_n hX dX10_pays_10 rfl rfl ?_
    refine get_RX10_42_C0 hX dX10_pays_11 ?_
    refine h_aload_n hX dX10_pays_14 rfl rfl ?_
    refine h_callVi hX dX10_pays_15 (cv_RX10_207) rc_C0 (As := []) (st := [.ref (aC B 13)]) (fun _ h => c_Main_contentNow h) rfl rfl (by decide) (Nat.le_of_ble_eq_true rfl) (fun a_2 => ?_)
    refine h_callVi hX dX10_pays_18 (cv_RX10_337) rc_C13 (As := [.int a_2.1]) (st := []) (fun _ h => c_Yard_paymentOf h) rfl rfl (by decide) (Nat.le_of_ble_eq_true rfl) (fun a_3 => ?_)
    refine h_goto hX dX10_pays_21 (tgt := 25) (by decide) ?_
    exact h_ret hX (rv := some (.int a_3)) dX10_pays_25 trivial (fun h => h)
theorem c_Main_pays {r : (Int32 × (Nat → Int32))} (h : f_Main_pays Y_cells Y_clauses N_marbles N_chipped N_owners S_strengths = some r) : gMet B 5 yX10_pays cX10_pays 1 (some .int) [.ref (aC B 0)] (wdC B W_spillsNow W_drawn T_length T_at T_bytes D_cells D_clauses G_length G_code A_size A_chosen A_codes A_lengths A_stack Y_cells Y_clauses N_marbles N_chipped N_swallowed N_sweets N_day N_owners P_next P_kept P_hasImage P_image P_acts P_entries P_imageEntries S_fewest S_row S_strengths U_size U_found U_places U_kinds U_holds U_fitting U_tally L_letters L_firstCells L_secondCells L_firstBest L_secondBest W_refusals ++ fr) (some (.int r.1)) (wdC B W_spillsNow W_drawn T_length T_at T_bytes D_cells D_clauses G_length G_code A_size A_chosen A_codes A_lengths A_stack Y_cells Y_clauses N_marbles N_chipped N_swallowed N_sweets N_day N_owners P_next P_kept P_hasImage P_image P_acts P_entries P_imageEntries S_fewest S_row r.2 U_size U_found U_places U_kinds U_holds U_fitting U_tally L_letters L_firstCells L_secondCells L_firstBest L_secondBest W_refusals ++ fr) :=
  gMet.of rfl (Nat.le_of_ble_eq_true rfl) (fun X hX hF => w_Main_pays hX r h hF)
set_option maxRecDepth 4000 in
theorem w_Main_play {p0 : Int32} {p1 : Int32} {p2 : Int32} {p3 : Int32} (hX : gOk B X RX10 cX10_play 6 6 (some .int)) : gH B X (fun r : (Int32 × (Nat → Int32) × (Nat → Int32) × Int32 × Int32 × (Nat → Int64) × (Nat → Int32) × (Nat → Int32)) => gFin X (some (.int r.1)) (wdC B W_spillsNow W_drawn T_length T_at T_bytes D_cells D_clauses G_length G_code A_size A_chosen A_codes A_lengths r.2.1 Y_cells Y_clauses N_marbles N_chipped N_swallowed N_sweets N_day r.2.2.1 r.2.2.2.1 r.2.2.2.2.1 P_hasImage P_image r.2.2.2.2.2.1 P_entries P_imageEntries S_fewest S_row S_strengths U_size U_found U_places U_kinds U_holds U_fitting U_tally r.2.2.2.2.2.2.1 L_firstCells L_secondCells L_firstBest L_secondBest r.2.2.2.2.2.2.2 ++ fr)) 0 [(0, .ref (aC B 0)), (1, .int p0), (2, .int p1), (3, .int p2), (4, .int p3)] [] (wdC B W_spillsNow W_drawn T_length T_at T_bytes D_cells D_clauses G_length G_code A_size A_chosen A_codes A_lengths A_stack Y_cells Y_clauses N_marbles N_chipped N_swallowed N_sweets N_day N_owners P_next P_kept P_hasImage P_image P_acts P_entries P_imageEntries S_fewest S_row S_strengths U_size U_found U_places U_kinds U_holds U_fitting U_tally L_letters L_firstCells L_secondCells L_firstBest L_secondBest W_refusals ++ fr) (f_Main_play A_size A_chosen A_codes A_lengths A_stack Y_cells Y_clauses N_marbles N_chipped N_swallowed N_sweets N_day N_owners P_next P_kept P_acts L_letters W_refusals p0 p1 p2 p3) := by
  unfold f_Main_play
  refine h_aload_n hX dX10_play_0 rfl rfl ?_
  refine get_RX10_85_C0 hX dX10_play_1 ?_
  refine h_iload_n hX dX10_play_4 rfl rfl ?_
  refine h_iload_n hX dX10_play_5 rfl rfl ?_
  refine h_iload_n hX dX10_play_6 rfl rfl ?_
  refine h_iload hX dX10_play_7 rfl ?_
  refine h_callVi hX dX10_play_9 (cv_RX10_213) rc_C30 (As := [.int p0, .int p1, .int p2, .int p3]) (st := []) (fun _ h => c_Lane_refusalOf h) rfl rfl (by decide) (Nat.le_of_ble_eq_true rfl) (fun a_1 => ?_)
  refine h_istore hX dX10_play_12 (by decide) (lv' := [(0, .ref (aC B 0)), (1, .int p0), (2, .int p1), (3, .int p2), (4, .int p3), (5, .int a_1)]) rfl ?_
  refine h_iload hX dX10_play_14 rfl ?_
  refine h_iconst hX dX10_play_16 ki_m1 ?_
  refine h_icmp_eq hX dX10_play_17 (tgt := 27) (by decide) (fun _ => ?_) (fun _ => ?_)
  · refine h_aload_n hX dX10_play_27 rfl rfl ?_
    refine get_RX10_58_C0 hX dX10_play_28 ?_
    refine h_callVv hX dX10_play_31 (cv_RX10_220) rc_C18 (As := []) (st := []) (fun _ h => c_Past_remember h) rfl rfl (by decide) (Nat.le_of_ble_eq_true rfl) (fun a_2 => ?_)
    refine h_aload_n hX dX10_play_34 rfl rfl ?_
    refine get_RX10_85_C0 hX dX10_play_35 ?_
    refine h_iload_n hX dX10_play_38 rfl rfl ?_
    refine h_iload_n hX dX10_play_39 rfl rfl ?_
    refine h_iload_n hX dX10_play_40 rfl rfl ?_
    refine h_iload hX dX10_play_41 rfl ?_
    refine h_callVi hX dX10_play_43 (cv_RX10_223) rc_C30 (As := [.int p0, .int p1, .int p2, .int p3]) (st := []) (fun _ h => c_Lane_carryOut h) rfl rfl (by decide) (Nat.le_of_ble_eq_true rfl) (fun a_3 => ?_)
    exact h_ret hX (rv := some (.int a_3.1)) dX10_play_46 trivial (fun h => h)
  · refine h_aload_n hX dX10_play_20 rfl rfl ?_
    refine h_iload hX dX10_play_21 rfl ?_
    refine h_callVi hX dX10_play_23 (cv_RX10_217) rc_C0 (As := [.int a_1]) (st := []) (fun _ h => c_Main_refuse h) rfl rfl (by decide) (Nat.le_of_ble_eq_true rfl) (fun a_4 => ?_)
    exact h_ret hX (rv := some (.int a_4.1)) dX10_play_26 trivial (fun h => h)
theorem c_Main_play {p0 : Int32} {p1 : Int32} {p2 : Int32} {p3 : Int32} {r : (Int32 × (Nat → Int32) × (Nat → Int32) × Int32 × Int32 × (Nat → Int64) × (Nat → Int32) × (Nat → Int32))} (h : f_Main_play A_size A_chosen A_codes A_lengths A_stack Y_cells Y_clauses N_marbles N_chipped N_swallowed N_sweets N_day N_owners P_next P_kept P_acts L_letters W_refusals p0 p1 p2 p3 = some r) : gMet B 6 yX10_play cX10_play 6 (some .int) [.ref (aC B 0), .int p0, .int p1, .int p2, .int p3] (wdC B W_spillsNow W_drawn T_length T_at T_bytes D_cells D_clauses G_length G_code A_size A_chosen A_codes A_lengths A_stack Y_cells Y_clauses N_marbles N_chipped N_swallowed N_sweets N_day N_owners P_next P_kept P_hasImage P_image P_acts P_entries P_imageEntries S_fewest S_row S_strengths U_size U_found U_places U_kinds U_holds U_fitting U_tally L_letters L_firstCells L_secondCells L_firstBest L_secondBest W_refusals ++ fr) (some (.int r.1)) (wdC B W_spillsNow W_drawn T_length T_at T_bytes D_cells D_clauses G_length G_code A_size A_chosen A_codes A_lengths r.2.1 Y_cells Y_clauses N_marbles N_chipped N_swallowed N_sweets N_day r.2.2.1 r.2.2.2.1 r.2.2.2.2.1 P_hasImage P_image r.2.2.2.2.2.1 P_entries P_imageEntries S_fewest S_row S_strengths U_size U_found U_places U_kinds U_holds U_fitting U_tally r.2.2.2.2.2.2.1 L_firstCells L_secondCells L_firstBest L_secondBest r.2.2.2.2.2.2.2 ++ fr) :=
  gMet.of rfl (Nat.le_of_ble_eq_true rfl) (fun X hX hF => w_Main_play hX r h hF)
set_option maxRecDepth 4000 in
theorem w_Main_playByDraws (hX : gOk B X RX10 cX10_playByDraws 5 6 none) : gH B X (fun r : (Int64 × (Nat → Int32) × (Nat → Int32) × (Nat → Int32)) => gFin X (none) (wdC B W_spillsNow r.1 T_length T_at T_bytes D_cells D_clauses G_length G_code A_size A_chosen A_codes A_lengths r.2.1 Y_cells Y_clauses N_marbles N_chipped N_swallowed N_sweets N_day r.2.2.1 P_next P_kept P_hasImage P_image P_acts P_entries P_imageEntries S_fewest S_row S_strengths U_size U_found U_places U_kinds U_holds U_fitting U_tally r.2.2.2 L_firstCells L_secondCells L_firstBest L_secondBest W_refusals ++ fr)) 0 [(0, .ref (aC B 0))] [] (wdC B W_spillsNow W_drawn T_length T_at T_bytes D_cells D_clauses G_length G_code A_size A_chosen A_codes A_lengths A_stack Y_cells Y_clauses N_marbles N_chipped N_swallowed N_sweets N_day N_owners P_next P_kept P_hasImage P_image P_acts P_entries P_imageEntries S_fewest S_row S_strengths U_size U_found U_places U_kinds U_holds U_fitting U_tally L_letters L_firstCells L_secondCells L_firstBest L_secondBest W_refusals ++ fr) (f_Main_playByDraws W_drawn A_size A_chosen A_codes A_lengths A_stack Y_cells Y_clauses N_marbles N_chipped N_swallowed N_day N_owners L_letters) := by
  unfold f_Main_playByDraws
  refine h_aload_n hX dX10_playByDraws_0 rfl rfl ?_
  refine h_aload_n hX dX10_playByDraws_1 rfl rfl ?_
  refine get_RX10_42_C0 hX dX10_playByDraws_2 ?_
  refine h_callVi hX dX10_playByDraws_5 (cv_RX10_131) rc_C13 (As := []) (st := [.ref (aC B 0)]) (fun _ h => c_Yard_marbles h) rfl rfl (by decide) (Nat.le_of_ble_eq_true rfl) (fun a_1 => ?_)
  refine h_callVi hX dX10_playByDraws_8 (cv_RX10_388) rc_C0 (As := [.int a_1]) (st := []) (fun _ h => c_Main_draw h) rfl rfl (by decide) (Nat.le_of_ble_eq_true rfl) (fun a_2 => ?_)
  refine h_istore_n hX dX10_playByDraws_11 rfl (by decide) (lv' := [(0, .ref (aC B 0)), (1, .int a_2.1)]) rfl ?_
  refine h_aload_n hX dX10_playByDraws_12 rfl rfl ?_
  refine h_aload_n hX dX10_playByDraws_13 rfl rfl ?_
  refine get_RX10_42_C0 hX dX10_playByDraws_14 ?_
  refine h_callVi hX dX10_playByDraws_17 (cv_RX10_131) rc_C13 (As := []) (st := [.ref (aC B 0)]) (fun _ h => c_Yard_marbles h) rfl rfl (by decide) (Nat.le_of_ble_eq_true rfl) (fun a_3 => ?_)
  refine h_callVi hX dX10_playByDraws_20 (cv_RX10_388) rc_C0 (As := [.int a_3]) (st := []) (fun _ h => c_Main_draw h) rfl rfl (by decide) (Nat.le_of_ble_eq_true rfl) (fun a_4 => ?_)
  refine h_istore_n hX dX10_playByDraws_23 rfl (by decide) (lv' := [(0, .ref (aC B 0)), (1, .int a_2.1), (2, .int a_4.1)]) rfl ?_
  refine h_aload_n hX dX10_playByDraws_24 rfl rfl ?_
  refine h_bipush hX dX10_playByDraws_25 kb_9 ?_
  refine h_callVi hX dX10_playByDraws_27 (cv_RX10_388) rc_C0 (As := [.int 9]) (st := []) (fun _ h => c_Main_draw h) rfl rfl (by decide) (Nat.le_of_ble_eq_true rfl) (fun a_5 => ?_)
  refine h_iconst hX dX10_playByDraws_30 ki_1 ?_
  refine h_iadd hX dX10_playByDraws_31 ?_
  refine gH.leti (fun v3_6 => ?_)
  refine h_istore_n hX dX10_playByDraws_32 rfl (by decide) (lv' := [(0, .ref (aC B 0)), (1, .int a_2.1), (2, .int a_4.1), (3, .int v3_6)]) rfl ?_
  refine h_aload_n hX dX10_playByDraws_33 rfl rfl ?_
  refine h_bipush hX dX10_playByDraws_34 kb_9 ?_
  refine h_callVi hX dX10_playByDraws_36 (cv_RX10_388) rc_C0 (As := [.int 9]) (st := []) (fun _ h => c_Main_draw h) rfl rfl (by decide) (Nat.le_of_ble_eq_true rfl) (fun a_7 => ?_)
  refine h_iconst hX dX10_playByDraws_39 ki_1 ?_
  refine h_iadd hX dX10_playByDraws_40 ?_
  refine gH.leti (fun v4_8 => ?_)
  refine h_istore hX dX10_playByDraws_41 (by decide) (lv' := [(0, .ref (aC B 0)), (1, .int a_2.1), (2, .int a_4.1), (3, .int v3_6), (4, .int v4_8)]) rfl ?_
  refine h_aload_n hX dX10_playByDraws_43 rfl rfl ?_
  refine get_RX10_85_C0 hX dX10_playByDraws_44 ?_
  refine h_iload_n hX dX10_playByDraws_47 rfl rfl ?_
  refine h_iload_n hX dX10_playByDraws_48 rfl rfl ?_
  refine h_iload_n hX dX10_playByDraws_49 rfl rfl ?_
  refine h_iload hX dX10_playByDraws_50 rfl ?_
  refine h_callVi hX dX10_playByDraws_52 (cv_RX10_213) rc_C30 (As := [.int a_2.1, .int v3_6, .int a_4.1, .int v4_8]) (st := []) (fun _ h => c_Lane_refusalOf h) rfl rfl (by decide) (Nat.le_of_ble_eq_true rfl) (fun a_9 => ?_)
  refine h_iconst hX dX10_playByDraws_55 ki_m1 ?_
  refine h_icmp_ne hX dX10_playByDraws_56 (tgt := 72) (by decide) (fun _ => ?_) (fun _ => ?_)
  · exact h_ret hX (rv := none) dX10_playByDraws_72 trivial (fun h => h)
  · refine h_aload_n hX dX10_playByDraws_59 rfl rfl ?_
    refine get_RX10_85_C0 hX dX10_playByDraws_60 ?_
    refine h_iload_n hX dX10_playByDraws_63 rfl rfl ?_
    refine h_iload_n hX dX10_playByDraws_64 rfl rfl ?_
    refine h_iload_n hX dX10_playByDraws_65 rfl rfl ?_
    refine h_iload hX dX10_playByDraws_66 rfl ?_
    refine h_callVi hX dX10_playByDraws_68 (cv_RX10_223) rc_C30 (As := [.int a_2.1, .int v3_6, .int a_4.1, .int v4_8]) (st := []) (fun _ h => c_Lane_carryOut h) rfl rfl (by decide) (Nat.le_of_ble_eq_true rfl) (fun a_10 => ?_)
    refine h_pop hX dX10_playByDraws_71 rfl ?_
    exact h_ret hX (rv := none) dX10_playByDraws_72 trivial (fun h => h)
theorem c_Main_playByDraws {r : (Int64 × (Nat → Int32) × (Nat → Int32) × (Nat → Int32))} (h : f_Main_playByDraws W_drawn A_size A_chosen A_codes A_lengths A_stack Y_cells Y_clauses N_marbles N_chipped N_swallowed N_day N_owners L_letters = some r) : gMet B 6 yX10_playByDraws cX10_playByDraws 5 none [.ref (aC B 0)] (wdC B W_spillsNow W_drawn T_length T_at T_bytes D_cells D_clauses G_length G_code A_size A_chosen A_codes A_lengths A_stack Y_cells Y_clauses N_marbles N_chipped N_swallowed N_sweets N_day N_owners P_next P_kept P_hasImage P_image P_acts P_entries P_imageEntries S_fewest S_row S_strengths U_size U_found U_places U_kinds U_holds U_fitting U_tally L_letters L_firstCells L_secondCells L_firstBest L_secondBest W_refusals ++ fr) (none) (wdC B W_spillsNow r.1 T_length T_at T_bytes D_cells D_clauses G_length G_code A_size A_chosen A_codes A_lengths r.2.1 Y_cells Y_clauses N_marbles N_chipped N_swallowed N_sweets N_day r.2.2.1 P_next P_kept P_hasImage P_image P_acts P_entries P_imageEntries S_fewest S_row S_strengths U_size U_found U_places U_kinds U_holds U_fitting U_tally r.2.2.2 L_firstCells L_secondCells L_firstBest L_secondBest W_refusals ++ fr) :=
  gMet.of rfl (Nat.le_of_ble_eq_true rfl) (fun X hX hF => w_Main_playByDraws hX r h hF)
set_option maxRecDepth 4000 in
theorem w_Main_rests {p0 : Int32} {p1 : Int32} {p2 : Int32} (hX : gOk B X RX10 cX10_rests 4 7 (some .int)) : gH B X (fun r : (Int32 × (Nat → Int32) × (Nat → Int32) × (Nat → Int32) × (Nat → Int32) × (Nat → Int32) × (Nat → Int32)) => gFin X (some (.int r.1)) (wdC B W_spillsNow W_drawn T_length T_at T_bytes D_cells D_clauses G_length G_code A_size A_chosen A_codes A_lengths r.2.1 Y_cells Y_clauses N_marbles N_chipped N_swallowed N_sweets N_day N_owners P_next P_kept P_hasImage P_image P_acts P_entries P_imageEntries S_fewest S_row S_strengths U_size U_found U_places U_kinds U_holds U_fitting U_tally r.2.2.1 r.2.2.2.1 r.2.2.2.2.1 r.2.2.2.2.2.1 r.2.2.2.2.2.2 W_refusals ++ fr)) 0 [(0, .ref (aC B 0)), (1, .int p0), (2, .int p1), (3, .int p2)] [] (wdC B W_spillsNow W_drawn T_length T_at T_bytes D_cells D_clauses G_length G_code A_size A_chosen A_codes A_lengths A_stack Y_cells Y_clauses N_marbles N_chipped N_swallowed N_sweets N_day N_owners P_next P_kept P_hasImage P_image P_acts P_entries P_imageEntries S_fewest S_row S_strengths U_size U_found U_places U_kinds U_holds U_fitting U_tally L_letters L_firstCells L_secondCells L_firstBest L_secondBest W_refusals ++ fr) (f_Main_rests A_size A_chosen A_codes A_lengths A_stack Y_cells Y_clauses N_marbles N_chipped N_swallowed N_day N_owners L_letters L_firstCells L_secondCells L_firstBest L_secondBest p0 p1 p2) := by
  unfold f_Main_rests
  refine h_aload_n hX dX10_rests_0 rfl rfl ?_
  refine get_RX10_85_C0 hX dX10_rests_1 ?_
  refine h_iload_n hX dX10_rests_4 rfl rfl ?_
  refine h_iconst hX dX10_rests_5 ki_1 ?_
  refine h_iload_n hX dX10_rests_6 rfl rfl ?_
  refine h_iconst hX dX10_rests_7 ki_1 ?_
  refine h_callVi hX dX10_rests_8 (cv_RX10_213) rc_C30 (As := [.int p0, .int 1, .int p1, .int 1]) (st := []) (fun _ h => c_Lane_refusalOf h) rfl rfl (by decide) (Nat.le_of_ble_eq_true rfl) (fun a_1 => ?_)
  refine h_iconst hX dX10_rests_11 ki_m1 ?_
  refine h_icmp_eq hX dX10_rests_12 (tgt := 17) (by decide) (fun _ => ?_) (fun _ => ?_)
  · refine h_aload_n hX dX10_rests_17 rfl rfl ?_
    refine get_RX10_85_C0 hX dX10_rests_18 ?_
    refine h_iload_n hX dX10_rests_21 rfl rfl ?_
    refine h_iload_n hX dX10_rests_22 rfl rfl ?_
    refine h_iload_n hX dX10_rests_23 rfl rfl ?_
    refine h_callVi hX dX10_rests_24 (cv_RX10_290) rc_C30 (As := [.int p0, .int p1, .int p2]) (st := []) (fun _ h => c_Lane_restingPowers h) rfl rfl (by decide) (Nat.le_of_ble_eq_true rfl) (fun a_2 => ?_)
    exact h_ret hX (rv := some (.int a_2.1)) dX10_rests_27 trivial (fun h => h)
  · refine h_iconst hX dX10_rests_15 ki_m1 ?_
    exact h_ret hX (rv := some (.int ((-1)))) dX10_rests_16 trivial (fun h => h)
theorem c_Main_rests {p0 : Int32} {p1 : Int32} {p2 : Int32} {r : (Int32 × (Nat → Int32) × (Nat → Int32) × (Nat → Int32) × (Nat → Int32) × (Nat → Int32) × (Nat → Int32))} (h : f_Main_rests A_size A_chosen A_codes A_lengths A_stack Y_cells Y_clauses N_marbles N_chipped N_swallowed N_day N_owners L_letters L_firstCells L_secondCells L_firstBest L_secondBest p0 p1 p2 = some r) : gMet B 7 yX10_rests cX10_rests 4 (some .int) [.ref (aC B 0), .int p0, .int p1, .int p2] (wdC B W_spillsNow W_drawn T_length T_at T_bytes D_cells D_clauses G_length G_code A_size A_chosen A_codes A_lengths A_stack Y_cells Y_clauses N_marbles N_chipped N_swallowed N_sweets N_day N_owners P_next P_kept P_hasImage P_image P_acts P_entries P_imageEntries S_fewest S_row S_strengths U_size U_found U_places U_kinds U_holds U_fitting U_tally L_letters L_firstCells L_secondCells L_firstBest L_secondBest W_refusals ++ fr) (some (.int r.1)) (wdC B W_spillsNow W_drawn T_length T_at T_bytes D_cells D_clauses G_length G_code A_size A_chosen A_codes A_lengths r.2.1 Y_cells Y_clauses N_marbles N_chipped N_swallowed N_sweets N_day N_owners P_next P_kept P_hasImage P_image P_acts P_entries P_imageEntries S_fewest S_row S_strengths U_size U_found U_places U_kinds U_holds U_fitting U_tally r.2.2.1 r.2.2.2.1 r.2.2.2.2.1 r.2.2.2.2.2.1 r.2.2.2.2.2.2 W_refusals ++ fr) :=
  gMet.of rfl (Nat.le_of_ble_eq_true rfl) (fun X hX hF => w_Main_rests hX r h hF)
set_option maxRecDepth 4000 in
theorem w_Main_rule {p0 : Int32} (hX : gOk B X RX10 cX10_rule 2 2 (some .int)) : gH B X (fun r : Int32 => gFin X (some (.int r)) (wdC B W_spillsNow W_drawn T_length T_at T_bytes D_cells D_clauses G_length G_code A_size A_chosen A_codes A_lengths A_stack Y_cells Y_clauses N_marbles N_chipped N_swallowed N_sweets N_day N_owners P_next P_kept P_hasImage P_image P_acts P_entries P_imageEntries S_fewest S_row S_strengths U_size U_found U_places U_kinds U_holds U_fitting U_tally L_letters L_firstCells L_secondCells L_firstBest L_secondBest W_refusals ++ fr)) 0 [(0, .ref (aC B 0)), (1, .int p0)] [] (wdC B W_spillsNow W_drawn T_length T_at T_bytes D_cells D_clauses G_length G_code A_size A_chosen A_codes A_lengths A_stack Y_cells Y_clauses N_marbles N_chipped N_swallowed N_sweets N_day N_owners P_next P_kept P_hasImage P_image P_acts P_entries P_imageEntries S_fewest S_row S_strengths U_size U_found U_places U_kinds U_holds U_fitting U_tally L_letters L_firstCells L_secondCells L_firstBest L_secondBest W_refusals ++ fr) (f_Main_rule Y_cells Y_clauses N_sweets p0) := by
  unfold f_Main_rule
  refine h_aload_n hX dX10_rule_0 rfl rfl ?_
  refine get_RX10_42_C0 hX dX10_rule_1 ?_
  refine h_callVi hX dX10_rule_4 (cv_RX10_139) rc_C13 (As := []) (st := []) (fun _ h => c_Yard_stands h) rfl rfl (by decide) (Nat.le_of_ble_eq_true rfl) (fun a_1 => ?_)
  refine h_if_ne hX dX10_rule_7 (tgt := 12) (by decide) (fun _ => ?_) (fun _ => ?_)
  · refine h_iload_n hX dX10_rule_12 rfl rfl ?_
    refine gH.ite (fun hc0 => ?_) (fun hc0 => ?_)
    · refine h_tsin hX dX10_rule_13 hc0 (by decide) (by decide) rfl (tgt := 40) (by decide) ?_
      refine h_aload_n hX dX10_rule_40 rfl rfl ?_
      refine get_RX10_42_C0 hX dX10_rule_41 ?_
      refine h_callVi hX dX10_rule_44 (cv_RX10_142) rc_C13 (As := []) (st := []) (fun _ h => c_Yard_hole h) rfl rfl (by decide) (Nat.le_of_ble_eq_true rfl) (fun a_2 => ?_)
      exact h_ret hX (rv := some (.int a_2)) dX10_rule_47 trivial (fun h => h)
    refine gH.ite (fun hc1 => ?_) (fun hc1 => ?_)
    · refine h_tsin hX dX10_rule_13 hc1 (by decide) (by decide) rfl (tgt := 48) (by decide) ?_
      refine h_aload_n hX dX10_rule_48 rfl rfl ?_
      refine get_RX10_42_C0 hX dX10_rule_49 ?_
      refine h_callVi hX dX10_rule_52 (cv_RX10_145) rc_C13 (As := []) (st := []) (fun _ h => c_Yard_behind h) rfl rfl (by decide) (Nat.le_of_ble_eq_true rfl) (fun a_3 => ?_)
      exact h_ret hX (rv := some (.int a_3)) dX10_rule_55 trivial (fun h => h)
    refine gH.ite (fun hc2 => ?_) (fun hc2 => ?_)
    · refine h_tsin hX dX10_rule_13 hc2 (by decide) (by decide) rfl (tgt := 56) (by decide) ?_
      refine h_aload_n hX dX10_rule_56 rfl rfl ?_
      refine get_RX10_49_C0 hX dX10_rule_57 ?_
      refine get_RX10_148_C16 hX dX10_rule_60 ?_
      exact h_ret hX (rv := some (.int N_sweets)) dX10_rule_63 trivial (fun h => h)
    refine h_tsdef hX dX10_rule_13 (cs := [0, 1, 2]) (by decide) (by decide) (List.forall_mem_cons.mpr ⟨hc0, (List.forall_mem_cons.mpr ⟨hc1, (List.forall_mem_cons.mpr ⟨hc2, fun _ h => absurd h List.not_mem_nil⟩)⟩)⟩) (tgt := 64) (by decide) ?_
    refine h_iconst hX dX10_rule_64 ki_m1 ?_
    exact h_ret hX (rv := some (.int ((-1)))) dX10_rule_65 trivial (fun h => h)
  · refine h_iconst hX dX10_rule_10 ki_m1 ?_
    exact h_ret hX (rv := some (.int ((-1)))) dX10_rule_11 trivial (fun h => h)
theorem c_Main_rule {p0 : Int32} {r : Int32} (h : f_Main_rule Y_cells Y_clauses N_sweets p0 = some r) : gMet B 2 yX10_rule cX10_rule 2 (some .int) [.ref (aC B 0), .int p0] (wdC B W_spillsNow W_drawn T_length T_at T_bytes D_cells D_clauses G_length G_code A_size A_chosen A_codes A_lengths A_stack Y_cells Y_clauses N_marbles N_chipped N_swallowed N_sweets N_day N_owners P_next P_kept P_hasImage P_image P_acts P_entries P_imageEntries S_fewest S_row S_strengths U_size U_found U_places U_kinds U_holds U_fitting U_tally L_letters L_firstCells L_secondCells L_firstBest L_secondBest W_refusals ++ fr) (some (.int r)) (wdC B W_spillsNow W_drawn T_length T_at T_bytes D_cells D_clauses G_length G_code A_size A_chosen A_codes A_lengths A_stack Y_cells Y_clauses N_marbles N_chipped N_swallowed N_sweets N_day N_owners P_next P_kept P_hasImage P_image P_acts P_entries P_imageEntries S_fewest S_row S_strengths U_size U_found U_places U_kinds U_holds U_fitting U_tally L_letters L_firstCells L_secondCells L_firstBest L_secondBest W_refusals ++ fr) :=
  gMet.of rfl (Nat.le_of_ble_eq_true rfl) (fun X hX hF => w_Main_rule hX r h hF)
set_option maxRecDepth 4000 in
theorem w_Main_saves_L38 {v1 : Int32} {v2 : Int32} (hX : gOk B X RX10 cX10_saves 4 5 (some .int)) (s : Int32) : gH B X (Sum.elim (fun s : Int32 => gG B X 38 [(0, .ref (aC B 0)), (1, .int v1), (2, .int v2), (3, .int s)] [] (wdC B W_spillsNow W_drawn T_length T_at T_bytes D_cells D_clauses G_length G_code A_size A_chosen A_codes A_lengths A_stack Y_cells Y_clauses N_marbles N_chipped N_swallowed N_sweets N_day N_owners P_next P_kept P_hasImage P_image P_acts P_entries P_imageEntries S_fewest S_row S_strengths U_size U_found U_places U_kinds U_holds U_fitting U_tally L_letters L_firstCells L_secondCells L_firstBest L_secondBest W_refusals ++ fr)) (fun r : (Int32 × (Nat → Int32)) => gFin X (some (.int r.1)) (wdC B W_spillsNow W_drawn T_length T_at T_bytes D_cells D_clauses G_length G_code A_size A_chosen A_codes A_lengths A_stack Y_cells Y_clauses N_marbles N_chipped N_swallowed N_sweets N_day N_owners P_next P_kept P_hasImage P_image P_acts P_entries P_imageEntries S_fewest S_row r.2 U_size U_found U_places U_kinds U_holds U_fitting U_tally L_letters L_firstCells L_secondCells L_firstBest L_secondBest W_refusals ++ fr))) 38 [(0, .ref (aC B 0)), (1, .int v1), (2, .int v2), (3, .int s)] [] (wdC B W_spillsNow W_drawn T_length T_at T_bytes D_cells D_clauses G_length G_code A_size A_chosen A_codes A_lengths A_stack Y_cells Y_clauses N_marbles N_chipped N_swallowed N_sweets N_day N_owners P_next P_kept P_hasImage P_image P_acts P_entries P_imageEntries S_fewest S_row S_strengths U_size U_found U_places U_kinds U_holds U_fitting U_tally L_letters L_firstCells L_secondCells L_firstBest L_secondBest W_refusals ++ fr) (f_Main_saves_L38 N_sweets S_strengths v1 v2 s) := by
  unfold f_Main_saves_L38
  refine h_iload_n hX dX10_saves_38 rfl rfl ?_
  refine h_bipush hX dX10_saves_39 kb_60 ?_
  refine h_icmp_gt hX dX10_saves_41 (tgt := 67) (by decide) (fun _ => ?_) (fun _ => ?_)
  · refine h_iconst hX dX10_saves_67 ki_m1 ?_
    exact h_ret hX (rv := some (.int ((-1)))) dX10_saves_68 trivial (fun h => h)
  · refine h_aload_n hX dX10_saves_44 rfl rfl ?_
    refine get_RX10_49_C0 hX dX10_saves_45 ?_
    refine get_RX10_148_C16 hX dX10_saves_48 ?_
    refine h_iload_n hX dX10_saves_51 rfl rfl ?_
    refine h_iload_n hX dX10_saves_52 rfl rfl ?_
    refine h_imul hX dX10_saves_53 ?_
    refine h_iadd hX dX10_saves_54 ?_
    refine h_iload_n hX dX10_saves_55 rfl rfl ?_
    refine h_icmp_lt hX dX10_saves_56 (tgt := 61) (by decide) (fun _ => ?_) (fun _ => ?_)
    · refine h_iincc hX dX10_saves_61 rfl ki_1 (by decide) (lv' := [(0, .ref (aC B 0)), (1, .int v1), (2, .int v2), (3, .int (s + 1))]) rfl ?_
      refine h_goto hX dX10_saves_64 (tgt := 38) (by decide) ?_
      exact gH.some' (fun h => h)
    · refine h_iload_n hX dX10_saves_59 rfl rfl ?_
      exact h_ret hX (rv := some (.int s)) dX10_saves_60 trivial (fun h => h)
set_option maxRecDepth 4000 in
theorem w_Main_saves {p0 : Int32} (hX : gOk B X RX10 cX10_saves 4 5 (some .int)) : gH B X (fun r : (Int32 × (Nat → Int32)) => gFin X (some (.int r.1)) (wdC B W_spillsNow W_drawn T_length T_at T_bytes D_cells D_clauses G_length G_code A_size A_chosen A_codes A_lengths A_stack Y_cells Y_clauses N_marbles N_chipped N_swallowed N_sweets N_day N_owners P_next P_kept P_hasImage P_image P_acts P_entries P_imageEntries S_fewest S_row r.2 U_size U_found U_places U_kinds U_holds U_fitting U_tally L_letters L_firstCells L_secondCells L_firstBest L_secondBest W_refusals ++ fr)) 0 [(0, .ref (aC B 0)), (1, .int p0)] [] (wdC B W_spillsNow W_drawn T_length T_at T_bytes D_cells D_clauses G_length G_code A_size A_chosen A_codes A_lengths A_stack Y_cells Y_clauses N_marbles N_chipped N_swallowed N_sweets N_day N_owners P_next P_kept P_hasImage P_image P_acts P_entries P_imageEntries S_fewest S_row S_strengths U_size U_found U_places U_kinds U_holds U_fitting U_tally L_letters L_firstCells L_secondCells L_firstBest L_secondBest W_refusals ++ fr) (f_Main_saves Y_cells Y_clauses N_marbles N_chipped N_sweets N_owners S_strengths p0) := by
  unfold f_Main_saves
  refine h_aload_n hX dX10_saves_0 rfl rfl ?_
  refine get_RX10_42_C0 hX dX10_saves_1 ?_
  refine h_callVi hX dX10_saves_4 (cv_RX10_139) rc_C13 (As := []) (st := []) (fun _ h => c_Yard_stands h) rfl rfl (by decide) (Nat.le_of_ble_eq_true rfl) (fun a_1 => ?_)
  refine h_if_eq hX dX10_saves_7 (tgt := 22) (by decide) (fun _ => ?_) (fun _ => ?_)
  · refine h_iconst hX dX10_saves_22 ki_m1 ?_
    exact h_ret hX (rv := some (.int ((-1)))) dX10_saves_23 trivial (fun h => h)
  · refine h_iload_n hX dX10_saves_10 rfl rfl ?_
    refine h_iconst hX dX10_saves_11 ki_1 ?_
    refine h_icmp_lt hX dX10_saves_12 (tgt := 22) (by decide) (fun _ => ?_) (fun _ => ?_)
    · refine h_iconst hX dX10_saves_22 ki_m1 ?_
      exact h_ret hX (rv := some (.int ((-1)))) dX10_saves_23 trivial (fun h => h)
    · refine h_iload_n hX dX10_saves_15 rfl rfl ?_
      refine h_sipush hX dX10_saves_16 ks_999 ?_
      refine h_icmp_le hX dX10_saves_19 (tgt := 24) (by decide) (fun _ => ?_) (fun _ => ?_)
      · refine h_aload_n hX dX10_saves_24 rfl rfl ?_
        refine get_RX10_42_C0 hX dX10_saves_25 ?_
        refine h_aload_n hX dX10_saves_28 rfl rfl ?_
        refine h_callVi hX dX10_saves_29 (cv_RX10_207) rc_C0 (As := []) (st := [.ref (aC B 13)]) (fun _ h => c_Main_contentNow h) rfl rfl (by decide) (Nat.le_of_ble_eq_true rfl) (fun a_2 => ?_)
        refine h_callVi hX dX10_saves_32 (cv_RX10_337) rc_C13 (As := [.int a_2.1]) (st := []) (fun _ h => c_Yard_paymentOf h) rfl rfl (by decide) (Nat.le_of_ble_eq_true rfl) (fun a_3 => ?_)
        refine h_istore_n hX dX10_saves_35 rfl (by decide) (lv' := [(0, .ref (aC B 0)), (1, .int p0), (2, .int a_3)]) rfl ?_
        refine h_iconst hX dX10_saves_36 ki_0 ?_
        refine h_istore_n hX dX10_saves_37 rfl (by decide) (lv' := [(0, .ref (aC B 0)), (1, .int p0), (2, .int a_3), (3, .int 0)]) rfl ?_
        exact gH.loop (lvf := fun z : Int32 => [(0, .ref (aC B 0)), (1, .int p0), (2, .int a_3), (3, .int z)]) (wf := fun z : Int32 => wdC B W_spillsNow W_drawn T_length T_at T_bytes D_cells D_clauses G_length G_code A_size A_chosen A_codes A_lengths A_stack Y_cells Y_clauses N_marbles N_chipped N_swallowed N_sweets N_day N_owners P_next P_kept P_hasImage P_image P_acts P_entries P_imageEntries S_fewest S_row a_2.2 U_size U_found U_places U_kinds U_holds U_fitting U_tally L_letters L_firstCells L_secondCells L_firstBest L_secondBest W_refusals ++ fr) (fun z => w_Main_saves_L38 hX z) 0
      · refine h_iconst hX dX10_saves_22 ki_m1 ?_
        exact h_ret hX (rv := some (.int ((-1)))) dX10_saves_23 trivial (fun h => h)
theorem c_Main_saves {p0 : Int32} {r : (Int32 × (Nat → Int32))} (h : f_Main_saves Y_cells Y_clauses N_marbles N_chipped N_sweets N_owners S_strengths p0 = some r) : gMet B 5 yX10_saves cX10_saves 4 (some .int) [.ref (aC B 0), .int p0] (wdC B W_spillsNow W_drawn T_length T_at T_bytes D_cells D_clauses G_length G_code A_size A_chosen A_codes A_lengths A_stack Y_cells Y_clauses N_marbles N_chipped N_swallowed N_sweets N_day N_owners P_next P_kept P_hasImage P_image P_acts P_entries P_imageEntries S_fewest S_row S_strengths U_size U_found U_places U_kinds U_holds U_fitting U_tally L_letters L_firstCells L_secondCells L_firstBest L_secondBest W_refusals ++ fr) (some (.int r.1)) (wdC B W_spillsNow W_drawn T_length T_at T_bytes D_cells D_clauses G_length G_code A_size A_chosen A_codes A_lengths A_stack Y_cells Y_clauses N_marbles N_chipped N_swallowed N_sweets N_day N_owners P_next P_kept P_hasImage P_image P_acts P_entries P_imageEntries S_fewest S_row r.2 U_size U_found U_places U_kinds U_holds U_fitting U_tally L_letters L_firstCells L_secondCells L_firstBest L_secondBest W_refusals ++ fr) :=
  gMet.of rfl (Nat.le_of_ble_eq_true rfl) (fun X hX hF => w_Main_saves hX r h hF)
set_option maxRecDepth 4000 in
theorem w_Main_seen {p0 : Int32} {p1 : Int32} {p2 : Int32} (hX : gOk B X RX10 cX10_seen 4 3 (some .int)) : gH B X (fun r : (Int32 × Int32 × (Nat → Int32) × (Nat → Int32) × (Nat → Int32)) => gFin X (some (.int r.1)) (wdC B W_spillsNow W_drawn T_length T_at T_bytes D_cells D_clauses G_length G_code A_size A_chosen A_codes A_lengths A_stack Y_cells Y_clauses N_marbles N_chipped N_swallowed N_sweets N_day N_owners P_next P_kept P_hasImage P_image P_acts P_entries P_imageEntries S_fewest S_row S_strengths r.2.1 U_found r.2.2.1 r.2.2.2.1 r.2.2.2.2 U_fitting U_tally L_letters L_firstCells L_secondCells L_firstBest L_secondBest W_refusals ++ fr)) 0 [(0, .ref (aC B 0)), (1, .int p0), (2, .int p1), (3, .int p2)] [] (wdC B W_spillsNow W_drawn T_length T_at T_bytes D_cells D_clauses G_length G_code A_size A_chosen A_codes A_lengths A_stack Y_cells Y_clauses N_marbles N_chipped N_swallowed N_sweets N_day N_owners P_next P_kept P_hasImage P_image P_acts P_entries P_imageEntries S_fewest S_row S_strengths U_size U_found U_places U_kinds U_holds U_fitting U_tally L_letters L_firstCells L_secondCells L_firstBest L_secondBest W_refusals ++ fr) (f_Main_seen Y_clauses U_size U_places U_kinds U_holds p0 p1 p2) := by
  unfold f_Main_seen
  refine h_aload_n hX dX10_seen_0 rfl rfl ?_
  refine h_iload_n hX dX10_seen_1 rfl rfl ?_
  refine h_iload_n hX dX10_seen_2 rfl rfl ?_
  refine h_callVi hX dX10_seen_3 (cv_RX10_302) rc_C0 (As := [.int p0, .int p1]) (st := []) (fun _ h => c_Main_isPlaceAndKind h) rfl rfl (by decide) (Nat.le_of_ble_eq_true rfl) (fun a_1 => ?_)
  refine h_if_eq hX dX10_seen_6 (tgt := 21) (by decide) (fun _ => ?_) (fun _ => ?_)
  · refine h_iconst hX dX10_seen_21 ki_m1 ?_
    exact h_ret hX (rv := some (.int ((-1)))) dX10_seen_22 trivial (fun h => h)
  · refine h_aload_n hX dX10_seen_9 rfl rfl ?_
    refine get_RX10_76_C0 hX dX10_seen_10 ?_
    refine h_callVi hX dX10_seen_13 (cv_RX10_318) rc_C24 (As := []) (st := []) (fun _ h => c_Clues_size h) rfl rfl (by decide) (Nat.le_of_ble_eq_true rfl) (fun a_2 => ?_)
    refine h_bipush hX dX10_seen_16 kb_10 ?_
    refine h_icmp_lt hX dX10_seen_18 (tgt := 23) (by decide) (fun _ => ?_) (fun _ => ?_)
    · refine h_aload_n hX dX10_seen_23 rfl rfl ?_
      refine get_RX10_76_C0 hX dX10_seen_24 ?_
      refine h_iload_n hX dX10_seen_27 rfl rfl ?_
      refine h_iload_n hX dX10_seen_28 rfl rfl ?_
      refine h_iload_n hX dX10_seen_29 rfl rfl ?_
      refine h_callVv hX dX10_seen_30 (cv_RX10_319) rc_C24 (As := [.int p0, .int p1, .int p2]) (st := []) (fun _ h => c_Clues_add h) rfl rfl (by decide) (Nat.le_of_ble_eq_true rfl) (fun a_3 => ?_)
      refine h_aload_n hX dX10_seen_33 rfl rfl ?_
      refine get_RX10_76_C0 hX dX10_seen_34 ?_
      refine h_callVi hX dX10_seen_37 (cv_RX10_318) rc_C24 (As := []) (st := []) (fun _ h => c_Clues_size h) rfl rfl (by decide) (Nat.le_of_ble_eq_true rfl) (fun a_4 => ?_)
      exact h_ret hX (rv := some (.int a_4)) dX10_seen_40 trivial (fun h => h)
    · refine h_iconst hX dX10_seen_21 ki_m1 ?_
      exact h_ret hX (rv := some (.int ((-1)))) dX10_seen_22 trivial (fun h => h)
theorem c_Main_seen {p0 : Int32} {p1 : Int32} {p2 : Int32} {r : (Int32 × Int32 × (Nat → Int32) × (Nat → Int32) × (Nat → Int32))} (h : f_Main_seen Y_clauses U_size U_places U_kinds U_holds p0 p1 p2 = some r) : gMet B 3 yX10_seen cX10_seen 4 (some .int) [.ref (aC B 0), .int p0, .int p1, .int p2] (wdC B W_spillsNow W_drawn T_length T_at T_bytes D_cells D_clauses G_length G_code A_size A_chosen A_codes A_lengths A_stack Y_cells Y_clauses N_marbles N_chipped N_swallowed N_sweets N_day N_owners P_next P_kept P_hasImage P_image P_acts P_entries P_imageEntries S_fewest S_row S_strengths U_size U_found U_places U_kinds U_holds U_fitting U_tally L_letters L_firstCells L_secondCells L_firstBest L_secondBest W_refusals ++ fr) (some (.int r.1)) (wdC B W_spillsNow W_drawn T_length T_at T_bytes D_cells D_clauses G_length G_code A_size A_chosen A_codes A_lengths A_stack Y_cells Y_clauses N_marbles N_chipped N_swallowed N_sweets N_day N_owners P_next P_kept P_hasImage P_image P_acts P_entries P_imageEntries S_fewest S_row S_strengths r.2.1 U_found r.2.2.1 r.2.2.2.1 r.2.2.2.2 U_fitting U_tally L_letters L_firstCells L_secondCells L_firstBest L_secondBest W_refusals ++ fr) :=
  gMet.of rfl (Nat.le_of_ble_eq_true rfl) (fun X hX hF => w_Main_seen hX r h hF)
set_option maxRecDepth 4000 in
theorem w_Main_shares_J99 {v1 : Int32} {v2 : Int32} {v3 : Int32} {v4 : Int32} {v5 : Int32} (hX : gOk B X RX10 cX10_shares 6 2 (some .int)) : gH B X (Sum.elim (fun s : (Int32 × Int32 × Int32) => gG B X 32 [(0, .ref (aC B 0)), (1, .int v1), (2, .int v2), (3, .int s.1), (4, .int s.2.1), (5, .int s.2.2)] [] (wdC B W_spillsNow W_drawn T_length T_at T_bytes D_cells D_clauses G_length G_code A_size A_chosen A_codes A_lengths A_stack Y_cells Y_clauses N_marbles N_chipped N_swallowed N_sweets N_day N_owners P_next P_kept P_hasImage P_image P_acts P_entries P_imageEntries S_fewest S_row S_strengths U_size U_found U_places U_kinds U_holds U_fitting U_tally L_letters L_firstCells L_secondCells L_firstBest L_secondBest W_refusals ++ fr)) (fun r : Int32 => gFin X (some (.int r)) (wdC B W_spillsNow W_drawn T_length T_at T_bytes D_cells D_clauses G_length G_code A_size A_chosen A_codes A_lengths A_stack Y_cells Y_clauses N_marbles N_chipped N_swallowed N_sweets N_day N_owners P_next P_kept P_hasImage P_image P_acts P_entries P_imageEntries S_fewest S_row S_strengths U_size U_found U_places U_kinds U_holds U_fitting U_tally L_letters L_firstCells L_secondCells L_firstBest L_secondBest W_refusals ++ fr))) 99 [(0, .ref (aC B 0)), (1, .int v1), (2, .int v2), (3, .int v3), (4, .int v4), (5, .int v5)] [] (wdC B W_spillsNow W_drawn T_length T_at T_bytes D_cells D_clauses G_length G_code A_size A_chosen A_codes A_lengths A_stack Y_cells Y_clauses N_marbles N_chipped N_swallowed N_sweets N_day N_owners P_next P_kept P_hasImage P_image P_acts P_entries P_imageEntries S_fewest S_row S_strengths U_size U_found U_places U_kinds U_holds U_fitting U_tally L_letters L_firstCells L_secondCells L_firstBest L_secondBest W_refusals ++ fr) (f_Main_shares_J99 v3 v4 v5) := by
  unfold f_Main_shares_J99
  refine h_iincc hX dX10_shares_99 rfl ki_1 (by decide) (lv' := [(0, .ref (aC B 0)), (1, .int v1), (2, .int v2), (3, .int v3), (4, .int v4), (5, .int (v5 + 1))]) rfl ?_
  refine h_goto hX dX10_shares_102 (tgt := 32) (by decide) ?_
  exact gH.some' (fun h => h)
set_option maxRecDepth 4000 in
theorem w_Main_shares_J97 {v1 : Int32} {v2 : Int32} {v4 : Int32} {v5 : Int32} {k0 : Int32} {k1 : Int32} (hX : gOk B X RX10 cX10_shares 6 2 (some .int)) : gH B X (Sum.elim (fun s : (Int32 × Int32 × Int32) => gG B X 32 [(0, .ref (aC B 0)), (1, .int v1), (2, .int v2), (3, .int s.1), (4, .int s.2.1), (5, .int s.2.2)] [] (wdC B W_spillsNow W_drawn T_length T_at T_bytes D_cells D_clauses G_length G_code A_size A_chosen A_codes A_lengths A_stack Y_cells Y_clauses N_marbles N_chipped N_swallowed N_sweets N_day N_owners P_next P_kept P_hasImage P_image P_acts P_entries P_imageEntries S_fewest S_row S_strengths U_size U_found U_places U_kinds U_holds U_fitting U_tally L_letters L_firstCells L_secondCells L_firstBest L_secondBest W_refusals ++ fr)) (fun r : Int32 => gFin X (some (.int r)) (wdC B W_spillsNow W_drawn T_length T_at T_bytes D_cells D_clauses G_length G_code A_size A_chosen A_codes A_lengths A_stack Y_cells Y_clauses N_marbles N_chipped N_swallowed N_sweets N_day N_owners P_next P_kept P_hasImage P_image P_acts P_entries P_imageEntries S_fewest S_row S_strengths U_size U_found U_places U_kinds U_holds U_fitting U_tally L_letters L_firstCells L_secondCells L_firstBest L_secondBest W_refusals ++ fr))) 97 [(0, .ref (aC B 0)), (1, .int v1), (2, .int v2), (4, .int v4), (5, .int v5)] [.int k1, .int k0] (wdC B W_spillsNow W_drawn T_length T_at T_bytes D_cells D_clauses G_length G_code A_size A_chosen A_codes A_lengths A_stack Y_cells Y_clauses N_marbles N_chipped N_swallowed N_sweets N_day N_owners P_next P_kept P_hasImage P_image P_acts P_entries P_imageEntries S_fewest S_row S_strengths U_size U_found U_places U_kinds U_holds U_fitting U_tally L_letters L_firstCells L_secondCells L_firstBest L_secondBest W_refusals ++ fr) (f_Main_shares_J97 v4 v5 k0 k1) := by
  unfold f_Main_shares_J97
  refine h_iadd hX dX10_shares_97 ?_
  refine gH.leti (fun v3_8 => ?_)
  refine h_istore_n hX dX10_shares_98 rfl (by decide) (lv' := [(0, .ref (aC B 0)), (1, .int v1), (2, .int v2), (3, .int v3_8), (4, .int v4), (5, .int v5)]) rfl ?_
  exact w_Main_shares_J99 hX
set_option maxRecDepth 4000 in
theorem w_Main_shares_L32 {v1 : Int32} {v2 : Int32} (hX : gOk B X RX10 cX10_shares 6 2 (some .int)) (s : (Int32 × Int32 × Int32)) : gH B X (Sum.elim (fun s : (Int32 × Int32 × Int32) => gG B X 32 [(0, .ref (aC B 0)), (1, .int v1), (2, .int v2), (3, .int s.1), (4, .int s.2.1), (5, .int s.2.2)] [] (wdC B W_spillsNow W_drawn T_length T_at T_bytes D_cells D_clauses G_length G_code A_size A_chosen A_codes A_lengths A_stack Y_cells Y_clauses N_marbles N_chipped N_swallowed N_sweets N_day N_owners P_next P_kept P_hasImage P_image P_acts P_entries P_imageEntries S_fewest S_row S_strengths U_size U_found U_places U_kinds U_holds U_fitting U_tally L_letters L_firstCells L_secondCells L_firstBest L_secondBest W_refusals ++ fr)) (fun r : Int32 => gFin X (some (.int r)) (wdC B W_spillsNow W_drawn T_length T_at T_bytes D_cells D_clauses G_length G_code A_size A_chosen A_codes A_lengths A_stack Y_cells Y_clauses N_marbles N_chipped N_swallowed N_sweets N_day N_owners P_next P_kept P_hasImage P_image P_acts P_entries P_imageEntries S_fewest S_row S_strengths U_size U_found U_places U_kinds U_holds U_fitting U_tally L_letters L_firstCells L_secondCells L_firstBest L_secondBest W_refusals ++ fr))) 32 [(0, .ref (aC B 0)), (1, .int v1), (2, .int v2), (3, .int s.1), (4, .int s.2.1), (5, .int s.2.2)] [] (wdC B W_spillsNow W_drawn T_length T_at T_bytes D_cells D_clauses G_length G_code A_size A_chosen A_codes A_lengths A_stack Y_cells Y_clauses N_marbles N_chipped N_swallowed N_sweets N_day N_owners P_next P_kept P_hasImage P_image P_acts P_entries P_imageEntries S_fewest S_row S_strengths U_size U_found U_places U_kinds U_holds U_fitting U_tally L_letters L_firstCells L_secondCells L_firstBest L_secondBest W_refusals ++ fr) (f_Main_shares_L32 Y_cells Y_clauses N_marbles N_owners v1 v2 s) := by
  unfold f_Main_shares_L32
  refine h_iload hX dX10_shares_32 rfl ?_
  refine h_aload_n hX dX10_shares_34 rfl rfl ?_
  refine get_RX10_42_C0 hX dX10_shares_35 ?_
  refine h_callVi hX dX10_shares_38 (cv_RX10_131) rc_C13 (As := []) (st := [.int s.2.2]) (fun _ h => c_Yard_marbles h) rfl rfl (by decide) (Nat.le_of_ble_eq_true rfl) (fun a_2 => ?_)
  refine h_icmp_ge hX dX10_shares_41 (tgt := 105) (by decide) (fun _ => ?_) (fun _ => ?_)
  · refine gH.inr ?_
    refine h_iload hX dX10_shares_105 rfl ?_
    refine h_if_ne hX dX10_shares_107 (tgt := 114) (by decide) (fun _ => ?_) (fun _ => ?_)
    · refine h_iload_n hX dX10_shares_114 rfl rfl ?_
      refine h_iload_n hX dX10_shares_115 rfl rfl ?_
      refine h_imul hX dX10_shares_116 ?_
      refine h_iload hX dX10_shares_117 rfl ?_
      refine h_idiv hX dX10_shares_119 ?_
      exact h_ret hX (rv := some (.int ((v2 * s.1) / s.2.1))) dX10_shares_120 trivial (fun h => h)
    · refine h_iconst hX dX10_shares_110 ki_0 ?_
      refine h_goto hX dX10_shares_111 (tgt := 120) (by decide) ?_
      exact h_ret hX (rv := some (.int 0)) dX10_shares_120 trivial (fun h => h)
  · refine h_aload_n hX dX10_shares_44 rfl rfl ?_
    refine get_RX10_49_C0 hX dX10_shares_45 ?_
    refine h_iload hX dX10_shares_48 rfl ?_
    refine h_callVi hX dX10_shares_50 (cv_RX10_233) rc_C16 (As := [.int s.2.2]) (st := []) (fun _ h => c_Now_isDrained h) rfl rfl (by decide) (Nat.le_of_ble_eq_true rfl) (fun a_3 => ?_)
    refine h_if_ne hX dX10_shares_53 (tgt := 99) (by decide) (fun _ => ?_) (fun _ => ?_)
    · exact w_Main_shares_J99 hX
    · refine h_iload hX dX10_shares_56 rfl ?_
      refine h_aload_n hX dX10_shares_58 rfl rfl ?_
      refine get_RX10_42_C0 hX dX10_shares_59 ?_
      refine h_iload hX dX10_shares_62 rfl ?_
      refine h_callVi hX dX10_shares_64 (cv_RX10_187) rc_C13 (As := [.int s.2.2]) (st := [.int s.2.1]) (fun _ h => c_Yard_size h) rfl rfl (by decide) (Nat.le_of_ble_eq_true rfl) (fun a_5 => ?_)
      refine h_iadd hX dX10_shares_67 ?_
      refine gH.leti (fun v4_6 => ?_)
      refine h_istore hX dX10_shares_68 (by decide) (lv' := [(0, .ref (aC B 0)), (1, .int v1), (2, .int v2), (3, .int s.1), (4, .int v4_6), (5, .int s.2.2)]) rfl ?_
      refine h_iload_n hX dX10_shares_70 rfl rfl ?_
      refine h_aload_n hX dX10_shares_71 rfl rfl ?_
      refine get_RX10_49_C0 hX dX10_shares_72 ?_
      refine h_iload hX dX10_shares_75 rfl ?_
      refine h_callVi hX dX10_shares_77 (cv_RX10_181) rc_C16 (As := [.int s.2.2]) (st := [.int s.1]) (fun _ h => c_Now_ownerOf h) rfl rfl (by decide) (Nat.le_of_ble_eq_true rfl) (fun a_7 => ?_)
      refine h_iload_n hX dX10_shares_80 rfl rfl ?_
      refine h_icmp_ne hX dX10_shares_81 (tgt := 96) (by decide) (fun _ => ?_) (fun _ => ?_)
      · refine h_iconst hX dX10_shares_96 ki_0 ?_
        refine gH.dead [0, 1, 2, 4, 5] rfl ?_
        exact w_Main_shares_J97 hX
      · refine h_aload_n hX dX10_shares_84 rfl rfl ?_
        refine get_RX10_42_C0 hX dX10_shares_85 ?_
        refine h_iload hX dX10_shares_88 rfl ?_
        refine h_callVi hX dX10_shares_90 (cv_RX10_187) rc_C13 (As := [.int s.2.2]) (st := [.int s.1]) (fun _ h => c_Yard_size h) rfl rfl (by decide) (Nat.le_of_ble_eq_true rfl) (fun a_9 => ?_)
        refine h_goto hX dX10_shares_93 (tgt := 97) (by decide) ?_
        refine gH.dead [0, 1, 2, 4, 5] rfl ?_
        exact w_Main_shares_J97 hX
set_option maxRecDepth 4000 in
theorem w_Main_shares {p0 : Int32} {p1 : Int32} (hX : gOk B X RX10 cX10_shares 6 2 (some .int)) : gH B X (fun r : Int32 => gFin X (some (.int r)) (wdC B W_spillsNow W_drawn T_length T_at T_bytes D_cells D_clauses G_length G_code A_size A_chosen A_codes A_lengths A_stack Y_cells Y_clauses N_marbles N_chipped N_swallowed N_sweets N_day N_owners P_next P_kept P_hasImage P_image P_acts P_entries P_imageEntries S_fewest S_row S_strengths U_size U_found U_places U_kinds U_holds U_fitting U_tally L_letters L_firstCells L_secondCells L_firstBest L_secondBest W_refusals ++ fr)) 0 [(0, .ref (aC B 0)), (1, .int p0), (2, .int p1)] [] (wdC B W_spillsNow W_drawn T_length T_at T_bytes D_cells D_clauses G_length G_code A_size A_chosen A_codes A_lengths A_stack Y_cells Y_clauses N_marbles N_chipped N_swallowed N_sweets N_day N_owners P_next P_kept P_hasImage P_image P_acts P_entries P_imageEntries S_fewest S_row S_strengths U_size U_found U_places U_kinds U_holds U_fitting U_tally L_letters L_firstCells L_secondCells L_firstBest L_secondBest W_refusals ++ fr) (f_Main_shares Y_cells Y_clauses N_marbles N_owners p0 p1) := by
  unfold f_Main_shares
  refine h_aload_n hX dX10_shares_0 rfl rfl ?_
  refine get_RX10_42_C0 hX dX10_shares_1 ?_
  refine h_iload_n hX dX10_shares_4 rfl rfl ?_
  refine h_callVi hX dX10_shares_5 (cv_RX10_152) rc_C13 (As := [.int p0]) (st := []) (fun _ h => c_Yard_hasBoy h) rfl rfl (by decide) (Nat.le_of_ble_eq_true rfl) (fun a_1 => ?_)
  refine h_if_eq hX dX10_shares_8 (tgt := 22) (by decide) (fun _ => ?_) (fun _ => ?_)
  · refine h_iconst hX dX10_shares_22 ki_m1 ?_
    exact h_ret hX (rv := some (.int ((-1)))) dX10_shares_23 trivial (fun h => h)
  · refine h_iload_n hX dX10_shares_11 rfl rfl ?_
    refine h_if_lt hX dX10_shares_12 (tgt := 22) (by decide) (fun _ => ?_) (fun _ => ?_)
    · refine h_iconst hX dX10_shares_22 ki_m1 ?_
      exact h_ret hX (rv := some (.int ((-1)))) dX10_shares_23 trivial (fun h => h)
    · refine h_iload_n hX dX10_shares_15 rfl rfl ?_
      refine h_sipush hX dX10_shares_16 ks_999 ?_
      refine h_icmp_le hX dX10_shares_19 (tgt := 24) (by decide) (fun _ => ?_) (fun _ => ?_)
      · refine h_iconst hX dX10_shares_24 ki_0 ?_
        refine h_istore_n hX dX10_shares_25 rfl (by decide) (lv' := [(0, .ref (aC B 0)), (1, .int p0), (2, .int p1), (3, .int 0)]) rfl ?_
        refine h_iconst hX dX10_shares_26 ki_0 ?_
        refine h_istore hX dX10_shares_27 (by decide) (lv' := [(0, .ref (aC B 0)), (1, .int p0), (2, .int p1), (3, .int 0), (4, .int 0)]) rfl ?_
        refine h_iconst hX dX10_shares_29 ki_0 ?_
        refine h_istore hX dX10_shares_30 (by decide) (lv' := [(0, .ref (aC B 0)), (1, .int p0), (2, .int p1), (3, .int 0), (4, .int 0), (5, .int 0)]) rfl ?_
        exact gH.loop (lvf := fun z : (Int32 × Int32 × Int32) => [(0, .ref (aC B 0)), (1, .int p0), (2, .int p1), (3, .int z.1), (4, .int z.2.1), (5, .int z.2.2)]) (wf := fun z : (Int32 × Int32 × Int32) => wdC B W_spillsNow W_drawn T_length T_at T_bytes D_cells D_clauses G_length G_code A_size A_chosen A_codes A_lengths A_stack Y_cells Y_clauses N_marbles N_chipped N_swallowed N_sweets N_day N_owners P_next P_kept P_hasImage P_image P_acts P_entries P_imageEntries S_fewest S_row S_strengths U_size U_found U_places U_kinds U_holds U_fitting U_tally L_letters L_firstCells L_secondCells L_firstBest L_secondBest W_refusals ++ fr) (fun z => w_Main_shares_L32 hX z) (0, 0, 0)
      · refine h_iconst hX dX10_shares_22 ki_m1 ?_
        exact h_ret hX (rv := some (.int ((-1)))) dX10_shares_23 trivial (fun h => h)
theorem c_Main_shares {p0 : Int32} {p1 : Int32} {r : Int32} (h : f_Main_shares Y_cells Y_clauses N_marbles N_owners p0 p1 = some r) : gMet B 2 yX10_shares cX10_shares 6 (some .int) [.ref (aC B 0), .int p0, .int p1] (wdC B W_spillsNow W_drawn T_length T_at T_bytes D_cells D_clauses G_length G_code A_size A_chosen A_codes A_lengths A_stack Y_cells Y_clauses N_marbles N_chipped N_swallowed N_sweets N_day N_owners P_next P_kept P_hasImage P_image P_acts P_entries P_imageEntries S_fewest S_row S_strengths U_size U_found U_places U_kinds U_holds U_fitting U_tally L_letters L_firstCells L_secondCells L_firstBest L_secondBest W_refusals ++ fr) (some (.int r)) (wdC B W_spillsNow W_drawn T_length T_at T_bytes D_cells D_clauses G_length G_code A_size A_chosen A_codes A_lengths A_stack Y_cells Y_clauses N_marbles N_chipped N_swallowed N_sweets N_day N_owners P_next P_kept P_hasImage P_image P_acts P_entries P_imageEntries S_fewest S_row S_strengths U_size U_found U_places U_kinds U_holds U_fitting U_tally L_letters L_firstCells L_secondCells L_firstBest L_secondBest W_refusals ++ fr) :=
  gMet.of rfl (Nat.le_of_ble_eq_true rfl) (fun X hX hF => w_Main_shares hX r h hF)
set_option maxRecDepth 4000 in
theorem w_Main_spell {p0 : Int32} {p1 : Int32} (hX : gOk B X RX10 cX10_spell 3 4 (some .int)) : gH B X (fun r : (Int32 × (Nat → Int32)) => gFin X (some (.int r.1)) (wdC B W_spillsNow W_drawn T_length T_at T_bytes D_cells D_clauses G_length G_code A_size A_chosen A_codes A_lengths A_stack Y_cells Y_clauses N_marbles N_chipped N_swallowed N_sweets N_day N_owners P_next P_kept P_hasImage P_image P_acts P_entries P_imageEntries S_fewest S_row r.2 U_size U_found U_places U_kinds U_holds U_fitting U_tally L_letters L_firstCells L_secondCells L_firstBest L_secondBest W_refusals ++ fr)) 0 [(0, .ref (aC B 0)), (1, .int p0), (2, .int p1)] [] (wdC B W_spillsNow W_drawn T_length T_at T_bytes D_cells D_clauses G_length G_code A_size A_chosen A_codes A_lengths A_stack Y_cells Y_clauses N_marbles N_chipped N_swallowed N_sweets N_day N_owners P_next P_kept P_hasImage P_image P_acts P_entries P_imageEntries S_fewest S_row S_strengths U_size U_found U_places U_kinds U_holds U_fitting U_tally L_letters L_firstCells L_secondCells L_firstBest L_secondBest W_refusals ++ fr) (f_Main_spell Y_cells Y_clauses N_marbles N_chipped N_owners S_strengths p0 p1) := by
  unfold f_Main_spell
  refine h_aload_n hX dX10_spell_0 rfl rfl ?_
  refine h_iload_n hX dX10_spell_1 rfl rfl ?_
  refine h_iload_n hX dX10_spell_2 rfl rfl ?_
  refine h_callVi hX dX10_spell_3 (cv_RX10_302) rc_C0 (As := [.int p0, .int p1]) (st := []) (fun _ h => c_Main_isPlaceAndKind h) rfl rfl (by decide) (Nat.le_of_ble_eq_true rfl) (fun a_1 => ?_)
  refine h_if_ne hX dX10_spell_6 (tgt := 11) (by decide) (fun _ => ?_) (fun _ => ?_)
  · refine h_aload_n hX dX10_spell_11 rfl rfl ?_
    refine get_RX10_67_C0 hX dX10_spell_12 ?_
    refine h_callVv hX dX10_spell_15 (cv_RX10_296) rc_C22 (As := []) (st := []) (fun _ h => c_Sky_measure h) rfl rfl (by decide) (Nat.le_of_ble_eq_true rfl) (fun a_2 => ?_)
    refine h_aload_n hX dX10_spell_18 rfl rfl ?_
    refine get_RX10_67_C0 hX dX10_spell_19 ?_
    refine h_iload_n hX dX10_spell_22 rfl rfl ?_
    refine h_iload_n hX dX10_spell_23 rfl rfl ?_
    refine h_callVi hX dX10_spell_24 (cv_RX10_306) rc_C22 (As := [.int p0, .int p1]) (st := []) (fun _ h => c_Sky_strengthOf h) rfl rfl (by decide) (Nat.le_of_ble_eq_true rfl) (fun a_3 => ?_)
    exact h_ret hX (rv := some (.int a_3)) dX10_spell_27 trivial (fun h => h)
  · refine h_iconst hX dX10_spell_9 ki_m1 ?_
    exact h_ret hX (rv := some (.int ((-1)))) dX10_spell_10 trivial (fun h => h)
theorem c_Main_spell {p0 : Int32} {p1 : Int32} {r : (Int32 × (Nat → Int32))} (h : f_Main_spell Y_cells Y_clauses N_marbles N_chipped N_owners S_strengths p0 p1 = some r) : gMet B 4 yX10_spell cX10_spell 3 (some .int) [.ref (aC B 0), .int p0, .int p1] (wdC B W_spillsNow W_drawn T_length T_at T_bytes D_cells D_clauses G_length G_code A_size A_chosen A_codes A_lengths A_stack Y_cells Y_clauses N_marbles N_chipped N_swallowed N_sweets N_day N_owners P_next P_kept P_hasImage P_image P_acts P_entries P_imageEntries S_fewest S_row S_strengths U_size U_found U_places U_kinds U_holds U_fitting U_tally L_letters L_firstCells L_secondCells L_firstBest L_secondBest W_refusals ++ fr) (some (.int r.1)) (wdC B W_spillsNow W_drawn T_length T_at T_bytes D_cells D_clauses G_length G_code A_size A_chosen A_codes A_lengths A_stack Y_cells Y_clauses N_marbles N_chipped N_swallowed N_sweets N_day N_owners P_next P_kept P_hasImage P_image P_acts P_entries P_imageEntries S_fewest S_row r.2 U_size U_found U_places U_kinds U_holds U_fitting U_tally L_letters L_firstCells L_secondCells L_firstBest L_secondBest W_refusals ++ fr) :=
  gMet.of rfl (Nat.le_of_ble_eq_true rfl) (fun X hX hF => w_Main_spell hX r h hF)
