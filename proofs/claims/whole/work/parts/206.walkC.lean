variable {B : gB} {X : gX} {fr : va_W} {W_spillsNow : Int32} {W_drawn : Int64} {T_length : Int32} {T_at : Int32} {T_bytes : Nat → Int32} {D_cells : Nat → Int32} {D_clauses : Nat → Int32} {G_length : Int32} {G_code : Nat → Int32} {A_size : Int32} {A_chosen : Int32} {A_codes : Nat → Int32} {A_lengths : Nat → Int32} {A_stack : Nat → Int32} {Y_cells : Nat → Int32} {Y_clauses : Nat → Int32} {N_marbles : Int32} {N_chipped : Int32} {N_swallowed : Int32} {N_sweets : Int32} {N_day : Int32} {N_owners : Nat → Int32} {P_next : Int32} {P_kept : Int32} {P_hasImage : Int32} {P_image : Int64} {P_acts : Nat → Int64} {P_entries : Nat → Int32} {P_imageEntries : Nat → Int32} {S_fewest : Int32} {S_row : Int32} {S_strengths : Nat → Int32} {U_size : Int32} {U_found : Int32} {U_places : Nat → Int32} {U_kinds : Nat → Int32} {U_holds : Nat → Int32} {U_fitting : Nat → Int32} {U_tally : Nat → Int32} {L_letters : Nat → Int32} {L_firstCells : Nat → Int32} {L_secondCells : Nat → Int32} {L_firstBest : Nat → Int32} {L_secondBest : Nat → Int32} {W_refusals : Nat → Int32}
set_option maxRecDepth 4000 in
theorem w_Now_drainedBits (hX : gOk B X RX4 cX4_drainedBits 1 1 (some .int)) : gH B X (fun r : Int32 => gFin X (some (.int r)) (wdC B W_spillsNow W_drawn T_length T_at T_bytes D_cells D_clauses G_length G_code A_size A_chosen A_codes A_lengths A_stack Y_cells Y_clauses N_marbles N_chipped N_swallowed N_sweets N_day N_owners P_next P_kept P_hasImage P_image P_acts P_entries P_imageEntries S_fewest S_row S_strengths U_size U_found U_places U_kinds U_holds U_fitting U_tally L_letters L_firstCells L_secondCells L_firstBest L_secondBest W_refusals ++ fr)) 0 [(0, .ref (aC B 16))] [] (wdC B W_spillsNow W_drawn T_length T_at T_bytes D_cells D_clauses G_length G_code A_size A_chosen A_codes A_lengths A_stack Y_cells Y_clauses N_marbles N_chipped N_swallowed N_sweets N_day N_owners P_next P_kept P_hasImage P_image P_acts P_entries P_imageEntries S_fewest S_row S_strengths U_size U_found U_places U_kinds U_holds U_fitting U_tally L_letters L_firstCells L_secondCells L_firstBest L_secondBest W_refusals ++ fr) (f_Now_drainedBits N_marbles N_owners) := by
  unfold f_Now_drainedBits
  refine h_aload_n hX dX4_drainedBits_0 rfl rfl ?_
  refine h_iconst hX dX4_drainedBits_1 ki_m1 ?_
  refine h_callVi hX dX4_drainedBits_2 (cv_RX4_59) rc_C16 (As := [.int ((-1))]) (st := []) (fun _ h => c_Now_handOf h) rfl rfl (by decide) (Nat.le_of_ble_eq_true rfl) (fun a_1 => ?_)
  exact h_ret hX (rv := some (.int a_1)) dX4_drainedBits_5 trivial (fun h => h)
theorem c_Now_drainedBits {r : Int32} (h : f_Now_drainedBits N_marbles N_owners = some r) : gMet B 1 yX4_drainedBits cX4_drainedBits 1 (some .int) [.ref (aC B 16)] (wdC B W_spillsNow W_drawn T_length T_at T_bytes D_cells D_clauses G_length G_code A_size A_chosen A_codes A_lengths A_stack Y_cells Y_clauses N_marbles N_chipped N_swallowed N_sweets N_day N_owners P_next P_kept P_hasImage P_image P_acts P_entries P_imageEntries S_fewest S_row S_strengths U_size U_found U_places U_kinds U_holds U_fitting U_tally L_letters L_firstCells L_secondCells L_firstBest L_secondBest W_refusals ++ fr) (some (.int r)) (wdC B W_spillsNow W_drawn T_length T_at T_bytes D_cells D_clauses G_length G_code A_size A_chosen A_codes A_lengths A_stack Y_cells Y_clauses N_marbles N_chipped N_swallowed N_sweets N_day N_owners P_next P_kept P_hasImage P_image P_acts P_entries P_imageEntries S_fewest S_row S_strengths U_size U_found U_places U_kinds U_holds U_fitting U_tally L_letters L_firstCells L_secondCells L_firstBest L_secondBest W_refusals ++ fr) :=
  gMet.of rfl (Nat.le_of_ble_eq_true rfl) (fun X hX hF => w_Now_drainedBits hX r h hF)
set_option maxRecDepth 4000 in
theorem w_Laws_chosen (hX : gOk B X RX3 cX3_chosen 1 0 (some .int)) : gH B X (fun r : Int32 => gFin X (some (.int r)) (wdC B W_spillsNow W_drawn T_length T_at T_bytes D_cells D_clauses G_length G_code A_size A_chosen A_codes A_lengths A_stack Y_cells Y_clauses N_marbles N_chipped N_swallowed N_sweets N_day N_owners P_next P_kept P_hasImage P_image P_acts P_entries P_imageEntries S_fewest S_row S_strengths U_size U_found U_places U_kinds U_holds U_fitting U_tally L_letters L_firstCells L_secondCells L_firstBest L_secondBest W_refusals ++ fr)) 0 [(0, .ref (aC B 9))] [] (wdC B W_spillsNow W_drawn T_length T_at T_bytes D_cells D_clauses G_length G_code A_size A_chosen A_codes A_lengths A_stack Y_cells Y_clauses N_marbles N_chipped N_swallowed N_sweets N_day N_owners P_next P_kept P_hasImage P_image P_acts P_entries P_imageEntries S_fewest S_row S_strengths U_size U_found U_places U_kinds U_holds U_fitting U_tally L_letters L_firstCells L_secondCells L_firstBest L_secondBest W_refusals ++ fr) (f_Laws_chosen A_chosen) := by
  unfold f_Laws_chosen
  refine h_aload_n hX dX3_chosen_0 rfl rfl ?_
  refine get_RX3_18_C9 hX dX3_chosen_1 ?_
  exact h_ret hX (rv := some (.int A_chosen)) dX3_chosen_4 trivial (fun h => h)
theorem c_Laws_chosen {r : Int32} (h : f_Laws_chosen A_chosen = some r) : gMet B 0 yX3_chosen cX3_chosen 1 (some .int) [.ref (aC B 9)] (wdC B W_spillsNow W_drawn T_length T_at T_bytes D_cells D_clauses G_length G_code A_size A_chosen A_codes A_lengths A_stack Y_cells Y_clauses N_marbles N_chipped N_swallowed N_sweets N_day N_owners P_next P_kept P_hasImage P_image P_acts P_entries P_imageEntries S_fewest S_row S_strengths U_size U_found U_places U_kinds U_holds U_fitting U_tally L_letters L_firstCells L_secondCells L_firstBest L_secondBest W_refusals ++ fr) (some (.int r)) (wdC B W_spillsNow W_drawn T_length T_at T_bytes D_cells D_clauses G_length G_code A_size A_chosen A_codes A_lengths A_stack Y_cells Y_clauses N_marbles N_chipped N_swallowed N_sweets N_day N_owners P_next P_kept P_hasImage P_image P_acts P_entries P_imageEntries S_fewest S_row S_strengths U_size U_found U_places U_kinds U_holds U_fitting U_tally L_letters L_firstCells L_secondCells L_firstBest L_secondBest W_refusals ++ fr) :=
  gMet.of rfl (Nat.le_of_ble_eq_true rfl) (fun X hX hF => w_Laws_chosen hX r h hF)
set_option maxRecDepth 4000 in
theorem w_Tape_size (hX : gOk B X RX7 cX7_size 1 0 (some .int)) : gH B X (fun r : Int32 => gFin X (some (.int r)) (wdC B W_spillsNow W_drawn T_length T_at T_bytes D_cells D_clauses G_length G_code A_size A_chosen A_codes A_lengths A_stack Y_cells Y_clauses N_marbles N_chipped N_swallowed N_sweets N_day N_owners P_next P_kept P_hasImage P_image P_acts P_entries P_imageEntries S_fewest S_row S_strengths U_size U_found U_places U_kinds U_holds U_fitting U_tally L_letters L_firstCells L_secondCells L_firstBest L_secondBest W_refusals ++ fr)) 0 [(0, .ref (aC B 1))] [] (wdC B W_spillsNow W_drawn T_length T_at T_bytes D_cells D_clauses G_length G_code A_size A_chosen A_codes A_lengths A_stack Y_cells Y_clauses N_marbles N_chipped N_swallowed N_sweets N_day N_owners P_next P_kept P_hasImage P_image P_acts P_entries P_imageEntries S_fewest S_row S_strengths U_size U_found U_places U_kinds U_holds U_fitting U_tally L_letters L_firstCells L_secondCells L_firstBest L_secondBest W_refusals ++ fr) (f_Tape_size T_length) := by
  unfold f_Tape_size
  refine h_aload_n hX dX7_size_0 rfl rfl ?_
  refine get_RX7_15_C1 hX dX7_size_1 ?_
  exact h_ret hX (rv := some (.int T_length)) dX7_size_4 trivial (fun h => h)
theorem c_Tape_size {r : Int32} (h : f_Tape_size T_length = some r) : gMet B 0 yX7_size cX7_size 1 (some .int) [.ref (aC B 1)] (wdC B W_spillsNow W_drawn T_length T_at T_bytes D_cells D_clauses G_length G_code A_size A_chosen A_codes A_lengths A_stack Y_cells Y_clauses N_marbles N_chipped N_swallowed N_sweets N_day N_owners P_next P_kept P_hasImage P_image P_acts P_entries P_imageEntries S_fewest S_row S_strengths U_size U_found U_places U_kinds U_holds U_fitting U_tally L_letters L_firstCells L_secondCells L_firstBest L_secondBest W_refusals ++ fr) (some (.int r)) (wdC B W_spillsNow W_drawn T_length T_at T_bytes D_cells D_clauses G_length G_code A_size A_chosen A_codes A_lengths A_stack Y_cells Y_clauses N_marbles N_chipped N_swallowed N_sweets N_day N_owners P_next P_kept P_hasImage P_image P_acts P_entries P_imageEntries S_fewest S_row S_strengths U_size U_found U_places U_kinds U_holds U_fitting U_tally L_letters L_firstCells L_secondCells L_firstBest L_secondBest W_refusals ++ fr) :=
  gMet.of rfl (Nat.le_of_ble_eq_true rfl) (fun X hX hF => w_Tape_size hX r h hF)
set_option maxRecDepth 4000 in
theorem w_Laws_size (hX : gOk B X RX3 cX3_size 1 0 (some .int)) : gH B X (fun r : Int32 => gFin X (some (.int r)) (wdC B W_spillsNow W_drawn T_length T_at T_bytes D_cells D_clauses G_length G_code A_size A_chosen A_codes A_lengths A_stack Y_cells Y_clauses N_marbles N_chipped N_swallowed N_sweets N_day N_owners P_next P_kept P_hasImage P_image P_acts P_entries P_imageEntries S_fewest S_row S_strengths U_size U_found U_places U_kinds U_holds U_fitting U_tally L_letters L_firstCells L_secondCells L_firstBest L_secondBest W_refusals ++ fr)) 0 [(0, .ref (aC B 9))] [] (wdC B W_spillsNow W_drawn T_length T_at T_bytes D_cells D_clauses G_length G_code A_size A_chosen A_codes A_lengths A_stack Y_cells Y_clauses N_marbles N_chipped N_swallowed N_sweets N_day N_owners P_next P_kept P_hasImage P_image P_acts P_entries P_imageEntries S_fewest S_row S_strengths U_size U_found U_places U_kinds U_holds U_fitting U_tally L_letters L_firstCells L_secondCells L_firstBest L_secondBest W_refusals ++ fr) (f_Laws_size A_size) := by
  unfold f_Laws_size
  refine h_aload_n hX dX3_size_0 rfl rfl ?_
  refine get_RX3_25_C9 hX dX3_size_1 ?_
  exact h_ret hX (rv := some (.int A_size)) dX3_size_4 trivial (fun h => h)
theorem c_Laws_size {r : Int32} (h : f_Laws_size A_size = some r) : gMet B 0 yX3_size cX3_size 1 (some .int) [.ref (aC B 9)] (wdC B W_spillsNow W_drawn T_length T_at T_bytes D_cells D_clauses G_length G_code A_size A_chosen A_codes A_lengths A_stack Y_cells Y_clauses N_marbles N_chipped N_swallowed N_sweets N_day N_owners P_next P_kept P_hasImage P_image P_acts P_entries P_imageEntries S_fewest S_row S_strengths U_size U_found U_places U_kinds U_holds U_fitting U_tally L_letters L_firstCells L_secondCells L_firstBest L_secondBest W_refusals ++ fr) (some (.int r)) (wdC B W_spillsNow W_drawn T_length T_at T_bytes D_cells D_clauses G_length G_code A_size A_chosen A_codes A_lengths A_stack Y_cells Y_clauses N_marbles N_chipped N_swallowed N_sweets N_day N_owners P_next P_kept P_hasImage P_image P_acts P_entries P_imageEntries S_fewest S_row S_strengths U_size U_found U_places U_kinds U_holds U_fitting U_tally L_letters L_firstCells L_secondCells L_firstBest L_secondBest W_refusals ++ fr) :=
  gMet.of rfl (Nat.le_of_ble_eq_true rfl) (fun X hX hF => w_Laws_size hX r h hF)
set_option maxRecDepth 4000 in
theorem w_Main_count {p0 : Int32} (hX : gOk B X RX10 cX10_count 2 5 (some .int)) : gH B X (fun r : (Int32 × (Nat → Int32)) => gFin X (some (.int r.1)) (wdC B W_spillsNow W_drawn T_length T_at T_bytes D_cells D_clauses G_length G_code A_size A_chosen A_codes A_lengths A_stack Y_cells Y_clauses N_marbles N_chipped N_swallowed N_sweets N_day N_owners P_next P_kept P_hasImage P_image P_acts P_entries P_imageEntries S_fewest S_row r.2 U_size U_found U_places U_kinds U_holds U_fitting U_tally L_letters L_firstCells L_secondCells L_firstBest L_secondBest W_refusals ++ fr)) 0 [(0, .ref (aC B 0)), (1, .int p0)] [] (wdC B W_spillsNow W_drawn T_length T_at T_bytes D_cells D_clauses G_length G_code A_size A_chosen A_codes A_lengths A_stack Y_cells Y_clauses N_marbles N_chipped N_swallowed N_sweets N_day N_owners P_next P_kept P_hasImage P_image P_acts P_entries P_imageEntries S_fewest S_row S_strengths U_size U_found U_places U_kinds U_holds U_fitting U_tally L_letters L_firstCells L_secondCells L_firstBest L_secondBest W_refusals ++ fr) (f_Main_count W_spillsNow T_length A_size A_chosen Y_cells Y_clauses N_marbles N_chipped N_day N_owners P_kept S_strengths U_size p0) := by
  unfold f_Main_count
  refine h_iload_n hX dX10_count_0 rfl rfl ?_
  refine gH.ite (fun hc0 => ?_) (fun hc0 => ?_)
  · refine h_tsin hX dX10_count_1 hc0 (by decide) (by decide) rfl (tgt := 68) (by decide) ?_
    refine h_aload_n hX dX10_count_68 rfl rfl ?_
    refine get_RX10_42_C0 hX dX10_count_69 ?_
    refine h_callVi hX dX10_count_72 (cv_RX10_131) rc_C13 (As := []) (st := []) (fun _ h => c_Yard_marbles h) rfl rfl (by decide) (Nat.le_of_ble_eq_true rfl) (fun a_1 => ?_)
    exact h_ret hX (rv := some (.int a_1)) dX10_count_75 trivial (fun h => h)
  refine gH.ite (fun hc1 => ?_) (fun hc1 => ?_)
  · refine h_tsin hX dX10_count_1 hc1 (by decide) (by decide) rfl (tgt := 76) (by decide) ?_
    refine h_aload_n hX dX10_count_76 rfl rfl ?_
    refine get_RX10_42_C0 hX dX10_count_77 ?_
    refine h_callVi hX dX10_count_80 (cv_RX10_358) rc_C13 (As := []) (st := []) (fun _ h => c_Yard_boys h) rfl rfl (by decide) (Nat.le_of_ble_eq_true rfl) (fun a_2 => ?_)
    exact h_ret hX (rv := some (.int a_2)) dX10_count_83 trivial (fun h => h)
  refine gH.ite (fun hc2 => ?_) (fun hc2 => ?_)
  · refine h_tsin hX dX10_count_1 hc2 (by decide) (by decide) rfl (tgt := 84) (by decide) ?_
    refine h_aload_n hX dX10_count_84 rfl rfl ?_
    refine get_RX10_42_C0 hX dX10_count_85 ?_
    refine h_callVi hX dX10_count_88 (cv_RX10_361) rc_C13 (As := []) (st := []) (fun _ h => c_Yard_farms h) rfl rfl (by decide) (Nat.le_of_ble_eq_true rfl) (fun a_3 => ?_)
    exact h_ret hX (rv := some (.int a_3)) dX10_count_91 trivial (fun h => h)
  refine gH.ite (fun hc3 => ?_) (fun hc3 => ?_)
  · refine h_tsin hX dX10_count_1 hc3 (by decide) (by decide) rfl (tgt := 92) (by decide) ?_
    refine h_aload_n hX dX10_count_92 rfl rfl ?_
    refine get_RX10_35_C0 hX dX10_count_93 ?_
    refine h_callVi hX dX10_count_96 (cv_RX10_134) rc_C9 (As := []) (st := []) (fun _ h => c_Laws_size h) rfl rfl (by decide) (Nat.le_of_ble_eq_true rfl) (fun a_4 => ?_)
    exact h_ret hX (rv := some (.int a_4)) dX10_count_99 trivial (fun h => h)
  refine gH.ite (fun hc4 => ?_) (fun hc4 => ?_)
  · refine h_tsin hX dX10_count_1 hc4 (by decide) (by decide) rfl (tgt := 100) (by decide) ?_
    refine h_aload_n hX dX10_count_100 rfl rfl ?_
    refine get_RX10_10_C0 hX dX10_count_101 ?_
    refine h_callVi hX dX10_count_104 (cv_RX10_97) rc_C1 (As := []) (st := []) (fun _ h => c_Tape_size h) rfl rfl (by decide) (Nat.le_of_ble_eq_true rfl) (fun a_5 => ?_)
    exact h_ret hX (rv := some (.int a_5)) dX10_count_107 trivial (fun h => h)
  refine gH.ite (fun hc5 => ?_) (fun hc5 => ?_)
  · refine h_tsin hX dX10_count_1 hc5 (by decide) (by decide) rfl (tgt := 108) (by decide) ?_
    refine h_aload_n hX dX10_count_108 rfl rfl ?_
    refine get_RX10_35_C0 hX dX10_count_109 ?_
    refine h_callVi hX dX10_count_112 (cv_RX10_364) rc_C9 (As := []) (st := []) (fun _ h => c_Laws_chosen h) rfl rfl (by decide) (Nat.le_of_ble_eq_true rfl) (fun a_6 => ?_)
    exact h_ret hX (rv := some (.int a_6)) dX10_count_115 trivial (fun h => h)
  refine gH.ite (fun hc6 => ?_) (fun hc6 => ?_)
  · refine h_tsin hX dX10_count_1 hc6 (by decide) (by decide) rfl (tgt := 116) (by decide) ?_
    refine h_aload_n hX dX10_count_116 rfl rfl ?_
    refine get_RX10_49_C0 hX dX10_count_117 ?_
    refine get_RX10_242_C16 hX dX10_count_120 ?_
    exact h_ret hX (rv := some (.int N_day)) dX10_count_123 trivial (fun h => h)
  refine gH.ite (fun hc7 => ?_) (fun hc7 => ?_)
  · refine h_tsin hX dX10_count_1 hc7 (by decide) (by decide) rfl (tgt := 124) (by decide) ?_
    refine h_aload_n hX dX10_count_124 rfl rfl ?_
    refine h_callVi hX dX10_count_125 (cv_RX10_207) rc_C0 (As := []) (st := []) (fun _ h => c_Main_contentNow h) rfl rfl (by decide) (Nat.le_of_ble_eq_true rfl) (fun a_7 => ?_)
    exact h_ret hX (rv := some (.int a_7.1)) dX10_count_128 trivial (fun h => h)
  refine gH.ite (fun hc8 => ?_) (fun hc8 => ?_)
  · refine h_tsin hX dX10_count_1 hc8 (by decide) (by decide) rfl (tgt := 129) (by decide) ?_
    refine h_aload_n hX dX10_count_129 rfl rfl ?_
    refine get_RX10_49_C0 hX dX10_count_130 ?_
    refine h_callVi hX dX10_count_133 (cv_RX10_367) rc_C16 (As := []) (st := []) (fun _ h => c_Now_drainedBits h) rfl rfl (by decide) (Nat.le_of_ble_eq_true rfl) (fun a_8 => ?_)
    exact h_ret hX (rv := some (.int a_8)) dX10_count_136 trivial (fun h => h)
  refine gH.ite (fun hc9 => ?_) (fun hc9 => ?_)
  · refine h_tsin hX dX10_count_1 hc9 (by decide) (by decide) rfl (tgt := 137) (by decide) ?_
    refine h_aload_n hX dX10_count_137 rfl rfl ?_
    refine get_RX10_248_C0 hX dX10_count_138 ?_
    exact h_ret hX (rv := some (.int W_spillsNow)) dX10_count_141 trivial (fun h => h)
  refine gH.ite (fun hc10 => ?_) (fun hc10 => ?_)
  · refine h_tsin hX dX10_count_1 hc10 (by decide) (by decide) rfl (tgt := 142) (by decide) ?_
    refine h_aload_n hX dX10_count_142 rfl rfl ?_
    refine get_RX10_76_C0 hX dX10_count_143 ?_
    refine h_callVi hX dX10_count_146 (cv_RX10_318) rc_C24 (As := []) (st := []) (fun _ h => c_Clues_size h) rfl rfl (by decide) (Nat.le_of_ble_eq_true rfl) (fun a_9 => ?_)
    exact h_ret hX (rv := some (.int a_9)) dX10_count_149 trivial (fun h => h)
  refine gH.ite (fun hc11 => ?_) (fun hc11 => ?_)
  · refine h_tsin hX dX10_count_1 hc11 (by decide) (by decide) rfl (tgt := 150) (by decide) ?_
    refine h_aload_n hX dX10_count_150 rfl rfl ?_
    refine get_RX10_58_C0 hX dX10_count_151 ?_
    refine h_callVi hX dX10_count_154 (cv_RX10_264) rc_C18 (As := []) (st := []) (fun _ h => c_Past_logLength h) rfl rfl (by decide) (Nat.le_of_ble_eq_true rfl) (fun a_10 => ?_)
    exact h_ret hX (rv := some (.int a_10)) dX10_count_157 trivial (fun h => h)
  refine gH.ite (fun hc12 => ?_) (fun hc12 => ?_)
  · refine h_tsin hX dX10_count_1 hc12 (by decide) (by decide) rfl (tgt := 158) (by decide) ?_
    refine h_aload_n hX dX10_count_158 rfl rfl ?_
    refine get_RX10_58_C0 hX dX10_count_159 ?_
    refine h_callVi hX dX10_count_162 (cv_RX10_370) rc_C18 (As := []) (st := []) (fun _ h => c_Past_undoable h) rfl rfl (by decide) (Nat.le_of_ble_eq_true rfl) (fun a_11 => ?_)
    exact h_ret hX (rv := some (.int a_11)) dX10_count_165 trivial (fun h => h)
  refine h_tsdef hX dX10_count_1 (cs := [0, 1, 2, 3, 4, 5, 6, 7, 8, 9, 10, 11, 12]) (by decide) (by decide) (List.forall_mem_cons.mpr ⟨hc0, (List.forall_mem_cons.mpr ⟨hc1, (List.forall_mem_cons.mpr ⟨hc2, (List.forall_mem_cons.mpr ⟨hc3, (List.forall_mem_cons.mpr ⟨hc4, (List.forall_mem_cons.mpr ⟨hc5, (List.forall_mem_cons.mpr ⟨hc6, (List.forall_mem_cons.mpr ⟨hc7, (List.forall_mem_cons.mpr ⟨hc8, (List.forall_mem_cons.mpr ⟨hc9, (List.forall_mem_cons.mpr ⟨hc10, (List.forall_mem_cons.mpr ⟨hc11, (List.forall_mem_cons.mpr ⟨hc12, fun _ h => absurd h List.not_mem_nil⟩)⟩)⟩)⟩)⟩)⟩)⟩)⟩)⟩)⟩)⟩)⟩)⟩) (tgt := 166) (by decide) ?_
  refine h_ldc hX dX10_count_166 cst_RX10_180 ?_
  exact h_ret hX (rv := some (.int ((-1000000)))) dX10_count_168 trivial (fun h => h)
theorem c_Main_count {p0 : Int32} {r : (Int32 × (Nat → Int32))} (h : f_Main_count W_spillsNow T_length A_size A_chosen Y_cells Y_clauses N_marbles N_chipped N_day N_owners P_kept S_strengths U_size p0 = some r) : gMet B 5 yX10_count cX10_count 2 (some .int) [.ref (aC B 0), .int p0] (wdC B W_spillsNow W_drawn T_length T_at T_bytes D_cells D_clauses G_length G_code A_size A_chosen A_codes A_lengths A_stack Y_cells Y_clauses N_marbles N_chipped N_swallowed N_sweets N_day N_owners P_next P_kept P_hasImage P_image P_acts P_entries P_imageEntries S_fewest S_row S_strengths U_size U_found U_places U_kinds U_holds U_fitting U_tally L_letters L_firstCells L_secondCells L_firstBest L_secondBest W_refusals ++ fr) (some (.int r.1)) (wdC B W_spillsNow W_drawn T_length T_at T_bytes D_cells D_clauses G_length G_code A_size A_chosen A_codes A_lengths A_stack Y_cells Y_clauses N_marbles N_chipped N_swallowed N_sweets N_day N_owners P_next P_kept P_hasImage P_image P_acts P_entries P_imageEntries S_fewest S_row r.2 U_size U_found U_places U_kinds U_holds U_fitting U_tally L_letters L_firstCells L_secondCells L_firstBest L_secondBest W_refusals ++ fr) :=
  gMet.of rfl (Nat.le_of_ble_eq_true rfl) (fun X hX hF => w_Main_count hX r h hF)
set_option maxRecDepth 4000 in
theorem w_Yard_payment {p0 : Int32} (hX : gOk B X RX8 cX8_payment 2 1 (some .int)) : gH B X (fun r : Int32 => gFin X (some (.int r)) (wdC B W_spillsNow W_drawn T_length T_at T_bytes D_cells D_clauses G_length G_code A_size A_chosen A_codes A_lengths A_stack Y_cells Y_clauses N_marbles N_chipped N_swallowed N_sweets N_day N_owners P_next P_kept P_hasImage P_image P_acts P_entries P_imageEntries S_fewest S_row S_strengths U_size U_found U_places U_kinds U_holds U_fitting U_tally L_letters L_firstCells L_secondCells L_firstBest L_secondBest W_refusals ++ fr)) 0 [(0, .ref (aC B 13)), (1, .int p0)] [] (wdC B W_spillsNow W_drawn T_length T_at T_bytes D_cells D_clauses G_length G_code A_size A_chosen A_codes A_lengths A_stack Y_cells Y_clauses N_marbles N_chipped N_swallowed N_sweets N_day N_owners P_next P_kept P_hasImage P_image P_acts P_entries P_imageEntries S_fewest S_row S_strengths U_size U_found U_places U_kinds U_holds U_fitting U_tally L_letters L_firstCells L_secondCells L_firstBest L_secondBest W_refusals ++ fr) (f_Yard_payment Y_cells p0) := by
  unfold f_Yard_payment
  refine h_aload_n hX dX8_payment_0 rfl rfl ?_
  refine h_iconst hX dX8_payment_1 ki_3 ?_
  refine h_iload_n hX dX8_payment_2 rfl rfl ?_
  refine h_iconst hX dX8_payment_3 ki_2 ?_
  refine h_callVi hX dX8_payment_4 (cv_RX8_60) rc_C13 (As := [.int 3, .int p0, .int 2]) (st := []) (fun _ h => c_Yard_cell h) rfl rfl (by decide) (Nat.le_of_ble_eq_true rfl) (fun a_1 => ?_)
  exact h_ret hX (rv := some (.int a_1)) dX8_payment_7 trivial (fun h => h)
theorem c_Yard_payment {p0 : Int32} {r : Int32} (h : f_Yard_payment Y_cells p0 = some r) : gMet B 1 yX8_payment cX8_payment 2 (some .int) [.ref (aC B 13), .int p0] (wdC B W_spillsNow W_drawn T_length T_at T_bytes D_cells D_clauses G_length G_code A_size A_chosen A_codes A_lengths A_stack Y_cells Y_clauses N_marbles N_chipped N_swallowed N_sweets N_day N_owners P_next P_kept P_hasImage P_image P_acts P_entries P_imageEntries S_fewest S_row S_strengths U_size U_found U_places U_kinds U_holds U_fitting U_tally L_letters L_firstCells L_secondCells L_firstBest L_secondBest W_refusals ++ fr) (some (.int r)) (wdC B W_spillsNow W_drawn T_length T_at T_bytes D_cells D_clauses G_length G_code A_size A_chosen A_codes A_lengths A_stack Y_cells Y_clauses N_marbles N_chipped N_swallowed N_sweets N_day N_owners P_next P_kept P_hasImage P_image P_acts P_entries P_imageEntries S_fewest S_row S_strengths U_size U_found U_places U_kinds U_holds U_fitting U_tally L_letters L_firstCells L_secondCells L_firstBest L_secondBest W_refusals ++ fr) :=
  gMet.of rfl (Nat.le_of_ble_eq_true rfl) (fun X hX hF => w_Yard_payment hX r h hF)
set_option maxRecDepth 4000 in
theorem w_Yard_paymentOf_L4 {v1 : Int32} (hX : gOk B X RX8 cX8_paymentOf 4 2 (some .int)) (s : (Int32 × Int32)) : gH B X (Sum.elim (fun s : (Int32 × Int32) => gG B X 4 [(0, .ref (aC B 13)), (1, .int v1), (2, .int s.1), (3, .int s.2)] [] (wdC B W_spillsNow W_drawn T_length T_at T_bytes D_cells D_clauses G_length G_code A_size A_chosen A_codes A_lengths A_stack Y_cells Y_clauses N_marbles N_chipped N_swallowed N_sweets N_day N_owners P_next P_kept P_hasImage P_image P_acts P_entries P_imageEntries S_fewest S_row S_strengths U_size U_found U_places U_kinds U_holds U_fitting U_tally L_letters L_firstCells L_secondCells L_firstBest L_secondBest W_refusals ++ fr)) (fun r : Int32 => gFin X (some (.int r)) (wdC B W_spillsNow W_drawn T_length T_at T_bytes D_cells D_clauses G_length G_code A_size A_chosen A_codes A_lengths A_stack Y_cells Y_clauses N_marbles N_chipped N_swallowed N_sweets N_day N_owners P_next P_kept P_hasImage P_image P_acts P_entries P_imageEntries S_fewest S_row S_strengths U_size U_found U_places U_kinds U_holds U_fitting U_tally L_letters L_firstCells L_secondCells L_firstBest L_secondBest W_refusals ++ fr))) 4 [(0, .ref (aC B 13)), (1, .int v1), (2, .int s.1), (3, .int s.2)] [] (wdC B W_spillsNow W_drawn T_length T_at T_bytes D_cells D_clauses G_length G_code A_size A_chosen A_codes A_lengths A_stack Y_cells Y_clauses N_marbles N_chipped N_swallowed N_sweets N_day N_owners P_next P_kept P_hasImage P_image P_acts P_entries P_imageEntries S_fewest S_row S_strengths U_size U_found U_places U_kinds U_holds U_fitting U_tally L_letters L_firstCells L_secondCells L_firstBest L_secondBest W_refusals ++ fr) (f_Yard_paymentOf_L4 Y_cells Y_clauses v1 s) := by
  unfold f_Yard_paymentOf_L4
  refine h_iload_n hX dX8_paymentOf_4 rfl rfl ?_
  refine h_aload_n hX dX8_paymentOf_5 rfl rfl ?_
  refine h_callVi hX dX8_paymentOf_6 (cv_RX8_57) rc_C13 (As := []) (st := [.int s.2]) (fun _ h => c_Yard_farms h) rfl rfl (by decide) (Nat.le_of_ble_eq_true rfl) (fun a_1 => ?_)
  refine h_icmp_ge hX dX8_paymentOf_9 (tgt := 32) (by decide) (fun _ => ?_) (fun _ => ?_)
  · refine h_iload_n hX dX8_paymentOf_32 rfl rfl ?_
    exact h_ret hX (rv := some (.int s.1)) dX8_paymentOf_33 trivial (fun h => h)
  · refine h_iload_n hX dX8_paymentOf_12 rfl rfl ?_
    refine h_iload_n hX dX8_paymentOf_13 rfl rfl ?_
    refine h_iload_n hX dX8_paymentOf_14 rfl rfl ?_
    refine h_ishr hX dX8_paymentOf_15 ?_
    refine h_iconst hX dX8_paymentOf_16 ki_1 ?_
    refine h_iand hX dX8_paymentOf_17 ?_
    refine h_aload_n hX dX8_paymentOf_18 rfl rfl ?_
    refine h_iload_n hX dX8_paymentOf_19 rfl rfl ?_
    refine h_callVi hX dX8_paymentOf_20 (cv_RX8_64) rc_C13 (As := [.int s.2]) (st := [.int ((v1 >>> (s.2 &&& 31)) &&& 1), .int s.1]) (fun _ h => c_Yard_payment h) rfl rfl (by decide) (Nat.le_of_ble_eq_true rfl) (fun a_2 => ?_)
    refine h_imul hX dX8_paymentOf_23 ?_
    refine h_iadd hX dX8_paymentOf_24 ?_
    refine gH.leti (fun v2_3 => ?_)
    refine h_istore_n hX dX8_paymentOf_25 rfl (by decide) (lv' := [(0, .ref (aC B 13)), (1, .int v1), (2, .int v2_3), (3, .int s.2)]) rfl ?_
    refine h_iincc hX dX8_paymentOf_26 rfl ki_1 (by decide) (lv' := [(0, .ref (aC B 13)), (1, .int v1), (2, .int v2_3), (3, .int (s.2 + 1))]) rfl ?_
    refine h_goto hX dX8_paymentOf_29 (tgt := 4) (by decide) ?_
    exact gH.some' (fun h => h)
set_option maxRecDepth 4000 in
theorem w_Yard_paymentOf {p0 : Int32} (hX : gOk B X RX8 cX8_paymentOf 4 2 (some .int)) : gH B X (fun r : Int32 => gFin X (some (.int r)) (wdC B W_spillsNow W_drawn T_length T_at T_bytes D_cells D_clauses G_length G_code A_size A_chosen A_codes A_lengths A_stack Y_cells Y_clauses N_marbles N_chipped N_swallowed N_sweets N_day N_owners P_next P_kept P_hasImage P_image P_acts P_entries P_imageEntries S_fewest S_row S_strengths U_size U_found U_places U_kinds U_holds U_fitting U_tally L_letters L_firstCells L_secondCells L_firstBest L_secondBest W_refusals ++ fr)) 0 [(0, .ref (aC B 13)), (1, .int p0)] [] (wdC B W_spillsNow W_drawn T_length T_at T_bytes D_cells D_clauses G_length G_code A_size A_chosen A_codes A_lengths A_stack Y_cells Y_clauses N_marbles N_chipped N_swallowed N_sweets N_day N_owners P_next P_kept P_hasImage P_image P_acts P_entries P_imageEntries S_fewest S_row S_strengths U_size U_found U_places U_kinds U_holds U_fitting U_tally L_letters L_firstCells L_secondCells L_firstBest L_secondBest W_refusals ++ fr) (f_Yard_paymentOf Y_cells Y_clauses p0) := by
  unfold f_Yard_paymentOf
  refine h_iconst hX dX8_paymentOf_0 ki_0 ?_
  refine h_istore_n hX dX8_paymentOf_1 rfl (by decide) (lv' := [(0, .ref (aC B 13)), (1, .int p0), (2, .int 0)]) rfl ?_
  refine h_iconst hX dX8_paymentOf_2 ki_0 ?_
  refine h_istore_n hX dX8_paymentOf_3 rfl (by decide) (lv' := [(0, .ref (aC B 13)), (1, .int p0), (2, .int 0), (3, .int 0)]) rfl ?_
  exact gH.loop (lvf := fun z : (Int32 × Int32) => [(0, .ref (aC B 13)), (1, .int p0), (2, .int z.1), (3, .int z.2)]) (wf := fun z : (Int32 × Int32) => wdC B W_spillsNow W_drawn T_length T_at T_bytes D_cells D_clauses G_length G_code A_size A_chosen A_codes A_lengths A_stack Y_cells Y_clauses N_marbles N_chipped N_swallowed N_sweets N_day N_owners P_next P_kept P_hasImage P_image P_acts P_entries P_imageEntries S_fewest S_row S_strengths U_size U_found U_places U_kinds U_holds U_fitting U_tally L_letters L_firstCells L_secondCells L_firstBest L_secondBest W_refusals ++ fr) (fun z => w_Yard_paymentOf_L4 hX z) (0, 0)
theorem c_Yard_paymentOf {p0 : Int32} {r : Int32} (h : f_Yard_paymentOf Y_cells Y_clauses p0 = some r) : gMet B 2 yX8_paymentOf cX8_paymentOf 4 (some .int) [.ref (aC B 13), .int p0] (wdC B W_spillsNow W_drawn T_length T_at T_bytes D_cells D_clauses G_length G_code A_size A_chosen A_codes A_lengths A_stack Y_cells Y_clauses N_marbles N_chipped N_swallowed N_sweets N_day N_owners P_next P_kept P_hasImage P_image P_acts P_entries P_imageEntries S_fewest S_row S_strengths U_size U_found U_places U_kinds U_holds U_fitting U_tally L_letters L_firstCells L_secondCells L_firstBest L_secondBest W_refusals ++ fr) (some (.int r)) (wdC B W_spillsNow W_drawn T_length T_at T_bytes D_cells D_clauses G_length G_code A_size A_chosen A_codes A_lengths A_stack Y_cells Y_clauses N_marbles N_chipped N_swallowed N_sweets N_day N_owners P_next P_kept P_hasImage P_image P_acts P_entries P_imageEntries S_fewest S_row S_strengths U_size U_found U_places U_kinds U_holds U_fitting U_tally L_letters L_firstCells L_secondCells L_firstBest L_secondBest W_refusals ++ fr) :=
  gMet.of rfl (Nat.le_of_ble_eq_true rfl) (fun X hX hF => w_Yard_paymentOf hX r h hF)
set_option maxRecDepth 4000 in
theorem w_Past_write {p0 : Int32} (hX : gOk B X RX5 cX5_write 2 1 none) : gH B X (fun r : (Nat → Int32) => gFin X (none) (wdC B W_spillsNow W_drawn T_length T_at T_bytes D_cells D_clauses G_length G_code A_size A_chosen A_codes A_lengths A_stack Y_cells Y_clauses N_marbles N_chipped N_swallowed N_sweets N_day N_owners P_next P_kept P_hasImage P_image P_acts r P_imageEntries S_fewest S_row S_strengths U_size U_found U_places U_kinds U_holds U_fitting U_tally L_letters L_firstCells L_secondCells L_firstBest L_secondBest W_refusals ++ fr)) 0 [(0, .ref (aC B 18)), (1, .int p0)] [] (wdC B W_spillsNow W_drawn T_length T_at T_bytes D_cells D_clauses G_length G_code A_size A_chosen A_codes A_lengths A_stack Y_cells Y_clauses N_marbles N_chipped N_swallowed N_sweets N_day N_owners P_next P_kept P_hasImage P_image P_acts P_entries P_imageEntries S_fewest S_row S_strengths U_size U_found U_places U_kinds U_holds U_fitting U_tally L_letters L_firstCells L_secondCells L_firstBest L_secondBest W_refusals ++ fr) (f_Past_write N_sweets N_day P_entries p0) := by
  unfold f_Past_write
  refine h_aload_n hX dX5_write_0 rfl rfl ?_
  refine get_RX5_15_C18 hX dX5_write_1 ?_
  refine h_aload_n hX dX5_write_4 rfl rfl ?_
  refine h_iconst hX dX5_write_5 ki_m1 ?_
  refine h_callVi hX dX5_write_6 (cv_RX5_56) rc_C18 (As := [.int ((-1))]) (st := [.ref (aC B 20)]) (fun _ h => c_Past_ringIndex h) rfl rfl (by decide) (Nat.le_of_ble_eq_true rfl) (fun a_1 => ?_)
  refine h_aload_n hX dX5_write_9 rfl rfl ?_
  refine get_RX5_22_C18 hX dX5_write_10 ?_
  refine get_RX5_60_C16 hX dX5_write_13 ?_
  refine h_bipush hX dX5_write_16 kb_6 ?_
  refine h_ishl hX dX5_write_18 ?_
  refine h_iload_n hX dX5_write_19 rfl rfl ?_
  refine h_ior hX dX5_write_20 ?_
  refine ast_C20 hX dX5_write_21 ?_
  refine gH.letw (w := fun y => wdC B W_spillsNow W_drawn T_length T_at T_bytes D_cells D_clauses G_length G_code A_size A_chosen A_codes A_lengths A_stack Y_cells Y_clauses N_marbles N_chipped N_swallowed N_sweets N_day N_owners P_next P_kept P_hasImage P_image P_acts y P_imageEntries S_fewest S_row S_strengths U_size U_found U_places U_kinds U_holds U_fitting U_tally L_letters L_firstCells L_secondCells L_firstBest L_secondBest W_refusals ++ fr) (fun P_entries_2 => ?_)
  exact h_ret hX (rv := none) dX5_write_22 trivial (fun h => h)
theorem c_Past_write {p0 : Int32} {r : (Nat → Int32)} (h : f_Past_write N_sweets N_day P_entries p0 = some r) : gMet B 1 yX5_write cX5_write 2 none [.ref (aC B 18), .int p0] (wdC B W_spillsNow W_drawn T_length T_at T_bytes D_cells D_clauses G_length G_code A_size A_chosen A_codes A_lengths A_stack Y_cells Y_clauses N_marbles N_chipped N_swallowed N_sweets N_day N_owners P_next P_kept P_hasImage P_image P_acts P_entries P_imageEntries S_fewest S_row S_strengths U_size U_found U_places U_kinds U_holds U_fitting U_tally L_letters L_firstCells L_secondCells L_firstBest L_secondBest W_refusals ++ fr) (none) (wdC B W_spillsNow W_drawn T_length T_at T_bytes D_cells D_clauses G_length G_code A_size A_chosen A_codes A_lengths A_stack Y_cells Y_clauses N_marbles N_chipped N_swallowed N_sweets N_day N_owners P_next P_kept P_hasImage P_image P_acts r P_imageEntries S_fewest S_row S_strengths U_size U_found U_places U_kinds U_holds U_fitting U_tally L_letters L_firstCells L_secondCells L_firstBest L_secondBest W_refusals ++ fr) :=
  gMet.of rfl (Nat.le_of_ble_eq_true rfl) (fun X hX hF => w_Past_write hX r h hF)
set_option maxRecDepth 4000 in
theorem w_Main_passDay (hX : gOk B X RX10 cX10_passDay 2 5 none) : gH B X (fun r : (Int32 × Int32 × (Nat → Int32) × (Nat → Int32)) => gFin X (none) (wdC B W_spillsNow W_drawn T_length T_at T_bytes D_cells D_clauses G_length G_code A_size A_chosen A_codes A_lengths A_stack Y_cells Y_clauses N_marbles N_chipped N_swallowed r.1 r.2.1 N_owners P_next P_kept P_hasImage P_image P_acts r.2.2.1 P_imageEntries S_fewest S_row r.2.2.2 U_size U_found U_places U_kinds U_holds U_fitting U_tally L_letters L_firstCells L_secondCells L_firstBest L_secondBest W_refusals ++ fr)) 0 [(0, .ref (aC B 0))] [] (wdC B W_spillsNow W_drawn T_length T_at T_bytes D_cells D_clauses G_length G_code A_size A_chosen A_codes A_lengths A_stack Y_cells Y_clauses N_marbles N_chipped N_swallowed N_sweets N_day N_owners P_next P_kept P_hasImage P_image P_acts P_entries P_imageEntries S_fewest S_row S_strengths U_size U_found U_places U_kinds U_holds U_fitting U_tally L_letters L_firstCells L_secondCells L_firstBest L_secondBest W_refusals ++ fr) (f_Main_passDay Y_cells Y_clauses N_marbles N_chipped N_sweets N_day N_owners P_entries S_strengths) := by
  unfold f_Main_passDay
  refine h_aload_n hX dX10_passDay_0 rfl rfl ?_
  refine h_callVi hX dX10_passDay_1 (cv_RX10_207) rc_C0 (As := []) (st := []) (fun _ h => c_Main_contentNow h) rfl rfl (by decide) (Nat.le_of_ble_eq_true rfl) (fun a_1 => ?_)
  refine h_istore_n hX dX10_passDay_4 rfl (by decide) (lv' := [(0, .ref (aC B 0)), (1, .int a_1.1)]) rfl ?_
  refine h_aload_n hX dX10_passDay_5 rfl rfl ?_
  refine get_RX10_49_C0 hX dX10_passDay_6 ?_
  refine h_sipush hX dX10_passDay_9 ks_999 ?_
  refine h_aload_n hX dX10_passDay_12 rfl rfl ?_
  refine get_RX10_49_C0 hX dX10_passDay_13 ?_
  refine get_RX10_148_C16 hX dX10_passDay_16 ?_
  refine h_aload_n hX dX10_passDay_19 rfl rfl ?_
  refine get_RX10_42_C0 hX dX10_passDay_20 ?_
  refine h_iload_n hX dX10_passDay_23 rfl rfl ?_
  refine h_callVi hX dX10_passDay_24 (cv_RX10_337) rc_C13 (As := [.int a_1.1]) (st := [.int N_sweets, .int 999, .ref (aC B 16)]) (fun _ h => c_Yard_paymentOf h) rfl rfl (by decide) (Nat.le_of_ble_eq_true rfl) (fun a_2 => ?_)
  refine h_iadd hX dX10_passDay_27 ?_
  refine h_jmin hX dX10_passDay_28 cm_RX10_376 (by omega) (Nat.le_of_ble_eq_true rfl) ?_
  refine put_RX10_148_C16 hX dX10_passDay_31 ?_
  refine gH.letw (w := fun y => wdC B W_spillsNow W_drawn T_length T_at T_bytes D_cells D_clauses G_length G_code A_size A_chosen A_codes A_lengths A_stack Y_cells Y_clauses N_marbles N_chipped N_swallowed y N_day N_owners P_next P_kept P_hasImage P_image P_acts P_entries P_imageEntries S_fewest S_row a_1.2 U_size U_found U_places U_kinds U_holds U_fitting U_tally L_letters L_firstCells L_secondCells L_firstBest L_secondBest W_refusals ++ fr) (fun N_sweets_3 => ?_)
  refine h_aload_n hX dX10_passDay_34 rfl rfl ?_
  refine get_RX10_58_C0 hX dX10_passDay_35 ?_
  refine h_iload_n hX dX10_passDay_38 rfl rfl ?_
  refine h_callVv hX dX10_passDay_39 (cv_RX10_381) rc_C18 (As := [.int a_1.1]) (st := []) (fun _ h => c_Past_write h) rfl rfl (by decide) (Nat.le_of_ble_eq_true rfl) (fun a_4 => ?_)
  refine h_aload_n hX dX10_passDay_42 rfl rfl ?_
  refine get_RX10_49_C0 hX dX10_passDay_43 ?_
  refine h_dup hX dX10_passDay_46 rfl ?_
  refine get_RX10_242_C16 hX dX10_passDay_47 ?_
  refine h_iconst hX dX10_passDay_50 ki_1 ?_
  refine h_iadd hX dX10_passDay_51 ?_
  refine put_RX10_242_C16 hX dX10_passDay_52 ?_
  refine gH.letw (w := fun y => wdC B W_spillsNow W_drawn T_length T_at T_bytes D_cells D_clauses G_length G_code A_size A_chosen A_codes A_lengths A_stack Y_cells Y_clauses N_marbles N_chipped N_swallowed N_sweets_3 y N_owners P_next P_kept P_hasImage P_image P_acts a_4 P_imageEntries S_fewest S_row a_1.2 U_size U_found U_places U_kinds U_holds U_fitting U_tally L_letters L_firstCells L_secondCells L_firstBest L_secondBest W_refusals ++ fr) (fun N_day_5 => ?_)
  exact h_ret hX (rv := none) dX10_passDay_55 trivial (fun h => h)
theorem c_Main_passDay {r : (Int32 × Int32 × (Nat → Int32) × (Nat → Int32))} (h : f_Main_passDay Y_cells Y_clauses N_marbles N_chipped N_sweets N_day N_owners P_entries S_strengths = some r) : gMet B 5 yX10_passDay cX10_passDay 2 none [.ref (aC B 0)] (wdC B W_spillsNow W_drawn T_length T_at T_bytes D_cells D_clauses G_length G_code A_size A_chosen A_codes A_lengths A_stack Y_cells Y_clauses N_marbles N_chipped N_swallowed N_sweets N_day N_owners P_next P_kept P_hasImage P_image P_acts P_entries P_imageEntries S_fewest S_row S_strengths U_size U_found U_places U_kinds U_holds U_fitting U_tally L_letters L_firstCells L_secondCells L_firstBest L_secondBest W_refusals ++ fr) (none) (wdC B W_spillsNow W_drawn T_length T_at T_bytes D_cells D_clauses G_length G_code A_size A_chosen A_codes A_lengths A_stack Y_cells Y_clauses N_marbles N_chipped N_swallowed r.1 r.2.1 N_owners P_next P_kept P_hasImage P_image P_acts r.2.2.1 P_imageEntries S_fewest S_row r.2.2.2 U_size U_found U_places U_kinds U_holds U_fitting U_tally L_letters L_firstCells L_secondCells L_firstBest L_secondBest W_refusals ++ fr) :=
  gMet.of rfl (Nat.le_of_ble_eq_true rfl) (fun X hX hF => w_Main_passDay hX r h hF)
set_option maxRecDepth 4000 in
theorem w_Main_days_J27 (hX : gOk B X RX10 cX10_days 3 6 (some .int)) : gH B X (fun r : (Int32 × Int32 × Int32 × Int32 × Int32 × (Nat → Int64) × (Nat → Int32) × (Nat → Int32) × (Nat → Int32)) => gFin X (some (.int r.1)) (wdC B W_spillsNow W_drawn T_length T_at T_bytes D_cells D_clauses G_length G_code A_size A_chosen A_codes A_lengths A_stack Y_cells Y_clauses N_marbles N_chipped N_swallowed r.2.1 r.2.2.1 N_owners r.2.2.2.1 r.2.2.2.2.1 P_hasImage P_image r.2.2.2.2.2.1 r.2.2.2.2.2.2.1 P_imageEntries S_fewest S_row r.2.2.2.2.2.2.2.1 U_size U_found U_places U_kinds U_holds U_fitting U_tally L_letters L_firstCells L_secondCells L_firstBest L_secondBest r.2.2.2.2.2.2.2.2 ++ fr)) 27 [(0, .ref (aC B 0))] [] (wdC B W_spillsNow W_drawn T_length T_at T_bytes D_cells D_clauses G_length G_code A_size A_chosen A_codes A_lengths A_stack Y_cells Y_clauses N_marbles N_chipped N_swallowed N_sweets N_day N_owners P_next P_kept P_hasImage P_image P_acts P_entries P_imageEntries S_fewest S_row S_strengths U_size U_found U_places U_kinds U_holds U_fitting U_tally L_letters L_firstCells L_secondCells L_firstBest L_secondBest W_refusals ++ fr) (f_Main_days_J27 N_sweets N_day P_next P_kept P_acts P_entries S_strengths W_refusals) := by
  unfold f_Main_days_J27
  refine h_aload_n hX dX10_days_27 rfl rfl ?_
  refine h_iconst hX dX10_days_28 ki_1 ?_
  refine h_callVi hX dX10_days_29 (cv_RX10_217) rc_C0 (As := [.int 1]) (st := []) (fun _ h => c_Main_refuse h) rfl rfl (by decide) (Nat.le_of_ble_eq_true rfl) (fun a_2 => ?_)
  exact h_ret hX (rv := some (.int a_2.1)) dX10_days_32 trivial (fun h => h)
set_option maxRecDepth 4000 in
theorem w_Main_days_L56 {v1 : Int32} (hX : gOk B X RX10 cX10_days 3 6 (some .int)) (s : (Int32 × Int32 × Int32 × Int32 × Int32 × (Nat → Int64) × (Nat → Int32) × (Nat → Int32))) : gH B X (Sum.elim (fun s : (Int32 × Int32 × Int32 × Int32 × Int32 × (Nat → Int64) × (Nat → Int32) × (Nat → Int32)) => gG B X 56 [(0, .ref (aC B 0)), (1, .int v1), (2, .int s.1)] [] (wdC B W_spillsNow W_drawn T_length T_at T_bytes D_cells D_clauses G_length G_code A_size A_chosen A_codes A_lengths A_stack Y_cells Y_clauses N_marbles N_chipped N_swallowed s.2.1 s.2.2.1 N_owners s.2.2.2.1 s.2.2.2.2.1 P_hasImage P_image s.2.2.2.2.2.1 s.2.2.2.2.2.2.1 P_imageEntries S_fewest S_row s.2.2.2.2.2.2.2 U_size U_found U_places U_kinds U_holds U_fitting U_tally L_letters L_firstCells L_secondCells L_firstBest L_secondBest W_refusals ++ fr)) (fun r : (Int32 × Int32 × Int32 × Int32 × Int32 × (Nat → Int64) × (Nat → Int32) × (Nat → Int32) × (Nat → Int32)) => gFin X (some (.int r.1)) (wdC B W_spillsNow W_drawn T_length T_at T_bytes D_cells D_clauses G_length G_code A_size A_chosen A_codes A_lengths A_stack Y_cells Y_clauses N_marbles N_chipped N_swallowed r.2.1 r.2.2.1 N_owners r.2.2.2.1 r.2.2.2.2.1 P_hasImage P_image r.2.2.2.2.2.1 r.2.2.2.2.2.2.1 P_imageEntries S_fewest S_row r.2.2.2.2.2.2.2.1 U_size U_found U_places U_kinds U_holds U_fitting U_tally L_letters L_firstCells L_secondCells L_firstBest L_secondBest r.2.2.2.2.2.2.2.2 ++ fr))) 56 [(0, .ref (aC B 0)), (1, .int v1), (2, .int s.1)] [] (wdC B W_spillsNow W_drawn T_length T_at T_bytes D_cells D_clauses G_length G_code A_size A_chosen A_codes A_lengths A_stack Y_cells Y_clauses N_marbles N_chipped N_swallowed s.2.1 s.2.2.1 N_owners s.2.2.2.1 s.2.2.2.2.1 P_hasImage P_image s.2.2.2.2.2.1 s.2.2.2.2.2.2.1 P_imageEntries S_fewest S_row s.2.2.2.2.2.2.2 U_size U_found U_places U_kinds U_holds U_fitting U_tally L_letters L_firstCells L_secondCells L_firstBest L_secondBest W_refusals ++ fr) (f_Main_days_L56 Y_cells Y_clauses N_marbles N_chipped N_swallowed N_owners W_refusals v1 s) := by
  unfold f_Main_days_L56
  refine h_iload_n hX dX10_days_56 rfl rfl ?_
  refine h_iload_n hX dX10_days_57 rfl rfl ?_
  refine h_icmp_ge hX dX10_days_58 (tgt := 78) (by decide) (fun _ => ?_) (fun _ => ?_)
  · refine h_aload_n hX dX10_days_78 rfl rfl ?_
    refine get_RX10_49_C0 hX dX10_days_79 ?_
    refine get_RX10_148_C16 hX dX10_days_82 ?_
    exact h_ret hX (rv := some (.int s.2.1)) dX10_days_85 trivial (fun h => h)
  · refine h_aload_n hX dX10_days_61 rfl rfl ?_
    refine get_RX10_58_C0 hX dX10_days_62 ?_
    refine h_callVv hX dX10_days_65 (cv_RX10_220) rc_C18 (As := []) (st := []) (fun _ h => c_Past_remember h) rfl rfl (by decide) (Nat.le_of_ble_eq_true rfl) (fun a_3 => ?_)
    refine h_aload_n hX dX10_days_68 rfl rfl ?_
    refine h_callVv hX dX10_days_69 (cv_RX10_245) rc_C0 (As := []) (st := []) (fun _ h => c_Main_passDay h) rfl rfl (by decide) (Nat.le_of_ble_eq_true rfl) (fun a_4 => ?_)
    refine h_iincc hX dX10_days_72 rfl ki_1 (by decide) (lv' := [(0, .ref (aC B 0)), (1, .int v1), (2, .int (s.1 + 1))]) rfl ?_
    refine h_goto hX dX10_days_75 (tgt := 56) (by decide) ?_
    exact gH.some' (fun h => h)
set_option maxRecDepth 4000 in
theorem w_Main_days {p0 : Int32} (hX : gOk B X RX10 cX10_days 3 6 (some .int)) : gH B X (fun r : (Int32 × Int32 × Int32 × Int32 × Int32 × (Nat → Int64) × (Nat → Int32) × (Nat → Int32) × (Nat → Int32)) => gFin X (some (.int r.1)) (wdC B W_spillsNow W_drawn T_length T_at T_bytes D_cells D_clauses G_length G_code A_size A_chosen A_codes A_lengths A_stack Y_cells Y_clauses N_marbles N_chipped N_swallowed r.2.1 r.2.2.1 N_owners r.2.2.2.1 r.2.2.2.2.1 P_hasImage P_image r.2.2.2.2.2.1 r.2.2.2.2.2.2.1 P_imageEntries S_fewest S_row r.2.2.2.2.2.2.2.1 U_size U_found U_places U_kinds U_holds U_fitting U_tally L_letters L_firstCells L_secondCells L_firstBest L_secondBest r.2.2.2.2.2.2.2.2 ++ fr)) 0 [(0, .ref (aC B 0)), (1, .int p0)] [] (wdC B W_spillsNow W_drawn T_length T_at T_bytes D_cells D_clauses G_length G_code A_size A_chosen A_codes A_lengths A_stack Y_cells Y_clauses N_marbles N_chipped N_swallowed N_sweets N_day N_owners P_next P_kept P_hasImage P_image P_acts P_entries P_imageEntries S_fewest S_row S_strengths U_size U_found U_places U_kinds U_holds U_fitting U_tally L_letters L_firstCells L_secondCells L_firstBest L_secondBest W_refusals ++ fr) (f_Main_days Y_cells Y_clauses N_marbles N_chipped N_swallowed N_sweets N_day N_owners P_next P_kept P_acts P_entries S_strengths W_refusals p0) := by
  unfold f_Main_days
  refine h_aload_n hX dX10_days_0 rfl rfl ?_
  refine get_RX10_42_C0 hX dX10_days_1 ?_
  refine h_callVi hX dX10_days_4 (cv_RX10_139) rc_C13 (As := []) (st := []) (fun _ h => c_Yard_stands h) rfl rfl (by decide) (Nat.le_of_ble_eq_true rfl) (fun a_1 => ?_)
  refine h_if_ne hX dX10_days_7 (tgt := 16) (by decide) (fun _ => ?_) (fun _ => ?_)
  · refine h_iload_n hX dX10_days_16 rfl rfl ?_
    refine h_iconst hX dX10_days_17 ki_1 ?_
    refine h_icmp_lt hX dX10_days_18 (tgt := 27) (by decide) (fun _ => ?_) (fun _ => ?_)
    · refine gH.dead [0] rfl ?_
      exact w_Main_days_J27 hX
    · refine h_iload_n hX dX10_days_21 rfl rfl ?_
      refine h_bipush hX dX10_days_22 kb_60 ?_
      refine h_icmp_le hX dX10_days_24 (tgt := 33) (by decide) (fun _ => ?_) (fun _ => ?_)
      · refine h_aload_n hX dX10_days_33 rfl rfl ?_
        refine get_RX10_49_C0 hX dX10_days_34 ?_
        refine get_RX10_242_C16 hX dX10_days_37 ?_
        refine h_iload_n hX dX10_days_40 rfl rfl ?_
        refine h_iadd hX dX10_days_41 ?_
        refine h_sipush hX dX10_days_42 ks_9999 ?_
        refine h_icmp_le hX dX10_days_45 (tgt := 54) (by decide) (fun _ => ?_) (fun _ => ?_)
        · refine h_iconst hX dX10_days_54 ki_0 ?_
          refine h_istore_n hX dX10_days_55 rfl (by decide) (lv' := [(0, .ref (aC B 0)), (1, .int p0), (2, .int 0)]) rfl ?_
          exact gH.loop (lvf := fun z : (Int32 × Int32 × Int32 × Int32 × Int32 × (Nat → Int64) × (Nat → Int32) × (Nat → Int32)) => [(0, .ref (aC B 0)), (1, .int p0), (2, .int z.1)]) (wf := fun z : (Int32 × Int32 × Int32 × Int32 × Int32 × (Nat → Int64) × (Nat → Int32) × (Nat → Int32)) => wdC B W_spillsNow W_drawn T_length T_at T_bytes D_cells D_clauses G_length G_code A_size A_chosen A_codes A_lengths A_stack Y_cells Y_clauses N_marbles N_chipped N_swallowed z.2.1 z.2.2.1 N_owners z.2.2.2.1 z.2.2.2.2.1 P_hasImage P_image z.2.2.2.2.2.1 z.2.2.2.2.2.2.1 P_imageEntries S_fewest S_row z.2.2.2.2.2.2.2 U_size U_found U_places U_kinds U_holds U_fitting U_tally L_letters L_firstCells L_secondCells L_firstBest L_secondBest W_refusals ++ fr) (fun z => w_Main_days_L56 hX z) (0, N_sweets, N_day, P_next, P_kept, P_acts, P_entries, S_strengths)
        · refine h_aload_n hX dX10_days_48 rfl rfl ?_
          refine h_iconst hX dX10_days_49 ki_4 ?_
          refine h_callVi hX dX10_days_50 (cv_RX10_217) rc_C0 (As := [.int 4]) (st := []) (fun _ h => c_Main_refuse h) rfl rfl (by decide) (Nat.le_of_ble_eq_true rfl) (fun a_6 => ?_)
          exact h_ret hX (rv := some (.int a_6.1)) dX10_days_53 trivial (fun h => h)
      · refine gH.dead [0] rfl ?_
        exact w_Main_days_J27 hX
  · refine h_aload_n hX dX10_days_10 rfl rfl ?_
    refine h_iconst hX dX10_days_11 ki_0 ?_
    refine h_callVi hX dX10_days_12 (cv_RX10_217) rc_C0 (As := [.int 0]) (st := []) (fun _ h => c_Main_refuse h) rfl rfl (by decide) (Nat.le_of_ble_eq_true rfl) (fun a_7 => ?_)
    exact h_ret hX (rv := some (.int a_7.1)) dX10_days_15 trivial (fun h => h)
theorem c_Main_days {p0 : Int32} {r : (Int32 × Int32 × Int32 × Int32 × Int32 × (Nat → Int64) × (Nat → Int32) × (Nat → Int32) × (Nat → Int32))} (h : f_Main_days Y_cells Y_clauses N_marbles N_chipped N_swallowed N_sweets N_day N_owners P_next P_kept P_acts P_entries S_strengths W_refusals p0 = some r) : gMet B 6 yX10_days cX10_days 3 (some .int) [.ref (aC B 0), .int p0] (wdC B W_spillsNow W_drawn T_length T_at T_bytes D_cells D_clauses G_length G_code A_size A_chosen A_codes A_lengths A_stack Y_cells Y_clauses N_marbles N_chipped N_swallowed N_sweets N_day N_owners P_next P_kept P_hasImage P_image P_acts P_entries P_imageEntries S_fewest S_row S_strengths U_size U_found U_places U_kinds U_holds U_fitting U_tally L_letters L_firstCells L_secondCells L_firstBest L_secondBest W_refusals ++ fr) (some (.int r.1)) (wdC B W_spillsNow W_drawn T_length T_at T_bytes D_cells D_clauses G_length G_code A_size A_chosen A_codes A_lengths A_stack Y_cells Y_clauses N_marbles N_chipped N_swallowed r.2.1 r.2.2.1 N_owners r.2.2.2.1 r.2.2.2.2.1 P_hasImage P_image r.2.2.2.2.2.1 r.2.2.2.2.2.2.1 P_imageEntries S_fewest S_row r.2.2.2.2.2.2.2.1 U_size U_found U_places U_kinds U_holds U_fitting U_tally L_letters L_firstCells L_secondCells L_firstBest L_secondBest r.2.2.2.2.2.2.2.2 ++ fr) :=
  gMet.of rfl (Nat.le_of_ble_eq_true rfl) (fun X hX hF => w_Main_days hX r h hF)
set_option maxRecDepth 4000 in
theorem w_Main_draw {p0 : Int32} (hX : gOk B X RX10 cX10_draw 2 0 (some .int)) : gH B X (fun r : (Int32 × Int64) => gFin X (some (.int r.1)) (wdC B W_spillsNow r.2 T_length T_at T_bytes D_cells D_clauses G_length G_code A_size A_chosen A_codes A_lengths A_stack Y_cells Y_clauses N_marbles N_chipped N_swallowed N_sweets N_day N_owners P_next P_kept P_hasImage P_image P_acts P_entries P_imageEntries S_fewest S_row S_strengths U_size U_found U_places U_kinds U_holds U_fitting U_tally L_letters L_firstCells L_secondCells L_firstBest L_secondBest W_refusals ++ fr)) 0 [(0, .ref (aC B 0)), (1, .int p0)] [] (wdC B W_spillsNow W_drawn T_length T_at T_bytes D_cells D_clauses G_length G_code A_size A_chosen A_codes A_lengths A_stack Y_cells Y_clauses N_marbles N_chipped N_swallowed N_sweets N_day N_owners P_next P_kept P_hasImage P_image P_acts P_entries P_imageEntries S_fewest S_row S_strengths U_size U_found U_places U_kinds U_holds U_fitting U_tally L_letters L_firstCells L_secondCells L_firstBest L_secondBest W_refusals ++ fr) (f_Main_draw W_drawn p0) := by
  unfold f_Main_draw
  refine h_aload_n hX dX10_draw_0 rfl rfl ?_
  refine h_aload_n hX dX10_draw_1 rfl rfl ?_
  refine get_RX10_251_C0 hX dX10_draw_2 ?_
  refine h_ldc2 hX dX10_draw_5 cstl_RX10_384 ?_
  refine h_lmul hX dX10_draw_8 ?_
  refine h_ldc2 hX dX10_draw_9 cstl_RX10_386 ?_
  refine h_ladd hX dX10_draw_12 ?_
  refine put_RX10_251_C0 hX dX10_draw_13 ?_
  refine gH.letw (w := fun y => wdC B W_spillsNow y T_length T_at T_bytes D_cells D_clauses G_length G_code A_size A_chosen A_codes A_lengths A_stack Y_cells Y_clauses N_marbles N_chipped N_swallowed N_sweets N_day N_owners P_next P_kept P_hasImage P_image P_acts P_entries P_imageEntries S_fewest S_row S_strengths U_size U_found U_places U_kinds U_holds U_fitting U_tally L_letters L_firstCells L_secondCells L_firstBest L_secondBest W_refusals ++ fr) (fun W_drawn_1 => ?_)
  refine h_iload_n hX dX10_draw_16 rfl rfl ?_
  refine h_if_le hX dX10_draw_17 (tgt := 34) (by decide) (fun _ => ?_) (fun _ => ?_)
  · refine h_iconst hX dX10_draw_34 ki_0 ?_
    exact h_ret hX (rv := some (.int 0)) dX10_draw_35 trivial (fun h => h)
  · refine h_aload_n hX dX10_draw_20 rfl rfl ?_
    refine get_RX10_251_C0 hX dX10_draw_21 ?_
    refine h_bipush hX dX10_draw_24 kb_33 ?_
    refine h_lushr hX dX10_draw_26 ?_
    refine h_iload_n hX dX10_draw_27 rfl rfl ?_
    refine h_i2l hX dX10_draw_28 ?_
    refine h_lremz hX dX10_draw_29 ?_
    refine h_l2i hX dX10_draw_30 ?_
    refine h_goto hX dX10_draw_31 (tgt := 35) (by decide) ?_
    exact h_ret hX (rv := some (.int ((((W_drawn_1.toUInt64 >>> ((33 : Int32).toInt64.toUInt64 &&& Int64.toUInt64 63)).toInt64) - ((W_drawn_1.toUInt64 >>> ((33 : Int32).toInt64.toUInt64 &&& Int64.toUInt64 63)).toInt64) / ((p0 : Int32).toInt64) * ((p0 : Int32).toInt64) : Int64).toInt32))) dX10_draw_35 trivial (fun h => h)
theorem c_Main_draw {p0 : Int32} {r : (Int32 × Int64)} (h : f_Main_draw W_drawn p0 = some r) : gMet B 0 yX10_draw cX10_draw 2 (some .int) [.ref (aC B 0), .int p0] (wdC B W_spillsNow W_drawn T_length T_at T_bytes D_cells D_clauses G_length G_code A_size A_chosen A_codes A_lengths A_stack Y_cells Y_clauses N_marbles N_chipped N_swallowed N_sweets N_day N_owners P_next P_kept P_hasImage P_image P_acts P_entries P_imageEntries S_fewest S_row S_strengths U_size U_found U_places U_kinds U_holds U_fitting U_tally L_letters L_firstCells L_secondCells L_firstBest L_secondBest W_refusals ++ fr) (some (.int r.1)) (wdC B W_spillsNow r.2 T_length T_at T_bytes D_cells D_clauses G_length G_code A_size A_chosen A_codes A_lengths A_stack Y_cells Y_clauses N_marbles N_chipped N_swallowed N_sweets N_day N_owners P_next P_kept P_hasImage P_image P_acts P_entries P_imageEntries S_fewest S_row S_strengths U_size U_found U_places U_kinds U_holds U_fitting U_tally L_letters L_firstCells L_secondCells L_firstBest L_secondBest W_refusals ++ fr) :=
  gMet.of rfl (Nat.le_of_ble_eq_true rfl) (fun X hX hF => w_Main_draw hX r h hF)
set_option maxRecDepth 4000 in
theorem w_Tape_cutTo {p0 : Int32} (hX : gOk B X RX7 cX7_cutTo 2 0 none) : gH B X (fun r : Int32 => gFin X (none) (wdC B W_spillsNow W_drawn r T_at T_bytes D_cells D_clauses G_length G_code A_size A_chosen A_codes A_lengths A_stack Y_cells Y_clauses N_marbles N_chipped N_swallowed N_sweets N_day N_owners P_next P_kept P_hasImage P_image P_acts P_entries P_imageEntries S_fewest S_row S_strengths U_size U_found U_places U_kinds U_holds U_fitting U_tally L_letters L_firstCells L_secondCells L_firstBest L_secondBest W_refusals ++ fr)) 0 [(0, .ref (aC B 1)), (1, .int p0)] [] (wdC B W_spillsNow W_drawn T_length T_at T_bytes D_cells D_clauses G_length G_code A_size A_chosen A_codes A_lengths A_stack Y_cells Y_clauses N_marbles N_chipped N_swallowed N_sweets N_day N_owners P_next P_kept P_hasImage P_image P_acts P_entries P_imageEntries S_fewest S_row S_strengths U_size U_found U_places U_kinds U_holds U_fitting U_tally L_letters L_firstCells L_secondCells L_firstBest L_secondBest W_refusals ++ fr) (f_Tape_cutTo T_length p0) := by
  unfold f_Tape_cutTo
  refine h_aload_n hX dX7_cutTo_0 rfl rfl ?_
  refine h_iload_n hX dX7_cutTo_1 rfl rfl ?_
  refine put_RX7_15_C1 hX dX7_cutTo_2 ?_
  exact h_ret hX (rv := none) dX7_cutTo_5 trivial (fun h => h)
theorem c_Tape_cutTo {p0 : Int32} {r : Int32} (h : f_Tape_cutTo T_length p0 = some r) : gMet B 0 yX7_cutTo cX7_cutTo 2 none [.ref (aC B 1), .int p0] (wdC B W_spillsNow W_drawn T_length T_at T_bytes D_cells D_clauses G_length G_code A_size A_chosen A_codes A_lengths A_stack Y_cells Y_clauses N_marbles N_chipped N_swallowed N_sweets N_day N_owners P_next P_kept P_hasImage P_image P_acts P_entries P_imageEntries S_fewest S_row S_strengths U_size U_found U_places U_kinds U_holds U_fitting U_tally L_letters L_firstCells L_secondCells L_firstBest L_secondBest W_refusals ++ fr) (none) (wdC B W_spillsNow W_drawn r T_at T_bytes D_cells D_clauses G_length G_code A_size A_chosen A_codes A_lengths A_stack Y_cells Y_clauses N_marbles N_chipped N_swallowed N_sweets N_day N_owners P_next P_kept P_hasImage P_image P_acts P_entries P_imageEntries S_fewest S_row S_strengths U_size U_found U_places U_kinds U_holds U_fitting U_tally L_letters L_firstCells L_secondCells L_firstBest L_secondBest W_refusals ++ fr) :=
  gMet.of rfl (Nat.le_of_ble_eq_true rfl) (fun X hX hF => w_Tape_cutTo hX r h hF)
set_option maxRecDepth 4000 in
theorem w_Main_end {p0 : Int32} (hX : gOk B X RX10 cX10_end 2 1 (some .boolean)) : gH B X (fun r : (Int32 × Int32) => gFin X (some (.int r.1)) (wdC B W_spillsNow W_drawn r.2 T_at T_bytes D_cells D_clauses G_length G_code A_size A_chosen A_codes A_lengths A_stack Y_cells Y_clauses N_marbles N_chipped N_swallowed N_sweets N_day N_owners P_next P_kept P_hasImage P_image P_acts P_entries P_imageEntries S_fewest S_row S_strengths U_size U_found U_places U_kinds U_holds U_fitting U_tally L_letters L_firstCells L_secondCells L_firstBest L_secondBest W_refusals ++ fr)) 0 [(0, .ref (aC B 0)), (1, .int p0)] [] (wdC B W_spillsNow W_drawn T_length T_at T_bytes D_cells D_clauses G_length G_code A_size A_chosen A_codes A_lengths A_stack Y_cells Y_clauses N_marbles N_chipped N_swallowed N_sweets N_day N_owners P_next P_kept P_hasImage P_image P_acts P_entries P_imageEntries S_fewest S_row S_strengths U_size U_found U_places U_kinds U_holds U_fitting U_tally L_letters L_firstCells L_secondCells L_firstBest L_secondBest W_refusals ++ fr) (f_Main_end T_length p0) := by
  unfold f_Main_end
  refine h_iload_n hX dX10_end_0 rfl rfl ?_
  refine h_if_lt hX dX10_end_1 (tgt := 15) (by decide) (fun _ => ?_) (fun _ => ?_)
  · refine h_iconst hX dX10_end_15 ki_0 ?_
    exact h_ret hX (rv := some (.int 0)) dX10_end_16 rfl (fun h => h)
  · refine h_iload_n hX dX10_end_4 rfl rfl ?_
    refine h_aload_n hX dX10_end_5 rfl rfl ?_
    refine get_RX10_10_C0 hX dX10_end_6 ?_
    refine h_callVi hX dX10_end_9 (cv_RX10_97) rc_C1 (As := []) (st := [.int p0]) (fun _ h => c_Tape_size h) rfl rfl (by decide) (Nat.le_of_ble_eq_true rfl) (fun a_1 => ?_)
    refine h_icmp_le hX dX10_end_12 (tgt := 17) (by decide) (fun _ => ?_) (fun _ => ?_)
    · refine h_aload_n hX dX10_end_17 rfl rfl ?_
      refine get_RX10_10_C0 hX dX10_end_18 ?_
      refine h_iload_n hX dX10_end_21 rfl rfl ?_
      refine h_callVv hX dX10_end_22 (cv_RX10_105) rc_C1 (As := [.int p0]) (st := []) (fun _ h => c_Tape_cutTo h) rfl rfl (by decide) (Nat.le_of_ble_eq_true rfl) (fun a_2 => ?_)
      refine h_iconst hX dX10_end_25 ki_1 ?_
      exact h_ret hX (rv := some (.int 1)) dX10_end_26 rfl (fun h => h)
    · refine h_iconst hX dX10_end_15 ki_0 ?_
      exact h_ret hX (rv := some (.int 0)) dX10_end_16 rfl (fun h => h)
theorem c_Main_end {p0 : Int32} {r : (Int32 × Int32)} (h : f_Main_end T_length p0 = some r) : gMet B 1 yX10_end cX10_end 2 (some .boolean) [.ref (aC B 0), .int p0] (wdC B W_spillsNow W_drawn T_length T_at T_bytes D_cells D_clauses G_length G_code A_size A_chosen A_codes A_lengths A_stack Y_cells Y_clauses N_marbles N_chipped N_swallowed N_sweets N_day N_owners P_next P_kept P_hasImage P_image P_acts P_entries P_imageEntries S_fewest S_row S_strengths U_size U_found U_places U_kinds U_holds U_fitting U_tally L_letters L_firstCells L_secondCells L_firstBest L_secondBest W_refusals ++ fr) (some (.int r.1)) (wdC B W_spillsNow W_drawn r.2 T_at T_bytes D_cells D_clauses G_length G_code A_size A_chosen A_codes A_lengths A_stack Y_cells Y_clauses N_marbles N_chipped N_swallowed N_sweets N_day N_owners P_next P_kept P_hasImage P_image P_acts P_entries P_imageEntries S_fewest S_row S_strengths U_size U_found U_places U_kinds U_holds U_fitting U_tally L_letters L_firstCells L_secondCells L_firstBest L_secondBest W_refusals ++ fr) :=
  gMet.of rfl (Nat.le_of_ble_eq_true rfl) (fun X hX hF => w_Main_end hX r h hF)
set_option maxRecDepth 4000 in
theorem w_Yard_hasFarm {p0 : Int32} (hX : gOk B X RX8 cX8_hasFarm 2 1 (some .boolean)) : gH B X (fun r : Int32 => gFin X (some (.int r)) (wdC B W_spillsNow W_drawn T_length T_at T_bytes D_cells D_clauses G_length G_code A_size A_chosen A_codes A_lengths A_stack Y_cells Y_clauses N_marbles N_chipped N_swallowed N_sweets N_day N_owners P_next P_kept P_hasImage P_image P_acts P_entries P_imageEntries S_fewest S_row S_strengths U_size U_found U_places U_kinds U_holds U_fitting U_tally L_letters L_firstCells L_secondCells L_firstBest L_secondBest W_refusals ++ fr)) 0 [(0, .ref (aC B 13)), (1, .int p0)] [] (wdC B W_spillsNow W_drawn T_length T_at T_bytes D_cells D_clauses G_length G_code A_size A_chosen A_codes A_lengths A_stack Y_cells Y_clauses N_marbles N_chipped N_swallowed N_sweets N_day N_owners P_next P_kept P_hasImage P_image P_acts P_entries P_imageEntries S_fewest S_row S_strengths U_size U_found U_places U_kinds U_holds U_fitting U_tally L_letters L_firstCells L_secondCells L_firstBest L_secondBest W_refusals ++ fr) (f_Yard_hasFarm Y_clauses p0) := by
  unfold f_Yard_hasFarm
  refine h_iload_n hX dX8_hasFarm_0 rfl rfl ?_
  refine h_if_lt hX dX8_hasFarm_1 (tgt := 16) (by decide) (fun _ => ?_) (fun _ => ?_)
  · refine h_iconst hX dX8_hasFarm_16 ki_0 ?_
    exact h_ret hX (rv := some (.int 0)) dX8_hasFarm_17 rfl (fun h => h)
  · refine h_iload_n hX dX8_hasFarm_4 rfl rfl ?_
    refine h_aload_n hX dX8_hasFarm_5 rfl rfl ?_
    refine h_callVi hX dX8_hasFarm_6 (cv_RX8_57) rc_C13 (As := []) (st := [.int p0]) (fun _ h => c_Yard_farms h) rfl rfl (by decide) (Nat.le_of_ble_eq_true rfl) (fun a_1 => ?_)
    refine h_icmp_ge hX dX8_hasFarm_9 (tgt := 16) (by decide) (fun _ => ?_) (fun _ => ?_)
    · refine h_iconst hX dX8_hasFarm_16 ki_0 ?_
      exact h_ret hX (rv := some (.int 0)) dX8_hasFarm_17 rfl (fun h => h)
    · refine h_iconst hX dX8_hasFarm_12 ki_1 ?_
      refine h_goto hX dX8_hasFarm_13 (tgt := 17) (by decide) ?_
      exact h_ret hX (rv := some (.int 1)) dX8_hasFarm_17 rfl (fun h => h)
theorem c_Yard_hasFarm {p0 : Int32} {r : Int32} (h : f_Yard_hasFarm Y_clauses p0 = some r) : gMet B 1 yX8_hasFarm cX8_hasFarm 2 (some .boolean) [.ref (aC B 13), .int p0] (wdC B W_spillsNow W_drawn T_length T_at T_bytes D_cells D_clauses G_length G_code A_size A_chosen A_codes A_lengths A_stack Y_cells Y_clauses N_marbles N_chipped N_swallowed N_sweets N_day N_owners P_next P_kept P_hasImage P_image P_acts P_entries P_imageEntries S_fewest S_row S_strengths U_size U_found U_places U_kinds U_holds U_fitting U_tally L_letters L_firstCells L_secondCells L_firstBest L_secondBest W_refusals ++ fr) (some (.int r)) (wdC B W_spillsNow W_drawn T_length T_at T_bytes D_cells D_clauses G_length G_code A_size A_chosen A_codes A_lengths A_stack Y_cells Y_clauses N_marbles N_chipped N_swallowed N_sweets N_day N_owners P_next P_kept P_hasImage P_image P_acts P_entries P_imageEntries S_fewest S_row S_strengths U_size U_found U_places U_kinds U_holds U_fitting U_tally L_letters L_firstCells L_secondCells L_firstBest L_secondBest W_refusals ++ fr) :=
  gMet.of rfl (Nat.le_of_ble_eq_true rfl) (fun X hX hF => w_Yard_hasFarm hX r h hF)
set_option maxRecDepth 4000 in
theorem w_Main_farm {p0 : Int32} {p1 : Int32} (hX : gOk B X RX10 cX10_farm 3 5 (some .int)) : gH B X (fun r : (Int32 × (Nat → Int32)) => gFin X (some (.int r.1)) (wdC B W_spillsNow W_drawn T_length T_at T_bytes D_cells D_clauses G_length G_code A_size A_chosen A_codes A_lengths A_stack Y_cells Y_clauses N_marbles N_chipped N_swallowed N_sweets N_day N_owners P_next P_kept P_hasImage P_image P_acts P_entries P_imageEntries S_fewest S_row r.2 U_size U_found U_places U_kinds U_holds U_fitting U_tally L_letters L_firstCells L_secondCells L_firstBest L_secondBest W_refusals ++ fr)) 0 [(0, .ref (aC B 0)), (1, .int p0), (2, .int p1)] [] (wdC B W_spillsNow W_drawn T_length T_at T_bytes D_cells D_clauses G_length G_code A_size A_chosen A_codes A_lengths A_stack Y_cells Y_clauses N_marbles N_chipped N_swallowed N_sweets N_day N_owners P_next P_kept P_hasImage P_image P_acts P_entries P_imageEntries S_fewest S_row S_strengths U_size U_found U_places U_kinds U_holds U_fitting U_tally L_letters L_firstCells L_secondCells L_firstBest L_secondBest W_refusals ++ fr) (f_Main_farm Y_cells Y_clauses N_marbles N_chipped N_owners S_strengths p0 p1) := by
  unfold f_Main_farm
  refine h_aload_n hX dX10_farm_0 rfl rfl ?_
  refine get_RX10_42_C0 hX dX10_farm_1 ?_
  refine h_iload_n hX dX10_farm_4 rfl rfl ?_
  refine h_callVi hX dX10_farm_5 (cv_RX10_195) rc_C13 (As := [.int p0]) (st := []) (fun _ h => c_Yard_hasFarm h) rfl rfl (by decide) (Nat.le_of_ble_eq_true rfl) (fun a_1 => ?_)
  refine h_if_ne hX dX10_farm_8 (tgt := 13) (by decide) (fun _ => ?_) (fun _ => ?_)
  · refine h_iload_n hX dX10_farm_13 rfl rfl ?_
    refine gH.ite (fun hc0 => ?_) (fun hc0 => ?_)
    · refine h_tsin hX dX10_farm_14 hc0 (by decide) (by decide) rfl (tgt := 44) (by decide) ?_
      refine h_aload_n hX dX10_farm_44 rfl rfl ?_
      refine get_RX10_42_C0 hX dX10_farm_45 ?_
      refine h_iload_n hX dX10_farm_48 rfl rfl ?_
      refine h_callVi hX dX10_farm_49 (cv_RX10_198) rc_C13 (As := [.int p0]) (st := []) (fun _ h => c_Yard_farmPlace h) rfl rfl (by decide) (Nat.le_of_ble_eq_true rfl) (fun a_2 => ?_)
      exact h_ret hX (rv := some (.int a_2)) dX10_farm_52 trivial (fun h => h)
    refine gH.ite (fun hc1 => ?_) (fun hc1 => ?_)
    · refine h_tsin hX dX10_farm_14 hc1 (by decide) (by decide) rfl (tgt := 53) (by decide) ?_
      refine h_aload_n hX dX10_farm_53 rfl rfl ?_
      refine get_RX10_42_C0 hX dX10_farm_54 ?_
      refine h_iload_n hX dX10_farm_57 rfl rfl ?_
      refine h_callVi hX dX10_farm_58 (cv_RX10_201) rc_C13 (As := [.int p0]) (st := []) (fun _ h => c_Yard_wanted h) rfl rfl (by decide) (Nat.le_of_ble_eq_true rfl) (fun a_3 => ?_)
      exact h_ret hX (rv := some (.int a_3)) dX10_farm_61 trivial (fun h => h)
    refine gH.ite (fun hc2 => ?_) (fun hc2 => ?_)
    · refine h_tsin hX dX10_farm_14 hc2 (by decide) (by decide) rfl (tgt := 62) (by decide) ?_
      refine h_aload_n hX dX10_farm_62 rfl rfl ?_
      refine get_RX10_42_C0 hX dX10_farm_63 ?_
      refine h_iload_n hX dX10_farm_66 rfl rfl ?_
      refine h_callVi hX dX10_farm_67 (cv_RX10_204) rc_C13 (As := [.int p0]) (st := []) (fun _ h => c_Yard_payment h) rfl rfl (by decide) (Nat.le_of_ble_eq_true rfl) (fun a_4 => ?_)
      exact h_ret hX (rv := some (.int a_4)) dX10_farm_70 trivial (fun h => h)
    refine gH.ite (fun hc3 => ?_) (fun hc3 => ?_)
    · refine h_tsin hX dX10_farm_14 hc3 (by decide) (by decide) rfl (tgt := 71) (by decide) ?_
      refine h_aload_n hX dX10_farm_71 rfl rfl ?_
      refine h_callVi hX dX10_farm_72 (cv_RX10_207) rc_C0 (As := []) (st := []) (fun _ h => c_Main_contentNow h) rfl rfl (by decide) (Nat.le_of_ble_eq_true rfl) (fun a_5 => ?_)
      refine h_iload_n hX dX10_farm_75 rfl rfl ?_
      refine h_ishr hX dX10_farm_76 ?_
      refine h_iconst hX dX10_farm_77 ki_1 ?_
      refine h_iand hX dX10_farm_78 ?_
      exact h_ret hX (rv := some (.int ((a_5.1 >>> (p0 &&& 31)) &&& 1))) dX10_farm_79 trivial (fun h => h)
    refine h_tsdef hX dX10_farm_14 (cs := [0, 1, 2, 3]) (by decide) (by decide) (List.forall_mem_cons.mpr ⟨hc0, (List.forall_mem_cons.mpr ⟨hc1, (List.forall_mem_cons.mpr ⟨hc2, (List.forall_mem_cons.mpr ⟨hc3, fun _ h => absurd h List.not_mem_nil⟩)⟩)⟩)⟩) (tgt := 80) (by decide) ?_
    refine h_iconst hX dX10_farm_80 ki_m1 ?_
    exact h_ret hX (rv := some (.int ((-1)))) dX10_farm_81 trivial (fun h => h)
  · refine h_iconst hX dX10_farm_11 ki_m1 ?_
    exact h_ret hX (rv := some (.int ((-1)))) dX10_farm_12 trivial (fun h => h)
theorem c_Main_farm {p0 : Int32} {p1 : Int32} {r : (Int32 × (Nat → Int32))} (h : f_Main_farm Y_cells Y_clauses N_marbles N_chipped N_owners S_strengths p0 p1 = some r) : gMet B 5 yX10_farm cX10_farm 3 (some .int) [.ref (aC B 0), .int p0, .int p1] (wdC B W_spillsNow W_drawn T_length T_at T_bytes D_cells D_clauses G_length G_code A_size A_chosen A_codes A_lengths A_stack Y_cells Y_clauses N_marbles N_chipped N_swallowed N_sweets N_day N_owners P_next P_kept P_hasImage P_image P_acts P_entries P_imageEntries S_fewest S_row S_strengths U_size U_found U_places U_kinds U_holds U_fitting U_tally L_letters L_firstCells L_secondCells L_firstBest L_secondBest W_refusals ++ fr) (some (.int r.1)) (wdC B W_spillsNow W_drawn T_length T_at T_bytes D_cells D_clauses G_length G_code A_size A_chosen A_codes A_lengths A_stack Y_cells Y_clauses N_marbles N_chipped N_swallowed N_sweets N_day N_owners P_next P_kept P_hasImage P_image P_acts P_entries P_imageEntries S_fewest S_row r.2 U_size U_found U_places U_kinds U_holds U_fitting U_tally L_letters L_firstCells L_secondCells L_firstBest L_secondBest W_refusals ++ fr) :=
  gMet.of rfl (Nat.le_of_ble_eq_true rfl) (fun X hX hF => w_Main_farm hX r h hF)
set_option maxRecDepth 4000 in
theorem w_Yard_fillUsual_C4_L2 {v1 : Int32} {v2 : Int32} (hX : gOk B X RX8 cX8_fillUsual 4 0 none) (s : (Int32 × (Nat → Int32))) : gH B X (Sum.elim (fun s : (Int32 × (Nat → Int32)) => gG B X 2 [(0, .ref (aC B 4)), (1, .int v1), (2, .int v2), (3, .int s.1)] [] (wdC B W_spillsNow W_drawn T_length T_at T_bytes s.2 D_clauses G_length G_code A_size A_chosen A_codes A_lengths A_stack Y_cells Y_clauses N_marbles N_chipped N_swallowed N_sweets N_day N_owners P_next P_kept P_hasImage P_image P_acts P_entries P_imageEntries S_fewest S_row S_strengths U_size U_found U_places U_kinds U_holds U_fitting U_tally L_letters L_firstCells L_secondCells L_firstBest L_secondBest W_refusals ++ fr)) (fun r : (Nat → Int32) => gFin X (none) (wdC B W_spillsNow W_drawn T_length T_at T_bytes r D_clauses G_length G_code A_size A_chosen A_codes A_lengths A_stack Y_cells Y_clauses N_marbles N_chipped N_swallowed N_sweets N_day N_owners P_next P_kept P_hasImage P_image P_acts P_entries P_imageEntries S_fewest S_row S_strengths U_size U_found U_places U_kinds U_holds U_fitting U_tally L_letters L_firstCells L_secondCells L_firstBest L_secondBest W_refusals ++ fr))) 2 [(0, .ref (aC B 4)), (1, .int v1), (2, .int v2), (3, .int s.1)] [] (wdC B W_spillsNow W_drawn T_length T_at T_bytes s.2 D_clauses G_length G_code A_size A_chosen A_codes A_lengths A_stack Y_cells Y_clauses N_marbles N_chipped N_swallowed N_sweets N_day N_owners P_next P_kept P_hasImage P_image P_acts P_entries P_imageEntries S_fewest S_row S_strengths U_size U_found U_places U_kinds U_holds U_fitting U_tally L_letters L_firstCells L_secondCells L_firstBest L_secondBest W_refusals ++ fr) (f_Yard_fillUsual_C4_L2 v1 v2 s) := by
  unfold f_Yard_fillUsual_C4_L2
  refine h_iload_n hX dX8_fillUsual_2 rfl rfl ?_
  refine h_iconst hX dX8_fillUsual_3 ki_3 ?_
  refine h_icmp_ge hX dX8_fillUsual_4 (tgt := 38) (by decide) (fun _ => ?_) (fun _ => ?_)
  · exact h_ret hX (rv := none) dX8_fillUsual_38 trivial (fun h => h)
  · refine h_aload_n hX dX8_fillUsual_7 rfl rfl ?_
    refine get_RX8_9_C4 hX dX8_fillUsual_8 ?_
    refine h_gets hX 1 (q := ("FIRST_ROW", tab1)) rfl (by decide +kernel) dX8_fillUsual_11 ?_
    refine h_iload_n hX dX8_fillUsual_14 rfl rfl ?_
    refine h_tld hX 1 rfl dX8_fillUsual_15 ?_
    refine h_iload_n hX dX8_fillUsual_16 rfl rfl ?_
    refine h_iadd hX dX8_fillUsual_17 ?_
    refine h_iconst hX dX8_fillUsual_18 ki_3 ?_
    refine h_imul hX dX8_fillUsual_19 ?_
    refine h_iload_n hX dX8_fillUsual_20 rfl rfl ?_
    refine h_iadd hX dX8_fillUsual_21 ?_
    refine h_gets hX 6 (q := ("ITEM_USUAL", tab6)) rfl (by decide +kernel) dX8_fillUsual_22 ?_
    refine h_iload_n hX dX8_fillUsual_25 rfl rfl ?_
    refine h_iconst hX dX8_fillUsual_26 ki_3 ?_
    refine h_imul hX dX8_fillUsual_27 ?_
    refine h_iload_n hX dX8_fillUsual_28 rfl rfl ?_
    refine h_iadd hX dX8_fillUsual_29 ?_
    refine h_tld hX 6 rfl dX8_fillUsual_30 ?_
    refine ast_C5 hX dX8_fillUsual_31 ?_
    refine gH.letw (w := fun y => wdC B W_spillsNow W_drawn T_length T_at T_bytes y D_clauses G_length G_code A_size A_chosen A_codes A_lengths A_stack Y_cells Y_clauses N_marbles N_chipped N_swallowed N_sweets N_day N_owners P_next P_kept P_hasImage P_image P_acts P_entries P_imageEntries S_fewest S_row S_strengths U_size U_found U_places U_kinds U_holds U_fitting U_tally L_letters L_firstCells L_secondCells L_firstBest L_secondBest W_refusals ++ fr) (fun D_cells_1 => ?_)
    refine h_iincc hX dX8_fillUsual_32 rfl ki_1 (by decide) (lv' := [(0, .ref (aC B 4)), (1, .int v1), (2, .int v2), (3, .int (s.1 + 1))]) rfl ?_
    refine h_goto hX dX8_fillUsual_35 (tgt := 2) (by decide) ?_
    exact gH.some' (fun h => h)
set_option maxRecDepth 4000 in
theorem w_Yard_fillUsual_C4 {p0 : Int32} {p1 : Int32} (hX : gOk B X RX8 cX8_fillUsual 4 0 none) : gH B X (fun r : (Nat → Int32) => gFin X (none) (wdC B W_spillsNow W_drawn T_length T_at T_bytes r D_clauses G_length G_code A_size A_chosen A_codes A_lengths A_stack Y_cells Y_clauses N_marbles N_chipped N_swallowed N_sweets N_day N_owners P_next P_kept P_hasImage P_image P_acts P_entries P_imageEntries S_fewest S_row S_strengths U_size U_found U_places U_kinds U_holds U_fitting U_tally L_letters L_firstCells L_secondCells L_firstBest L_secondBest W_refusals ++ fr)) 0 [(0, .ref (aC B 4)), (1, .int p0), (2, .int p1)] [] (wdC B W_spillsNow W_drawn T_length T_at T_bytes D_cells D_clauses G_length G_code A_size A_chosen A_codes A_lengths A_stack Y_cells Y_clauses N_marbles N_chipped N_swallowed N_sweets N_day N_owners P_next P_kept P_hasImage P_image P_acts P_entries P_imageEntries S_fewest S_row S_strengths U_size U_found U_places U_kinds U_holds U_fitting U_tally L_letters L_firstCells L_secondCells L_firstBest L_secondBest W_refusals ++ fr) (f_Yard_fillUsual_C4 D_cells p0 p1) := by
  unfold f_Yard_fillUsual_C4
  refine h_iconst hX dX8_fillUsual_0 ki_0 ?_
  refine h_istore_n hX dX8_fillUsual_1 rfl (by decide) (lv' := [(0, .ref (aC B 4)), (1, .int p0), (2, .int p1), (3, .int 0)]) rfl ?_
  exact gH.loop (lvf := fun z : (Int32 × (Nat → Int32)) => [(0, .ref (aC B 4)), (1, .int p0), (2, .int p1), (3, .int z.1)]) (wf := fun z : (Int32 × (Nat → Int32)) => wdC B W_spillsNow W_drawn T_length T_at T_bytes z.2 D_clauses G_length G_code A_size A_chosen A_codes A_lengths A_stack Y_cells Y_clauses N_marbles N_chipped N_swallowed N_sweets N_day N_owners P_next P_kept P_hasImage P_image P_acts P_entries P_imageEntries S_fewest S_row S_strengths U_size U_found U_places U_kinds U_holds U_fitting U_tally L_letters L_firstCells L_secondCells L_firstBest L_secondBest W_refusals ++ fr) (fun z => w_Yard_fillUsual_C4_L2 hX z) (0, D_cells)
theorem c_Yard_fillUsual_C4 {p0 : Int32} {p1 : Int32} {r : (Nat → Int32)} (h : f_Yard_fillUsual_C4 D_cells p0 p1 = some r) : gMet B 0 yX8_fillUsual cX8_fillUsual 4 none [.ref (aC B 4), .int p0, .int p1] (wdC B W_spillsNow W_drawn T_length T_at T_bytes D_cells D_clauses G_length G_code A_size A_chosen A_codes A_lengths A_stack Y_cells Y_clauses N_marbles N_chipped N_swallowed N_sweets N_day N_owners P_next P_kept P_hasImage P_image P_acts P_entries P_imageEntries S_fewest S_row S_strengths U_size U_found U_places U_kinds U_holds U_fitting U_tally L_letters L_firstCells L_secondCells L_firstBest L_secondBest W_refusals ++ fr) (none) (wdC B W_spillsNow W_drawn T_length T_at T_bytes r D_clauses G_length G_code A_size A_chosen A_codes A_lengths A_stack Y_cells Y_clauses N_marbles N_chipped N_swallowed N_sweets N_day N_owners P_next P_kept P_hasImage P_image P_acts P_entries P_imageEntries S_fewest S_row S_strengths U_size U_found U_places U_kinds U_holds U_fitting U_tally L_letters L_firstCells L_secondCells L_firstBest L_secondBest W_refusals ++ fr) :=
  gMet.of rfl (Nat.le_of_ble_eq_true rfl) (fun X hX hF => w_Yard_fillUsual_C4 hX r h hF)
set_option maxRecDepth 4000 in
theorem w_Yard_clear_C4 (hX : gOk B X RX8 cX8_clear 1 1 none) : gH B X (fun r : ((Nat → Int32) × (Nat → Int32)) => gFin X (none) (wdC B W_spillsNow W_drawn T_length T_at T_bytes r.1 r.2 G_length G_code A_size A_chosen A_codes A_lengths A_stack Y_cells Y_clauses N_marbles N_chipped N_swallowed N_sweets N_day N_owners P_next P_kept P_hasImage P_image P_acts P_entries P_imageEntries S_fewest S_row S_strengths U_size U_found U_places U_kinds U_holds U_fitting U_tally L_letters L_firstCells L_secondCells L_firstBest L_secondBest W_refusals ++ fr)) 0 [(0, .ref (aC B 4))] [] (wdC B W_spillsNow W_drawn T_length T_at T_bytes D_cells D_clauses G_length G_code A_size A_chosen A_codes A_lengths A_stack Y_cells Y_clauses N_marbles N_chipped N_swallowed N_sweets N_day N_owners P_next P_kept P_hasImage P_image P_acts P_entries P_imageEntries S_fewest S_row S_strengths U_size U_found U_places U_kinds U_holds U_fitting U_tally L_letters L_firstCells L_secondCells L_firstBest L_secondBest W_refusals ++ fr) (f_Yard_clear_C4 D_cells D_clauses) := by
  unfold f_Yard_clear_C4
  refine h_aload_n hX dX8_clear_0 rfl rfl ?_
  refine get_RX8_18_C4 hX dX8_clear_1 ?_
  refine h_iconst hX dX8_clear_4 ki_0 ?_
  refine h_callSv hX dX8_clear_5 (cs_RX8_21) (As := [.ref (aC B 6), .int 0]) (st := []) (fun _ h => c_J_fill_C6 h) rfl rfl (by decide) (Nat.le_of_ble_eq_true rfl) (fun a_1 => ?_)
  refine h_aload_n hX dX8_clear_8 rfl rfl ?_
  refine h_iconst hX dX8_clear_9 ki_0 ?_
  refine h_iconst hX dX8_clear_10 ki_0 ?_
  refine h_callVv hX dX8_clear_11 (cv_RX8_27) rc_C4 (As := [.int 0, .int 0]) (st := []) (fun _ h => c_Yard_fillUsual_C4 h) rfl rfl (by decide) (Nat.le_of_ble_eq_true rfl) (fun a_2 => ?_)
  exact h_ret hX (rv := none) dX8_clear_14 trivial (fun h => h)
theorem c_Yard_clear_C4 {r : ((Nat → Int32) × (Nat → Int32))} (h : f_Yard_clear_C4 D_cells D_clauses = some r) : gMet B 1 yX8_clear cX8_clear 1 none [.ref (aC B 4)] (wdC B W_spillsNow W_drawn T_length T_at T_bytes D_cells D_clauses G_length G_code A_size A_chosen A_codes A_lengths A_stack Y_cells Y_clauses N_marbles N_chipped N_swallowed N_sweets N_day N_owners P_next P_kept P_hasImage P_image P_acts P_entries P_imageEntries S_fewest S_row S_strengths U_size U_found U_places U_kinds U_holds U_fitting U_tally L_letters L_firstCells L_secondCells L_firstBest L_secondBest W_refusals ++ fr) (none) (wdC B W_spillsNow W_drawn T_length T_at T_bytes r.1 r.2 G_length G_code A_size A_chosen A_codes A_lengths A_stack Y_cells Y_clauses N_marbles N_chipped N_swallowed N_sweets N_day N_owners P_next P_kept P_hasImage P_image P_acts P_entries P_imageEntries S_fewest S_row S_strengths U_size U_found U_places U_kinds U_holds U_fitting U_tally L_letters L_firstCells L_secondCells L_firstBest L_secondBest W_refusals ++ fr) :=
  gMet.of rfl (Nat.le_of_ble_eq_true rfl) (fun X hX hF => w_Yard_clear_C4 hX r h hF)
set_option maxRecDepth 4000 in
theorem w_Tape_rewind (hX : gOk B X RX7 cX7_rewind 1 0 none) : gH B X (fun r : Int32 => gFin X (none) (wdC B W_spillsNow W_drawn T_length r T_bytes D_cells D_clauses G_length G_code A_size A_chosen A_codes A_lengths A_stack Y_cells Y_clauses N_marbles N_chipped N_swallowed N_sweets N_day N_owners P_next P_kept P_hasImage P_image P_acts P_entries P_imageEntries S_fewest S_row S_strengths U_size U_found U_places U_kinds U_holds U_fitting U_tally L_letters L_firstCells L_secondCells L_firstBest L_secondBest W_refusals ++ fr)) 0 [(0, .ref (aC B 1))] [] (wdC B W_spillsNow W_drawn T_length T_at T_bytes D_cells D_clauses G_length G_code A_size A_chosen A_codes A_lengths A_stack Y_cells Y_clauses N_marbles N_chipped N_swallowed N_sweets N_day N_owners P_next P_kept P_hasImage P_image P_acts P_entries P_imageEntries S_fewest S_row S_strengths U_size U_found U_places U_kinds U_holds U_fitting U_tally L_letters L_firstCells L_secondCells L_firstBest L_secondBest W_refusals ++ fr) (f_Tape_rewind T_at) := by
  unfold f_Tape_rewind
  refine h_aload_n hX dX7_rewind_0 rfl rfl ?_
  refine h_iconst hX dX7_rewind_1 ki_0 ?_
  refine put_RX7_19_C1 hX dX7_rewind_2 ?_
  exact h_ret hX (rv := none) dX7_rewind_5 trivial (fun h => h)
theorem c_Tape_rewind {r : Int32} (h : f_Tape_rewind T_at = some r) : gMet B 0 yX7_rewind cX7_rewind 1 none [.ref (aC B 1)] (wdC B W_spillsNow W_drawn T_length T_at T_bytes D_cells D_clauses G_length G_code A_size A_chosen A_codes A_lengths A_stack Y_cells Y_clauses N_marbles N_chipped N_swallowed N_sweets N_day N_owners P_next P_kept P_hasImage P_image P_acts P_entries P_imageEntries S_fewest S_row S_strengths U_size U_found U_places U_kinds U_holds U_fitting U_tally L_letters L_firstCells L_secondCells L_firstBest L_secondBest W_refusals ++ fr) (none) (wdC B W_spillsNow W_drawn T_length r T_bytes D_cells D_clauses G_length G_code A_size A_chosen A_codes A_lengths A_stack Y_cells Y_clauses N_marbles N_chipped N_swallowed N_sweets N_day N_owners P_next P_kept P_hasImage P_image P_acts P_entries P_imageEntries S_fewest S_row S_strengths U_size U_found U_places U_kinds U_holds U_fitting U_tally L_letters L_firstCells L_secondCells L_firstBest L_secondBest W_refusals ++ fr) :=
  gMet.of rfl (Nat.le_of_ble_eq_true rfl) (fun X hX hF => w_Tape_rewind hX r h hF)
set_option maxRecDepth 4000 in
theorem w_Tape_sign_J38 (hX : gOk B X RX7 cX7_sign 1 0 (some .int)) : gH B X (fun r : (Int32 × Int32) => gFin X (some (.int r.1)) (wdC B W_spillsNow W_drawn T_length r.2 T_bytes D_cells D_clauses G_length G_code A_size A_chosen A_codes A_lengths A_stack Y_cells Y_clauses N_marbles N_chipped N_swallowed N_sweets N_day N_owners P_next P_kept P_hasImage P_image P_acts P_entries P_imageEntries S_fewest S_row S_strengths U_size U_found U_places U_kinds U_holds U_fitting U_tally L_letters L_firstCells L_secondCells L_firstBest L_secondBest W_refusals ++ fr)) 38 [(0, .ref (aC B 1))] [] (wdC B W_spillsNow W_drawn T_length T_at T_bytes D_cells D_clauses G_length G_code A_size A_chosen A_codes A_lengths A_stack Y_cells Y_clauses N_marbles N_chipped N_swallowed N_sweets N_day N_owners P_next P_kept P_hasImage P_image P_acts P_entries P_imageEntries S_fewest S_row S_strengths U_size U_found U_places U_kinds U_holds U_fitting U_tally L_letters L_firstCells L_secondCells L_firstBest L_secondBest W_refusals ++ fr) (f_Tape_sign_J38 T_length T_at T_bytes) := by
  unfold f_Tape_sign_J38
  refine h_aload_n hX dX7_sign_38 rfl rfl ?_
  refine get_RX7_19_C1 hX dX7_sign_39 ?_
  refine h_aload_n hX dX7_sign_42 rfl rfl ?_
  refine get_RX7_15_C1 hX dX7_sign_43 ?_
  refine h_icmp_ge hX dX7_sign_46 (tgt := 61) (by decide) (fun _ => ?_) (fun _ => ?_)
  · refine h_iconst hX dX7_sign_61 ki_m1 ?_
    exact h_ret hX (rv := some (.int ((-1)))) dX7_sign_62 trivial (fun h => h)
  · refine h_aload_n hX dX7_sign_49 rfl rfl ?_
    refine get_RX7_9_C1 hX dX7_sign_50 ?_
    refine h_aload_n hX dX7_sign_53 rfl rfl ?_
    refine get_RX7_19_C1 hX dX7_sign_54 ?_
    refine ald_C2 hX dX7_sign_57 ?_
    refine h_goto hX dX7_sign_58 (tgt := 62) (by decide) ?_
    exact h_ret hX (rv := some (.int (T_bytes T_at.toNatClampNeg))) dX7_sign_62 trivial (fun h => h)
set_option maxRecDepth 4000 in
theorem w_Tape_sign_L0 (hX : gOk B X RX7 cX7_sign 1 0 (some .int)) (s : Int32) : gH B X (Sum.elim (fun s : Int32 => gG B X 0 [(0, .ref (aC B 1))] [] (wdC B W_spillsNow W_drawn T_length s T_bytes D_cells D_clauses G_length G_code A_size A_chosen A_codes A_lengths A_stack Y_cells Y_clauses N_marbles N_chipped N_swallowed N_sweets N_day N_owners P_next P_kept P_hasImage P_image P_acts P_entries P_imageEntries S_fewest S_row S_strengths U_size U_found U_places U_kinds U_holds U_fitting U_tally L_letters L_firstCells L_secondCells L_firstBest L_secondBest W_refusals ++ fr)) (fun r : (Int32 × Int32) => gFin X (some (.int r.1)) (wdC B W_spillsNow W_drawn T_length r.2 T_bytes D_cells D_clauses G_length G_code A_size A_chosen A_codes A_lengths A_stack Y_cells Y_clauses N_marbles N_chipped N_swallowed N_sweets N_day N_owners P_next P_kept P_hasImage P_image P_acts P_entries P_imageEntries S_fewest S_row S_strengths U_size U_found U_places U_kinds U_holds U_fitting U_tally L_letters L_firstCells L_secondCells L_firstBest L_secondBest W_refusals ++ fr))) 0 [(0, .ref (aC B 1))] [] (wdC B W_spillsNow W_drawn T_length s T_bytes D_cells D_clauses G_length G_code A_size A_chosen A_codes A_lengths A_stack Y_cells Y_clauses N_marbles N_chipped N_swallowed N_sweets N_day N_owners P_next P_kept P_hasImage P_image P_acts P_entries P_imageEntries S_fewest S_row S_strengths U_size U_found U_places U_kinds U_holds U_fitting U_tally L_letters L_firstCells L_secondCells L_firstBest L_secondBest W_refusals ++ fr) (f_Tape_sign_L0 T_length T_bytes s) := by
  unfold f_Tape_sign_L0
  refine h_aload_n hX dX7_sign_0 rfl rfl ?_
  refine get_RX7_19_C1 hX dX7_sign_1 ?_
  refine h_aload_n hX dX7_sign_4 rfl rfl ?_
  refine get_RX7_15_C1 hX dX7_sign_5 ?_
  refine h_icmp_ge hX dX7_sign_8 (tgt := 38) (by decide) (fun _ => ?_) (fun _ => ?_)
  · refine gH.inr ?_
    exact w_Tape_sign_J38 hX
  · refine h_aload_n hX dX7_sign_11 rfl rfl ?_
    refine get_RX7_9_C1 hX dX7_sign_12 ?_
    refine h_aload_n hX dX7_sign_15 rfl rfl ?_
    refine get_RX7_19_C1 hX dX7_sign_16 ?_
    refine ald_C2 hX dX7_sign_19 ?_
    refine h_bipush hX dX7_sign_20 kb_32 ?_
    refine h_icmp_ne hX dX7_sign_22 (tgt := 38) (by decide) (fun _ => ?_) (fun _ => ?_)
    · refine gH.inr ?_
      exact w_Tape_sign_J38 hX
    · refine h_aload_n hX dX7_sign_25 rfl rfl ?_
      refine h_dup hX dX7_sign_26 rfl ?_
      refine get_RX7_19_C1 hX dX7_sign_27 ?_
      refine h_iconst hX dX7_sign_30 ki_1 ?_
      refine h_iadd hX dX7_sign_31 ?_
      refine put_RX7_19_C1 hX dX7_sign_32 ?_
      refine gH.letw (w := fun y => wdC B W_spillsNow W_drawn T_length y T_bytes D_cells D_clauses G_length G_code A_size A_chosen A_codes A_lengths A_stack Y_cells Y_clauses N_marbles N_chipped N_swallowed N_sweets N_day N_owners P_next P_kept P_hasImage P_image P_acts P_entries P_imageEntries S_fewest S_row S_strengths U_size U_found U_places U_kinds U_holds U_fitting U_tally L_letters L_firstCells L_secondCells L_firstBest L_secondBest W_refusals ++ fr) (fun T_at_1 => ?_)
      refine h_goto hX dX7_sign_35 (tgt := 0) (by decide) ?_
      exact gH.some' (fun h => h)
set_option maxRecDepth 4000 in
theorem w_Tape_sign (hX : gOk B X RX7 cX7_sign 1 0 (some .int)) : gH B X (fun r : (Int32 × Int32) => gFin X (some (.int r.1)) (wdC B W_spillsNow W_drawn T_length r.2 T_bytes D_cells D_clauses G_length G_code A_size A_chosen A_codes A_lengths A_stack Y_cells Y_clauses N_marbles N_chipped N_swallowed N_sweets N_day N_owners P_next P_kept P_hasImage P_image P_acts P_entries P_imageEntries S_fewest S_row S_strengths U_size U_found U_places U_kinds U_holds U_fitting U_tally L_letters L_firstCells L_secondCells L_firstBest L_secondBest W_refusals ++ fr)) 0 [(0, .ref (aC B 1))] [] (wdC B W_spillsNow W_drawn T_length T_at T_bytes D_cells D_clauses G_length G_code A_size A_chosen A_codes A_lengths A_stack Y_cells Y_clauses N_marbles N_chipped N_swallowed N_sweets N_day N_owners P_next P_kept P_hasImage P_image P_acts P_entries P_imageEntries S_fewest S_row S_strengths U_size U_found U_places U_kinds U_holds U_fitting U_tally L_letters L_firstCells L_secondCells L_firstBest L_secondBest W_refusals ++ fr) (f_Tape_sign T_length T_at T_bytes) := by
  unfold f_Tape_sign
  exact gH.loop (lvf := fun z : Int32 => [(0, .ref (aC B 1))]) (wf := fun z : Int32 => wdC B W_spillsNow W_drawn T_length z T_bytes D_cells D_clauses G_length G_code A_size A_chosen A_codes A_lengths A_stack Y_cells Y_clauses N_marbles N_chipped N_swallowed N_sweets N_day N_owners P_next P_kept P_hasImage P_image P_acts P_entries P_imageEntries S_fewest S_row S_strengths U_size U_found U_places U_kinds U_holds U_fitting U_tally L_letters L_firstCells L_secondCells L_firstBest L_secondBest W_refusals ++ fr) (fun z => w_Tape_sign_L0 hX z) T_at
theorem c_Tape_sign {r : (Int32 × Int32)} (h : f_Tape_sign T_length T_at T_bytes = some r) : gMet B 0 yX7_sign cX7_sign 1 (some .int) [.ref (aC B 1)] (wdC B W_spillsNow W_drawn T_length T_at T_bytes D_cells D_clauses G_length G_code A_size A_chosen A_codes A_lengths A_stack Y_cells Y_clauses N_marbles N_chipped N_swallowed N_sweets N_day N_owners P_next P_kept P_hasImage P_image P_acts P_entries P_imageEntries S_fewest S_row S_strengths U_size U_found U_places U_kinds U_holds U_fitting U_tally L_letters L_firstCells L_secondCells L_firstBest L_secondBest W_refusals ++ fr) (some (.int r.1)) (wdC B W_spillsNow W_drawn T_length r.2 T_bytes D_cells D_clauses G_length G_code A_size A_chosen A_codes A_lengths A_stack Y_cells Y_clauses N_marbles N_chipped N_swallowed N_sweets N_day N_owners P_next P_kept P_hasImage P_image P_acts P_entries P_imageEntries S_fewest S_row S_strengths U_size U_found U_places U_kinds U_holds U_fitting U_tally L_letters L_firstCells L_secondCells L_firstBest L_secondBest W_refusals ++ fr) :=
  gMet.of rfl (Nat.le_of_ble_eq_true rfl) (fun X hX hF => w_Tape_sign hX r h hF)
set_option maxRecDepth 4000 in
theorem w_Yard_opens_C4 {p0 : Int32} (hX : gOk B X RX8 cX8_opens 2 1 (some .boolean)) : gH B X (fun r : (Int32 × (Nat → Int32) × (Nat → Int32)) => gFin X (some (.int r.1)) (wdC B W_spillsNow W_drawn T_length T_at T_bytes r.2.1 r.2.2 G_length G_code A_size A_chosen A_codes A_lengths A_stack Y_cells Y_clauses N_marbles N_chipped N_swallowed N_sweets N_day N_owners P_next P_kept P_hasImage P_image P_acts P_entries P_imageEntries S_fewest S_row S_strengths U_size U_found U_places U_kinds U_holds U_fitting U_tally L_letters L_firstCells L_secondCells L_firstBest L_secondBest W_refusals ++ fr)) 0 [(0, .ref (aC B 4)), (1, .int p0)] [] (wdC B W_spillsNow W_drawn T_length T_at T_bytes D_cells D_clauses G_length G_code A_size A_chosen A_codes A_lengths A_stack Y_cells Y_clauses N_marbles N_chipped N_swallowed N_sweets N_day N_owners P_next P_kept P_hasImage P_image P_acts P_entries P_imageEntries S_fewest S_row S_strengths U_size U_found U_places U_kinds U_holds U_fitting U_tally L_letters L_firstCells L_secondCells L_firstBest L_secondBest W_refusals ++ fr) (f_Yard_opens_C4 D_cells D_clauses p0) := by
  unfold f_Yard_opens_C4
  refine h_aload_n hX dX8_opens_0 rfl rfl ?_
  refine get_RX8_18_C4 hX dX8_opens_1 ?_
  refine h_iload_n hX dX8_opens_4 rfl rfl ?_
  refine ald_C6 hX dX8_opens_5 ?_
  refine h_gets hX 2 (q := ("MOST_CLAUSES", tab2)) rfl (by decide +kernel) dX8_opens_6 ?_
  refine h_iload_n hX dX8_opens_9 rfl rfl ?_
  refine h_tld hX 2 rfl dX8_opens_10 ?_
  refine h_icmp_lt hX dX8_opens_11 (tgt := 16) (by decide) (fun _ => ?_) (fun _ => ?_)
  · refine h_aload_n hX dX8_opens_16 rfl rfl ?_
    refine h_iload_n hX dX8_opens_17 rfl rfl ?_
    refine h_aload_n hX dX8_opens_18 rfl rfl ?_
    refine get_RX8_18_C4 hX dX8_opens_19 ?_
    refine h_iload_n hX dX8_opens_22 rfl rfl ?_
    refine ald_C6 hX dX8_opens_23 ?_
    refine h_callVv hX dX8_opens_24 (cv_RX8_27) rc_C4 (As := [.int p0, .int (D_clauses p0.toNatClampNeg)]) (st := []) (fun _ h => c_Yard_fillUsual_C4 h) rfl rfl (by decide) (Nat.le_of_ble_eq_true rfl) (fun a_1 => ?_)
    refine h_aload_n hX dX8_opens_27 rfl rfl ?_
    refine get_RX8_18_C4 hX dX8_opens_28 ?_
    refine h_iload_n hX dX8_opens_31 rfl rfl ?_
    refine h_dup2 hX dX8_opens_32 rfl rfl ?_
    refine ald_C6 hX dX8_opens_33 ?_
    refine h_iconst hX dX8_opens_34 ki_1 ?_
    refine h_iadd hX dX8_opens_35 ?_
    refine ast_C6 hX dX8_opens_36 ?_
    refine gH.letw (w := fun y => wdC B W_spillsNow W_drawn T_length T_at T_bytes a_1 y G_length G_code A_size A_chosen A_codes A_lengths A_stack Y_cells Y_clauses N_marbles N_chipped N_swallowed N_sweets N_day N_owners P_next P_kept P_hasImage P_image P_acts P_entries P_imageEntries S_fewest S_row S_strengths U_size U_found U_places U_kinds U_holds U_fitting U_tally L_letters L_firstCells L_secondCells L_firstBest L_secondBest W_refusals ++ fr) (fun D_clauses_2 => ?_)
    refine h_iconst hX dX8_opens_37 ki_1 ?_
    exact h_ret hX (rv := some (.int 1)) dX8_opens_38 rfl (fun h => h)
  · refine h_iconst hX dX8_opens_14 ki_0 ?_
    exact h_ret hX (rv := some (.int 0)) dX8_opens_15 rfl (fun h => h)
theorem c_Yard_opens_C4 {p0 : Int32} {r : (Int32 × (Nat → Int32) × (Nat → Int32))} (h : f_Yard_opens_C4 D_cells D_clauses p0 = some r) : gMet B 1 yX8_opens cX8_opens 2 (some .boolean) [.ref (aC B 4), .int p0] (wdC B W_spillsNow W_drawn T_length T_at T_bytes D_cells D_clauses G_length G_code A_size A_chosen A_codes A_lengths A_stack Y_cells Y_clauses N_marbles N_chipped N_swallowed N_sweets N_day N_owners P_next P_kept P_hasImage P_image P_acts P_entries P_imageEntries S_fewest S_row S_strengths U_size U_found U_places U_kinds U_holds U_fitting U_tally L_letters L_firstCells L_secondCells L_firstBest L_secondBest W_refusals ++ fr) (some (.int r.1)) (wdC B W_spillsNow W_drawn T_length T_at T_bytes r.2.1 r.2.2 G_length G_code A_size A_chosen A_codes A_lengths A_stack Y_cells Y_clauses N_marbles N_chipped N_swallowed N_sweets N_day N_owners P_next P_kept P_hasImage P_image P_acts P_entries P_imageEntries S_fewest S_row S_strengths U_size U_found U_places U_kinds U_holds U_fitting U_tally L_letters L_firstCells L_secondCells L_firstBest L_secondBest W_refusals ++ fr) :=
  gMet.of rfl (Nat.le_of_ble_eq_true rfl) (fun X hX hF => w_Yard_opens_C4 hX r h hF)
set_option maxRecDepth 4000 in
theorem w_Tape_step (hX : gOk B X RX7 cX7_step 1 0 none) : gH B X (fun r : Int32 => gFin X (none) (wdC B W_spillsNow W_drawn T_length r T_bytes D_cells D_clauses G_length G_code A_size A_chosen A_codes A_lengths A_stack Y_cells Y_clauses N_marbles N_chipped N_swallowed N_sweets N_day N_owners P_next P_kept P_hasImage P_image P_acts P_entries P_imageEntries S_fewest S_row S_strengths U_size U_found U_places U_kinds U_holds U_fitting U_tally L_letters L_firstCells L_secondCells L_firstBest L_secondBest W_refusals ++ fr)) 0 [(0, .ref (aC B 1))] [] (wdC B W_spillsNow W_drawn T_length T_at T_bytes D_cells D_clauses G_length G_code A_size A_chosen A_codes A_lengths A_stack Y_cells Y_clauses N_marbles N_chipped N_swallowed N_sweets N_day N_owners P_next P_kept P_hasImage P_image P_acts P_entries P_imageEntries S_fewest S_row S_strengths U_size U_found U_places U_kinds U_holds U_fitting U_tally L_letters L_firstCells L_secondCells L_firstBest L_secondBest W_refusals ++ fr) (f_Tape_step T_at) := by
  unfold f_Tape_step
  refine h_aload_n hX dX7_step_0 rfl rfl ?_
  refine h_dup hX dX7_step_1 rfl ?_
  refine get_RX7_19_C1 hX dX7_step_2 ?_
  refine h_iconst hX dX7_step_5 ki_1 ?_
  refine h_iadd hX dX7_step_6 ?_
  refine put_RX7_19_C1 hX dX7_step_7 ?_
  refine gH.letw (w := fun y => wdC B W_spillsNow W_drawn T_length y T_bytes D_cells D_clauses G_length G_code A_size A_chosen A_codes A_lengths A_stack Y_cells Y_clauses N_marbles N_chipped N_swallowed N_sweets N_day N_owners P_next P_kept P_hasImage P_image P_acts P_entries P_imageEntries S_fewest S_row S_strengths U_size U_found U_places U_kinds U_holds U_fitting U_tally L_letters L_firstCells L_secondCells L_firstBest L_secondBest W_refusals ++ fr) (fun T_at_1 => ?_)
  exact h_ret hX (rv := none) dX7_step_10 trivial (fun h => h)
theorem c_Tape_step {r : Int32} (h : f_Tape_step T_at = some r) : gMet B 0 yX7_step cX7_step 1 none [.ref (aC B 1)] (wdC B W_spillsNow W_drawn T_length T_at T_bytes D_cells D_clauses G_length G_code A_size A_chosen A_codes A_lengths A_stack Y_cells Y_clauses N_marbles N_chipped N_swallowed N_sweets N_day N_owners P_next P_kept P_hasImage P_image P_acts P_entries P_imageEntries S_fewest S_row S_strengths U_size U_found U_places U_kinds U_holds U_fitting U_tally L_letters L_firstCells L_secondCells L_firstBest L_secondBest W_refusals ++ fr) (none) (wdC B W_spillsNow W_drawn T_length r T_bytes D_cells D_clauses G_length G_code A_size A_chosen A_codes A_lengths A_stack Y_cells Y_clauses N_marbles N_chipped N_swallowed N_sweets N_day N_owners P_next P_kept P_hasImage P_image P_acts P_entries P_imageEntries S_fewest S_row S_strengths U_size U_found U_places U_kinds U_holds U_fitting U_tally L_letters L_firstCells L_secondCells L_firstBest L_secondBest W_refusals ++ fr) :=
  gMet.of rfl (Nat.le_of_ble_eq_true rfl) (fun X hX hF => w_Tape_step hX r h hF)
set_option maxRecDepth 4000 in
theorem w_Tape_isAtDigit (hX : gOk B X RX7 cX7_isAtDigit 1 0 (some .boolean)) : gH B X (fun r : Int32 => gFin X (some (.int r)) (wdC B W_spillsNow W_drawn T_length T_at T_bytes D_cells D_clauses G_length G_code A_size A_chosen A_codes A_lengths A_stack Y_cells Y_clauses N_marbles N_chipped N_swallowed N_sweets N_day N_owners P_next P_kept P_hasImage P_image P_acts P_entries P_imageEntries S_fewest S_row S_strengths U_size U_found U_places U_kinds U_holds U_fitting U_tally L_letters L_firstCells L_secondCells L_firstBest L_secondBest W_refusals ++ fr)) 0 [(0, .ref (aC B 1))] [] (wdC B W_spillsNow W_drawn T_length T_at T_bytes D_cells D_clauses G_length G_code A_size A_chosen A_codes A_lengths A_stack Y_cells Y_clauses N_marbles N_chipped N_swallowed N_sweets N_day N_owners P_next P_kept P_hasImage P_image P_acts P_entries P_imageEntries S_fewest S_row S_strengths U_size U_found U_places U_kinds U_holds U_fitting U_tally L_letters L_firstCells L_secondCells L_firstBest L_secondBest W_refusals ++ fr) (f_Tape_isAtDigit T_length T_at T_bytes) := by
  unfold f_Tape_isAtDigit
  refine h_aload_n hX dX7_isAtDigit_0 rfl rfl ?_
  refine get_RX7_19_C1 hX dX7_isAtDigit_1 ?_
  refine h_aload_n hX dX7_isAtDigit_4 rfl rfl ?_
  refine get_RX7_15_C1 hX dX7_isAtDigit_5 ?_
  refine h_icmp_ge hX dX7_isAtDigit_8 (tgt := 43) (by decide) (fun _ => ?_) (fun _ => ?_)
  · refine h_iconst hX dX7_isAtDigit_43 ki_0 ?_
    exact h_ret hX (rv := some (.int 0)) dX7_isAtDigit_44 rfl (fun h => h)
  · refine h_aload_n hX dX7_isAtDigit_11 rfl rfl ?_
    refine get_RX7_9_C1 hX dX7_isAtDigit_12 ?_
    refine h_aload_n hX dX7_isAtDigit_15 rfl rfl ?_
    refine get_RX7_19_C1 hX dX7_isAtDigit_16 ?_
    refine ald_C2 hX dX7_isAtDigit_19 ?_
    refine h_bipush hX dX7_isAtDigit_20 kb_48 ?_
    refine h_icmp_lt hX dX7_isAtDigit_22 (tgt := 43) (by decide) (fun _ => ?_) (fun _ => ?_)
    · refine h_iconst hX dX7_isAtDigit_43 ki_0 ?_
      exact h_ret hX (rv := some (.int 0)) dX7_isAtDigit_44 rfl (fun h => h)
    · refine h_aload_n hX dX7_isAtDigit_25 rfl rfl ?_
      refine get_RX7_9_C1 hX dX7_isAtDigit_26 ?_
      refine h_aload_n hX dX7_isAtDigit_29 rfl rfl ?_
      refine get_RX7_19_C1 hX dX7_isAtDigit_30 ?_
      refine ald_C2 hX dX7_isAtDigit_33 ?_
      refine h_bipush hX dX7_isAtDigit_34 kb_57 ?_
      refine h_icmp_gt hX dX7_isAtDigit_36 (tgt := 43) (by decide) (fun _ => ?_) (fun _ => ?_)
      · refine h_iconst hX dX7_isAtDigit_43 ki_0 ?_
        exact h_ret hX (rv := some (.int 0)) dX7_isAtDigit_44 rfl (fun h => h)
      · refine h_iconst hX dX7_isAtDigit_39 ki_1 ?_
        refine h_goto hX dX7_isAtDigit_40 (tgt := 44) (by decide) ?_
        exact h_ret hX (rv := some (.int 1)) dX7_isAtDigit_44 rfl (fun h => h)
theorem c_Tape_isAtDigit {r : Int32} (h : f_Tape_isAtDigit T_length T_at T_bytes = some r) : gMet B 0 yX7_isAtDigit cX7_isAtDigit 1 (some .boolean) [.ref (aC B 1)] (wdC B W_spillsNow W_drawn T_length T_at T_bytes D_cells D_clauses G_length G_code A_size A_chosen A_codes A_lengths A_stack Y_cells Y_clauses N_marbles N_chipped N_swallowed N_sweets N_day N_owners P_next P_kept P_hasImage P_image P_acts P_entries P_imageEntries S_fewest S_row S_strengths U_size U_found U_places U_kinds U_holds U_fitting U_tally L_letters L_firstCells L_secondCells L_firstBest L_secondBest W_refusals ++ fr) (some (.int r)) (wdC B W_spillsNow W_drawn T_length T_at T_bytes D_cells D_clauses G_length G_code A_size A_chosen A_codes A_lengths A_stack Y_cells Y_clauses N_marbles N_chipped N_swallowed N_sweets N_day N_owners P_next P_kept P_hasImage P_image P_acts P_entries P_imageEntries S_fewest S_row S_strengths U_size U_found U_places U_kinds U_holds U_fitting U_tally L_letters L_firstCells L_secondCells L_firstBest L_secondBest W_refusals ++ fr) :=
  gMet.of rfl (Nat.le_of_ble_eq_true rfl) (fun X hX hF => w_Tape_isAtDigit hX r h hF)
set_option maxRecDepth 4000 in
theorem w_Tape_number_J64 {v2 : Int32} (hX : gOk B X RX7 cX7_number 4 1 (some .int)) : gH B X (fun r : (Int32 × Int32) => gFin X (some (.int r.1)) (wdC B W_spillsNow W_drawn T_length r.2 T_bytes D_cells D_clauses G_length G_code A_size A_chosen A_codes A_lengths A_stack Y_cells Y_clauses N_marbles N_chipped N_swallowed N_sweets N_day N_owners P_next P_kept P_hasImage P_image P_acts P_entries P_imageEntries S_fewest S_row S_strengths U_size U_found U_places U_kinds U_holds U_fitting U_tally L_letters L_firstCells L_secondCells L_firstBest L_secondBest W_refusals ++ fr)) 64 [(0, .ref (aC B 1)), (2, .int v2)] [] (wdC B W_spillsNow W_drawn T_length T_at T_bytes D_cells D_clauses G_length G_code A_size A_chosen A_codes A_lengths A_stack Y_cells Y_clauses N_marbles N_chipped N_swallowed N_sweets N_day N_owners P_next P_kept P_hasImage P_image P_acts P_entries P_imageEntries S_fewest S_row S_strengths U_size U_found U_places U_kinds U_holds U_fitting U_tally L_letters L_firstCells L_secondCells L_firstBest L_secondBest W_refusals ++ fr) (f_Tape_number_J64 T_length T_at T_bytes v2) := by
  unfold f_Tape_number_J64
  refine h_aload_n hX dX7_number_64 rfl rfl ?_
  refine h_callVi hX dX7_number_65 (cv_RX7_26) rc_C1 (As := []) (st := []) (fun _ h => c_Tape_isAtDigit h) rfl rfl (by decide) (Nat.le_of_ble_eq_true rfl) (fun a_3 => ?_)
  refine h_if_eq hX dX7_number_68 (tgt := 75) (by decide) (fun _ => ?_) (fun _ => ?_)
  · refine h_iload_n hX dX7_number_75 rfl rfl ?_
    exact h_ret hX (rv := some (.int v2)) dX7_number_76 trivial (fun h => h)
  · refine h_iconst hX dX7_number_71 ki_m1 ?_
    refine h_goto hX dX7_number_72 (tgt := 76) (by decide) ?_
    exact h_ret hX (rv := some (.int ((-1)))) dX7_number_76 trivial (fun h => h)
set_option maxRecDepth 4000 in
theorem w_Tape_number_L18 {v1 : Int32} (hX : gOk B X RX7 cX7_number 4 1 (some .int)) (s : (Int32 × Int32 × Int32)) : gH B X (Sum.elim (fun s : (Int32 × Int32 × Int32) => gG B X 18 [(0, .ref (aC B 1)), (1, .int v1), (2, .int s.1), (3, .int s.2.1)] [] (wdC B W_spillsNow W_drawn T_length s.2.2 T_bytes D_cells D_clauses G_length G_code A_size A_chosen A_codes A_lengths A_stack Y_cells Y_clauses N_marbles N_chipped N_swallowed N_sweets N_day N_owners P_next P_kept P_hasImage P_image P_acts P_entries P_imageEntries S_fewest S_row S_strengths U_size U_found U_places U_kinds U_holds U_fitting U_tally L_letters L_firstCells L_secondCells L_firstBest L_secondBest W_refusals ++ fr)) (fun r : (Int32 × Int32) => gFin X (some (.int r.1)) (wdC B W_spillsNow W_drawn T_length r.2 T_bytes D_cells D_clauses G_length G_code A_size A_chosen A_codes A_lengths A_stack Y_cells Y_clauses N_marbles N_chipped N_swallowed N_sweets N_day N_owners P_next P_kept P_hasImage P_image P_acts P_entries P_imageEntries S_fewest S_row S_strengths U_size U_found U_places U_kinds U_holds U_fitting U_tally L_letters L_firstCells L_secondCells L_firstBest L_secondBest W_refusals ++ fr))) 18 [(0, .ref (aC B 1)), (1, .int v1), (2, .int s.1), (3, .int s.2.1)] [] (wdC B W_spillsNow W_drawn T_length s.2.2 T_bytes D_cells D_clauses G_length G_code A_size A_chosen A_codes A_lengths A_stack Y_cells Y_clauses N_marbles N_chipped N_swallowed N_sweets N_day N_owners P_next P_kept P_hasImage P_image P_acts P_entries P_imageEntries S_fewest S_row S_strengths U_size U_found U_places U_kinds U_holds U_fitting U_tally L_letters L_firstCells L_secondCells L_firstBest L_secondBest W_refusals ++ fr) (f_Tape_number_L18 T_length T_bytes v1 s) := by
  unfold f_Tape_number_L18
  refine h_iload_n hX dX7_number_18 rfl rfl ?_
  refine h_iload_n hX dX7_number_19 rfl rfl ?_
  refine h_icmp_ge hX dX7_number_20 (tgt := 64) (by decide) (fun _ => ?_) (fun _ => ?_)
  · refine gH.inr ?_
    refine gH.dead [0, 2] rfl ?_
    exact w_Tape_number_J64 hX
  · refine h_aload_n hX dX7_number_23 rfl rfl ?_
    refine h_callVi hX dX7_number_24 (cv_RX7_26) rc_C1 (As := []) (st := []) (fun _ h => c_Tape_isAtDigit h) rfl rfl (by decide) (Nat.le_of_ble_eq_true rfl) (fun a_4 => ?_)
    refine h_if_eq hX dX7_number_27 (tgt := 64) (by decide) (fun _ => ?_) (fun _ => ?_)
    · refine gH.inr ?_
      refine gH.dead [0, 2] rfl ?_
      exact w_Tape_number_J64 hX
    · refine h_iload_n hX dX7_number_30 rfl rfl ?_
      refine h_bipush hX dX7_number_31 kb_10 ?_
      refine h_imul hX dX7_number_33 ?_
      refine h_aload_n hX dX7_number_34 rfl rfl ?_
      refine get_RX7_9_C1 hX dX7_number_35 ?_
      refine h_aload_n hX dX7_number_38 rfl rfl ?_
      refine get_RX7_19_C1 hX dX7_number_39 ?_
      refine ald_C2 hX dX7_number_42 ?_
      refine h_iadd hX dX7_number_43 ?_
      refine h_bipush hX dX7_number_44 kb_48 ?_
      refine h_isub hX dX7_number_46 ?_
      refine gH.leti (fun v2_5 => ?_)
      refine h_istore_n hX dX7_number_47 rfl (by decide) (lv' := [(0, .ref (aC B 1)), (1, .int v1), (2, .int v2_5), (3, .int s.2.1)]) rfl ?_
      refine h_aload_n hX dX7_number_48 rfl rfl ?_
      refine h_dup hX dX7_number_49 rfl ?_
      refine get_RX7_19_C1 hX dX7_number_50 ?_
      refine h_iconst hX dX7_number_53 ki_1 ?_
      refine h_iadd hX dX7_number_54 ?_
      refine put_RX7_19_C1 hX dX7_number_55 ?_
      refine gH.letw (w := fun y => wdC B W_spillsNow W_drawn T_length y T_bytes D_cells D_clauses G_length G_code A_size A_chosen A_codes A_lengths A_stack Y_cells Y_clauses N_marbles N_chipped N_swallowed N_sweets N_day N_owners P_next P_kept P_hasImage P_image P_acts P_entries P_imageEntries S_fewest S_row S_strengths U_size U_found U_places U_kinds U_holds U_fitting U_tally L_letters L_firstCells L_secondCells L_firstBest L_secondBest W_refusals ++ fr) (fun T_at_6 => ?_)
      refine h_iincc hX dX7_number_58 rfl ki_1 (by decide) (lv' := [(0, .ref (aC B 1)), (1, .int v1), (2, .int v2_5), (3, .int (s.2.1 + 1))]) rfl ?_
      refine h_goto hX dX7_number_61 (tgt := 18) (by decide) ?_
      exact gH.some' (fun h => h)
set_option maxRecDepth 4000 in
theorem w_Tape_number {p0 : Int32} (hX : gOk B X RX7 cX7_number 4 1 (some .int)) : gH B X (fun r : (Int32 × Int32) => gFin X (some (.int r.1)) (wdC B W_spillsNow W_drawn T_length r.2 T_bytes D_cells D_clauses G_length G_code A_size A_chosen A_codes A_lengths A_stack Y_cells Y_clauses N_marbles N_chipped N_swallowed N_sweets N_day N_owners P_next P_kept P_hasImage P_image P_acts P_entries P_imageEntries S_fewest S_row S_strengths U_size U_found U_places U_kinds U_holds U_fitting U_tally L_letters L_firstCells L_secondCells L_firstBest L_secondBest W_refusals ++ fr)) 0 [(0, .ref (aC B 1)), (1, .int p0)] [] (wdC B W_spillsNow W_drawn T_length T_at T_bytes D_cells D_clauses G_length G_code A_size A_chosen A_codes A_lengths A_stack Y_cells Y_clauses N_marbles N_chipped N_swallowed N_sweets N_day N_owners P_next P_kept P_hasImage P_image P_acts P_entries P_imageEntries S_fewest S_row S_strengths U_size U_found U_places U_kinds U_holds U_fitting U_tally L_letters L_firstCells L_secondCells L_firstBest L_secondBest W_refusals ++ fr) (f_Tape_number T_length T_at T_bytes p0) := by
  unfold f_Tape_number
  refine h_aload_n hX dX7_number_0 rfl rfl ?_
  refine h_callVi hX dX7_number_1 (cv_RX7_22) rc_C1 (As := []) (st := []) (fun _ h => c_Tape_sign h) rfl rfl (by decide) (Nat.le_of_ble_eq_true rfl) (fun a_1 => ?_)
  refine h_pop hX dX7_number_4 rfl ?_
  refine h_aload_n hX dX7_number_5 rfl rfl ?_
  refine h_callVi hX dX7_number_6 (cv_RX7_26) rc_C1 (As := []) (st := []) (fun _ h => c_Tape_isAtDigit h) rfl rfl (by decide) (Nat.le_of_ble_eq_true rfl) (fun a_2 => ?_)
  refine h_if_ne hX dX7_number_9 (tgt := 14) (by decide) (fun _ => ?_) (fun _ => ?_)
  · refine h_iconst hX dX7_number_14 ki_0 ?_
    refine h_istore_n hX dX7_number_15 rfl (by decide) (lv' := [(0, .ref (aC B 1)), (1, .int p0), (2, .int 0)]) rfl ?_
    refine h_iconst hX dX7_number_16 ki_0 ?_
    refine h_istore_n hX dX7_number_17 rfl (by decide) (lv' := [(0, .ref (aC B 1)), (1, .int p0), (2, .int 0), (3, .int 0)]) rfl ?_
    exact gH.loop (lvf := fun z : (Int32 × Int32 × Int32) => [(0, .ref (aC B 1)), (1, .int p0), (2, .int z.1), (3, .int z.2.1)]) (wf := fun z : (Int32 × Int32 × Int32) => wdC B W_spillsNow W_drawn T_length z.2.2 T_bytes D_cells D_clauses G_length G_code A_size A_chosen A_codes A_lengths A_stack Y_cells Y_clauses N_marbles N_chipped N_swallowed N_sweets N_day N_owners P_next P_kept P_hasImage P_image P_acts P_entries P_imageEntries S_fewest S_row S_strengths U_size U_found U_places U_kinds U_holds U_fitting U_tally L_letters L_firstCells L_secondCells L_firstBest L_secondBest W_refusals ++ fr) (fun z => w_Tape_number_L18 hX z) (0, 0, a_1.2)
  · refine h_iconst hX dX7_number_12 ki_m1 ?_
    exact h_ret hX (rv := some (.int ((-1)))) dX7_number_13 trivial (fun h => h)
theorem c_Tape_number {p0 : Int32} {r : (Int32 × Int32)} (h : f_Tape_number T_length T_at T_bytes p0 = some r) : gMet B 1 yX7_number cX7_number 4 (some .int) [.ref (aC B 1), .int p0] (wdC B W_spillsNow W_drawn T_length T_at T_bytes D_cells D_clauses G_length G_code A_size A_chosen A_codes A_lengths A_stack Y_cells Y_clauses N_marbles N_chipped N_swallowed N_sweets N_day N_owners P_next P_kept P_hasImage P_image P_acts P_entries P_imageEntries S_fewest S_row S_strengths U_size U_found U_places U_kinds U_holds U_fitting U_tally L_letters L_firstCells L_secondCells L_firstBest L_secondBest W_refusals ++ fr) (some (.int r.1)) (wdC B W_spillsNow W_drawn T_length r.2 T_bytes D_cells D_clauses G_length G_code A_size A_chosen A_codes A_lengths A_stack Y_cells Y_clauses N_marbles N_chipped N_swallowed N_sweets N_day N_owners P_next P_kept P_hasImage P_image P_acts P_entries P_imageEntries S_fewest S_row S_strengths U_size U_found U_places U_kinds U_holds U_fitting U_tally L_letters L_firstCells L_secondCells L_firstBest L_secondBest W_refusals ++ fr) :=
  gMet.of rfl (Nat.le_of_ble_eq_true rfl) (fun X hX hF => w_Tape_number hX r h hF)
set_option maxRecDepth 4000 in
theorem w_Tape_stepBack (hX : gOk B X RX7 cX7_stepBack 1 0 none) : gH B X (fun r : Int32 => gFin X (none) (wdC B W_spillsNow W_drawn T_length r T_bytes D_cells D_clauses G_length G_code A_size A_chosen A_codes A_lengths A_stack Y_cells Y_clauses N_marbles N_chipped N_swallowed N_sweets N_day N_owners P_next P_kept P_hasImage P_image P_acts P_entries P_imageEntries S_fewest S_row S_strengths U_size U_found U_places U_kinds U_holds U_fitting U_tally L_letters L_firstCells L_secondCells L_firstBest L_secondBest W_refusals ++ fr)) 0 [(0, .ref (aC B 1))] [] (wdC B W_spillsNow W_drawn T_length T_at T_bytes D_cells D_clauses G_length G_code A_size A_chosen A_codes A_lengths A_stack Y_cells Y_clauses N_marbles N_chipped N_swallowed N_sweets N_day N_owners P_next P_kept P_hasImage P_image P_acts P_entries P_imageEntries S_fewest S_row S_strengths U_size U_found U_places U_kinds U_holds U_fitting U_tally L_letters L_firstCells L_secondCells L_firstBest L_secondBest W_refusals ++ fr) (f_Tape_stepBack T_at) := by
  unfold f_Tape_stepBack
  refine h_aload_n hX dX7_stepBack_0 rfl rfl ?_
  refine h_dup hX dX7_stepBack_1 rfl ?_
  refine get_RX7_19_C1 hX dX7_stepBack_2 ?_
  refine h_iconst hX dX7_stepBack_5 ki_1 ?_
  refine h_isub hX dX7_stepBack_6 ?_
  refine put_RX7_19_C1 hX dX7_stepBack_7 ?_
  refine gH.letw (w := fun y => wdC B W_spillsNow W_drawn T_length y T_bytes D_cells D_clauses G_length G_code A_size A_chosen A_codes A_lengths A_stack Y_cells Y_clauses N_marbles N_chipped N_swallowed N_sweets N_day N_owners P_next P_kept P_hasImage P_image P_acts P_entries P_imageEntries S_fewest S_row S_strengths U_size U_found U_places U_kinds U_holds U_fitting U_tally L_letters L_firstCells L_secondCells L_firstBest L_secondBest W_refusals ++ fr) (fun T_at_1 => ?_)
  exact h_ret hX (rv := none) dX7_stepBack_10 trivial (fun h => h)
theorem c_Tape_stepBack {r : Int32} (h : f_Tape_stepBack T_at = some r) : gMet B 0 yX7_stepBack cX7_stepBack 1 none [.ref (aC B 1)] (wdC B W_spillsNow W_drawn T_length T_at T_bytes D_cells D_clauses G_length G_code A_size A_chosen A_codes A_lengths A_stack Y_cells Y_clauses N_marbles N_chipped N_swallowed N_sweets N_day N_owners P_next P_kept P_hasImage P_image P_acts P_entries P_imageEntries S_fewest S_row S_strengths U_size U_found U_places U_kinds U_holds U_fitting U_tally L_letters L_firstCells L_secondCells L_firstBest L_secondBest W_refusals ++ fr) (none) (wdC B W_spillsNow W_drawn T_length r T_bytes D_cells D_clauses G_length G_code A_size A_chosen A_codes A_lengths A_stack Y_cells Y_clauses N_marbles N_chipped N_swallowed N_sweets N_day N_owners P_next P_kept P_hasImage P_image P_acts P_entries P_imageEntries S_fewest S_row S_strengths U_size U_found U_places U_kinds U_holds U_fitting U_tally L_letters L_firstCells L_secondCells L_firstBest L_secondBest W_refusals ++ fr) :=
  gMet.of rfl (Nat.le_of_ble_eq_true rfl) (fun X hX hF => w_Tape_stepBack hX r h hF)
set_option maxRecDepth 4000 in
theorem w_Yard_tellLatest_C4 {p0 : Int32} {p1 : Int32} {p2 : Int32} (hX : gOk B X RX8 cX8_tellLatest 4 0 none) : gH B X (fun r : (Nat → Int32) => gFin X (none) (wdC B W_spillsNow W_drawn T_length T_at T_bytes r D_clauses G_length G_code A_size A_chosen A_codes A_lengths A_stack Y_cells Y_clauses N_marbles N_chipped N_swallowed N_sweets N_day N_owners P_next P_kept P_hasImage P_image P_acts P_entries P_imageEntries S_fewest S_row S_strengths U_size U_found U_places U_kinds U_holds U_fitting U_tally L_letters L_firstCells L_secondCells L_firstBest L_secondBest W_refusals ++ fr)) 0 [(0, .ref (aC B 4)), (1, .int p0), (2, .int p1), (3, .int p2)] [] (wdC B W_spillsNow W_drawn T_length T_at T_bytes D_cells D_clauses G_length G_code A_size A_chosen A_codes A_lengths A_stack Y_cells Y_clauses N_marbles N_chipped N_swallowed N_sweets N_day N_owners P_next P_kept P_hasImage P_image P_acts P_entries P_imageEntries S_fewest S_row S_strengths U_size U_found U_places U_kinds U_holds U_fitting U_tally L_letters L_firstCells L_secondCells L_firstBest L_secondBest W_refusals ++ fr) (f_Yard_tellLatest_C4 D_cells D_clauses p0 p1 p2) := by
  unfold f_Yard_tellLatest_C4
  refine h_aload_n hX dX8_tellLatest_0 rfl rfl ?_
  refine get_RX8_18_C4 hX dX8_tellLatest_1 ?_
  refine h_iload_n hX dX8_tellLatest_4 rfl rfl ?_
  refine ald_C6 hX dX8_tellLatest_5 ?_
  refine h_if_le hX dX8_tellLatest_6 (tgt := 33) (by decide) (fun _ => ?_) (fun _ => ?_)
  · exact h_ret hX (rv := none) dX8_tellLatest_33 trivial (fun h => h)
  · refine h_aload_n hX dX8_tellLatest_9 rfl rfl ?_
    refine get_RX8_9_C4 hX dX8_tellLatest_10 ?_
    refine h_gets hX 1 (q := ("FIRST_ROW", tab1)) rfl (by decide +kernel) dX8_tellLatest_13 ?_
    refine h_iload_n hX dX8_tellLatest_16 rfl rfl ?_
    refine h_tld hX 1 rfl dX8_tellLatest_17 ?_
    refine h_aload_n hX dX8_tellLatest_18 rfl rfl ?_
    refine get_RX8_18_C4 hX dX8_tellLatest_19 ?_
    refine h_iload_n hX dX8_tellLatest_22 rfl rfl ?_
    refine ald_C6 hX dX8_tellLatest_23 ?_
    refine h_iadd hX dX8_tellLatest_24 ?_
    refine h_iconst hX dX8_tellLatest_25 ki_1 ?_
    refine h_isub hX dX8_tellLatest_26 ?_
    refine h_iconst hX dX8_tellLatest_27 ki_3 ?_
    refine h_imul hX dX8_tellLatest_28 ?_
    refine h_iload_n hX dX8_tellLatest_29 rfl rfl ?_
    refine h_iadd hX dX8_tellLatest_30 ?_
    refine h_iload_n hX dX8_tellLatest_31 rfl rfl ?_
    refine ast_C5 hX dX8_tellLatest_32 ?_
    refine gH.letw (w := fun y => wdC B W_spillsNow W_drawn T_length T_at T_bytes y D_clauses G_length G_code A_size A_chosen A_codes A_lengths A_stack Y_cells Y_clauses N_marbles N_chipped N_swallowed N_sweets N_day N_owners P_next P_kept P_hasImage P_image P_acts P_entries P_imageEntries S_fewest S_row S_strengths U_size U_found U_places U_kinds U_holds U_fitting U_tally L_letters L_firstCells L_secondCells L_firstBest L_secondBest W_refusals ++ fr) (fun D_cells_1 => ?_)
    exact h_ret hX (rv := none) dX8_tellLatest_33 trivial (fun h => h)
theorem c_Yard_tellLatest_C4 {p0 : Int32} {p1 : Int32} {p2 : Int32} {r : (Nat → Int32)} (h : f_Yard_tellLatest_C4 D_cells D_clauses p0 p1 p2 = some r) : gMet B 0 yX8_tellLatest cX8_tellLatest 4 none [.ref (aC B 4), .int p0, .int p1, .int p2] (wdC B W_spillsNow W_drawn T_length T_at T_bytes D_cells D_clauses G_length G_code A_size A_chosen A_codes A_lengths A_stack Y_cells Y_clauses N_marbles N_chipped N_swallowed N_sweets N_day N_owners P_next P_kept P_hasImage P_image P_acts P_entries P_imageEntries S_fewest S_row S_strengths U_size U_found U_places U_kinds U_holds U_fitting U_tally L_letters L_firstCells L_secondCells L_firstBest L_secondBest W_refusals ++ fr) (none) (wdC B W_spillsNow W_drawn T_length T_at T_bytes r D_clauses G_length G_code A_size A_chosen A_codes A_lengths A_stack Y_cells Y_clauses N_marbles N_chipped N_swallowed N_sweets N_day N_owners P_next P_kept P_hasImage P_image P_acts P_entries P_imageEntries S_fewest S_row S_strengths U_size U_found U_places U_kinds U_holds U_fitting U_tally L_letters L_firstCells L_secondCells L_firstBest L_secondBest W_refusals ++ fr) :=
  gMet.of rfl (Nat.le_of_ble_eq_true rfl) (fun X hX hF => w_Yard_tellLatest_C4 hX r h hF)
set_option maxRecDepth 4000 in
theorem w_YardR_readValue_J42 (hX : gOk B X RX9 cX9_readValue 4 2 (some .boolean)) : gH B X (fun r : (Int32 × Int32 × (Nat → Int32)) => gFin X (some (.int r.1)) (wdC B W_spillsNow W_drawn T_length r.2.1 T_bytes r.2.2 D_clauses G_length G_code A_size A_chosen A_codes A_lengths A_stack Y_cells Y_clauses N_marbles N_chipped N_swallowed N_sweets N_day N_owners P_next P_kept P_hasImage P_image P_acts P_entries P_imageEntries S_fewest S_row S_strengths U_size U_found U_places U_kinds U_holds U_fitting U_tally L_letters L_firstCells L_secondCells L_firstBest L_secondBest W_refusals ++ fr)) 42 [(0, .ref (aC B 3))] [] (wdC B W_spillsNow W_drawn T_length T_at T_bytes D_cells D_clauses G_length G_code A_size A_chosen A_codes A_lengths A_stack Y_cells Y_clauses N_marbles N_chipped N_swallowed N_sweets N_day N_owners P_next P_kept P_hasImage P_image P_acts P_entries P_imageEntries S_fewest S_row S_strengths U_size U_found U_places U_kinds U_holds U_fitting U_tally L_letters L_firstCells L_secondCells L_firstBest L_secondBest W_refusals ++ fr) (f_YardR_readValue_J42 T_at D_cells) := by
  unfold f_YardR_readValue_J42
  refine h_aload_n hX dX9_readValue_42 rfl rfl ?_
  refine get_RX9_18_C3 hX dX9_readValue_43 ?_
  refine h_callVv hX dX9_readValue_46 (cv_RX9_73) rc_C1 (As := []) (st := []) (fun _ h => c_Tape_stepBack h) rfl rfl (by decide) (Nat.le_of_ble_eq_true rfl) (fun a_2 => ?_)
  refine h_iconst hX dX9_readValue_49 ki_0 ?_
  exact h_ret hX (rv := some (.int 0)) dX9_readValue_50 rfl (fun h => h)
set_option maxRecDepth 4000 in
theorem w_YardR_readValue {p0 : Int32} {p1 : Int32} (hX : gOk B X RX9 cX9_readValue 4 2 (some .boolean)) : gH B X (fun r : (Int32 × Int32 × (Nat → Int32)) => gFin X (some (.int r.1)) (wdC B W_spillsNow W_drawn T_length r.2.1 T_bytes r.2.2 D_clauses G_length G_code A_size A_chosen A_codes A_lengths A_stack Y_cells Y_clauses N_marbles N_chipped N_swallowed N_sweets N_day N_owners P_next P_kept P_hasImage P_image P_acts P_entries P_imageEntries S_fewest S_row S_strengths U_size U_found U_places U_kinds U_holds U_fitting U_tally L_letters L_firstCells L_secondCells L_firstBest L_secondBest W_refusals ++ fr)) 0 [(0, .ref (aC B 3)), (1, .int p0), (2, .int p1)] [] (wdC B W_spillsNow W_drawn T_length T_at T_bytes D_cells D_clauses G_length G_code A_size A_chosen A_codes A_lengths A_stack Y_cells Y_clauses N_marbles N_chipped N_swallowed N_sweets N_day N_owners P_next P_kept P_hasImage P_image P_acts P_entries P_imageEntries S_fewest S_row S_strengths U_size U_found U_places U_kinds U_holds U_fitting U_tally L_letters L_firstCells L_secondCells L_firstBest L_secondBest W_refusals ++ fr) (f_YardR_readValue T_length T_at T_bytes D_cells D_clauses p0 p1) := by
  unfold f_YardR_readValue
  refine h_aload_n hX dX9_readValue_0 rfl rfl ?_
  refine get_RX9_18_C3 hX dX9_readValue_1 ?_
  refine h_iconst hX dX9_readValue_4 ki_2 ?_
  refine h_callVi hX dX9_readValue_5 (cv_RX9_63) rc_C1 (As := [.int 2]) (st := []) (fun _ h => c_Tape_number h) rfl rfl (by decide) (Nat.le_of_ble_eq_true rfl) (fun a_1 => ?_)
  refine h_istore_n hX dX9_readValue_8 rfl (by decide) (lv' := [(0, .ref (aC B 3)), (1, .int p0), (2, .int p1), (3, .int a_1.1)]) rfl ?_
  refine h_iload_n hX dX9_readValue_9 rfl rfl ?_
  refine h_iconst hX dX9_readValue_10 ki_m1 ?_
  refine h_icmp_ne hX dX9_readValue_11 (tgt := 16) (by decide) (fun _ => ?_) (fun _ => ?_)
  · refine h_iload_n hX dX9_readValue_16 rfl rfl ?_
    refine h_gets hX 4 (q := ("ITEM_LEAST", tab4)) rfl (by decide +kernel) dX9_readValue_17 ?_
    refine h_iload_n hX dX9_readValue_20 rfl rfl ?_
    refine h_iconst hX dX9_readValue_21 ki_3 ?_
    refine h_imul hX dX9_readValue_22 ?_
    refine h_iload_n hX dX9_readValue_23 rfl rfl ?_
    refine h_iadd hX dX9_readValue_24 ?_
    refine h_tld hX 4 rfl dX9_readValue_25 ?_
    refine h_icmp_lt hX dX9_readValue_26 (tgt := 42) (by decide) (fun _ => ?_) (fun _ => ?_)
    · refine gH.dead [0] rfl ?_
      exact w_YardR_readValue_J42 hX
    · refine h_iload_n hX dX9_readValue_29 rfl rfl ?_
      refine h_gets hX 5 (q := ("ITEM_MOST", tab5)) rfl (by decide +kernel) dX9_readValue_30 ?_
      refine h_iload_n hX dX9_readValue_33 rfl rfl ?_
      refine h_iconst hX dX9_readValue_34 ki_3 ?_
      refine h_imul hX dX9_readValue_35 ?_
      refine h_iload_n hX dX9_readValue_36 rfl rfl ?_
      refine h_iadd hX dX9_readValue_37 ?_
      refine h_tld hX 5 rfl dX9_readValue_38 ?_
      refine h_icmp_le hX dX9_readValue_39 (tgt := 51) (by decide) (fun _ => ?_) (fun _ => ?_)
      · refine h_aload_n hX dX9_readValue_51 rfl rfl ?_
        refine get_RX9_12_C3 hX dX9_readValue_52 ?_
        refine h_iload_n hX dX9_readValue_55 rfl rfl ?_
        refine h_iload_n hX dX9_readValue_56 rfl rfl ?_
        refine h_iload_n hX dX9_readValue_57 rfl rfl ?_
        refine h_callVv hX dX9_readValue_58 (cv_RX9_76) rc_C4 (As := [.int p0, .int p1, .int a_1.1]) (st := []) (fun _ h => c_Yard_tellLatest_C4 h) rfl rfl (by decide) (Nat.le_of_ble_eq_true rfl) (fun a_3 => ?_)
        refine h_iconst hX dX9_readValue_61 ki_1 ?_
        exact h_ret hX (rv := some (.int 1)) dX9_readValue_62 rfl (fun h => h)
      · refine gH.dead [0] rfl ?_
        exact w_YardR_readValue_J42 hX
  · refine h_iconst hX dX9_readValue_14 ki_0 ?_
    exact h_ret hX (rv := some (.int 0)) dX9_readValue_15 rfl (fun h => h)
theorem c_YardR_readValue {p0 : Int32} {p1 : Int32} {r : (Int32 × Int32 × (Nat → Int32))} (h : f_YardR_readValue T_length T_at T_bytes D_cells D_clauses p0 p1 = some r) : gMet B 2 yX9_readValue cX9_readValue 4 (some .boolean) [.ref (aC B 3), .int p0, .int p1] (wdC B W_spillsNow W_drawn T_length T_at T_bytes D_cells D_clauses G_length G_code A_size A_chosen A_codes A_lengths A_stack Y_cells Y_clauses N_marbles N_chipped N_swallowed N_sweets N_day N_owners P_next P_kept P_hasImage P_image P_acts P_entries P_imageEntries S_fewest S_row S_strengths U_size U_found U_places U_kinds U_holds U_fitting U_tally L_letters L_firstCells L_secondCells L_firstBest L_secondBest W_refusals ++ fr) (some (.int r.1)) (wdC B W_spillsNow W_drawn T_length r.2.1 T_bytes r.2.2 D_clauses G_length G_code A_size A_chosen A_codes A_lengths A_stack Y_cells Y_clauses N_marbles N_chipped N_swallowed N_sweets N_day N_owners P_next P_kept P_hasImage P_image P_acts P_entries P_imageEntries S_fewest S_row S_strengths U_size U_found U_places U_kinds U_holds U_fitting U_tally L_letters L_firstCells L_secondCells L_firstBest L_secondBest W_refusals ++ fr) :=
  gMet.of rfl (Nat.le_of_ble_eq_true rfl) (fun X hX hF => w_YardR_readValue hX r h hF)
