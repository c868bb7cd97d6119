variable {B : gB} {X : gX} {fr : va_W} {W_spillsNow : Int32} {W_drawn : Int64} {T_length : Int32} {T_at : Int32} {T_bytes : Nat → Int32} {D_cells : Nat → Int32} {D_clauses : Nat → Int32} {G_length : Int32} {G_code : Nat → Int32} {A_size : Int32} {A_chosen : Int32} {A_codes : Nat → Int32} {A_lengths : Nat → Int32} {A_stack : Nat → Int32} {Y_cells : Nat → Int32} {Y_clauses : Nat → Int32} {N_marbles : Int32} {N_chipped : Int32} {N_swallowed : Int32} {N_sweets : Int32} {N_day : Int32} {N_owners : Nat → Int32} {P_next : Int32} {P_kept : Int32} {P_hasImage : Int32} {P_image : Int64} {P_acts : Nat → Int64} {P_entries : Nat → Int32} {P_imageEntries : Nat → Int32} {S_fewest : Int32} {S_row : Int32} {S_strengths : Nat → Int32} {U_size : Int32} {U_found : Int32} {U_places : Nat → Int32} {U_kinds : Nat → Int32} {U_holds : Nat → Int32} {U_fitting : Nat → Int32} {U_tally : Nat → Int32} {L_letters : Nat → Int32} {L_firstCells : Nat → Int32} {L_secondCells : Nat → Int32} {L_firstBest : Nat → Int32} {L_secondBest : Nat → Int32} {W_refusals : Nat → Int32}
set_option maxRecDepth 4000 in
theorem w_Past_goBackOne (hX : gOk B X RX5 cX5_goBackOne 1 1 (some .int)) : gH B X (fun r : (Int32 × Int32 × Int32 × Int32 × Int32 × (Nat → Int32) × Int32 × Int32) => gFin X (some (.int r.1)) (wdC B W_spillsNow W_drawn T_length T_at T_bytes D_cells D_clauses G_length G_code A_size A_chosen A_codes A_lengths A_stack Y_cells Y_clauses N_marbles r.2.1 r.2.2.1 r.2.2.2.1 r.2.2.2.2.1 r.2.2.2.2.2.1 r.2.2.2.2.2.2.1 r.2.2.2.2.2.2.2 P_hasImage P_image P_acts P_entries P_imageEntries S_fewest S_row S_strengths U_size U_found U_places U_kinds U_holds U_fitting U_tally L_letters L_firstCells L_secondCells L_firstBest L_secondBest W_refusals ++ fr)) 0 [(0, .ref (aC B 18))] [] (wdC B W_spillsNow W_drawn T_length T_at T_bytes D_cells D_clauses G_length G_code A_size A_chosen A_codes A_lengths A_stack Y_cells Y_clauses N_marbles N_chipped N_swallowed N_sweets N_day N_owners P_next P_kept P_hasImage P_image P_acts P_entries P_imageEntries S_fewest S_row S_strengths U_size U_found U_places U_kinds U_holds U_fitting U_tally L_letters L_firstCells L_secondCells L_firstBest L_secondBest W_refusals ++ fr) (f_Past_goBackOne N_marbles N_chipped N_swallowed N_sweets N_day N_owners P_next P_kept P_acts) := by
  unfold f_Past_goBackOne
  refine h_aload_n hX dX5_goBackOne_0 rfl rfl ?_
  refine get_RX5_26_C18 hX dX5_goBackOne_1 ?_
  refine h_if_ne hX dX5_goBackOne_4 (tgt := 9) (by decide) (fun _ => ?_) (fun _ => ?_)
  · refine h_aload_n hX dX5_goBackOne_9 rfl rfl ?_
    refine h_dup hX dX5_goBackOne_10 rfl ?_
    refine get_RX5_26_C18 hX dX5_goBackOne_11 ?_
    refine h_iconst hX dX5_goBackOne_14 ki_1 ?_
    refine h_isub hX dX5_goBackOne_15 ?_
    refine put_RX5_26_C18 hX dX5_goBackOne_16 ?_
    refine gH.letw (w := fun y => wdC B W_spillsNow W_drawn T_length T_at T_bytes D_cells D_clauses G_length G_code A_size A_chosen A_codes A_lengths A_stack Y_cells Y_clauses N_marbles N_chipped N_swallowed N_sweets N_day N_owners P_next y P_hasImage P_image P_acts P_entries P_imageEntries S_fewest S_row S_strengths U_size U_found U_places U_kinds U_holds U_fitting U_tally L_letters L_firstCells L_secondCells L_firstBest L_secondBest W_refusals ++ fr) (fun P_kept_1 => ?_)
    refine h_aload_n hX dX5_goBackOne_19 rfl rfl ?_
    refine h_aload_n hX dX5_goBackOne_20 rfl rfl ?_
    refine get_RX5_34_C18 hX dX5_goBackOne_21 ?_
    refine h_bipush hX dX5_goBackOne_24 kb_40 ?_
    refine h_iadd hX dX5_goBackOne_26 ?_
    refine h_iconst hX dX5_goBackOne_27 ki_1 ?_
    refine h_isub hX dX5_goBackOne_28 ?_
    refine h_bipush hX dX5_goBackOne_29 kb_40 ?_
    refine h_iremc hX dX5_goBackOne_31 (by decide) ?_
    refine put_RX5_34_C18 hX dX5_goBackOne_32 ?_
    refine gH.letw (w := fun y => wdC B W_spillsNow W_drawn T_length T_at T_bytes D_cells D_clauses G_length G_code A_size A_chosen A_codes A_lengths A_stack Y_cells Y_clauses N_marbles N_chipped N_swallowed N_sweets N_day N_owners y P_kept_1 P_hasImage P_image P_acts P_entries P_imageEntries S_fewest S_row S_strengths U_size U_found U_places U_kinds U_holds U_fitting U_tally L_letters L_firstCells L_secondCells L_firstBest L_secondBest W_refusals ++ fr) (fun P_next_2 => ?_)
    refine h_aload_n hX dX5_goBackOne_35 rfl rfl ?_
    refine get_RX5_22_C18 hX dX5_goBackOne_36 ?_
    refine h_aload_n hX dX5_goBackOne_39 rfl rfl ?_
    refine get_RX5_9_C18 hX dX5_goBackOne_40 ?_
    refine h_aload_n hX dX5_goBackOne_43 rfl rfl ?_
    refine get_RX5_34_C18 hX dX5_goBackOne_44 ?_
    refine ald_C19 hX dX5_goBackOne_47 ?_
    refine h_callVv hX dX5_goBackOne_48 (cv_RX5_49) rc_C16 (As := [.long (P_acts P_next_2.toNatClampNeg)]) (st := []) (fun _ h => c_Now_unpack h) rfl rfl (by decide) (Nat.le_of_ble_eq_true rfl) (fun a_3 => ?_)
    refine h_aload_n hX dX5_goBackOne_51 rfl rfl ?_
    refine get_RX5_26_C18 hX dX5_goBackOne_52 ?_
    exact h_ret hX (rv := some (.int P_kept_1)) dX5_goBackOne_55 trivial (fun h => h)
  · refine h_iconst hX dX5_goBackOne_7 ki_m1 ?_
    exact h_ret hX (rv := some (.int ((-1)))) dX5_goBackOne_8 trivial (fun h => h)
theorem c_Past_goBackOne {r : (Int32 × Int32 × Int32 × Int32 × Int32 × (Nat → Int32) × Int32 × Int32)} (h : f_Past_goBackOne N_marbles N_chipped N_swallowed N_sweets N_day N_owners P_next P_kept P_acts = some r) : gMet B 1 yX5_goBackOne cX5_goBackOne 1 (some .int) [.ref (aC B 18)] (wdC B W_spillsNow W_drawn T_length T_at T_bytes D_cells D_clauses G_length G_code A_size A_chosen A_codes A_lengths A_stack Y_cells Y_clauses N_marbles N_chipped N_swallowed N_sweets N_day N_owners P_next P_kept P_hasImage P_image P_acts P_entries P_imageEntries S_fewest S_row S_strengths U_size U_found U_places U_kinds U_holds U_fitting U_tally L_letters L_firstCells L_secondCells L_firstBest L_secondBest W_refusals ++ fr) (some (.int r.1)) (wdC B W_spillsNow W_drawn T_length T_at T_bytes D_cells D_clauses G_length G_code A_size A_chosen A_codes A_lengths A_stack Y_cells Y_clauses N_marbles r.2.1 r.2.2.1 r.2.2.2.1 r.2.2.2.2.1 r.2.2.2.2.2.1 r.2.2.2.2.2.2.1 r.2.2.2.2.2.2.2 P_hasImage P_image P_acts P_entries P_imageEntries S_fewest S_row S_strengths U_size U_found U_places U_kinds U_holds U_fitting U_tally L_letters L_firstCells L_secondCells L_firstBest L_secondBest W_refusals ++ fr) :=
  gMet.of rfl (Nat.le_of_ble_eq_true rfl) (fun X hX hF => w_Past_goBackOne hX r h hF)
set_option maxRecDepth 4000 in
theorem w_Main_undo (hX : gOk B X RX10 cX10_undo 1 2 (some .int)) : gH B X (fun r : (Int32 × Int32 × Int32 × Int32 × Int32 × (Nat → Int32) × Int32 × Int32) => gFin X (some (.int r.1)) (wdC B W_spillsNow W_drawn T_length T_at T_bytes D_cells D_clauses G_length G_code A_size A_chosen A_codes A_lengths A_stack Y_cells Y_clauses N_marbles r.2.1 r.2.2.1 r.2.2.2.1 r.2.2.2.2.1 r.2.2.2.2.2.1 r.2.2.2.2.2.2.1 r.2.2.2.2.2.2.2 P_hasImage P_image P_acts P_entries P_imageEntries S_fewest S_row S_strengths U_size U_found U_places U_kinds U_holds U_fitting U_tally L_letters L_firstCells L_secondCells L_firstBest L_secondBest W_refusals ++ fr)) 0 [(0, .ref (aC B 0))] [] (wdC B W_spillsNow W_drawn T_length T_at T_bytes D_cells D_clauses G_length G_code A_size A_chosen A_codes A_lengths A_stack Y_cells Y_clauses N_marbles N_chipped N_swallowed N_sweets N_day N_owners P_next P_kept P_hasImage P_image P_acts P_entries P_imageEntries S_fewest S_row S_strengths U_size U_found U_places U_kinds U_holds U_fitting U_tally L_letters L_firstCells L_secondCells L_firstBest L_secondBest W_refusals ++ fr) (f_Main_undo N_marbles N_chipped N_swallowed N_sweets N_day N_owners P_next P_kept P_acts) := by
  unfold f_Main_undo
  refine h_aload_n hX dX10_undo_0 rfl rfl ?_
  refine get_RX10_58_C0 hX dX10_undo_1 ?_
  refine h_callVi hX dX10_undo_4 (cv_RX10_261) rc_C18 (As := []) (st := []) (fun _ h => c_Past_goBackOne h) rfl rfl (by decide) (Nat.le_of_ble_eq_true rfl) (fun a_1 => ?_)
  exact h_ret hX (rv := some (.int a_1.1)) dX10_undo_7 trivial (fun h => h)
theorem c_Main_undo {r : (Int32 × Int32 × Int32 × Int32 × Int32 × (Nat → Int32) × Int32 × Int32)} (h : f_Main_undo N_marbles N_chipped N_swallowed N_sweets N_day N_owners P_next P_kept P_acts = some r) : gMet B 2 yX10_undo cX10_undo 1 (some .int) [.ref (aC B 0)] (wdC B W_spillsNow W_drawn T_length T_at T_bytes D_cells D_clauses G_length G_code A_size A_chosen A_codes A_lengths A_stack Y_cells Y_clauses N_marbles N_chipped N_swallowed N_sweets N_day N_owners P_next P_kept P_hasImage P_image P_acts P_entries P_imageEntries S_fewest S_row S_strengths U_size U_found U_places U_kinds U_holds U_fitting U_tally L_letters L_firstCells L_secondCells L_firstBest L_secondBest W_refusals ++ fr) (some (.int r.1)) (wdC B W_spillsNow W_drawn T_length T_at T_bytes D_cells D_clauses G_length G_code A_size A_chosen A_codes A_lengths A_stack Y_cells Y_clauses N_marbles r.2.1 r.2.2.1 r.2.2.2.1 r.2.2.2.2.1 r.2.2.2.2.2.1 r.2.2.2.2.2.2.1 r.2.2.2.2.2.2.2 P_hasImage P_image P_acts P_entries P_imageEntries S_fewest S_row S_strengths U_size U_found U_places U_kinds U_holds U_fitting U_tally L_letters L_firstCells L_secondCells L_firstBest L_secondBest W_refusals ++ fr) :=
  gMet.of rfl (Nat.le_of_ble_eq_true rfl) (fun X hX hF => w_Main_undo hX r h hF)
set_option maxRecDepth 4000 in
theorem w_Main_weather {p0 : Int32} (hX : gOk B X RX10 cX10_weather 2 4 (some .int)) : gH B X (fun r : (Int32 × (Nat → Int32)) => gFin X (some (.int r.1)) (wdC B W_spillsNow W_drawn T_length T_at T_bytes D_cells D_clauses G_length G_code A_size A_chosen A_codes A_lengths A_stack Y_cells Y_clauses N_marbles N_chipped N_swallowed N_sweets N_day N_owners P_next P_kept P_hasImage P_image P_acts P_entries P_imageEntries S_fewest S_row r.2 U_size U_found U_places U_kinds U_holds U_fitting U_tally L_letters L_firstCells L_secondCells L_firstBest L_secondBest W_refusals ++ fr)) 0 [(0, .ref (aC B 0)), (1, .int p0)] [] (wdC B W_spillsNow W_drawn T_length T_at T_bytes D_cells D_clauses G_length G_code A_size A_chosen A_codes A_lengths A_stack Y_cells Y_clauses N_marbles N_chipped N_swallowed N_sweets N_day N_owners P_next P_kept P_hasImage P_image P_acts P_entries P_imageEntries S_fewest S_row S_strengths U_size U_found U_places U_kinds U_holds U_fitting U_tally L_letters L_firstCells L_secondCells L_firstBest L_secondBest W_refusals ++ fr) (f_Main_weather Y_cells Y_clauses N_marbles N_chipped N_owners S_strengths p0) := by
  unfold f_Main_weather
  refine h_aload_n hX dX10_weather_0 rfl rfl ?_
  refine get_RX10_42_C0 hX dX10_weather_1 ?_
  refine h_callVi hX dX10_weather_4 (cv_RX10_139) rc_C13 (As := []) (st := []) (fun _ h => c_Yard_stands h) rfl rfl (by decide) (Nat.le_of_ble_eq_true rfl) (fun a_1 => ?_)
  refine h_if_eq hX dX10_weather_7 (tgt := 20) (by decide) (fun _ => ?_) (fun _ => ?_)
  · refine h_ldc hX dX10_weather_20 cst_RX10_180 ?_
    exact h_ret hX (rv := some (.int ((-1000000)))) dX10_weather_22 trivial (fun h => h)
  · refine h_iload_n hX dX10_weather_10 rfl rfl ?_
    refine h_if_lt hX dX10_weather_11 (tgt := 20) (by decide) (fun _ => ?_) (fun _ => ?_)
    · refine h_ldc hX dX10_weather_20 cst_RX10_180 ?_
      exact h_ret hX (rv := some (.int ((-1000000)))) dX10_weather_22 trivial (fun h => h)
    · refine h_iload_n hX dX10_weather_14 rfl rfl ?_
      refine h_bipush hX dX10_weather_15 kb_10 ?_
      refine h_icmp_lt hX dX10_weather_17 (tgt := 23) (by decide) (fun _ => ?_) (fun _ => ?_)
      · refine h_aload_n hX dX10_weather_23 rfl rfl ?_
        refine get_RX10_67_C0 hX dX10_weather_24 ?_
        refine h_callVv hX dX10_weather_27 (cv_RX10_296) rc_C22 (As := []) (st := []) (fun _ h => c_Sky_measure h) rfl rfl (by decide) (Nat.le_of_ble_eq_true rfl) (fun a_2 => ?_)
        refine h_aload_n hX dX10_weather_30 rfl rfl ?_
        refine get_RX10_67_C0 hX dX10_weather_31 ?_
        refine h_iload_n hX dX10_weather_34 rfl rfl ?_
        refine h_callVi hX dX10_weather_35 (cv_RX10_299) rc_C22 (As := [.int p0]) (st := []) (fun _ h => c_Sky_strongestKind h) rfl rfl (by decide) (Nat.le_of_ble_eq_true rfl) (fun a_3 => ?_)
        exact h_ret hX (rv := some (.int a_3)) dX10_weather_38 trivial (fun h => h)
      · refine h_ldc hX dX10_weather_20 cst_RX10_180 ?_
        exact h_ret hX (rv := some (.int ((-1000000)))) dX10_weather_22 trivial (fun h => h)
theorem c_Main_weather {p0 : Int32} {r : (Int32 × (Nat → Int32))} (h : f_Main_weather Y_cells Y_clauses N_marbles N_chipped N_owners S_strengths p0 = some r) : gMet B 4 yX10_weather cX10_weather 2 (some .int) [.ref (aC B 0), .int p0] (wdC B W_spillsNow W_drawn T_length T_at T_bytes D_cells D_clauses G_length G_code A_size A_chosen A_codes A_lengths A_stack Y_cells Y_clauses N_marbles N_chipped N_swallowed N_sweets N_day N_owners P_next P_kept P_hasImage P_image P_acts P_entries P_imageEntries S_fewest S_row S_strengths U_size U_found U_places U_kinds U_holds U_fitting U_tally L_letters L_firstCells L_secondCells L_firstBest L_secondBest W_refusals ++ fr) (some (.int r.1)) (wdC B W_spillsNow W_drawn T_length T_at T_bytes D_cells D_clauses G_length G_code A_size A_chosen A_codes A_lengths A_stack Y_cells Y_clauses N_marbles N_chipped N_swallowed N_sweets N_day N_owners P_next P_kept P_hasImage P_image P_acts P_entries P_imageEntries S_fewest S_row r.2 U_size U_found U_places U_kinds U_holds U_fitting U_tally L_letters L_firstCells L_secondCells L_firstBest L_secondBest W_refusals ++ fr) :=
  gMet.of rfl (Nat.le_of_ble_eq_true rfl) (fun X hX hF => w_Main_weather hX r h hF)
set_option maxRecDepth 4000 in
theorem w_Main_who {p0 : Int32} (hX : gOk B X RX10 cX10_who 3 6 (some .int)) : gH B X (fun r : (Int32 × (Nat → Int32) × Int32 × (Nat → Int32)) => gFin X (some (.int r.1)) (wdC B W_spillsNow W_drawn T_length T_at T_bytes D_cells D_clauses G_length G_code A_size A_chosen A_codes A_lengths A_stack Y_cells Y_clauses N_marbles N_chipped N_swallowed N_sweets N_day N_owners P_next P_kept P_hasImage P_image P_acts P_entries P_imageEntries S_fewest S_row r.2.1 U_size r.2.2.1 U_places U_kinds U_holds r.2.2.2 U_tally L_letters L_firstCells L_secondCells L_firstBest L_secondBest W_refusals ++ fr)) 0 [(0, .ref (aC B 0)), (1, .int p0)] [] (wdC B W_spillsNow W_drawn T_length T_at T_bytes D_cells D_clauses G_length G_code A_size A_chosen A_codes A_lengths A_stack Y_cells Y_clauses N_marbles N_chipped N_swallowed N_sweets N_day N_owners P_next P_kept P_hasImage P_image P_acts P_entries P_imageEntries S_fewest S_row S_strengths U_size U_found U_places U_kinds U_holds U_fitting U_tally L_letters L_firstCells L_secondCells L_firstBest L_secondBest W_refusals ++ fr) (f_Main_who Y_cells Y_clauses N_marbles N_chipped N_owners S_strengths U_size U_found U_places U_kinds U_holds U_fitting p0) := by
  unfold f_Main_who
  refine h_aload_n hX dX10_who_0 rfl rfl ?_
  refine get_RX10_42_C0 hX dX10_who_1 ?_
  refine h_callVi hX dX10_who_4 (cv_RX10_139) rc_C13 (As := []) (st := []) (fun _ h => c_Yard_stands h) rfl rfl (by decide) (Nat.le_of_ble_eq_true rfl) (fun a_1 => ?_)
  refine h_if_ne hX dX10_who_7 (tgt := 12) (by decide) (fun _ => ?_) (fun _ => ?_)
  · refine h_aload_n hX dX10_who_12 rfl rfl ?_
    refine get_RX10_76_C0 hX dX10_who_13 ?_
    refine h_callVi hX dX10_who_16 (cv_RX10_322) rc_C24 (As := []) (st := []) (fun _ h => c_Clues_search h) rfl rfl (by decide) (Nat.le_of_ble_eq_true rfl) (fun a_2 => ?_)
    refine h_istore_n hX dX10_who_19 rfl (by decide) (lv' := [(0, .ref (aC B 0)), (1, .int p0), (2, .int a_2.1)]) rfl ?_
    refine h_iload_n hX dX10_who_20 rfl rfl ?_
    refine h_iconst hX dX10_who_21 ki_m1 ?_
    refine h_icmp_ne hX dX10_who_22 (tgt := 29) (by decide) (fun _ => ?_) (fun _ => ?_)
    · refine h_aload_n hX dX10_who_29 rfl rfl ?_
      refine get_RX10_76_C0 hX dX10_who_30 ?_
      refine h_iload_n hX dX10_who_33 rfl rfl ?_
      refine h_callVi hX dX10_who_34 (cv_RX10_325) rc_C24 (As := [.int p0]) (st := []) (fun _ h => c_Clues_fittingAt h) rfl rfl (by decide) (Nat.le_of_ble_eq_true rfl) (fun a_3 => ?_)
      exact h_ret hX (rv := some (.int a_3)) dX10_who_37 trivial (fun h => h)
    · refine h_iload_n hX dX10_who_25 rfl rfl ?_
      refine h_goto hX dX10_who_26 (tgt := 37) (by decide) ?_
      exact h_ret hX (rv := some (.int a_2.1)) dX10_who_37 trivial (fun h => h)
  · refine h_iconst hX dX10_who_10 ki_m1 ?_
    exact h_ret hX (rv := some (.int ((-1)))) dX10_who_11 trivial (fun h => h)
theorem c_Main_who {p0 : Int32} {r : (Int32 × (Nat → Int32) × Int32 × (Nat → Int32))} (h : f_Main_who Y_cells Y_clauses N_marbles N_chipped N_owners S_strengths U_size U_found U_places U_kinds U_holds U_fitting p0 = some r) : gMet B 6 yX10_who cX10_who 3 (some .int) [.ref (aC B 0), .int p0] (wdC B W_spillsNow W_drawn T_length T_at T_bytes D_cells D_clauses G_length G_code A_size A_chosen A_codes A_lengths A_stack Y_cells Y_clauses N_marbles N_chipped N_swallowed N_sweets N_day N_owners P_next P_kept P_hasImage P_image P_acts P_entries P_imageEntries S_fewest S_row S_strengths U_size U_found U_places U_kinds U_holds U_fitting U_tally L_letters L_firstCells L_secondCells L_firstBest L_secondBest W_refusals ++ fr) (some (.int r.1)) (wdC B W_spillsNow W_drawn T_length T_at T_bytes D_cells D_clauses G_length G_code A_size A_chosen A_codes A_lengths A_stack Y_cells Y_clauses N_marbles N_chipped N_swallowed N_sweets N_day N_owners P_next P_kept P_hasImage P_image P_acts P_entries P_imageEntries S_fewest S_row r.2.1 U_size r.2.2.1 U_places U_kinds U_holds r.2.2.2 U_tally L_letters L_firstCells L_secondCells L_firstBest L_secondBest W_refusals ++ fr) :=
  gMet.of rfl (Nat.le_of_ble_eq_true rfl) (fun X hX hF => w_Main_who hX r h hF)
set_option maxRecDepth 4000 in
theorem w_Main_wins {p0 : Int32} {p1 : Int32} {p2 : Int32} {p3 : Int32} (hX : gOk B X RX10 cX10_wins 5 6 (some .int)) : gH B X (fun r : (Int32 × (Nat → Int32) × (Nat → Int32)) => gFin X (some (.int r.1)) (wdC B W_spillsNow W_drawn T_length T_at T_bytes D_cells D_clauses G_length G_code A_size A_chosen A_codes A_lengths r.2.1 Y_cells Y_clauses N_marbles N_chipped N_swallowed N_sweets N_day N_owners P_next P_kept P_hasImage P_image P_acts P_entries P_imageEntries S_fewest S_row S_strengths U_size U_found U_places U_kinds U_holds U_fitting U_tally r.2.2 L_firstCells L_secondCells L_firstBest L_secondBest W_refusals ++ fr)) 0 [(0, .ref (aC B 0)), (1, .int p0), (2, .int p1), (3, .int p2), (4, .int p3)] [] (wdC B W_spillsNow W_drawn T_length T_at T_bytes D_cells D_clauses G_length G_code A_size A_chosen A_codes A_lengths A_stack Y_cells Y_clauses N_marbles N_chipped N_swallowed N_sweets N_day N_owners P_next P_kept P_hasImage P_image P_acts P_entries P_imageEntries S_fewest S_row S_strengths U_size U_found U_places U_kinds U_holds U_fitting U_tally L_letters L_firstCells L_secondCells L_firstBest L_secondBest W_refusals ++ fr) (f_Main_wins A_size A_chosen A_codes A_lengths A_stack Y_cells Y_clauses N_marbles N_chipped N_swallowed N_day N_owners L_letters p0 p1 p2 p3) := by
  unfold f_Main_wins
  refine h_aload_n hX dX10_wins_0 rfl rfl ?_
  refine get_RX10_85_C0 hX dX10_wins_1 ?_
  refine h_iload_n hX dX10_wins_4 rfl rfl ?_
  refine h_iload_n hX dX10_wins_5 rfl rfl ?_
  refine h_iload_n hX dX10_wins_6 rfl rfl ?_
  refine h_iload hX dX10_wins_7 rfl ?_
  refine h_callVi hX dX10_wins_9 (cv_RX10_213) rc_C30 (As := [.int p0, .int p1, .int p2, .int p3]) (st := []) (fun _ h => c_Lane_refusalOf h) rfl rfl (by decide) (Nat.le_of_ble_eq_true rfl) (fun a_1 => ?_)
  refine h_iconst hX dX10_wins_12 ki_m1 ?_
  refine h_icmp_eq hX dX10_wins_13 (tgt := 19) (by decide) (fun _ => ?_) (fun _ => ?_)
  · refine h_aload_n hX dX10_wins_19 rfl rfl ?_
    refine get_RX10_85_C0 hX dX10_wins_20 ?_
    refine h_iload_n hX dX10_wins_23 rfl rfl ?_
    refine h_iload_n hX dX10_wins_24 rfl rfl ?_
    refine h_iload_n hX dX10_wins_25 rfl rfl ?_
    refine h_iload hX dX10_wins_26 rfl ?_
    refine h_callVi hX dX10_wins_28 (cv_RX10_284) rc_C30 (As := [.int p0, .int p1, .int p2, .int p3]) (st := []) (fun _ h => c_Lane_winnerOf h) rfl rfl (by decide) (Nat.le_of_ble_eq_true rfl) (fun a_2 => ?_)
    exact h_ret hX (rv := some (.int a_2.1)) dX10_wins_31 trivial (fun h => h)
  · refine h_ldc hX dX10_wins_16 cst_RX10_180 ?_
    exact h_ret hX (rv := some (.int ((-1000000)))) dX10_wins_18 trivial (fun h => h)
theorem c_Main_wins {p0 : Int32} {p1 : Int32} {p2 : Int32} {p3 : Int32} {r : (Int32 × (Nat → Int32) × (Nat → Int32))} (h : f_Main_wins A_size A_chosen A_codes A_lengths A_stack Y_cells Y_clauses N_marbles N_chipped N_swallowed N_day N_owners L_letters p0 p1 p2 p3 = some r) : gMet B 6 yX10_wins cX10_wins 5 (some .int) [.ref (aC B 0), .int p0, .int p1, .int p2, .int p3] (wdC B W_spillsNow W_drawn T_length T_at T_bytes D_cells D_clauses G_length G_code A_size A_chosen A_codes A_lengths A_stack Y_cells Y_clauses N_marbles N_chipped N_swallowed N_sweets N_day N_owners P_next P_kept P_hasImage P_image P_acts P_entries P_imageEntries S_fewest S_row S_strengths U_size U_found U_places U_kinds U_holds U_fitting U_tally L_letters L_firstCells L_secondCells L_firstBest L_secondBest W_refusals ++ fr) (some (.int r.1)) (wdC B W_spillsNow W_drawn T_length T_at T_bytes D_cells D_clauses G_length G_code A_size A_chosen A_codes A_lengths r.2.1 Y_cells Y_clauses N_marbles N_chipped N_swallowed N_sweets N_day N_owners P_next P_kept P_hasImage P_image P_acts P_entries P_imageEntries S_fewest S_row S_strengths U_size U_found U_places U_kinds U_holds U_fitting U_tally r.2.2 L_firstCells L_secondCells L_firstBest L_secondBest W_refusals ++ fr) :=
  gMet.of rfl (Nat.le_of_ble_eq_true rfl) (fun X hX hF => w_Main_wins hX r h hF)
set_option maxRecDepth 4000 in
theorem w_Main_years_L46 {v1 : Int32} (hX : gOk B X RX10 cX10_years 5 7 (some .int)) (s : (Int32 × Int64 × (Nat → Int32) × Int32 × Int32 × Int32 × (Nat → Int32) × Int32 × Int32 × (Nat → Int64) × (Nat → Int32) × (Nat → Int32) × (Nat → Int32))) : gH B X (Sum.elim (fun s : (Int32 × Int64 × (Nat → Int32) × Int32 × Int32 × Int32 × (Nat → Int32) × Int32 × Int32 × (Nat → Int64) × (Nat → Int32) × (Nat → Int32) × (Nat → Int32)) => gG B X 46 [(0, .ref (aC B 0)), (1, .int v1), (4, .int s.1)] [] (wdC B W_spillsNow s.2.1 T_length T_at T_bytes D_cells D_clauses G_length G_code A_size A_chosen A_codes A_lengths s.2.2.1 Y_cells Y_clauses N_marbles s.2.2.2.1 N_swallowed s.2.2.2.2.1 s.2.2.2.2.2.1 s.2.2.2.2.2.2.1 s.2.2.2.2.2.2.2.1 s.2.2.2.2.2.2.2.2.1 P_hasImage P_image s.2.2.2.2.2.2.2.2.2.1 s.2.2.2.2.2.2.2.2.2.2.1 P_imageEntries S_fewest S_row s.2.2.2.2.2.2.2.2.2.2.2.1 U_size U_found U_places U_kinds U_holds U_fitting U_tally s.2.2.2.2.2.2.2.2.2.2.2.2 L_firstCells L_secondCells L_firstBest L_secondBest W_refusals ++ fr)) (fun r : (Int32 × Int64 × (Nat → Int32) × Int32 × Int32 × Int32 × (Nat → Int32) × Int32 × Int32 × (Nat → Int64) × (Nat → Int32) × (Nat → Int32) × (Nat → Int32)) => gFin X (some (.int r.1)) (wdC B W_spillsNow r.2.1 T_length T_at T_bytes D_cells D_clauses G_length G_code A_size A_chosen A_codes A_lengths r.2.2.1 Y_cells Y_clauses N_marbles r.2.2.2.1 N_swallowed r.2.2.2.2.1 r.2.2.2.2.2.1 r.2.2.2.2.2.2.1 r.2.2.2.2.2.2.2.1 r.2.2.2.2.2.2.2.2.1 P_hasImage P_image r.2.2.2.2.2.2.2.2.2.1 r.2.2.2.2.2.2.2.2.2.2.1 P_imageEntries S_fewest S_row r.2.2.2.2.2.2.2.2.2.2.2.1 U_size U_found U_places U_kinds U_holds U_fitting U_tally r.2.2.2.2.2.2.2.2.2.2.2.2 L_firstCells L_secondCells L_firstBest L_secondBest W_refusals ++ fr))) 46 [(0, .ref (aC B 0)), (1, .int v1), (4, .int s.1)] [] (wdC B W_spillsNow s.2.1 T_length T_at T_bytes D_cells D_clauses G_length G_code A_size A_chosen A_codes A_lengths s.2.2.1 Y_cells Y_clauses N_marbles s.2.2.2.1 N_swallowed s.2.2.2.2.1 s.2.2.2.2.2.1 s.2.2.2.2.2.2.1 s.2.2.2.2.2.2.2.1 s.2.2.2.2.2.2.2.2.1 P_hasImage P_image s.2.2.2.2.2.2.2.2.2.1 s.2.2.2.2.2.2.2.2.2.2.1 P_imageEntries S_fewest S_row s.2.2.2.2.2.2.2.2.2.2.2.1 U_size U_found U_places U_kinds U_holds U_fitting U_tally s.2.2.2.2.2.2.2.2.2.2.2.2 L_firstCells L_secondCells L_firstBest L_secondBest W_refusals ++ fr) (f_Main_years_L46 W_spillsNow A_size A_chosen A_codes A_lengths Y_cells Y_clauses N_marbles N_swallowed v1 s) := by
  unfold f_Main_years_L46
  refine h_iload hX dX10_years_46 rfl ?_
  refine h_iload_n hX dX10_years_48 rfl rfl ?_
  refine h_icmp_ge hX dX10_years_49 (tgt := 77) (by decide) (fun _ => ?_) (fun _ => ?_)
  · refine h_aload_n hX dX10_years_77 rfl rfl ?_
    refine get_RX10_49_C0 hX dX10_years_78 ?_
    refine get_RX10_242_C16 hX dX10_years_81 ?_
    exact h_ret hX (rv := some (.int s.2.2.2.2.2.1)) dX10_years_84 trivial (fun h => h)
  · refine h_aload_n hX dX10_years_52 rfl rfl ?_
    refine get_RX10_58_C0 hX dX10_years_53 ?_
    refine h_callVv hX dX10_years_56 (cv_RX10_220) rc_C18 (As := []) (st := []) (fun _ h => c_Past_remember h) rfl rfl (by decide) (Nat.le_of_ble_eq_true rfl) (fun a_2 => ?_)
    refine h_aload_n hX dX10_years_59 rfl rfl ?_
    refine h_callVv hX dX10_years_60 (cv_RX10_255) rc_C0 (As := []) (st := []) (fun _ h => c_Main_playByDraws h) rfl rfl (by decide) (Nat.le_of_ble_eq_true rfl) (fun a_3 => ?_)
    refine h_aload_n hX dX10_years_63 rfl rfl ?_
    refine h_callVv hX dX10_years_64 (cv_RX10_258) rc_C0 (As := []) (st := []) (fun _ h => c_Main_spillByDraws h) rfl rfl (by decide) (Nat.le_of_ble_eq_true rfl) (fun a_4 => ?_)
    refine h_aload_n hX dX10_years_67 rfl rfl ?_
    refine h_callVv hX dX10_years_68 (cv_RX10_245) rc_C0 (As := []) (st := []) (fun _ h => c_Main_passDay h) rfl rfl (by decide) (Nat.le_of_ble_eq_true rfl) (fun a_5 => ?_)
    refine h_iincc hX dX10_years_71 rfl ki_1 (by decide) (lv' := [(0, .ref (aC B 0)), (1, .int v1), (4, .int (s.1 + 1))]) rfl ?_
    refine h_goto hX dX10_years_74 (tgt := 46) (by decide) ?_
    exact gH.some' (fun h => h)
set_option maxRecDepth 4000 in
theorem w_Main_years {p0 : Int32} {p1 : Int64} (hX : gOk B X RX10 cX10_years 5 7 (some .int)) : gH B X (fun r : (Int32 × Int64 × (Nat → Int32) × Int32 × Int32 × Int32 × (Nat → Int32) × Int32 × Int32 × (Nat → Int64) × (Nat → Int32) × (Nat → Int32) × (Nat → Int32)) => gFin X (some (.int r.1)) (wdC B W_spillsNow r.2.1 T_length T_at T_bytes D_cells D_clauses G_length G_code A_size A_chosen A_codes A_lengths r.2.2.1 Y_cells Y_clauses N_marbles r.2.2.2.1 N_swallowed r.2.2.2.2.1 r.2.2.2.2.2.1 r.2.2.2.2.2.2.1 r.2.2.2.2.2.2.2.1 r.2.2.2.2.2.2.2.2.1 P_hasImage P_image r.2.2.2.2.2.2.2.2.2.1 r.2.2.2.2.2.2.2.2.2.2.1 P_imageEntries S_fewest S_row r.2.2.2.2.2.2.2.2.2.2.2.1 U_size U_found U_places U_kinds U_holds U_fitting U_tally r.2.2.2.2.2.2.2.2.2.2.2.2 L_firstCells L_secondCells L_firstBest L_secondBest W_refusals ++ fr)) 0 [(0, .ref (aC B 0)), (1, .int p0), (2, .long p1)] [] (wdC B W_spillsNow W_drawn T_length T_at T_bytes D_cells D_clauses G_length G_code A_size A_chosen A_codes A_lengths A_stack Y_cells Y_clauses N_marbles N_chipped N_swallowed N_sweets N_day N_owners P_next P_kept P_hasImage P_image P_acts P_entries P_imageEntries S_fewest S_row S_strengths U_size U_found U_places U_kinds U_holds U_fitting U_tally L_letters L_firstCells L_secondCells L_firstBest L_secondBest W_refusals ++ fr) (f_Main_years W_spillsNow W_drawn A_size A_chosen A_codes A_lengths A_stack Y_cells Y_clauses N_marbles N_chipped N_swallowed N_sweets N_day N_owners P_next P_kept P_acts P_entries S_strengths L_letters p0 p1) := by
  unfold f_Main_years
  refine h_aload_n hX dX10_years_0 rfl rfl ?_
  refine get_RX10_42_C0 hX dX10_years_1 ?_
  refine h_callVi hX dX10_years_4 (cv_RX10_139) rc_C13 (As := []) (st := []) (fun _ h => c_Yard_stands h) rfl rfl (by decide) (Nat.le_of_ble_eq_true rfl) (fun a_1 => ?_)
  refine h_if_eq hX dX10_years_7 (tgt := 36) (by decide) (fun _ => ?_) (fun _ => ?_)
  · refine h_iconst hX dX10_years_36 ki_m1 ?_
    exact h_ret hX (rv := some (.int ((-1)))) dX10_years_37 trivial (fun h => h)
  · refine h_iload_n hX dX10_years_10 rfl rfl ?_
    refine h_iconst hX dX10_years_11 ki_1 ?_
    refine h_icmp_lt hX dX10_years_12 (tgt := 36) (by decide) (fun _ => ?_) (fun _ => ?_)
    · refine h_iconst hX dX10_years_36 ki_m1 ?_
      exact h_ret hX (rv := some (.int ((-1)))) dX10_years_37 trivial (fun h => h)
    · refine h_iload_n hX dX10_years_15 rfl rfl ?_
      refine h_bipush hX dX10_years_16 kb_60 ?_
      refine h_icmp_gt hX dX10_years_18 (tgt := 36) (by decide) (fun _ => ?_) (fun _ => ?_)
      · refine h_iconst hX dX10_years_36 ki_m1 ?_
        exact h_ret hX (rv := some (.int ((-1)))) dX10_years_37 trivial (fun h => h)
      · refine h_aload_n hX dX10_years_21 rfl rfl ?_
        refine get_RX10_49_C0 hX dX10_years_22 ?_
        refine get_RX10_242_C16 hX dX10_years_25 ?_
        refine h_iload_n hX dX10_years_28 rfl rfl ?_
        refine h_iadd hX dX10_years_29 ?_
        refine h_sipush hX dX10_years_30 ks_9999 ?_
        refine h_icmp_le hX dX10_years_33 (tgt := 38) (by decide) (fun _ => ?_) (fun _ => ?_)
        · refine h_aload_n hX dX10_years_38 rfl rfl ?_
          refine h_lload_n hX dX10_years_39 rfl rfl ?_
          refine put_RX10_251_C0 hX dX10_years_40 ?_
          refine h_iconst hX dX10_years_43 ki_0 ?_
          refine h_istore hX dX10_years_44 (by decide) (lv' := [(0, .ref (aC B 0)), (1, .int p0), (2, .long p1), (4, .int 0)]) rfl ?_
          refine gH.dead [0, 1, 3] rfl ?_
          exact gH.loop (lvf := fun s : (Int32 × Int64 × (Nat → Int32) × Int32 × Int32 × Int32 × (Nat → Int32) × Int32 × Int32 × (Nat → Int64) × (Nat → Int32) × (Nat → Int32) × (Nat → Int32)) => [(0, .ref (aC B 0)), (1, .int p0), (4, .int s.1)]) (wf := fun s : (Int32 × Int64 × (Nat → Int32) × Int32 × Int32 × Int32 × (Nat → Int32) × Int32 × Int32 × (Nat → Int64) × (Nat → Int32) × (Nat → Int32) × (Nat → Int32)) => wdC B W_spillsNow s.2.1 T_length T_at T_bytes D_cells D_clauses G_length G_code A_size A_chosen A_codes A_lengths s.2.2.1 Y_cells Y_clauses N_marbles s.2.2.2.1 N_swallowed s.2.2.2.2.1 s.2.2.2.2.2.1 s.2.2.2.2.2.2.1 s.2.2.2.2.2.2.2.1 s.2.2.2.2.2.2.2.2.1 P_hasImage P_image s.2.2.2.2.2.2.2.2.2.1 s.2.2.2.2.2.2.2.2.2.2.1 P_imageEntries S_fewest S_row s.2.2.2.2.2.2.2.2.2.2.2.1 U_size U_found U_places U_kinds U_holds U_fitting U_tally s.2.2.2.2.2.2.2.2.2.2.2.2 L_firstCells L_secondCells L_firstBest L_secondBest W_refusals ++ fr) (fun s => w_Main_years_L46 hX s) (0, p1, A_stack, N_chipped, N_sweets, N_day, N_owners, P_next, P_kept, P_acts, P_entries, S_strengths, L_letters)
        · refine h_iconst hX dX10_years_36 ki_m1 ?_
          exact h_ret hX (rv := some (.int ((-1)))) dX10_years_37 trivial (fun h => h)
theorem c_Main_years {p0 : Int32} {p1 : Int64} {r : (Int32 × Int64 × (Nat → Int32) × Int32 × Int32 × Int32 × (Nat → Int32) × Int32 × Int32 × (Nat → Int64) × (Nat → Int32) × (Nat → Int32) × (Nat → Int32))} (h : f_Main_years W_spillsNow W_drawn A_size A_chosen A_codes A_lengths A_stack Y_cells Y_clauses N_marbles N_chipped N_swallowed N_sweets N_day N_owners P_next P_kept P_acts P_entries S_strengths L_letters p0 p1 = some r) : gMet B 7 yX10_years cX10_years 5 (some .int) [.ref (aC B 0), .int p0, .long p1] (wdC B W_spillsNow W_drawn T_length T_at T_bytes D_cells D_clauses G_length G_code A_size A_chosen A_codes A_lengths A_stack Y_cells Y_clauses N_marbles N_chipped N_swallowed N_sweets N_day N_owners P_next P_kept P_hasImage P_image P_acts P_entries P_imageEntries S_fewest S_row S_strengths U_size U_found U_places U_kinds U_holds U_fitting U_tally L_letters L_firstCells L_secondCells L_firstBest L_secondBest W_refusals ++ fr) (some (.int r.1)) (wdC B W_spillsNow r.2.1 T_length T_at T_bytes D_cells D_clauses G_length G_code A_size A_chosen A_codes A_lengths r.2.2.1 Y_cells Y_clauses N_marbles r.2.2.2.1 N_swallowed r.2.2.2.2.1 r.2.2.2.2.2.1 r.2.2.2.2.2.2.1 r.2.2.2.2.2.2.2.1 r.2.2.2.2.2.2.2.2.1 P_hasImage P_image r.2.2.2.2.2.2.2.2.2.1 r.2.2.2.2.2.2.2.2.2.2.1 P_imageEntries S_fewest S_row r.2.2.2.2.2.2.2.2.2.2.2.1 U_size U_found U_places U_kinds U_holds U_fitting U_tally r.2.2.2.2.2.2.2.2.2.2.2.2 L_firstCells L_secondCells L_firstBest L_secondBest W_refusals ++ fr) :=
  gMet.of rfl (Nat.le_of_ble_eq_true rfl) (fun X hX hF => w_Main_years hX r h hF)
set_option maxRecDepth 4000 in
theorem w_LawR_readUnit_J42 {RR : Int32 → Int32 → (Nat → Int32) → Int32 → (Nat → Int32) → Int32 → Option (Int32 × Int32 × Int32 × (Nat → Int32))} {dR : Nat} (hR : ∀ (fr : va_W) (W_spillsNow : Int32) (W_drawn : Int64) (T_length : Int32) (T_at : Int32) (T_bytes : Nat → Int32) (D_cells : Nat → Int32) (D_clauses : Nat → Int32) (G_length : Int32) (G_code : Nat → Int32) (A_size : Int32) (A_chosen : Int32) (A_codes : Nat → Int32) (A_lengths : Nat → Int32) (A_stack : Nat → Int32) (Y_cells : Nat → Int32) (Y_clauses : Nat → Int32) (N_marbles : Int32) (N_chipped : Int32) (N_swallowed : Int32) (N_sweets : Int32) (N_day : Int32) (N_owners : Nat → Int32) (P_next : Int32) (P_kept : Int32) (P_hasImage : Int32) (P_image : Int64) (P_acts : Nat → Int64) (P_entries : Nat → Int32) (P_imageEntries : Nat → Int32) (S_fewest : Int32) (S_row : Int32) (S_strengths : Nat → Int32) (U_size : Int32) (U_found : Int32) (U_places : Nat → Int32) (U_kinds : Nat → Int32) (U_holds : Nat → Int32) (U_fitting : Nat → Int32) (U_tally : Nat → Int32) (L_letters : Nat → Int32) (L_firstCells : Nat → Int32) (L_secondCells : Nat → Int32) (L_firstBest : Nat → Int32) (L_secondBest : Nat → Int32) (W_refusals : Nat → Int32) (p0 : Int32) (r : (Int32 × Int32 × Int32 × (Nat → Int32))), RR T_length T_at T_bytes G_length G_code p0 = some r → gMet B dR yX2_readUnit cX2_readUnit 3 (some .boolean) [.ref (aC B 7), .int p0] (wdC B W_spillsNow W_drawn T_length T_at T_bytes D_cells D_clauses G_length G_code A_size A_chosen A_codes A_lengths A_stack Y_cells Y_clauses N_marbles N_chipped N_swallowed N_sweets N_day N_owners P_next P_kept P_hasImage P_image P_acts P_entries P_imageEntries S_fewest S_row S_strengths U_size U_found U_places U_kinds U_holds U_fitting U_tally L_letters L_firstCells L_secondCells L_firstBest L_secondBest W_refusals ++ fr) (some (.int r.1)) (wdC B W_spillsNow W_drawn T_length r.2.1 T_bytes D_cells D_clauses r.2.2.1 r.2.2.2 A_size A_chosen A_codes A_lengths A_stack Y_cells Y_clauses N_marbles N_chipped N_swallowed N_sweets N_day N_owners P_next P_kept P_hasImage P_image P_acts P_entries P_imageEntries S_fewest S_row S_strengths U_size U_found U_places U_kinds U_holds U_fitting U_tally L_letters L_firstCells L_secondCells L_firstBest L_secondBest W_refusals ++ fr)) {v1 : Int32} {v2 : Int32} (hX : gOk B X RX2 cX2_readUnit 3 (dR + 36) (some .boolean)) : gH B X (fun r : (Int32 × Int32 × Int32 × (Nat → Int32)) => gFin X (some (.int r.1)) (wdC B W_spillsNow W_drawn T_length r.2.1 T_bytes D_cells D_clauses r.2.2.1 r.2.2.2 A_size A_chosen A_codes A_lengths A_stack Y_cells Y_clauses N_marbles N_chipped N_swallowed N_sweets N_day N_owners P_next P_kept P_hasImage P_image P_acts P_entries P_imageEntries S_fewest S_row S_strengths U_size U_found U_places U_kinds U_holds U_fitting U_tally L_letters L_firstCells L_secondCells L_firstBest L_secondBest W_refusals ++ fr)) 42 [(0, .ref (aC B 7)), (1, .int v1), (2, .int v2)] [] (wdC B W_spillsNow W_drawn T_length T_at T_bytes D_cells D_clauses G_length G_code A_size A_chosen A_codes A_lengths A_stack Y_cells Y_clauses N_marbles N_chipped N_swallowed N_sweets N_day N_owners P_next P_kept P_hasImage P_image P_acts P_entries P_imageEntries S_fewest S_row S_strengths U_size U_found U_places U_kinds U_holds U_fitting U_tally L_letters L_firstCells L_secondCells L_firstBest L_secondBest W_refusals ++ fr) (f_LawR_readUnit_J42 RR T_length T_at T_bytes G_length G_code v1 v2) := by
  unfold f_LawR_readUnit_J42
  refine h_iload_n hX dX2_readUnit_42 rfl rfl ?_
  refine h_bipush hX dX2_readUnit_43 kb_6 ?_
  refine h_icmp_lt hX dX2_readUnit_45 (tgt := 50) (by decide) (fun _ => ?_) (fun _ => ?_)
  · refine h_aload_n hX dX2_readUnit_50 rfl rfl ?_
    refine get_RX2_15_C7 hX dX2_readUnit_51 ?_
    refine h_callVv hX dX2_readUnit_54 (cv_RX2_67) rc_C1 (As := []) (st := []) (fun _ h => c_Tape_step h) rfl rfl (by constructor <;> omega) (Nat.le_of_ble_eq_true rfl) (fun a_2 => ?_)
    refine h_iload_n hX dX2_readUnit_57 rfl rfl ?_
    refine h_bipush hX dX2_readUnit_58 kb_40 ?_
    refine h_icmp_ne hX dX2_readUnit_60 (tgt := 92) (by decide) (fun _ => ?_) (fun _ => ?_)
    · refine h_aload_n hX dX2_readUnit_92 rfl rfl ?_
      refine h_iload_n hX dX2_readUnit_93 rfl rfl ?_
      refine h_iconst hX dX2_readUnit_94 ki_1 ?_
      refine h_iadd hX dX2_readUnit_95 ?_
      refine h_callVi hX dX2_readUnit_96 (cv_RX2_64) rc_C7 (As := [.int (v1 + 1)]) (st := []) (fun _ h => hR _ _ _ _ _ _ _ _ _ _ _ _ _ _ _ _ _ _ _ _ _ _ _ _ _ _ _ _ _ _ _ _ _ _ _ _ _ _ _ _ _ _ _ _ _ _ _ _ h) rfl rfl (by constructor <;> omega) (Nat.le_of_ble_eq_true rfl) (fun a_3 => ?_)
      refine h_if_ne hX dX2_readUnit_99 (tgt := 104) (by decide) (fun _ => ?_) (fun _ => ?_)
      · refine h_aload_n hX dX2_readUnit_104 rfl rfl ?_
        refine h_sipush hX dX2_readUnit_105 ks_20033 ?_
        refine h_callVv hX dX2_readUnit_108 (cv_RX2_46) rc_C7 (As := [.int 20033]) (st := []) (fun _ h => c_LawR_emit h) rfl rfl (by constructor <;> omega) (Nat.le_of_ble_eq_true rfl) (fun a_4 => ?_)
        refine h_iconst hX dX2_readUnit_111 ki_1 ?_
        exact h_ret hX (rv := some (.int 1)) dX2_readUnit_112 rfl (fun h => h)
      · refine h_iconst hX dX2_readUnit_102 ki_0 ?_
        exact h_ret hX (rv := some (.int 0)) dX2_readUnit_103 rfl (fun h => h)
    · refine h_aload_n hX dX2_readUnit_63 rfl rfl ?_
      refine h_iload_n hX dX2_readUnit_64 rfl rfl ?_
      refine h_iconst hX dX2_readUnit_65 ki_1 ?_
      refine h_iadd hX dX2_readUnit_66 ?_
      refine h_iconst hX dX2_readUnit_67 ki_0 ?_
      refine h_callVi hX dX2_readUnit_68 (cv_RX2_50) rc_C7 (As := [.int (v1 + 1), .int 0]) (st := []) (fun _ h => c_LawR_readCondition hR h) rfl rfl (by constructor <;> omega) (Nat.le_of_ble_eq_true rfl) (fun a_5 => ?_)
      refine h_if_eq hX dX2_readUnit_71 (tgt := 90) (by decide) (fun _ => ?_) (fun _ => ?_)
      · refine h_iconst hX dX2_readUnit_90 ki_0 ?_
        exact h_ret hX (rv := some (.int 0)) dX2_readUnit_91 rfl (fun h => h)
      · refine h_aload_n hX dX2_readUnit_74 rfl rfl ?_
        refine get_RX2_15_C7 hX dX2_readUnit_75 ?_
        refine h_bipush hX dX2_readUnit_78 kb_41 ?_
        refine h_callVi hX dX2_readUnit_80 (cv_RX2_32) rc_C1 (As := [.int 41]) (st := []) (fun _ h => c_Tape_takes h) rfl rfl (by constructor <;> omega) (Nat.le_of_ble_eq_true rfl) (fun a_6 => ?_)
        refine h_if_eq hX dX2_readUnit_83 (tgt := 90) (by decide) (fun _ => ?_) (fun _ => ?_)
        · refine h_iconst hX dX2_readUnit_90 ki_0 ?_
          exact h_ret hX (rv := some (.int 0)) dX2_readUnit_91 rfl (fun h => h)
        · refine h_iconst hX dX2_readUnit_86 ki_1 ?_
          refine h_goto hX dX2_readUnit_87 (tgt := 91) (by decide) ?_
          exact h_ret hX (rv := some (.int 1)) dX2_readUnit_91 rfl (fun h => h)
  · refine h_iconst hX dX2_readUnit_48 ki_0 ?_
    exact h_ret hX (rv := some (.int 0)) dX2_readUnit_49 rfl (fun h => h)
set_option maxRecDepth 4000 in
theorem w_LawR_readUnit {RR : Int32 → Int32 → (Nat → Int32) → Int32 → (Nat → Int32) → Int32 → Option (Int32 × Int32 × Int32 × (Nat → Int32))} {dR : Nat} (hR : ∀ (fr : va_W) (W_spillsNow : Int32) (W_drawn : Int64) (T_length : Int32) (T_at : Int32) (T_bytes : Nat → Int32) (D_cells : Nat → Int32) (D_clauses : Nat → Int32) (G_length : Int32) (G_code : Nat → Int32) (A_size : Int32) (A_chosen : Int32) (A_codes : Nat → Int32) (A_lengths : Nat → Int32) (A_stack : Nat → Int32) (Y_cells : Nat → Int32) (Y_clauses : Nat → Int32) (N_marbles : Int32) (N_chipped : Int32) (N_swallowed : Int32) (N_sweets : Int32) (N_day : Int32) (N_owners : Nat → Int32) (P_next : Int32) (P_kept : Int32) (P_hasImage : Int32) (P_image : Int64) (P_acts : Nat → Int64) (P_entries : Nat → Int32) (P_imageEntries : Nat → Int32) (S_fewest : Int32) (S_row : Int32) (S_strengths : Nat → Int32) (U_size : Int32) (U_found : Int32) (U_places : Nat → Int32) (U_kinds : Nat → Int32) (U_holds : Nat → Int32) (U_fitting : Nat → Int32) (U_tally : Nat → Int32) (L_letters : Nat → Int32) (L_firstCells : Nat → Int32) (L_secondCells : Nat → Int32) (L_firstBest : Nat → Int32) (L_secondBest : Nat → Int32) (W_refusals : Nat → Int32) (p0 : Int32) (r : (Int32 × Int32 × Int32 × (Nat → Int32))), RR T_length T_at T_bytes G_length G_code p0 = some r → gMet B dR yX2_readUnit cX2_readUnit 3 (some .boolean) [.ref (aC B 7), .int p0] (wdC B W_spillsNow W_drawn T_length T_at T_bytes D_cells D_clauses G_length G_code A_size A_chosen A_codes A_lengths A_stack Y_cells Y_clauses N_marbles N_chipped N_swallowed N_sweets N_day N_owners P_next P_kept P_hasImage P_image P_acts P_entries P_imageEntries S_fewest S_row S_strengths U_size U_found U_places U_kinds U_holds U_fitting U_tally L_letters L_firstCells L_secondCells L_firstBest L_secondBest W_refusals ++ fr) (some (.int r.1)) (wdC B W_spillsNow W_drawn T_length r.2.1 T_bytes D_cells D_clauses r.2.2.1 r.2.2.2 A_size A_chosen A_codes A_lengths A_stack Y_cells Y_clauses N_marbles N_chipped N_swallowed N_sweets N_day N_owners P_next P_kept P_hasImage P_image P_acts P_entries P_imageEntries S_fewest S_row S_strengths U_size U_found U_places U_kinds U_holds U_fitting U_tally L_letters L_firstCells L_secondCells L_firstBest L_secondBest W_refusals ++ fr)) {p0 : Int32} (hX : gOk B X RX2 cX2_readUnit 3 (dR + 36) (some .boolean)) : gH B X (fun r : (Int32 × Int32 × Int32 × (Nat → Int32)) => gFin X (some (.int r.1)) (wdC B W_spillsNow W_drawn T_length r.2.1 T_bytes D_cells D_clauses r.2.2.1 r.2.2.2 A_size A_chosen A_codes A_lengths A_stack Y_cells Y_clauses N_marbles N_chipped N_swallowed N_sweets N_day N_owners P_next P_kept P_hasImage P_image P_acts P_entries P_imageEntries S_fewest S_row S_strengths U_size U_found U_places U_kinds U_holds U_fitting U_tally L_letters L_firstCells L_secondCells L_firstBest L_secondBest W_refusals ++ fr)) 0 [(0, .ref (aC B 7)), (1, .int p0)] [] (wdC B W_spillsNow W_drawn T_length T_at T_bytes D_cells D_clauses G_length G_code A_size A_chosen A_codes A_lengths A_stack Y_cells Y_clauses N_marbles N_chipped N_swallowed N_sweets N_day N_owners P_next P_kept P_hasImage P_image P_acts P_entries P_imageEntries S_fewest S_row S_strengths U_size U_found U_places U_kinds U_holds U_fitting U_tally L_letters L_firstCells L_secondCells L_firstBest L_secondBest W_refusals ++ fr) (f_LawR_readUnitB RR T_length T_at T_bytes G_length G_code p0) := by
  unfold f_LawR_readUnitB
  refine h_aload_n hX dX2_readUnit_0 rfl rfl ?_
  refine get_RX2_15_C7 hX dX2_readUnit_1 ?_
  refine h_callVi hX dX2_readUnit_4 (cv_RX2_36) rc_C1 (As := []) (st := []) (fun _ h => c_Tape_sign h) rfl rfl (by constructor <;> omega) (Nat.le_of_ble_eq_true rfl) (fun a_1 => ?_)
  refine h_istore_n hX dX2_readUnit_7 rfl (by decide) (lv' := [(0, .ref (aC B 7)), (1, .int p0), (2, .int a_1.1)]) rfl ?_
  refine h_iload_n hX dX2_readUnit_8 rfl rfl ?_
  refine h_bipush hX dX2_readUnit_9 kb_33 ?_
  refine h_icmp_eq hX dX2_readUnit_11 (tgt := 42) (by decide) (fun _ => ?_) (fun _ => ?_)
  · exact w_LawR_readUnit_J42 hR hX
  · refine h_iload_n hX dX2_readUnit_14 rfl rfl ?_
    refine h_bipush hX dX2_readUnit_15 kb_40 ?_
    refine h_icmp_eq hX dX2_readUnit_17 (tgt := 42) (by decide) (fun _ => ?_) (fun _ => ?_)
    · exact w_LawR_readUnit_J42 hR hX
    · refine h_aload_n hX dX2_readUnit_20 rfl rfl ?_
      refine h_iload_n hX dX2_readUnit_21 rfl rfl ?_
      refine h_callVi hX dX2_readUnit_22 (cv_RX2_40) rc_C7 (As := [.int p0]) (st := []) (fun _ h => cn_LawR_readSum 8 _ _ _ _ _ _ _ _ _ _ _ _ _ _ _ _ _ _ _ _ _ _ _ _ _ _ _ _ _ _ _ _ _ _ _ _ _ _ _ _ _ _ _ _ _ _ _ _ h) rfl rfl (by constructor <;> omega) (Nat.le_of_ble_eq_true rfl) (fun a_7 => ?_)
      refine h_if_eq hX dX2_readUnit_25 (tgt := 40) (by decide) (fun _ => ?_) (fun _ => ?_)
      · refine h_iconst hX dX2_readUnit_40 ki_0 ?_
        exact h_ret hX (rv := some (.int 0)) dX2_readUnit_41 rfl (fun h => h)
      · refine h_aload_n hX dX2_readUnit_28 rfl rfl ?_
        refine h_iload_n hX dX2_readUnit_29 rfl rfl ?_
        refine h_callVi hX dX2_readUnit_30 (cv_RX2_61) rc_C7 (As := [.int p0]) (st := []) (fun _ h => c_LawR_readRightOfComparison h) rfl rfl (by constructor <;> omega) (Nat.le_of_ble_eq_true rfl) (fun a_8 => ?_)
        refine h_if_eq hX dX2_readUnit_33 (tgt := 40) (by decide) (fun _ => ?_) (fun _ => ?_)
        · refine h_iconst hX dX2_readUnit_40 ki_0 ?_
          exact h_ret hX (rv := some (.int 0)) dX2_readUnit_41 rfl (fun h => h)
        · refine h_iconst hX dX2_readUnit_36 ki_1 ?_
          refine h_goto hX dX2_readUnit_37 (tgt := 41) (by decide) ?_
          exact h_ret hX (rv := some (.int 1)) dX2_readUnit_41 rfl (fun h => h)
theorem c_LawR_readUnit {RR : Int32 → Int32 → (Nat → Int32) → Int32 → (Nat → Int32) → Int32 → Option (Int32 × Int32 × Int32 × (Nat → Int32))} {dR : Nat} (hR : ∀ (fr : va_W) (W_spillsNow : Int32) (W_drawn : Int64) (T_length : Int32) (T_at : Int32) (T_bytes : Nat → Int32) (D_cells : Nat → Int32) (D_clauses : Nat → Int32) (G_length : Int32) (G_code : Nat → Int32) (A_size : Int32) (A_chosen : Int32) (A_codes : Nat → Int32) (A_lengths : Nat → Int32) (A_stack : Nat → Int32) (Y_cells : Nat → Int32) (Y_clauses : Nat → Int32) (N_marbles : Int32) (N_chipped : Int32) (N_swallowed : Int32) (N_sweets : Int32) (N_day : Int32) (N_owners : Nat → Int32) (P_next : Int32) (P_kept : Int32) (P_hasImage : Int32) (P_image : Int64) (P_acts : Nat → Int64) (P_entries : Nat → Int32) (P_imageEntries : Nat → Int32) (S_fewest : Int32) (S_row : Int32) (S_strengths : Nat → Int32) (U_size : Int32) (U_found : Int32) (U_places : Nat → Int32) (U_kinds : Nat → Int32) (U_holds : Nat → Int32) (U_fitting : Nat → Int32) (U_tally : Nat → Int32) (L_letters : Nat → Int32) (L_firstCells : Nat → Int32) (L_secondCells : Nat → Int32) (L_firstBest : Nat → Int32) (L_secondBest : Nat → Int32) (W_refusals : Nat → Int32) (p0 : Int32) (r : (Int32 × Int32 × Int32 × (Nat → Int32))), RR T_length T_at T_bytes G_length G_code p0 = some r → gMet B dR yX2_readUnit cX2_readUnit 3 (some .boolean) [.ref (aC B 7), .int p0] (wdC B W_spillsNow W_drawn T_length T_at T_bytes D_cells D_clauses G_length G_code A_size A_chosen A_codes A_lengths A_stack Y_cells Y_clauses N_marbles N_chipped N_swallowed N_sweets N_day N_owners P_next P_kept P_hasImage P_image P_acts P_entries P_imageEntries S_fewest S_row S_strengths U_size U_found U_places U_kinds U_holds U_fitting U_tally L_letters L_firstCells L_secondCells L_firstBest L_secondBest W_refusals ++ fr) (some (.int r.1)) (wdC B W_spillsNow W_drawn T_length r.2.1 T_bytes D_cells D_clauses r.2.2.1 r.2.2.2 A_size A_chosen A_codes A_lengths A_stack Y_cells Y_clauses N_marbles N_chipped N_swallowed N_sweets N_day N_owners P_next P_kept P_hasImage P_image P_acts P_entries P_imageEntries S_fewest S_row S_strengths U_size U_found U_places U_kinds U_holds U_fitting U_tally L_letters L_firstCells L_secondCells L_firstBest L_secondBest W_refusals ++ fr)) {p0 : Int32} {r : (Int32 × Int32 × Int32 × (Nat → Int32))} (h : f_LawR_readUnitB RR T_length T_at T_bytes G_length G_code p0 = some r) : gMet B (dR + 36) yX2_readUnit cX2_readUnit 3 (some .boolean) [.ref (aC B 7), .int p0] (wdC B W_spillsNow W_drawn T_length T_at T_bytes D_cells D_clauses G_length G_code A_size A_chosen A_codes A_lengths A_stack Y_cells Y_clauses N_marbles N_chipped N_swallowed N_sweets N_day N_owners P_next P_kept P_hasImage P_image P_acts P_entries P_imageEntries S_fewest S_row S_strengths U_size U_found U_places U_kinds U_holds U_fitting U_tally L_letters L_firstCells L_secondCells L_firstBest L_secondBest W_refusals ++ fr) (some (.int r.1)) (wdC B W_spillsNow W_drawn T_length r.2.1 T_bytes D_cells D_clauses r.2.2.1 r.2.2.2 A_size A_chosen A_codes A_lengths A_stack Y_cells Y_clauses N_marbles N_chipped N_swallowed N_sweets N_day N_owners P_next P_kept P_hasImage P_image P_acts P_entries P_imageEntries S_fewest S_row S_strengths U_size U_found U_places U_kinds U_holds U_fitting U_tally L_letters L_firstCells L_secondCells L_firstBest L_secondBest W_refusals ++ fr) :=
  gMet.of rfl (Nat.le_of_ble_eq_true rfl) (fun X hX hF => w_LawR_readUnit hR hX r h hF)
theorem cn_LawR_readUnit (n : Nat) : ∀ (fr : va_W) (W_spillsNow : Int32) (W_drawn : Int64) (T_length : Int32) (T_at : Int32) (T_bytes : Nat → Int32) (D_cells : Nat → Int32) (D_clauses : Nat → Int32) (G_length : Int32) (G_code : Nat → Int32) (A_size : Int32) (A_chosen : Int32) (A_codes : Nat → Int32) (A_lengths : Nat → Int32) (A_stack : Nat → Int32) (Y_cells : Nat → Int32) (Y_clauses : Nat → Int32) (N_marbles : Int32) (N_chipped : Int32) (N_swallowed : Int32) (N_sweets : Int32) (N_day : Int32) (N_owners : Nat → Int32) (P_next : Int32) (P_kept : Int32) (P_hasImage : Int32) (P_image : Int64) (P_acts : Nat → Int64) (P_entries : Nat → Int32) (P_imageEntries : Nat → Int32) (S_fewest : Int32) (S_row : Int32) (S_strengths : Nat → Int32) (U_size : Int32) (U_found : Int32) (U_places : Nat → Int32) (U_kinds : Nat → Int32) (U_holds : Nat → Int32) (U_fitting : Nat → Int32) (U_tally : Nat → Int32) (L_letters : Nat → Int32) (L_firstCells : Nat → Int32) (L_secondCells : Nat → Int32) (L_firstBest : Nat → Int32) (L_secondBest : Nat → Int32) (W_refusals : Nat → Int32) (p0 : Int32) (r : (Int32 × Int32 × Int32 × (Nat → Int32))), f_LawR_readUnit n T_length T_at T_bytes G_length G_code p0 = some r → gMet B (36 * n) yX2_readUnit cX2_readUnit 3 (some .boolean) [.ref (aC B 7), .int p0] (wdC B W_spillsNow W_drawn T_length T_at T_bytes D_cells D_clauses G_length G_code A_size A_chosen A_codes A_lengths A_stack Y_cells Y_clauses N_marbles N_chipped N_swallowed N_sweets N_day N_owners P_next P_kept P_hasImage P_image P_acts P_entries P_imageEntries S_fewest S_row S_strengths U_size U_found U_places U_kinds U_holds U_fitting U_tally L_letters L_firstCells L_secondCells L_firstBest L_secondBest W_refusals ++ fr) (some (.int r.1)) (wdC B W_spillsNow W_drawn T_length r.2.1 T_bytes D_cells D_clauses r.2.2.1 r.2.2.2 A_size A_chosen A_codes A_lengths A_stack Y_cells Y_clauses N_marbles N_chipped N_swallowed N_sweets N_day N_owners P_next P_kept P_hasImage P_image P_acts P_entries P_imageEntries S_fewest S_row S_strengths U_size U_found U_places U_kinds U_holds U_fitting U_tally L_letters L_firstCells L_secondCells L_firstBest L_secondBest W_refusals ++ fr) := by
  induction n with
  | zero =>
    intros
    rename_i h
    cases h
  | succ n ih =>
    intro fr
    intros
    rename_i h
    rw [Nat.mul_succ]
    exact c_LawR_readUnit ih h
