variable {B : gB} {X : gX} {fr : va_W} {W_spillsNow : Int32} {W_drawn : Int64} {T_length : Int32} {T_at : Int32} {T_bytes : Nat → Int32} {D_cells : Nat → Int32} {D_clauses : Nat → Int32} {G_length : Int32} {G_code : Nat → Int32} {A_size : Int32} {A_chosen : Int32} {A_codes : Nat → Int32} {A_lengths : Nat → Int32} {A_stack : Nat → Int32} {Y_cells : Nat → Int32} {Y_clauses : Nat → Int32} {N_marbles : Int32} {N_chipped : Int32} {N_swallowed : Int32} {N_sweets : Int32} {N_day : Int32} {N_owners : Nat → Int32} {P_next : Int32} {P_kept : Int32} {P_hasImage : Int32} {P_image : Int64} {P_acts : Nat → Int64} {P_entries : Nat → Int32} {P_imageEntries : Nat → Int32} {S_fewest : Int32} {S_row : Int32} {S_strengths : Nat → Int32} {U_size : Int32} {U_found : Int32} {U_places : Nat → Int32} {U_kinds : Nat → Int32} {U_holds : Nat → Int32} {U_fitting : Nat → Int32} {U_tally : Nat → Int32} {L_letters : Nat → Int32} {L_firstCells : Nat → Int32} {L_secondCells : Nat → Int32} {L_firstBest : Nat → Int32} {L_secondBest : Nat → Int32} {W_refusals : Nat → Int32}
set_option maxRecDepth 4000 in
theorem w_Main_champion_J92 {v1 : Int32} {v2 : Int32} {v3 : Int32} (hX : gOk B X RX10 cX10_champion 7 6 (some .int)) : gH B X (Sum.elim (fun s : (Int32 × Int32 × Int32 × (Nat → Int32) × (Nat → Int32)) => gG B X 6 [(0, .ref (aC B 0)), (1, .int s.1), (2, .int s.2.1), (3, .int s.2.2.1)] [] (wdC B W_spillsNow W_drawn T_length T_at T_bytes D_cells D_clauses G_length G_code A_size A_chosen A_codes A_lengths s.2.2.2.1 Y_cells Y_clauses N_marbles N_chipped N_swallowed N_sweets N_day N_owners P_next P_kept P_hasImage P_image P_acts P_entries P_imageEntries S_fewest S_row S_strengths U_size U_found U_places U_kinds U_holds U_fitting U_tally s.2.2.2.2 L_firstCells L_secondCells L_firstBest L_secondBest W_refusals ++ fr)) (fun r : (Int32 × (Nat → Int32) × (Nat → Int32)) => gFin X (some (.int r.1)) (wdC B W_spillsNow W_drawn T_length T_at T_bytes D_cells D_clauses G_length G_code A_size A_chosen A_codes A_lengths r.2.1 Y_cells Y_clauses N_marbles N_chipped N_swallowed N_sweets N_day N_owners P_next P_kept P_hasImage P_image P_acts P_entries P_imageEntries S_fewest S_row S_strengths U_size U_found U_places U_kinds U_holds U_fitting U_tally r.2.2 L_firstCells L_secondCells L_firstBest L_secondBest W_refusals ++ fr))) 92 [(0, .ref (aC B 0)), (1, .int v1), (2, .int v2), (3, .int v3)] [] (wdC B W_spillsNow W_drawn T_length T_at T_bytes D_cells D_clauses G_length G_code A_size A_chosen A_codes A_lengths A_stack Y_cells Y_clauses N_marbles N_chipped N_swallowed N_sweets N_day N_owners P_next P_kept P_hasImage P_image P_acts P_entries P_imageEntries S_fewest S_row S_strengths U_size U_found U_places U_kinds U_holds U_fitting U_tally L_letters L_firstCells L_secondCells L_firstBest L_secondBest W_refusals ++ fr) (f_Main_champion_J92 A_stack L_letters v1 v2 v3) := by
  unfold f_Main_champion_J92
  refine h_iincc hX dX10_champion_92 rfl ki_1 (by decide) (lv' := [(0, .ref (aC B 0)), (1, .int v1), (2, .int v2), (3, .int (v3 + 1))]) rfl ?_
  refine h_goto hX dX10_champion_95 (tgt := 6) (by decide) ?_
  exact gH.some' (fun h => h)
set_option maxRecDepth 4000 in
theorem w_Main_champion_J87 {v3 : Int32} {v6 : Int32} (hX : gOk B X RX10 cX10_champion 7 6 (some .int)) : gH B X (Sum.elim (fun s : (Int32 × Int32 × Int32 × (Nat → Int32) × (Nat → Int32)) => gG B X 6 [(0, .ref (aC B 0)), (1, .int s.1), (2, .int s.2.1), (3, .int s.2.2.1)] [] (wdC B W_spillsNow W_drawn T_length T_at T_bytes D_cells D_clauses G_length G_code A_size A_chosen A_codes A_lengths s.2.2.2.1 Y_cells Y_clauses N_marbles N_chipped N_swallowed N_sweets N_day N_owners P_next P_kept P_hasImage P_image P_acts P_entries P_imageEntries S_fewest S_row S_strengths U_size U_found U_places U_kinds U_holds U_fitting U_tally s.2.2.2.2 L_firstCells L_secondCells L_firstBest L_secondBest W_refusals ++ fr)) (fun r : (Int32 × (Nat → Int32) × (Nat → Int32)) => gFin X (some (.int r.1)) (wdC B W_spillsNow W_drawn T_length T_at T_bytes D_cells D_clauses G_length G_code A_size A_chosen A_codes A_lengths r.2.1 Y_cells Y_clauses N_marbles N_chipped N_swallowed N_sweets N_day N_owners P_next P_kept P_hasImage P_image P_acts P_entries P_imageEntries S_fewest S_row S_strengths U_size U_found U_places U_kinds U_holds U_fitting U_tally r.2.2 L_firstCells L_secondCells L_firstBest L_secondBest W_refusals ++ fr))) 87 [(0, .ref (aC B 0)), (3, .int v3), (6, .int v6)] [] (wdC B W_spillsNow W_drawn T_length T_at T_bytes D_cells D_clauses G_length G_code A_size A_chosen A_codes A_lengths A_stack Y_cells Y_clauses N_marbles N_chipped N_swallowed N_sweets N_day N_owners P_next P_kept P_hasImage P_image P_acts P_entries P_imageEntries S_fewest S_row S_strengths U_size U_found U_places U_kinds U_holds U_fitting U_tally L_letters L_firstCells L_secondCells L_firstBest L_secondBest W_refusals ++ fr) (f_Main_champion_J87 A_stack L_letters v3 v6) := by
  unfold f_Main_champion_J87
  refine h_iload_n hX dX10_champion_87 rfl rfl ?_
  refine h_istore_n hX dX10_champion_88 rfl (by decide) (lv' := [(0, .ref (aC B 0)), (1, .int v3), (3, .int v3), (6, .int v6)]) rfl ?_
  refine h_iload hX dX10_champion_89 rfl ?_
  refine h_istore_n hX dX10_champion_91 rfl (by decide) (lv' := [(0, .ref (aC B 0)), (1, .int v3), (2, .int v6), (3, .int v3), (6, .int v6)]) rfl ?_
  refine gH.dead [0, 1, 2, 3] rfl ?_
  exact w_Main_champion_J92 hX
set_option maxRecDepth 4000 in
theorem w_Main_champion_J44 {v1 : Int32} {v2 : Int32} {v3 : Int32} {v4 : Int32} {k0 : Int32} (hX : gOk B X RX10 cX10_champion 7 6 (some .int)) : gH B X (Sum.elim (fun s : (Int32 × Int32 × Int32 × (Nat → Int32) × (Nat → Int32)) => gG B X 6 [(0, .ref (aC B 0)), (1, .int s.1), (2, .int s.2.1), (3, .int s.2.2.1)] [] (wdC B W_spillsNow W_drawn T_length T_at T_bytes D_cells D_clauses G_length G_code A_size A_chosen A_codes A_lengths s.2.2.2.1 Y_cells Y_clauses N_marbles N_chipped N_swallowed N_sweets N_day N_owners P_next P_kept P_hasImage P_image P_acts P_entries P_imageEntries S_fewest S_row S_strengths U_size U_found U_places U_kinds U_holds U_fitting U_tally s.2.2.2.2 L_firstCells L_secondCells L_firstBest L_secondBest W_refusals ++ fr)) (fun r : (Int32 × (Nat → Int32) × (Nat → Int32)) => gFin X (some (.int r.1)) (wdC B W_spillsNow W_drawn T_length T_at T_bytes D_cells D_clauses G_length G_code A_size A_chosen A_codes A_lengths r.2.1 Y_cells Y_clauses N_marbles N_chipped N_swallowed N_sweets N_day N_owners P_next P_kept P_hasImage P_image P_acts P_entries P_imageEntries S_fewest S_row S_strengths U_size U_found U_places U_kinds U_holds U_fitting U_tally r.2.2 L_firstCells L_secondCells L_firstBest L_secondBest W_refusals ++ fr))) 44 [(0, .ref (aC B 0)), (1, .int v1), (2, .int v2), (3, .int v3), (4, .int v4)] [.int k0] (wdC B W_spillsNow W_drawn T_length T_at T_bytes D_cells D_clauses G_length G_code A_size A_chosen A_codes A_lengths A_stack Y_cells Y_clauses N_marbles N_chipped N_swallowed N_sweets N_day N_owners P_next P_kept P_hasImage P_image P_acts P_entries P_imageEntries S_fewest S_row S_strengths U_size U_found U_places U_kinds U_holds U_fitting U_tally L_letters L_firstCells L_secondCells L_firstBest L_secondBest W_refusals ++ fr) (f_Main_champion_J44 A_size A_chosen A_codes A_lengths A_stack Y_cells N_marbles N_chipped N_day N_owners L_letters v1 v2 v3 v4 k0) := by
  unfold f_Main_champion_J44
  refine h_istore hX dX10_champion_44 (by decide) (lv' := [(0, .ref (aC B 0)), (1, .int v1), (2, .int v2), (3, .int v3), (4, .int v4), (5, .int k0)]) rfl ?_
  refine h_iload hX dX10_champion_46 rfl ?_
  refine h_iconst hX dX10_champion_48 ki_m1 ?_
  refine h_icmp_ne hX dX10_champion_49 (tgt := 55) (by decide) (fun _ => ?_) (fun _ => ?_)
  · refine h_aload_n hX dX10_champion_55 rfl rfl ?_
    refine get_RX10_85_C0 hX dX10_champion_56 ?_
    refine h_aload_n hX dX10_champion_59 rfl rfl ?_
    refine get_RX10_85_C0 hX dX10_champion_60 ?_
    refine h_iload_n hX dX10_champion_63 rfl rfl ?_
    refine h_iload hX dX10_champion_64 rfl ?_
    refine h_iload hX dX10_champion_66 rfl ?_
    refine h_callVi hX dX10_champion_68 (cv_RX10_276) rc_C30 (As := [.int v3, .int v4, .int k0]) (st := [.ref (aC B 30)]) (fun _ h => c_Lane_flick h) rfl rfl (by decide) (Nat.le_of_ble_eq_true rfl) (fun a_4 => ?_)
    refine h_callVi hX dX10_champion_71 (cv_RX10_398) rc_C30 (As := [.int a_4.1]) (st := []) (fun _ h => c_Lane_distance h) rfl rfl (by decide) (Nat.le_of_ble_eq_true rfl) (fun a_5 => ?_)
    refine h_istore hX dX10_champion_74 (by decide) (lv' := [(0, .ref (aC B 0)), (1, .int v1), (2, .int v2), (3, .int v3), (4, .int v4), (5, .int k0), (6, .int a_5)]) rfl ?_
    refine h_iload_n hX dX10_champion_76 rfl rfl ?_
    refine h_iconst hX dX10_champion_77 ki_m1 ?_
    refine h_icmp_eq hX dX10_champion_78 (tgt := 87) (by decide) (fun _ => ?_) (fun _ => ?_)
    · refine gH.dead [0, 3, 6] rfl ?_
      exact w_Main_champion_J87 hX
    · refine h_iload hX dX10_champion_81 rfl ?_
      refine h_iload_n hX dX10_champion_83 rfl rfl ?_
      refine h_icmp_ge hX dX10_champion_84 (tgt := 92) (by decide) (fun _ => ?_) (fun _ => ?_)
      · refine gH.dead [0, 1, 2, 3] rfl ?_
        exact w_Main_champion_J92 hX
      · refine gH.dead [0, 3, 6] rfl ?_
        exact w_Main_champion_J87 hX
  · refine h_goto hX dX10_champion_52 (tgt := 92) (by decide) ?_
    refine gH.dead [0, 1, 2, 3] rfl ?_
    exact w_Main_champion_J92 hX
set_option maxRecDepth 4000 in
theorem w_Main_champion_L6 (hX : gOk B X RX10 cX10_champion 7 6 (some .int)) (s : (Int32 × Int32 × Int32 × (Nat → Int32) × (Nat → Int32))) : gH B X (Sum.elim (fun s : (Int32 × Int32 × Int32 × (Nat → Int32) × (Nat → Int32)) => gG B X 6 [(0, .ref (aC B 0)), (1, .int s.1), (2, .int s.2.1), (3, .int s.2.2.1)] [] (wdC B W_spillsNow W_drawn T_length T_at T_bytes D_cells D_clauses G_length G_code A_size A_chosen A_codes A_lengths s.2.2.2.1 Y_cells Y_clauses N_marbles N_chipped N_swallowed N_sweets N_day N_owners P_next P_kept P_hasImage P_image P_acts P_entries P_imageEntries S_fewest S_row S_strengths U_size U_found U_places U_kinds U_holds U_fitting U_tally s.2.2.2.2 L_firstCells L_secondCells L_firstBest L_secondBest W_refusals ++ fr)) (fun r : (Int32 × (Nat → Int32) × (Nat → Int32)) => gFin X (some (.int r.1)) (wdC B W_spillsNow W_drawn T_length T_at T_bytes D_cells D_clauses G_length G_code A_size A_chosen A_codes A_lengths r.2.1 Y_cells Y_clauses N_marbles N_chipped N_swallowed N_sweets N_day N_owners P_next P_kept P_hasImage P_image P_acts P_entries P_imageEntries S_fewest S_row S_strengths U_size U_found U_places U_kinds U_holds U_fitting U_tally r.2.2 L_firstCells L_secondCells L_firstBest L_secondBest W_refusals ++ fr))) 6 [(0, .ref (aC B 0)), (1, .int s.1), (2, .int s.2.1), (3, .int s.2.2.1)] [] (wdC B W_spillsNow W_drawn T_length T_at T_bytes D_cells D_clauses G_length G_code A_size A_chosen A_codes A_lengths s.2.2.2.1 Y_cells Y_clauses N_marbles N_chipped N_swallowed N_sweets N_day N_owners P_next P_kept P_hasImage P_image P_acts P_entries P_imageEntries S_fewest S_row S_strengths U_size U_found U_places U_kinds U_holds U_fitting U_tally s.2.2.2.2 L_firstCells L_secondCells L_firstBest L_secondBest W_refusals ++ fr) (f_Main_champion_L6 A_size A_chosen A_codes A_lengths Y_cells Y_clauses N_marbles N_chipped N_swallowed N_day N_owners s) := by
  unfold f_Main_champion_L6
  refine h_iload_n hX dX10_champion_6 rfl rfl ?_
  refine h_aload_n hX dX10_champion_7 rfl rfl ?_
  refine get_RX10_42_C0 hX dX10_champion_8 ?_
  refine h_callVi hX dX10_champion_11 (cv_RX10_358) rc_C13 (As := []) (st := [.int s.2.2.1]) (fun _ h => c_Yard_boys h) rfl rfl (by decide) (Nat.le_of_ble_eq_true rfl) (fun a_1 => ?_)
  refine h_icmp_ge hX dX10_champion_14 (tgt := 98) (by decide) (fun _ => ?_) (fun _ => ?_)
  · refine h_iload_n hX dX10_champion_98 rfl rfl ?_
    exact h_ret hX (rv := some (.int s.1)) dX10_champion_99 trivial (fun h => h)
  · refine h_aload_n hX dX10_champion_17 rfl rfl ?_
    refine h_iload_n hX dX10_champion_18 rfl rfl ?_
    refine h_callVi hX dX10_champion_19 (cv_RX10_395) rc_C0 (As := [.int s.2.2.1]) (st := []) (fun _ h => c_Main_greatestOf h) rfl rfl (by decide) (Nat.le_of_ble_eq_true rfl) (fun a_2 => ?_)
    refine h_istore hX dX10_champion_22 (by decide) (lv' := [(0, .ref (aC B 0)), (1, .int s.1), (2, .int s.2.1), (3, .int s.2.2.1), (4, .int a_2)]) rfl ?_
    refine h_iload hX dX10_champion_24 rfl ?_
    refine h_iconst hX dX10_champion_26 ki_m1 ?_
    refine h_icmp_ne hX dX10_champion_27 (tgt := 34) (by decide) (fun _ => ?_) (fun _ => ?_)
    · refine h_aload_n hX dX10_champion_34 rfl rfl ?_
      refine get_RX10_85_C0 hX dX10_champion_35 ?_
      refine h_iload_n hX dX10_champion_38 rfl rfl ?_
      refine h_iload hX dX10_champion_39 rfl ?_
      refine h_callVi hX dX10_champion_41 (cv_RX10_280) rc_C30 (As := [.int s.2.2.1, .int a_2]) (st := []) (fun _ h => c_Lane_nearestPower h) rfl rfl (by decide) (Nat.le_of_ble_eq_true rfl) (fun a_3 => ?_)
      exact w_Main_champion_J44 hX
    · refine h_iconst hX dX10_champion_30 ki_m1 ?_
      refine h_goto hX dX10_champion_31 (tgt := 44) (by decide) ?_
      exact w_Main_champion_J44 hX
set_option maxRecDepth 4000 in
theorem w_Main_champion (hX : gOk B X RX10 cX10_champion 7 6 (some .int)) : gH B X (fun r : (Int32 × (Nat → Int32) × (Nat → Int32)) => gFin X (some (.int r.1)) (wdC B W_spillsNow W_drawn T_length T_at T_bytes D_cells D_clauses G_length G_code A_size A_chosen A_codes A_lengths r.2.1 Y_cells Y_clauses N_marbles N_chipped N_swallowed N_sweets N_day N_owners P_next P_kept P_hasImage P_image P_acts P_entries P_imageEntries S_fewest S_row S_strengths U_size U_found U_places U_kinds U_holds U_fitting U_tally r.2.2 L_firstCells L_secondCells L_firstBest L_secondBest W_refusals ++ fr)) 0 [(0, .ref (aC B 0))] [] (wdC B W_spillsNow W_drawn T_length T_at T_bytes D_cells D_clauses G_length G_code A_size A_chosen A_codes A_lengths A_stack Y_cells Y_clauses N_marbles N_chipped N_swallowed N_sweets N_day N_owners P_next P_kept P_hasImage P_image P_acts P_entries P_imageEntries S_fewest S_row S_strengths U_size U_found U_places U_kinds U_holds U_fitting U_tally L_letters L_firstCells L_secondCells L_firstBest L_secondBest W_refusals ++ fr) (f_Main_champion A_size A_chosen A_codes A_lengths A_stack Y_cells Y_clauses N_marbles N_chipped N_swallowed N_day N_owners L_letters) := by
  unfold f_Main_champion
  refine h_iconst hX dX10_champion_0 ki_m1 ?_
  refine h_istore_n hX dX10_champion_1 rfl (by decide) (lv' := [(0, .ref (aC B 0)), (1, .int ((-1)))]) rfl ?_
  refine h_iconst hX dX10_champion_2 ki_0 ?_
  refine h_istore_n hX dX10_champion_3 rfl (by decide) (lv' := [(0, .ref (aC B 0)), (1, .int ((-1))), (2, .int 0)]) rfl ?_
  refine h_iconst hX dX10_champion_4 ki_0 ?_
  refine h_istore_n hX dX10_champion_5 rfl (by decide) (lv' := [(0, .ref (aC B 0)), (1, .int ((-1))), (2, .int 0), (3, .int 0)]) rfl ?_
  exact gH.loop (lvf := fun s : (Int32 × Int32 × Int32 × (Nat → Int32) × (Nat → Int32)) => [(0, .ref (aC B 0)), (1, .int s.1), (2, .int s.2.1), (3, .int s.2.2.1)]) (wf := fun s : (Int32 × Int32 × Int32 × (Nat → Int32) × (Nat → Int32)) => wdC B W_spillsNow W_drawn T_length T_at T_bytes D_cells D_clauses G_length G_code A_size A_chosen A_codes A_lengths s.2.2.2.1 Y_cells Y_clauses N_marbles N_chipped N_swallowed N_sweets N_day N_owners P_next P_kept P_hasImage P_image P_acts P_entries P_imageEntries S_fewest S_row S_strengths U_size U_found U_places U_kinds U_holds U_fitting U_tally s.2.2.2.2 L_firstCells L_secondCells L_firstBest L_secondBest W_refusals ++ fr) (fun s => w_Main_champion_L6 hX s) ((-1), 0, 0, A_stack, L_letters)
theorem c_Main_champion {r : (Int32 × (Nat → Int32) × (Nat → Int32))} (h : f_Main_champion A_size A_chosen A_codes A_lengths A_stack Y_cells Y_clauses N_marbles N_chipped N_swallowed N_day N_owners L_letters = some r) : gMet B 6 yX10_champion cX10_champion 7 (some .int) [.ref (aC B 0)] (wdC B W_spillsNow W_drawn T_length T_at T_bytes D_cells D_clauses G_length G_code A_size A_chosen A_codes A_lengths A_stack Y_cells Y_clauses N_marbles N_chipped N_swallowed N_sweets N_day N_owners P_next P_kept P_hasImage P_image P_acts P_entries P_imageEntries S_fewest S_row S_strengths U_size U_found U_places U_kinds U_holds U_fitting U_tally L_letters L_firstCells L_secondCells L_firstBest L_secondBest W_refusals ++ fr) (some (.int r.1)) (wdC B W_spillsNow W_drawn T_length T_at T_bytes D_cells D_clauses G_length G_code A_size A_chosen A_codes A_lengths r.2.1 Y_cells Y_clauses N_marbles N_chipped N_swallowed N_sweets N_day N_owners P_next P_kept P_hasImage P_image P_acts P_entries P_imageEntries S_fewest S_row S_strengths U_size U_found U_places U_kinds U_holds U_fitting U_tally r.2.2 L_firstCells L_secondCells L_firstBest L_secondBest W_refusals ++ fr) :=
  gMet.of rfl (Nat.le_of_ble_eq_true rfl) (fun X hX hF => w_Main_champion hX r h hF)
set_option maxRecDepth 4000 in
theorem w_Main_refuse {p0 : Int32} (hX : gOk B X RX10 cX10_refuse 2 0 (some .int)) : gH B X (fun r : (Int32 × (Nat → Int32)) => gFin X (some (.int r.1)) (wdC B W_spillsNow W_drawn T_length T_at T_bytes D_cells D_clauses G_length G_code A_size A_chosen A_codes A_lengths A_stack Y_cells Y_clauses N_marbles N_chipped N_swallowed N_sweets N_day N_owners P_next P_kept P_hasImage P_image P_acts P_entries P_imageEntries S_fewest S_row S_strengths U_size U_found U_places U_kinds U_holds U_fitting U_tally L_letters L_firstCells L_secondCells L_firstBest L_secondBest r.2 ++ fr)) 0 [(0, .ref (aC B 0)), (1, .int p0)] [] (wdC B W_spillsNow W_drawn T_length T_at T_bytes D_cells D_clauses G_length G_code A_size A_chosen A_codes A_lengths A_stack Y_cells Y_clauses N_marbles N_chipped N_swallowed N_sweets N_day N_owners P_next P_kept P_hasImage P_image P_acts P_entries P_imageEntries S_fewest S_row S_strengths U_size U_found U_places U_kinds U_holds U_fitting U_tally L_letters L_firstCells L_secondCells L_firstBest L_secondBest W_refusals ++ fr) (f_Main_refuse W_refusals p0) := by
  unfold f_Main_refuse
  refine h_iload_n hX dX10_refuse_0 rfl rfl ?_
  refine h_if_lt hX dX10_refuse_1 (tgt := 19) (by decide) (fun _ => ?_) (fun _ => ?_)
  · refine h_iconst hX dX10_refuse_19 ki_m1 ?_
    exact h_ret hX (rv := some (.int ((-1)))) dX10_refuse_20 trivial (fun h => h)
  · refine h_iload_n hX dX10_refuse_4 rfl rfl ?_
    refine h_iconst hX dX10_refuse_5 ki_5 ?_
    refine h_icmp_ge hX dX10_refuse_6 (tgt := 19) (by decide) (fun _ => ?_) (fun _ => ?_)
    · refine h_iconst hX dX10_refuse_19 ki_m1 ?_
      exact h_ret hX (rv := some (.int ((-1)))) dX10_refuse_20 trivial (fun h => h)
    · refine h_aload_n hX dX10_refuse_9 rfl rfl ?_
      refine get_RX10_89_C0 hX dX10_refuse_10 ?_
      refine h_iload_n hX dX10_refuse_13 rfl rfl ?_
      refine h_dup2 hX dX10_refuse_14 rfl rfl ?_
      refine ald_C36 hX dX10_refuse_15 ?_
      refine h_iconst hX dX10_refuse_16 ki_1 ?_
      refine h_iadd hX dX10_refuse_17 ?_
      refine ast_C36 hX dX10_refuse_18 ?_
      refine gH.letw (w := fun y => wdC B W_spillsNow W_drawn T_length T_at T_bytes D_cells D_clauses G_length G_code A_size A_chosen A_codes A_lengths A_stack Y_cells Y_clauses N_marbles N_chipped N_swallowed N_sweets N_day N_owners P_next P_kept P_hasImage P_image P_acts P_entries P_imageEntries S_fewest S_row S_strengths U_size U_found U_places U_kinds U_holds U_fitting U_tally L_letters L_firstCells L_secondCells L_firstBest L_secondBest y ++ fr) (fun W_refusals_1 => ?_)
      refine h_iconst hX dX10_refuse_19 ki_m1 ?_
      exact h_ret hX (rv := some (.int ((-1)))) dX10_refuse_20 trivial (fun h => h)
theorem c_Main_refuse {p0 : Int32} {r : (Int32 × (Nat → Int32))} (h : f_Main_refuse W_refusals p0 = some r) : gMet B 0 yX10_refuse cX10_refuse 2 (some .int) [.ref (aC B 0), .int p0] (wdC B W_spillsNow W_drawn T_length T_at T_bytes D_cells D_clauses G_length G_code A_size A_chosen A_codes A_lengths A_stack Y_cells Y_clauses N_marbles N_chipped N_swallowed N_sweets N_day N_owners P_next P_kept P_hasImage P_image P_acts P_entries P_imageEntries S_fewest S_row S_strengths U_size U_found U_places U_kinds U_holds U_fitting U_tally L_letters L_firstCells L_secondCells L_firstBest L_secondBest W_refusals ++ fr) (some (.int r.1)) (wdC B W_spillsNow W_drawn T_length T_at T_bytes D_cells D_clauses G_length G_code A_size A_chosen A_codes A_lengths A_stack Y_cells Y_clauses N_marbles N_chipped N_swallowed N_sweets N_day N_owners P_next P_kept P_hasImage P_image P_acts P_entries P_imageEntries S_fewest S_row S_strengths U_size U_found U_places U_kinds U_holds U_fitting U_tally L_letters L_firstCells L_secondCells L_firstBest L_secondBest r.2 ++ fr) :=
  gMet.of rfl (Nat.le_of_ble_eq_true rfl) (fun X hX hF => w_Main_refuse hX r h hF)
set_option maxRecDepth 4000 in
theorem w_Now_packed_L38 (hX : gOk B X RX4 cX4_packed 4 0 (some .long)) (s : (Int64 × Int32)) : gH B X (Sum.elim (fun s : (Int64 × Int32) => gG B X 38 [(0, .ref (aC B 16)), (1, .long s.1), (3, .int s.2)] [] (wdC B W_spillsNow W_drawn T_length T_at T_bytes D_cells D_clauses G_length G_code A_size A_chosen A_codes A_lengths A_stack Y_cells Y_clauses N_marbles N_chipped N_swallowed N_sweets N_day N_owners P_next P_kept P_hasImage P_image P_acts P_entries P_imageEntries S_fewest S_row S_strengths U_size U_found U_places U_kinds U_holds U_fitting U_tally L_letters L_firstCells L_secondCells L_firstBest L_secondBest W_refusals ++ fr)) (fun r : Int64 => gFin X (some (.long r)) (wdC B W_spillsNow W_drawn T_length T_at T_bytes D_cells D_clauses G_length G_code A_size A_chosen A_codes A_lengths A_stack Y_cells Y_clauses N_marbles N_chipped N_swallowed N_sweets N_day N_owners P_next P_kept P_hasImage P_image P_acts P_entries P_imageEntries S_fewest S_row S_strengths U_size U_found U_places U_kinds U_holds U_fitting U_tally L_letters L_firstCells L_secondCells L_firstBest L_secondBest W_refusals ++ fr))) 38 [(0, .ref (aC B 16)), (1, .long s.1), (3, .int s.2)] [] (wdC B W_spillsNow W_drawn T_length T_at T_bytes D_cells D_clauses G_length G_code A_size A_chosen A_codes A_lengths A_stack Y_cells Y_clauses N_marbles N_chipped N_swallowed N_sweets N_day N_owners P_next P_kept P_hasImage P_image P_acts P_entries P_imageEntries S_fewest S_row S_strengths U_size U_found U_places U_kinds U_holds U_fitting U_tally L_letters L_firstCells L_secondCells L_firstBest L_secondBest W_refusals ++ fr) (f_Now_packed_L38 N_marbles N_owners s) := by
  unfold f_Now_packed_L38
  refine h_iload_n hX dX4_packed_38 rfl rfl ?_
  refine h_aload_n hX dX4_packed_39 rfl rfl ?_
  refine get_RX4_27_C16 hX dX4_packed_40 ?_
  refine h_icmp_ge hX dX4_packed_43 (tgt := 68) (by decide) (fun _ => ?_) (fun _ => ?_)
  · refine h_lload_n hX dX4_packed_68 rfl rfl ?_
    exact h_ret hX (rv := some (.long s.1)) dX4_packed_69 trivial (fun h => h)
  · refine h_lload_n hX dX4_packed_46 rfl rfl ?_
    refine h_aload_n hX dX4_packed_47 rfl rfl ?_
    refine get_RX4_9_C16 hX dX4_packed_48 ?_
    refine h_iload_n hX dX4_packed_51 rfl rfl ?_
    refine ald_C17 hX dX4_packed_52 ?_
    refine h_iconst hX dX4_packed_53 ki_1 ?_
    refine h_iadd hX dX4_packed_54 ?_
    refine h_i2l hX dX4_packed_55 ?_
    refine h_iconst hX dX4_packed_56 ki_3 ?_
    refine h_iload_n hX dX4_packed_57 rfl rfl ?_
    refine h_imul hX dX4_packed_58 ?_
    refine h_lshl hX dX4_packed_59 ?_
    refine h_lor hX dX4_packed_60 ?_
    refine gH.letl (fun v1_2 => ?_)
    refine h_lstore_n hX dX4_packed_61 rfl (by decide) (lv' := [(0, .ref (aC B 16)), (1, .long v1_2), (3, .int s.2)]) rfl ?_
    refine h_iincc hX dX4_packed_62 rfl ki_1 (by decide) (lv' := [(0, .ref (aC B 16)), (1, .long v1_2), (3, .int (s.2 + 1))]) rfl ?_
    refine h_goto hX dX4_packed_65 (tgt := 38) (by decide) ?_
    exact gH.some' (fun h => h)
set_option maxRecDepth 4000 in
theorem w_Now_packed (hX : gOk B X RX4 cX4_packed 4 0 (some .long)) : gH B X (fun r : Int64 => gFin X (some (.long r)) (wdC B W_spillsNow W_drawn T_length T_at T_bytes D_cells D_clauses G_length G_code A_size A_chosen A_codes A_lengths A_stack Y_cells Y_clauses N_marbles N_chipped N_swallowed N_sweets N_day N_owners P_next P_kept P_hasImage P_image P_acts P_entries P_imageEntries S_fewest S_row S_strengths U_size U_found U_places U_kinds U_holds U_fitting U_tally L_letters L_firstCells L_secondCells L_firstBest L_secondBest W_refusals ++ fr)) 0 [(0, .ref (aC B 16))] [] (wdC B W_spillsNow W_drawn T_length T_at T_bytes D_cells D_clauses G_length G_code A_size A_chosen A_codes A_lengths A_stack Y_cells Y_clauses N_marbles N_chipped N_swallowed N_sweets N_day N_owners P_next P_kept P_hasImage P_image P_acts P_entries P_imageEntries S_fewest S_row S_strengths U_size U_found U_places U_kinds U_holds U_fitting U_tally L_letters L_firstCells L_secondCells L_firstBest L_secondBest W_refusals ++ fr) (f_Now_packed N_marbles N_chipped N_swallowed N_sweets N_day N_owners) := by
  unfold f_Now_packed
  refine h_aload_n hX dX4_packed_0 rfl rfl ?_
  refine get_RX4_46_C16 hX dX4_packed_1 ?_
  refine h_i2l hX dX4_packed_4 ?_
  refine h_bipush hX dX4_packed_5 kb_40 ?_
  refine h_lshl hX dX4_packed_7 ?_
  refine h_aload_n hX dX4_packed_8 rfl rfl ?_
  refine get_RX4_43_C16 hX dX4_packed_9 ?_
  refine h_i2l hX dX4_packed_12 ?_
  refine h_bipush hX dX4_packed_13 kb_30 ?_
  refine h_lshl hX dX4_packed_15 ?_
  refine h_lor hX dX4_packed_16 ?_
  refine h_aload_n hX dX4_packed_17 rfl rfl ?_
  refine get_RX4_37_C16 hX dX4_packed_18 ?_
  refine h_i2l hX dX4_packed_21 ?_
  refine h_bipush hX dX4_packed_22 kb_24 ?_
  refine h_lshl hX dX4_packed_24 ?_
  refine h_lor hX dX4_packed_25 ?_
  refine h_aload_n hX dX4_packed_26 rfl rfl ?_
  refine get_RX4_34_C16 hX dX4_packed_27 ?_
  refine h_i2l hX dX4_packed_30 ?_
  refine h_bipush hX dX4_packed_31 kb_18 ?_
  refine h_lshl hX dX4_packed_33 ?_
  refine h_lor hX dX4_packed_34 ?_
  refine gH.letl (fun v1_1 => ?_)
  refine h_lstore_n hX dX4_packed_35 rfl (by decide) (lv' := [(0, .ref (aC B 16)), (1, .long v1_1)]) rfl ?_
  refine h_iconst hX dX4_packed_36 ki_0 ?_
  refine h_istore_n hX dX4_packed_37 rfl (by decide) (lv' := [(0, .ref (aC B 16)), (1, .long v1_1), (3, .int 0)]) rfl ?_
  exact gH.loop (lvf := fun s : (Int64 × Int32) => [(0, .ref (aC B 16)), (1, .long s.1), (3, .int s.2)]) (wf := fun s : (Int64 × Int32) => wdC B W_spillsNow W_drawn T_length T_at T_bytes D_cells D_clauses G_length G_code A_size A_chosen A_codes A_lengths A_stack Y_cells Y_clauses N_marbles N_chipped N_swallowed N_sweets N_day N_owners P_next P_kept P_hasImage P_image P_acts P_entries P_imageEntries S_fewest S_row S_strengths U_size U_found U_places U_kinds U_holds U_fitting U_tally L_letters L_firstCells L_secondCells L_firstBest L_secondBest W_refusals ++ fr) (fun s => w_Now_packed_L38 hX s) (v1_1, 0)
theorem c_Now_packed {r : Int64} (h : f_Now_packed N_marbles N_chipped N_swallowed N_sweets N_day N_owners = some r) : gMet B 0 yX4_packed cX4_packed 4 (some .long) [.ref (aC B 16)] (wdC B W_spillsNow W_drawn T_length T_at T_bytes D_cells D_clauses G_length G_code A_size A_chosen A_codes A_lengths A_stack Y_cells Y_clauses N_marbles N_chipped N_swallowed N_sweets N_day N_owners P_next P_kept P_hasImage P_image P_acts P_entries P_imageEntries S_fewest S_row S_strengths U_size U_found U_places U_kinds U_holds U_fitting U_tally L_letters L_firstCells L_secondCells L_firstBest L_secondBest W_refusals ++ fr) (some (.long r)) (wdC B W_spillsNow W_drawn T_length T_at T_bytes D_cells D_clauses G_length G_code A_size A_chosen A_codes A_lengths A_stack Y_cells Y_clauses N_marbles N_chipped N_swallowed N_sweets N_day N_owners P_next P_kept P_hasImage P_image P_acts P_entries P_imageEntries S_fewest S_row S_strengths U_size U_found U_places U_kinds U_holds U_fitting U_tally L_letters L_firstCells L_secondCells L_firstBest L_secondBest W_refusals ++ fr) :=
  gMet.of rfl (Nat.le_of_ble_eq_true rfl) (fun X hX hF => w_Now_packed hX r h hF)
set_option maxRecDepth 4000 in
theorem w_Past_remember (hX : gOk B X RX5 cX5_remember 1 1 none) : gH B X (fun r : (Int32 × Int32 × (Nat → Int64)) => gFin X (none) (wdC B W_spillsNow W_drawn T_length T_at T_bytes D_cells D_clauses G_length G_code A_size A_chosen A_codes A_lengths A_stack Y_cells Y_clauses N_marbles N_chipped N_swallowed N_sweets N_day N_owners r.1 r.2.1 P_hasImage P_image r.2.2 P_entries P_imageEntries S_fewest S_row S_strengths U_size U_found U_places U_kinds U_holds U_fitting U_tally L_letters L_firstCells L_secondCells L_firstBest L_secondBest W_refusals ++ fr)) 0 [(0, .ref (aC B 18))] [] (wdC B W_spillsNow W_drawn T_length T_at T_bytes D_cells D_clauses G_length G_code A_size A_chosen A_codes A_lengths A_stack Y_cells Y_clauses N_marbles N_chipped N_swallowed N_sweets N_day N_owners P_next P_kept P_hasImage P_image P_acts P_entries P_imageEntries S_fewest S_row S_strengths U_size U_found U_places U_kinds U_holds U_fitting U_tally L_letters L_firstCells L_secondCells L_firstBest L_secondBest W_refusals ++ fr) (f_Past_remember N_marbles N_chipped N_swallowed N_sweets N_day N_owners P_next P_kept P_acts) := by
  unfold f_Past_remember
  refine h_aload_n hX dX5_remember_0 rfl rfl ?_
  refine get_RX5_9_C18 hX dX5_remember_1 ?_
  refine h_aload_n hX dX5_remember_4 rfl rfl ?_
  refine get_RX5_34_C18 hX dX5_remember_5 ?_
  refine h_aload_n hX dX5_remember_8 rfl rfl ?_
  refine get_RX5_22_C18 hX dX5_remember_9 ?_
  refine h_callVl hX dX5_remember_12 (cv_RX5_37) rc_C16 (As := []) (st := [.int P_next, .ref (aC B 19)]) (fun _ h => c_Now_packed h) rfl rfl (by decide) (Nat.le_of_ble_eq_true rfl) (fun a_1 => ?_)
  refine ast_C19 hX dX5_remember_15 ?_
  refine gH.letw (w := fun y => wdC B W_spillsNow W_drawn T_length T_at T_bytes D_cells D_clauses G_length G_code A_size A_chosen A_codes A_lengths A_stack Y_cells Y_clauses N_marbles N_chipped N_swallowed N_sweets N_day N_owners P_next P_kept P_hasImage P_image y P_entries P_imageEntries S_fewest S_row S_strengths U_size U_found U_places U_kinds U_holds U_fitting U_tally L_letters L_firstCells L_secondCells L_firstBest L_secondBest W_refusals ++ fr) (fun P_acts_2 => ?_)
  refine h_aload_n hX dX5_remember_16 rfl rfl ?_
  refine h_aload_n hX dX5_remember_17 rfl rfl ?_
  refine get_RX5_34_C18 hX dX5_remember_18 ?_
  refine h_iconst hX dX5_remember_21 ki_1 ?_
  refine h_iadd hX dX5_remember_22 ?_
  refine h_bipush hX dX5_remember_23 kb_40 ?_
  refine h_iremc hX dX5_remember_25 (by decide) ?_
  refine put_RX5_34_C18 hX dX5_remember_26 ?_
  refine gH.letw (w := fun y => wdC B W_spillsNow W_drawn T_length T_at T_bytes D_cells D_clauses G_length G_code A_size A_chosen A_codes A_lengths A_stack Y_cells Y_clauses N_marbles N_chipped N_swallowed N_sweets N_day N_owners y P_kept P_hasImage P_image P_acts_2 P_entries P_imageEntries S_fewest S_row S_strengths U_size U_found U_places U_kinds U_holds U_fitting U_tally L_letters L_firstCells L_secondCells L_firstBest L_secondBest W_refusals ++ fr) (fun P_next_3 => ?_)
  refine h_aload_n hX dX5_remember_29 rfl rfl ?_
  refine h_aload_n hX dX5_remember_30 rfl rfl ?_
  refine get_RX5_26_C18 hX dX5_remember_31 ?_
  refine h_iconst hX dX5_remember_34 ki_1 ?_
  refine h_iadd hX dX5_remember_35 ?_
  refine h_bipush hX dX5_remember_36 kb_40 ?_
  refine h_callSi hX dX5_remember_38 (cs_RX5_43) (As := [.int (P_kept + 1), .int 40]) (st := [.ref (aC B 18)]) (fun _ h => c_J_min h) rfl rfl (by decide) (Nat.le_of_ble_eq_true rfl) (fun a_4 => ?_)
  refine put_RX5_26_C18 hX dX5_remember_41 ?_
  exact h_ret hX (rv := none) dX5_remember_44 trivial (fun h => h)
theorem c_Past_remember {r : (Int32 × Int32 × (Nat → Int64))} (h : f_Past_remember N_marbles N_chipped N_swallowed N_sweets N_day N_owners P_next P_kept P_acts = some r) : gMet B 1 yX5_remember cX5_remember 1 none [.ref (aC B 18)] (wdC B W_spillsNow W_drawn T_length T_at T_bytes D_cells D_clauses G_length G_code A_size A_chosen A_codes A_lengths A_stack Y_cells Y_clauses N_marbles N_chipped N_swallowed N_sweets N_day N_owners P_next P_kept P_hasImage P_image P_acts P_entries P_imageEntries S_fewest S_row S_strengths U_size U_found U_places U_kinds U_holds U_fitting U_tally L_letters L_firstCells L_secondCells L_firstBest L_secondBest W_refusals ++ fr) (none) (wdC B W_spillsNow W_drawn T_length T_at T_bytes D_cells D_clauses G_length G_code A_size A_chosen A_codes A_lengths A_stack Y_cells Y_clauses N_marbles N_chipped N_swallowed N_sweets N_day N_owners r.1 r.2.1 P_hasImage P_image r.2.2 P_entries P_imageEntries S_fewest S_row S_strengths U_size U_found U_places U_kinds U_holds U_fitting U_tally L_letters L_firstCells L_secondCells L_firstBest L_secondBest W_refusals ++ fr) :=
  gMet.of rfl (Nat.le_of_ble_eq_true rfl) (fun X hX hF => w_Past_remember hX r h hF)
set_option maxRecDepth 4000 in
theorem w_Main_chip_J39 (hX : gOk B X RX10 cX10_chip 2 2 (some .int)) : gH B X (fun r : (Int32 × Int32 × Int32 × Int32 × (Nat → Int64) × (Nat → Int32)) => gFin X (some (.int r.1)) (wdC B W_spillsNow W_drawn T_length T_at T_bytes D_cells D_clauses G_length G_code A_size A_chosen A_codes A_lengths A_stack Y_cells Y_clauses N_marbles r.2.1 N_swallowed N_sweets N_day N_owners r.2.2.1 r.2.2.2.1 P_hasImage P_image r.2.2.2.2.1 P_entries P_imageEntries S_fewest S_row S_strengths U_size U_found U_places U_kinds U_holds U_fitting U_tally L_letters L_firstCells L_secondCells L_firstBest L_secondBest r.2.2.2.2.2 ++ fr)) 39 [(0, .ref (aC B 0))] [] (wdC B W_spillsNow W_drawn T_length T_at T_bytes D_cells D_clauses G_length G_code A_size A_chosen A_codes A_lengths A_stack Y_cells Y_clauses N_marbles N_chipped N_swallowed N_sweets N_day N_owners P_next P_kept P_hasImage P_image P_acts P_entries P_imageEntries S_fewest S_row S_strengths U_size U_found U_places U_kinds U_holds U_fitting U_tally L_letters L_firstCells L_secondCells L_firstBest L_secondBest W_refusals ++ fr) (f_Main_chip_J39 N_chipped P_next P_kept P_acts W_refusals) := by
  unfold f_Main_chip_J39
  refine h_aload_n hX dX10_chip_39 rfl rfl ?_
  refine h_iconst hX dX10_chip_40 ki_2 ?_
  refine h_callVi hX dX10_chip_41 (cv_RX10_217) rc_C0 (As := [.int 2]) (st := []) (fun _ h => c_Main_refuse h) rfl rfl (by decide) (Nat.le_of_ble_eq_true rfl) (fun a_3 => ?_)
  exact h_ret hX (rv := some (.int a_3.1)) dX10_chip_44 trivial (fun h => h)
set_option maxRecDepth 4000 in
theorem w_Main_chip {p0 : Int32} (hX : gOk B X RX10 cX10_chip 2 2 (some .int)) : gH B X (fun r : (Int32 × Int32 × Int32 × Int32 × (Nat → Int64) × (Nat → Int32)) => gFin X (some (.int r.1)) (wdC B W_spillsNow W_drawn T_length T_at T_bytes D_cells D_clauses G_length G_code A_size A_chosen A_codes A_lengths A_stack Y_cells Y_clauses N_marbles r.2.1 N_swallowed N_sweets N_day N_owners r.2.2.1 r.2.2.2.1 P_hasImage P_image r.2.2.2.2.1 P_entries P_imageEntries S_fewest S_row S_strengths U_size U_found U_places U_kinds U_holds U_fitting U_tally L_letters L_firstCells L_secondCells L_firstBest L_secondBest r.2.2.2.2.2 ++ fr)) 0 [(0, .ref (aC B 0)), (1, .int p0)] [] (wdC B W_spillsNow W_drawn T_length T_at T_bytes D_cells D_clauses G_length G_code A_size A_chosen A_codes A_lengths A_stack Y_cells Y_clauses N_marbles N_chipped N_swallowed N_sweets N_day N_owners P_next P_kept P_hasImage P_image P_acts P_entries P_imageEntries S_fewest S_row S_strengths U_size U_found U_places U_kinds U_holds U_fitting U_tally L_letters L_firstCells L_secondCells L_firstBest L_secondBest W_refusals ++ fr) (f_Main_chip Y_clauses N_marbles N_chipped N_swallowed N_sweets N_day N_owners P_next P_kept P_acts W_refusals p0) := by
  unfold f_Main_chip
  refine h_aload_n hX dX10_chip_0 rfl rfl ?_
  refine get_RX10_42_C0 hX dX10_chip_1 ?_
  refine h_iload_n hX dX10_chip_4 rfl rfl ?_
  refine h_callVi hX dX10_chip_5 (cv_RX10_177) rc_C13 (As := [.int p0]) (st := []) (fun _ h => c_Yard_hasMarble h) rfl rfl (by decide) (Nat.le_of_ble_eq_true rfl) (fun a_1 => ?_)
  refine h_if_ne hX dX10_chip_8 (tgt := 17) (by decide) (fun _ => ?_) (fun _ => ?_)
  · refine h_aload_n hX dX10_chip_17 rfl rfl ?_
    refine get_RX10_49_C0 hX dX10_chip_18 ?_
    refine h_iload_n hX dX10_chip_21 rfl rfl ?_
    refine h_callVi hX dX10_chip_22 (cv_RX10_189) rc_C16 (As := [.int p0]) (st := []) (fun _ h => c_Now_isChipped h) rfl rfl (by decide) (Nat.le_of_ble_eq_true rfl) (fun a_2 => ?_)
    refine h_if_ne hX dX10_chip_25 (tgt := 39) (by decide) (fun _ => ?_) (fun _ => ?_)
    · refine gH.dead [0] rfl ?_
      exact w_Main_chip_J39 hX
    · refine h_aload_n hX dX10_chip_28 rfl rfl ?_
      refine get_RX10_49_C0 hX dX10_chip_29 ?_
      refine h_iload_n hX dX10_chip_32 rfl rfl ?_
      refine h_callVi hX dX10_chip_33 (cv_RX10_233) rc_C16 (As := [.int p0]) (st := []) (fun _ h => c_Now_isDrained h) rfl rfl (by decide) (Nat.le_of_ble_eq_true rfl) (fun a_4 => ?_)
      refine h_if_eq hX dX10_chip_36 (tgt := 45) (by decide) (fun _ => ?_) (fun _ => ?_)
      · refine h_aload_n hX dX10_chip_45 rfl rfl ?_
        refine get_RX10_58_C0 hX dX10_chip_46 ?_
        refine h_callVv hX dX10_chip_49 (cv_RX10_220) rc_C18 (As := []) (st := []) (fun _ h => c_Past_remember h) rfl rfl (by decide) (Nat.le_of_ble_eq_true rfl) (fun a_5 => ?_)
        refine h_aload_n hX dX10_chip_52 rfl rfl ?_
        refine get_RX10_49_C0 hX dX10_chip_53 ?_
        refine h_dup hX dX10_chip_56 rfl ?_
        refine get_RX10_236_C16 hX dX10_chip_57 ?_
        refine h_iconst hX dX10_chip_60 ki_1 ?_
        refine h_iload_n hX dX10_chip_61 rfl rfl ?_
        refine h_ishl hX dX10_chip_62 ?_
        refine h_ior hX dX10_chip_63 ?_
        refine put_RX10_236_C16 hX dX10_chip_64 ?_
        refine gH.letw (w := fun y => wdC B W_spillsNow W_drawn T_length T_at T_bytes D_cells D_clauses G_length G_code A_size A_chosen A_codes A_lengths A_stack Y_cells Y_clauses N_marbles y N_swallowed N_sweets N_day N_owners a_5.1 a_5.2.1 P_hasImage P_image a_5.2.2 P_entries P_imageEntries S_fewest S_row S_strengths U_size U_found U_places U_kinds U_holds U_fitting U_tally L_letters L_firstCells L_secondCells L_firstBest L_secondBest W_refusals ++ fr) (fun N_chipped_6 => ?_)
        refine h_aload_n hX dX10_chip_67 rfl rfl ?_
        refine get_RX10_49_C0 hX dX10_chip_68 ?_
        refine get_RX10_236_C16 hX dX10_chip_71 ?_
        refine h_callSi hX dX10_chip_74 (cs_RX10_172) (As := [.int N_chipped_6]) (st := []) (fun _ h => c_J_bitCount h) rfl rfl (by decide) (Nat.le_of_ble_eq_true rfl) (fun a_7 => ?_)
        exact h_ret hX (rv := some (.int a_7)) dX10_chip_77 trivial (fun h => h)
      · refine gH.dead [0] rfl ?_
        exact w_Main_chip_J39 hX
  · refine h_aload_n hX dX10_chip_11 rfl rfl ?_
    refine h_iconst hX dX10_chip_12 ki_0 ?_
    refine h_callVi hX dX10_chip_13 (cv_RX10_217) rc_C0 (As := [.int 0]) (st := []) (fun _ h => c_Main_refuse h) rfl rfl (by decide) (Nat.le_of_ble_eq_true rfl) (fun a_8 => ?_)
    exact h_ret hX (rv := some (.int a_8.1)) dX10_chip_16 trivial (fun h => h)
theorem c_Main_chip {p0 : Int32} {r : (Int32 × Int32 × Int32 × Int32 × (Nat → Int64) × (Nat → Int32))} (h : f_Main_chip Y_clauses N_marbles N_chipped N_swallowed N_sweets N_day N_owners P_next P_kept P_acts W_refusals p0 = some r) : gMet B 2 yX10_chip cX10_chip 2 (some .int) [.ref (aC B 0), .int p0] (wdC B W_spillsNow W_drawn T_length T_at T_bytes D_cells D_clauses G_length G_code A_size A_chosen A_codes A_lengths A_stack Y_cells Y_clauses N_marbles N_chipped N_swallowed N_sweets N_day N_owners P_next P_kept P_hasImage P_image P_acts P_entries P_imageEntries S_fewest S_row S_strengths U_size U_found U_places U_kinds U_holds U_fitting U_tally L_letters L_firstCells L_secondCells L_firstBest L_secondBest W_refusals ++ fr) (some (.int r.1)) (wdC B W_spillsNow W_drawn T_length T_at T_bytes D_cells D_clauses G_length G_code A_size A_chosen A_codes A_lengths A_stack Y_cells Y_clauses N_marbles r.2.1 N_swallowed N_sweets N_day N_owners r.2.2.1 r.2.2.2.1 P_hasImage P_image r.2.2.2.2.1 P_entries P_imageEntries S_fewest S_row S_strengths U_size U_found U_places U_kinds U_holds U_fitting U_tally L_letters L_firstCells L_secondCells L_firstBest L_secondBest r.2.2.2.2.2 ++ fr) :=
  gMet.of rfl (Nat.le_of_ble_eq_true rfl) (fun X hX hF => w_Main_chip hX r h hF)
set_option maxRecDepth 4000 in
theorem w_Sky_contentBits_J46 {v2 : Int32} {k0 : Int32} {k1 : Int32} (hX : gOk B X RX6 cX6_contentBits 3 2 (some .int)) : gH B X (Sum.elim (fun s : (Int32 × Int32) => gG B X 4 [(0, .ref (aC B 22)), (1, .int s.1), (2, .int s.2)] [] (wdC B W_spillsNow W_drawn T_length T_at T_bytes D_cells D_clauses G_length G_code A_size A_chosen A_codes A_lengths A_stack Y_cells Y_clauses N_marbles N_chipped N_swallowed N_sweets N_day N_owners P_next P_kept P_hasImage P_image P_acts P_entries P_imageEntries S_fewest S_row S_strengths U_size U_found U_places U_kinds U_holds U_fitting U_tally L_letters L_firstCells L_secondCells L_firstBest L_secondBest W_refusals ++ fr)) (fun r : Int32 => gFin X (some (.int r)) (wdC B W_spillsNow W_drawn T_length T_at T_bytes D_cells D_clauses G_length G_code A_size A_chosen A_codes A_lengths A_stack Y_cells Y_clauses N_marbles N_chipped N_swallowed N_sweets N_day N_owners P_next P_kept P_hasImage P_image P_acts P_entries P_imageEntries S_fewest S_row S_strengths U_size U_found U_places U_kinds U_holds U_fitting U_tally L_letters L_firstCells L_secondCells L_firstBest L_secondBest W_refusals ++ fr))) 46 [(0, .ref (aC B 22)), (2, .int v2)] [.int k1, .int k0] (wdC B W_spillsNow W_drawn T_length T_at T_bytes D_cells D_clauses G_length G_code A_size A_chosen A_codes A_lengths A_stack Y_cells Y_clauses N_marbles N_chipped N_swallowed N_sweets N_day N_owners P_next P_kept P_hasImage P_image P_acts P_entries P_imageEntries S_fewest S_row S_strengths U_size U_found U_places U_kinds U_holds U_fitting U_tally L_letters L_firstCells L_secondCells L_firstBest L_secondBest W_refusals ++ fr) (f_Sky_contentBits_J46 v2 k0 k1) := by
  unfold f_Sky_contentBits_J46
  refine h_ior hX dX6_contentBits_46 ?_
  refine gH.leti (fun v1_5 => ?_)
  refine h_istore_n hX dX6_contentBits_47 rfl (by decide) (lv' := [(0, .ref (aC B 22)), (1, .int v1_5), (2, .int v2)]) rfl ?_
  refine h_iincc hX dX6_contentBits_48 rfl ki_1 (by decide) (lv' := [(0, .ref (aC B 22)), (1, .int v1_5), (2, .int (v2 + 1))]) rfl ?_
  refine h_goto hX dX6_contentBits_51 (tgt := 4) (by decide) ?_
  exact gH.some' (fun h => h)
set_option maxRecDepth 4000 in
theorem w_Sky_contentBits_L4 (hX : gOk B X RX6 cX6_contentBits 3 2 (some .int)) (s : (Int32 × Int32)) : gH B X (Sum.elim (fun s : (Int32 × Int32) => gG B X 4 [(0, .ref (aC B 22)), (1, .int s.1), (2, .int s.2)] [] (wdC B W_spillsNow W_drawn T_length T_at T_bytes D_cells D_clauses G_length G_code A_size A_chosen A_codes A_lengths A_stack Y_cells Y_clauses N_marbles N_chipped N_swallowed N_sweets N_day N_owners P_next P_kept P_hasImage P_image P_acts P_entries P_imageEntries S_fewest S_row S_strengths U_size U_found U_places U_kinds U_holds U_fitting U_tally L_letters L_firstCells L_secondCells L_firstBest L_secondBest W_refusals ++ fr)) (fun r : Int32 => gFin X (some (.int r)) (wdC B W_spillsNow W_drawn T_length T_at T_bytes D_cells D_clauses G_length G_code A_size A_chosen A_codes A_lengths A_stack Y_cells Y_clauses N_marbles N_chipped N_swallowed N_sweets N_day N_owners P_next P_kept P_hasImage P_image P_acts P_entries P_imageEntries S_fewest S_row S_strengths U_size U_found U_places U_kinds U_holds U_fitting U_tally L_letters L_firstCells L_secondCells L_firstBest L_secondBest W_refusals ++ fr))) 4 [(0, .ref (aC B 22)), (1, .int s.1), (2, .int s.2)] [] (wdC B W_spillsNow W_drawn T_length T_at T_bytes D_cells D_clauses G_length G_code A_size A_chosen A_codes A_lengths A_stack Y_cells Y_clauses N_marbles N_chipped N_swallowed N_sweets N_day N_owners P_next P_kept P_hasImage P_image P_acts P_entries P_imageEntries S_fewest S_row S_strengths U_size U_found U_places U_kinds U_holds U_fitting U_tally L_letters L_firstCells L_secondCells L_firstBest L_secondBest W_refusals ++ fr) (f_Sky_contentBits_L4 Y_cells Y_clauses S_strengths s) := by
  unfold f_Sky_contentBits_L4
  refine h_iload_n hX dX6_contentBits_4 rfl rfl ?_
  refine h_aload_n hX dX6_contentBits_5 rfl rfl ?_
  refine get_RX6_15_C22 hX dX6_contentBits_6 ?_
  refine h_callVi hX dX6_contentBits_9 (cv_RX6_69) rc_C13 (As := []) (st := [.int s.2]) (fun _ h => c_Yard_farms h) rfl rfl (by decide) (Nat.le_of_ble_eq_true rfl) (fun a_1 => ?_)
  refine h_icmp_ge hX dX6_contentBits_12 (tgt := 54) (by decide) (fun _ => ?_) (fun _ => ?_)
  · refine h_iload_n hX dX6_contentBits_54 rfl rfl ?_
    exact h_ret hX (rv := some (.int s.1)) dX6_contentBits_55 trivial (fun h => h)
  · refine h_iload_n hX dX6_contentBits_15 rfl rfl ?_
    refine h_aload_n hX dX6_contentBits_16 rfl rfl ?_
    refine h_aload_n hX dX6_contentBits_17 rfl rfl ?_
    refine get_RX6_15_C22 hX dX6_contentBits_18 ?_
    refine h_iload_n hX dX6_contentBits_21 rfl rfl ?_
    refine h_callVi hX dX6_contentBits_22 (cv_RX6_72) rc_C13 (As := [.int s.2]) (st := [.ref (aC B 22), .int s.1]) (fun _ h => c_Yard_farmPlace h) rfl rfl (by decide) (Nat.le_of_ble_eq_true rfl) (fun a_2 => ?_)
    refine h_callVi hX dX6_contentBits_25 (cv_RX6_75) rc_C22 (As := [.int a_2]) (st := [.int s.1]) (fun _ h => c_Sky_strongestKind h) rfl rfl (by decide) (Nat.le_of_ble_eq_true rfl) (fun a_3 => ?_)
    refine h_aload_n hX dX6_contentBits_28 rfl rfl ?_
    refine get_RX6_15_C22 hX dX6_contentBits_29 ?_
    refine h_iload_n hX dX6_contentBits_32 rfl rfl ?_
    refine h_callVi hX dX6_contentBits_33 (cv_RX6_78) rc_C13 (As := [.int s.2]) (st := [.int a_3, .int s.1]) (fun _ h => c_Yard_wanted h) rfl rfl (by decide) (Nat.le_of_ble_eq_true rfl) (fun a_4 => ?_)
    refine h_icmp_ne hX dX6_contentBits_36 (tgt := 45) (by decide) (fun _ => ?_) (fun _ => ?_)
    · refine h_iconst hX dX6_contentBits_45 ki_0 ?_
      refine gH.dead [0, 2] rfl ?_
      exact w_Sky_contentBits_J46 hX
    · refine h_iconst hX dX6_contentBits_39 ki_1 ?_
      refine h_iload_n hX dX6_contentBits_40 rfl rfl ?_
      refine h_ishl hX dX6_contentBits_41 ?_
      refine h_goto hX dX6_contentBits_42 (tgt := 46) (by decide) ?_
      refine gH.dead [0, 2] rfl ?_
      exact w_Sky_contentBits_J46 hX
set_option maxRecDepth 4000 in
theorem w_Sky_contentBits (hX : gOk B X RX6 cX6_contentBits 3 2 (some .int)) : gH B X (fun r : Int32 => gFin X (some (.int r)) (wdC B W_spillsNow W_drawn T_length T_at T_bytes D_cells D_clauses G_length G_code A_size A_chosen A_codes A_lengths A_stack Y_cells Y_clauses N_marbles N_chipped N_swallowed N_sweets N_day N_owners P_next P_kept P_hasImage P_image P_acts P_entries P_imageEntries S_fewest S_row S_strengths U_size U_found U_places U_kinds U_holds U_fitting U_tally L_letters L_firstCells L_secondCells L_firstBest L_secondBest W_refusals ++ fr)) 0 [(0, .ref (aC B 22))] [] (wdC B W_spillsNow W_drawn T_length T_at T_bytes D_cells D_clauses G_length G_code A_size A_chosen A_codes A_lengths A_stack Y_cells Y_clauses N_marbles N_chipped N_swallowed N_sweets N_day N_owners P_next P_kept P_hasImage P_image P_acts P_entries P_imageEntries S_fewest S_row S_strengths U_size U_found U_places U_kinds U_holds U_fitting U_tally L_letters L_firstCells L_secondCells L_firstBest L_secondBest W_refusals ++ fr) (f_Sky_contentBits Y_cells Y_clauses S_strengths) := by
  unfold f_Sky_contentBits
  refine h_iconst hX dX6_contentBits_0 ki_0 ?_
  refine h_istore_n hX dX6_contentBits_1 rfl (by decide) (lv' := [(0, .ref (aC B 22)), (1, .int 0)]) rfl ?_
  refine h_iconst hX dX6_contentBits_2 ki_0 ?_
  refine h_istore_n hX dX6_contentBits_3 rfl (by decide) (lv' := [(0, .ref (aC B 22)), (1, .int 0), (2, .int 0)]) rfl ?_
  exact gH.loop (lvf := fun s : (Int32 × Int32) => [(0, .ref (aC B 22)), (1, .int s.1), (2, .int s.2)]) (wf := fun s : (Int32 × Int32) => wdC B W_spillsNow W_drawn T_length T_at T_bytes D_cells D_clauses G_length G_code A_size A_chosen A_codes A_lengths A_stack Y_cells Y_clauses N_marbles N_chipped N_swallowed N_sweets N_day N_owners P_next P_kept P_hasImage P_image P_acts P_entries P_imageEntries S_fewest S_row S_strengths U_size U_found U_places U_kinds U_holds U_fitting U_tally L_letters L_firstCells L_secondCells L_firstBest L_secondBest W_refusals ++ fr) (fun s => w_Sky_contentBits_L4 hX s) (0, 0)
theorem c_Sky_contentBits {r : Int32} (h : f_Sky_contentBits Y_cells Y_clauses S_strengths = some r) : gMet B 2 yX6_contentBits cX6_contentBits 3 (some .int) [.ref (aC B 22)] (wdC B W_spillsNow W_drawn T_length T_at T_bytes D_cells D_clauses G_length G_code A_size A_chosen A_codes A_lengths A_stack Y_cells Y_clauses N_marbles N_chipped N_swallowed N_sweets N_day N_owners P_next P_kept P_hasImage P_image P_acts P_entries P_imageEntries S_fewest S_row S_strengths U_size U_found U_places U_kinds U_holds U_fitting U_tally L_letters L_firstCells L_secondCells L_firstBest L_secondBest W_refusals ++ fr) (some (.int r)) (wdC B W_spillsNow W_drawn T_length T_at T_bytes D_cells D_clauses G_length G_code A_size A_chosen A_codes A_lengths A_stack Y_cells Y_clauses N_marbles N_chipped N_swallowed N_sweets N_day N_owners P_next P_kept P_hasImage P_image P_acts P_entries P_imageEntries S_fewest S_row S_strengths U_size U_found U_places U_kinds U_holds U_fitting U_tally L_letters L_firstCells L_secondCells L_firstBest L_secondBest W_refusals ++ fr) :=
  gMet.of rfl (Nat.le_of_ble_eq_true rfl) (fun X hX hF => w_Sky_contentBits hX r h hF)
set_option maxRecDepth 4000 in
theorem w_Main_contentNow (hX : gOk B X RX10 cX10_contentNow 1 4 (some .int)) : gH B X (fun r : (Int32 × (Nat → Int32)) => gFin X (some (.int r.1)) (wdC B W_spillsNow W_drawn T_length T_at T_bytes D_cells D_clauses G_length G_code A_size A_chosen A_codes A_lengths A_stack Y_cells Y_clauses N_marbles N_chipped N_swallowed N_sweets N_day N_owners P_next P_kept P_hasImage P_image P_acts P_entries P_imageEntries S_fewest S_row r.2 U_size U_found U_places U_kinds U_holds U_fitting U_tally L_letters L_firstCells L_secondCells L_firstBest L_secondBest W_refusals ++ fr)) 0 [(0, .ref (aC B 0))] [] (wdC B W_spillsNow W_drawn T_length T_at T_bytes D_cells D_clauses G_length G_code A_size A_chosen A_codes A_lengths A_stack Y_cells Y_clauses N_marbles N_chipped N_swallowed N_sweets N_day N_owners P_next P_kept P_hasImage P_image P_acts P_entries P_imageEntries S_fewest S_row S_strengths U_size U_found U_places U_kinds U_holds U_fitting U_tally L_letters L_firstCells L_secondCells L_firstBest L_secondBest W_refusals ++ fr) (f_Main_contentNow Y_cells Y_clauses N_marbles N_chipped N_owners S_strengths) := by
  unfold f_Main_contentNow
  refine h_aload_n hX dX10_contentNow_0 rfl rfl ?_
  refine get_RX10_67_C0 hX dX10_contentNow_1 ?_
  refine h_callVv hX dX10_contentNow_4 (cv_RX10_296) rc_C22 (As := []) (st := []) (fun _ h => c_Sky_measure h) rfl rfl (by decide) (Nat.le_of_ble_eq_true rfl) (fun a_1 => ?_)
  refine h_aload_n hX dX10_contentNow_7 rfl rfl ?_
  refine get_RX10_67_C0 hX dX10_contentNow_8 ?_
  refine h_callVi hX dX10_contentNow_11 (cv_RX10_373) rc_C22 (As := []) (st := []) (fun _ h => c_Sky_contentBits h) rfl rfl (by decide) (Nat.le_of_ble_eq_true rfl) (fun a_2 => ?_)
  exact h_ret hX (rv := some (.int a_2)) dX10_contentNow_14 trivial (fun h => h)
theorem c_Main_contentNow {r : (Int32 × (Nat → Int32))} (h : f_Main_contentNow Y_cells Y_clauses N_marbles N_chipped N_owners S_strengths = some r) : gMet B 4 yX10_contentNow cX10_contentNow 1 (some .int) [.ref (aC B 0)] (wdC B W_spillsNow W_drawn T_length T_at T_bytes D_cells D_clauses G_length G_code A_size A_chosen A_codes A_lengths A_stack Y_cells Y_clauses N_marbles N_chipped N_swallowed N_sweets N_day N_owners P_next P_kept P_hasImage P_image P_acts P_entries P_imageEntries S_fewest S_row S_strengths U_size U_found U_places U_kinds U_holds U_fitting U_tally L_letters L_firstCells L_secondCells L_firstBest L_secondBest W_refusals ++ fr) (some (.int r.1)) (wdC B W_spillsNow W_drawn T_length T_at T_bytes D_cells D_clauses G_length G_code A_size A_chosen A_codes A_lengths A_stack Y_cells Y_clauses N_marbles N_chipped N_swallowed N_sweets N_day N_owners P_next P_kept P_hasImage P_image P_acts P_entries P_imageEntries S_fewest S_row r.2 U_size U_found U_places U_kinds U_holds U_fitting U_tally L_letters L_firstCells L_secondCells L_firstBest L_secondBest W_refusals ++ fr) :=
  gMet.of rfl (Nat.le_of_ble_eq_true rfl) (fun X hX hF => w_Main_contentNow hX r h hF)
set_option maxRecDepth 4000 in
theorem w_Main_corner_J81 {v1 : Int32} {v2 : Int32} {v3 : Int32} (hX : gOk B X RX10 cX10_corner 4 2 (some .int)) : gH B X (Sum.elim (fun s : (Int32 × Int32) => gG B X 16 [(0, .ref (aC B 0)), (1, .int v1), (2, .int s.1), (3, .int s.2)] [] (wdC B W_spillsNow W_drawn T_length T_at T_bytes D_cells D_clauses G_length G_code A_size A_chosen A_codes A_lengths A_stack Y_cells Y_clauses N_marbles N_chipped N_swallowed N_sweets N_day N_owners P_next P_kept P_hasImage P_image P_acts P_entries P_imageEntries S_fewest S_row S_strengths U_size U_found U_places U_kinds U_holds U_fitting U_tally L_letters L_firstCells L_secondCells L_firstBest L_secondBest W_refusals ++ fr)) (fun r : Int32 => gFin X (some (.int r)) (wdC B W_spillsNow W_drawn T_length T_at T_bytes D_cells D_clauses G_length G_code A_size A_chosen A_codes A_lengths A_stack Y_cells Y_clauses N_marbles N_chipped N_swallowed N_sweets N_day N_owners P_next P_kept P_hasImage P_image P_acts P_entries P_imageEntries S_fewest S_row S_strengths U_size U_found U_places U_kinds U_holds U_fitting U_tally L_letters L_firstCells L_secondCells L_firstBest L_secondBest W_refusals ++ fr))) 81 [(0, .ref (aC B 0)), (1, .int v1), (2, .int v2), (3, .int v3)] [] (wdC B W_spillsNow W_drawn T_length T_at T_bytes D_cells D_clauses G_length G_code A_size A_chosen A_codes A_lengths A_stack Y_cells Y_clauses N_marbles N_chipped N_swallowed N_sweets N_day N_owners P_next P_kept P_hasImage P_image P_acts P_entries P_imageEntries S_fewest S_row S_strengths U_size U_found U_places U_kinds U_holds U_fitting U_tally L_letters L_firstCells L_secondCells L_firstBest L_secondBest W_refusals ++ fr) (f_Main_corner_J81 v2 v3) := by
  unfold f_Main_corner_J81
  refine h_iincc hX dX10_corner_81 rfl ki_1 (by decide) (lv' := [(0, .ref (aC B 0)), (1, .int v1), (2, .int v2), (3, .int (v3 + 1))]) rfl ?_
  refine h_goto hX dX10_corner_84 (tgt := 16) (by decide) ?_
  exact gH.some' (fun h => h)
set_option maxRecDepth 4000 in
theorem w_Main_corner_J72 {v1 : Int32} {v3 : Int32} (hX : gOk B X RX10 cX10_corner 4 2 (some .int)) : gH B X (Sum.elim (fun s : (Int32 × Int32) => gG B X 16 [(0, .ref (aC B 0)), (1, .int v1), (2, .int s.1), (3, .int s.2)] [] (wdC B W_spillsNow W_drawn T_length T_at T_bytes D_cells D_clauses G_length G_code A_size A_chosen A_codes A_lengths A_stack Y_cells Y_clauses N_marbles N_chipped N_swallowed N_sweets N_day N_owners P_next P_kept P_hasImage P_image P_acts P_entries P_imageEntries S_fewest S_row S_strengths U_size U_found U_places U_kinds U_holds U_fitting U_tally L_letters L_firstCells L_secondCells L_firstBest L_secondBest W_refusals ++ fr)) (fun r : Int32 => gFin X (some (.int r)) (wdC B W_spillsNow W_drawn T_length T_at T_bytes D_cells D_clauses G_length G_code A_size A_chosen A_codes A_lengths A_stack Y_cells Y_clauses N_marbles N_chipped N_swallowed N_sweets N_day N_owners P_next P_kept P_hasImage P_image P_acts P_entries P_imageEntries S_fewest S_row S_strengths U_size U_found U_places U_kinds U_holds U_fitting U_tally L_letters L_firstCells L_secondCells L_firstBest L_secondBest W_refusals ++ fr))) 72 [(0, .ref (aC B 0)), (1, .int v1), (3, .int v3)] [] (wdC B W_spillsNow W_drawn T_length T_at T_bytes D_cells D_clauses G_length G_code A_size A_chosen A_codes A_lengths A_stack Y_cells Y_clauses N_marbles N_chipped N_swallowed N_sweets N_day N_owners P_next P_kept P_hasImage P_image P_acts P_entries P_imageEntries S_fewest S_row S_strengths U_size U_found U_places U_kinds U_holds U_fitting U_tally L_letters L_firstCells L_secondCells L_firstBest L_secondBest W_refusals ++ fr) (f_Main_corner_J72 N_marbles N_owners v3) := by
  unfold f_Main_corner_J72
  refine h_aload_n hX dX10_corner_72 rfl rfl ?_
  refine get_RX10_49_C0 hX dX10_corner_73 ?_
  refine h_iload_n hX dX10_corner_76 rfl rfl ?_
  refine h_callVi hX dX10_corner_77 (cv_RX10_181) rc_C16 (As := [.int v3]) (st := []) (fun _ h => c_Now_ownerOf h) rfl rfl (by decide) (Nat.le_of_ble_eq_true rfl) (fun a_5 => ?_)
  refine h_istore_n hX dX10_corner_80 rfl (by decide) (lv' := [(0, .ref (aC B 0)), (1, .int v1), (2, .int a_5), (3, .int v3)]) rfl ?_
  exact w_Main_corner_J81 hX
set_option maxRecDepth 4000 in
theorem w_Main_corner_L16 {v1 : Int32} (hX : gOk B X RX10 cX10_corner 4 2 (some .int)) (s : (Int32 × Int32)) : gH B X (Sum.elim (fun s : (Int32 × Int32) => gG B X 16 [(0, .ref (aC B 0)), (1, .int v1), (2, .int s.1), (3, .int s.2)] [] (wdC B W_spillsNow W_drawn T_length T_at T_bytes D_cells D_clauses G_length G_code A_size A_chosen A_codes A_lengths A_stack Y_cells Y_clauses N_marbles N_chipped N_swallowed N_sweets N_day N_owners P_next P_kept P_hasImage P_image P_acts P_entries P_imageEntries S_fewest S_row S_strengths U_size U_found U_places U_kinds U_holds U_fitting U_tally L_letters L_firstCells L_secondCells L_firstBest L_secondBest W_refusals ++ fr)) (fun r : Int32 => gFin X (some (.int r)) (wdC B W_spillsNow W_drawn T_length T_at T_bytes D_cells D_clauses G_length G_code A_size A_chosen A_codes A_lengths A_stack Y_cells Y_clauses N_marbles N_chipped N_swallowed N_sweets N_day N_owners P_next P_kept P_hasImage P_image P_acts P_entries P_imageEntries S_fewest S_row S_strengths U_size U_found U_places U_kinds U_holds U_fitting U_tally L_letters L_firstCells L_secondCells L_firstBest L_secondBest W_refusals ++ fr))) 16 [(0, .ref (aC B 0)), (1, .int v1), (2, .int s.1), (3, .int s.2)] [] (wdC B W_spillsNow W_drawn T_length T_at T_bytes D_cells D_clauses G_length G_code A_size A_chosen A_codes A_lengths A_stack Y_cells Y_clauses N_marbles N_chipped N_swallowed N_sweets N_day N_owners P_next P_kept P_hasImage P_image P_acts P_entries P_imageEntries S_fewest S_row S_strengths U_size U_found U_places U_kinds U_holds U_fitting U_tally L_letters L_firstCells L_secondCells L_firstBest L_secondBest W_refusals ++ fr) (f_Main_corner_L16 Y_cells Y_clauses N_marbles N_owners v1 s) := by
  unfold f_Main_corner_L16
  refine h_iload_n hX dX10_corner_16 rfl rfl ?_
  refine h_aload_n hX dX10_corner_17 rfl rfl ?_
  refine get_RX10_42_C0 hX dX10_corner_18 ?_
  refine h_callVi hX dX10_corner_21 (cv_RX10_131) rc_C13 (As := []) (st := [.int s.2]) (fun _ h => c_Yard_marbles h) rfl rfl (by decide) (Nat.le_of_ble_eq_true rfl) (fun a_1 => ?_)
  refine h_icmp_ge hX dX10_corner_24 (tgt := 87) (by decide) (fun _ => ?_) (fun _ => ?_)
  · refine h_iload_n hX dX10_corner_87 rfl rfl ?_
    exact h_ret hX (rv := some (.int s.1)) dX10_corner_88 trivial (fun h => h)
  · refine h_aload_n hX dX10_corner_27 rfl rfl ?_
    refine get_RX10_42_C0 hX dX10_corner_28 ?_
    refine h_iload_n hX dX10_corner_31 rfl rfl ?_
    refine h_callVi hX dX10_corner_32 (cv_RX10_184) rc_C13 (As := [.int s.2]) (st := []) (fun _ h => c_Yard_kind h) rfl rfl (by decide) (Nat.le_of_ble_eq_true rfl) (fun a_2 => ?_)
    refine h_iload_n hX dX10_corner_35 rfl rfl ?_
    refine h_icmp_ne hX dX10_corner_36 (tgt := 81) (by decide) (fun _ => ?_) (fun _ => ?_)
    · exact w_Main_corner_J81 hX
    · refine h_aload_n hX dX10_corner_39 rfl rfl ?_
      refine get_RX10_49_C0 hX dX10_corner_40 ?_
      refine h_iload_n hX dX10_corner_43 rfl rfl ?_
      refine h_callVi hX dX10_corner_44 (cv_RX10_233) rc_C16 (As := [.int s.2]) (st := []) (fun _ h => c_Now_isDrained h) rfl rfl (by decide) (Nat.le_of_ble_eq_true rfl) (fun a_4 => ?_)
      refine h_if_eq hX dX10_corner_47 (tgt := 53) (by decide) (fun _ => ?_) (fun _ => ?_)
      · refine h_iload_n hX dX10_corner_53 rfl rfl ?_
        refine h_iconst hX dX10_corner_54 ki_m1 ?_
        refine h_icmp_eq hX dX10_corner_55 (tgt := 72) (by decide) (fun _ => ?_) (fun _ => ?_)
        · refine gH.dead [0, 1, 3] rfl ?_
          exact w_Main_corner_J72 hX
        · refine h_iload_n hX dX10_corner_58 rfl rfl ?_
          refine h_aload_n hX dX10_corner_59 rfl rfl ?_
          refine get_RX10_49_C0 hX dX10_corner_60 ?_
          refine h_iload_n hX dX10_corner_63 rfl rfl ?_
          refine h_callVi hX dX10_corner_64 (cv_RX10_181) rc_C16 (As := [.int s.2]) (st := [.int s.1]) (fun _ h => c_Now_ownerOf h) rfl rfl (by decide) (Nat.le_of_ble_eq_true rfl) (fun a_6 => ?_)
          refine h_icmp_eq hX dX10_corner_67 (tgt := 72) (by decide) (fun _ => ?_) (fun _ => ?_)
          · refine gH.dead [0, 1, 3] rfl ?_
            exact w_Main_corner_J72 hX
          · refine h_iconst hX dX10_corner_70 ki_m1 ?_
            exact h_ret hX (rv := some (.int ((-1)))) dX10_corner_71 trivial (fun h => h)
      · refine h_goto hX dX10_corner_50 (tgt := 81) (by decide) ?_
        exact w_Main_corner_J81 hX
set_option maxRecDepth 4000 in
theorem w_Main_corner {p0 : Int32} (hX : gOk B X RX10 cX10_corner 4 2 (some .int)) : gH B X (fun r : Int32 => gFin X (some (.int r)) (wdC B W_spillsNow W_drawn T_length T_at T_bytes D_cells D_clauses G_length G_code A_size A_chosen A_codes A_lengths A_stack Y_cells Y_clauses N_marbles N_chipped N_swallowed N_sweets N_day N_owners P_next P_kept P_hasImage P_image P_acts P_entries P_imageEntries S_fewest S_row S_strengths U_size U_found U_places U_kinds U_holds U_fitting U_tally L_letters L_firstCells L_secondCells L_firstBest L_secondBest W_refusals ++ fr)) 0 [(0, .ref (aC B 0)), (1, .int p0)] [] (wdC B W_spillsNow W_drawn T_length T_at T_bytes D_cells D_clauses G_length G_code A_size A_chosen A_codes A_lengths A_stack Y_cells Y_clauses N_marbles N_chipped N_swallowed N_sweets N_day N_owners P_next P_kept P_hasImage P_image P_acts P_entries P_imageEntries S_fewest S_row S_strengths U_size U_found U_places U_kinds U_holds U_fitting U_tally L_letters L_firstCells L_secondCells L_firstBest L_secondBest W_refusals ++ fr) (f_Main_corner Y_cells Y_clauses N_marbles N_owners p0) := by
  unfold f_Main_corner
  refine h_iload_n hX dX10_corner_0 rfl rfl ?_
  refine h_if_lt hX dX10_corner_1 (tgt := 10) (by decide) (fun _ => ?_) (fun _ => ?_)
  · refine h_iconst hX dX10_corner_10 ki_m1 ?_
    exact h_ret hX (rv := some (.int ((-1)))) dX10_corner_11 trivial (fun h => h)
  · refine h_iload_n hX dX10_corner_4 rfl rfl ?_
    refine h_bipush hX dX10_corner_5 kb_6 ?_
    refine h_icmp_lt hX dX10_corner_7 (tgt := 12) (by decide) (fun _ => ?_) (fun _ => ?_)
    · refine h_iconst hX dX10_corner_12 ki_m1 ?_
      refine h_istore_n hX dX10_corner_13 rfl (by decide) (lv' := [(0, .ref (aC B 0)), (1, .int p0), (2, .int ((-1)))]) rfl ?_
      refine h_iconst hX dX10_corner_14 ki_0 ?_
      refine h_istore_n hX dX10_corner_15 rfl (by decide) (lv' := [(0, .ref (aC B 0)), (1, .int p0), (2, .int ((-1))), (3, .int 0)]) rfl ?_
      exact gH.loop (lvf := fun s : (Int32 × Int32) => [(0, .ref (aC B 0)), (1, .int p0), (2, .int s.1), (3, .int s.2)]) (wf := fun s : (Int32 × Int32) => wdC B W_spillsNow W_drawn T_length T_at T_bytes D_cells D_clauses G_length G_code A_size A_chosen A_codes A_lengths A_stack Y_cells Y_clauses N_marbles N_chipped N_swallowed N_sweets N_day N_owners P_next P_kept P_hasImage P_image P_acts P_entries P_imageEntries S_fewest S_row S_strengths U_size U_found U_places U_kinds U_holds U_fitting U_tally L_letters L_firstCells L_secondCells L_firstBest L_secondBest W_refusals ++ fr) (fun s => w_Main_corner_L16 hX s) ((-1), 0)
    · refine h_iconst hX dX10_corner_10 ki_m1 ?_
      exact h_ret hX (rv := some (.int ((-1)))) dX10_corner_11 trivial (fun h => h)
theorem c_Main_corner {p0 : Int32} {r : Int32} (h : f_Main_corner Y_cells Y_clauses N_marbles N_owners p0 = some r) : gMet B 2 yX10_corner cX10_corner 4 (some .int) [.ref (aC B 0), .int p0] (wdC B W_spillsNow W_drawn T_length T_at T_bytes D_cells D_clauses G_length G_code A_size A_chosen A_codes A_lengths A_stack Y_cells Y_clauses N_marbles N_chipped N_swallowed N_sweets N_day N_owners P_next P_kept P_hasImage P_image P_acts P_entries P_imageEntries S_fewest S_row S_strengths U_size U_found U_places U_kinds U_holds U_fitting U_tally L_letters L_firstCells L_secondCells L_firstBest L_secondBest W_refusals ++ fr) (some (.int r)) (wdC B W_spillsNow W_drawn T_length T_at T_bytes D_cells D_clauses G_length G_code A_size A_chosen A_codes A_lengths A_stack Y_cells Y_clauses N_marbles N_chipped N_swallowed N_sweets N_day N_owners P_next P_kept P_hasImage P_image P_acts P_entries P_imageEntries S_fewest S_row S_strengths U_size U_found U_places U_kinds U_holds U_fitting U_tally L_letters L_firstCells L_secondCells L_firstBest L_secondBest W_refusals ++ fr) :=
  gMet.of rfl (Nat.le_of_ble_eq_true rfl) (fun X hX hF => w_Main_corner hX r h hF)
set_option maxRecDepth 4000 in
theorem w_Past_undoable (hX : gOk B X RX5 cX5_undoable 1 0 (some .int)) : gH B X (fun r : Int32 => gFin X (some (.int r)) (wdC B W_spillsNow W_drawn T_length T_at T_bytes D_cells D_clauses G_length G_code A_size A_chosen A_codes A_lengths A_stack Y_cells Y_clauses N_marbles N_chipped N_swallowed N_sweets N_day N_owners P_next P_kept P_hasImage P_image P_acts P_entries P_imageEntries S_fewest S_row S_strengths U_size U_found U_places U_kinds U_holds U_fitting U_tally L_letters L_firstCells L_secondCells L_firstBest L_secondBest W_refusals ++ fr)) 0 [(0, .ref (aC B 18))] [] (wdC B W_spillsNow W_drawn T_length T_at T_bytes D_cells D_clauses G_length G_code A_size A_chosen A_codes A_lengths A_stack Y_cells Y_clauses N_marbles N_chipped N_swallowed N_sweets N_day N_owners P_next P_kept P_hasImage P_image P_acts P_entries P_imageEntries S_fewest S_row S_strengths U_size U_found U_places U_kinds U_holds U_fitting U_tally L_letters L_firstCells L_secondCells L_firstBest L_secondBest W_refusals ++ fr) (f_Past_undoable P_kept) := by
  unfold f_Past_undoable
  refine h_aload_n hX dX5_undoable_0 rfl rfl ?_
  refine get_RX5_26_C18 hX dX5_undoable_1 ?_
  exact h_ret hX (rv := some (.int P_kept)) dX5_undoable_4 trivial (fun h => h)
theorem c_Past_undoable {r : Int32} (h : f_Past_undoable P_kept = some r) : gMet B 0 yX5_undoable cX5_undoable 1 (some .int) [.ref (aC B 18)] (wdC B W_spillsNow W_drawn T_length T_at T_bytes D_cells D_clauses G_length G_code A_size A_chosen A_codes A_lengths A_stack Y_cells Y_clauses N_marbles N_chipped N_swallowed N_sweets N_day N_owners P_next P_kept P_hasImage P_image P_acts P_entries P_imageEntries S_fewest S_row S_strengths U_size U_found U_places U_kinds U_holds U_fitting U_tally L_letters L_firstCells L_secondCells L_firstBest L_secondBest W_refusals ++ fr) (some (.int r)) (wdC B W_spillsNow W_drawn T_length T_at T_bytes D_cells D_clauses G_length G_code A_size A_chosen A_codes A_lengths A_stack Y_cells Y_clauses N_marbles N_chipped N_swallowed N_sweets N_day N_owners P_next P_kept P_hasImage P_image P_acts P_entries P_imageEntries S_fewest S_row S_strengths U_size U_found U_places U_kinds U_holds U_fitting U_tally L_letters L_firstCells L_secondCells L_firstBest L_secondBest W_refusals ++ fr) :=
  gMet.of rfl (Nat.le_of_ble_eq_true rfl) (fun X hX hF => w_Past_undoable hX r h hF)
set_option maxRecDepth 4000 in
theorem w_Now_drainedBits (hX : gOk B X RX4 cX4_drainedBits 1 1 (some .int)) : gH B X (fun r : Int32 => gFin X (some (.int r)) (wdC B W_spillsNow W_drawn T_length T_at T_bytes D_cells D_clauses G_length G_code A_size A_chosen A_codes A_lengths A_stack Y_cells Y_clauses N_marbles N_chipped N_swallowed N_sweets N_day N_owners P_next P_kept P_hasImage P_image P_acts P_entries P_imageEntries S_fewest S_row S_strengths U_size U_found U_places U_kinds U_holds U_fitting U_tally L_letters L_firstCells L_secondCells L_firstBest L_secondBest W_refusals ++ fr)) 0 [(0, .ref (aC B 16))] [] (wdC B W_spillsNow W_drawn T_length T_at T_bytes D_cells D_clauses G_length G_code A_size A_chosen A_codes A_lengths A_stack Y_cells Y_clauses N_marbles N_chipped N_swallowed N_sweets N_day N_owners P_next P_kept P_hasImage P_image P_acts P_entries P_imageEntries S_fewest S_row S_strengths U_size U_found U_places U_kinds U_holds U_fitting U_tally L_letters L_firstCells L_secondCells L_firstBest L_secondBest W_refusals ++ fr) (f_Now_drainedBits N_marbles N_owners) := by
  unfold f_Now_drainedBits
  refine h_aload_n hX dX4_drainedBits_0 rfl rfl ?_
  refine h_iconst hX dX4_drainedBits_1 ki_m1 ?_
  refine h_callVi hX dX4_drainedBits_2 (cv_RX4_59) rc_C16 (As := [.int ((-1))]) (st := []) (fun _ h => c_Now_handOf h) rfl rfl (by decide) (Nat.le_of_ble_eq_true rfl) (fun a_1 => ?_)
  exact h_ret hX (rv := some (.int a_1)) dX4_drainedBits_5 trivial (fun h => h)
theorem c_Now_drainedBits {r : Int32} (h : f_Now_drainedBits N_marbles N_owners = some r) : gMet B 1 yX4_drainedBits cX4_drainedBits 1 (some .int) [.ref (aC B 16)] (wdC B W_spillsNow W_drawn T_length T_at T_bytes D_cells D_clauses G_length G_code A_size A_chosen A_codes A_lengths A_stack Y_cells Y_clauses N_marbles N_chipped N_swallowed N_sweets N_day N_owners P_next P_kept P_hasImage P_image P_acts P_entries P_imageEntries S_fewest S_row S_strengths U_size U_found U_places U_kinds U_holds U_fitting U_tally L_letters L_firstCells L_secondCells L_firstBest L_secondBest W_refusals ++ fr) (some (.int r)) (wdC B W_spillsNow W_drawn T_length T_at T_bytes D_cells D_clauses G_length G_code A_size A_chosen A_codes A_lengths A_stack Y_cells Y_clauses N_marbles N_chipped N_swallowed N_sweets N_day N_owners P_next P_kept P_hasImage P_image P_acts P_entries P_imageEntries S_fewest S_row S_strengths U_size U_found U_places U_kinds U_holds U_fitting U_tally L_letters L_firstCells L_secondCells L_firstBest L_secondBest W_refusals ++ fr) :=
  gMet.of rfl (Nat.le_of_ble_eq_true rfl) (fun X hX hF => w_Now_drainedBits hX r h hF)
set_option maxRecDepth 4000 in
theorem w_Laws_chosen (hX : gOk B X RX3 cX3_chosen 1 0 (some .int)) : gH B X (fun r : Int32 => gFin X (some (.int r)) (wdC B W_spillsNow W_drawn T_length T_at T_bytes D_cells D_clauses G_length G_code A_size A_chosen A_codes A_lengths A_stack Y_cells Y_clauses N_marbles N_chipped N_swallowed N_sweets N_day N_owners P_next P_kept P_hasImage P_image P_acts P_entries P_imageEntries S_fewest S_row S_strengths U_size U_found U_places U_kinds U_holds U_fitting U_tally L_letters L_firstCells L_secondCells L_firstBest L_secondBest W_refusals ++ fr)) 0 [(0, .ref (aC B 9))] [] (wdC B W_spillsNow W_drawn T_length T_at T_bytes D_cells D_clauses G_length G_code A_size A_chosen A_codes A_lengths A_stack Y_cells Y_clauses N_marbles N_chipped N_swallowed N_sweets N_day N_owners P_next P_kept P_hasImage P_image P_acts P_entries P_imageEntries S_fewest S_row S_strengths U_size U_found U_places U_kinds U_holds U_fitting U_tally L_letters L_firstCells L_secondCells L_firstBest L_secondBest W_refusals ++ fr) (f_Laws_chosen A_chosen) := by
  unfold f_Laws_chosen
  refine h_aload_n hX dX3_chosen_0 rfl rfl ?_
  refine get_RX3_18_C9 hX dX3_chosen_1 ?_
  exact h_ret hX (rv := some (.int A_chosen)) dX3_chosen_4 trivial (fun h => h)
theorem c_Laws_chosen {r : Int32} (h : f_Laws_chosen A_chosen = some r) : gMet B 0 yX3_chosen cX3_chosen 1 (some .int) [.ref (aC B 9)] (wdC B W_spillsNow W_drawn T_length T_at T_bytes D_cells D_clauses G_length G_code A_size A_chosen A_codes A_lengths A_stack Y_cells Y_clauses N_marbles N_chipped N_swallowed N_sweets N_day N_owners P_next P_kept P_hasImage P_image P_acts P_entries P_imageEntries S_fewest S_row S_strengths U_size U_found U_places U_kinds U_holds U_fitting U_tally L_letters L_firstCells L_secondCells L_firstBest L_secondBest W_refusals ++ fr) (some (.int r)) (wdC B W_spillsNow W_drawn T_length T_at T_bytes D_cells D_clauses G_length G_code A_size A_chosen A_codes A_lengths A_stack Y_cells Y_clauses N_marbles N_chipped N_swallowed N_sweets N_day N_owners P_next P_kept P_hasImage P_image P_acts P_entries P_imageEntries S_fewest S_row S_strengths U_size U_found U_places U_kinds U_holds U_fitting U_tally L_letters L_firstCells L_secondCells L_firstBest L_secondBest W_refusals ++ fr) :=
  gMet.of rfl (Nat.le_of_ble_eq_true rfl) (fun X hX hF => w_Laws_chosen hX r h hF)
set_option maxRecDepth 4000 in
theorem w_Tape_size (hX : gOk B X RX7 cX7_size 1 0 (some .int)) : gH B X (fun r : Int32 => gFin X (some (.int r)) (wdC B W_spillsNow W_drawn T_length T_at T_bytes D_cells D_clauses G_length G_code A_size A_chosen A_codes A_lengths A_stack Y_cells Y_clauses N_marbles N_chipped N_swallowed N_sweets N_day N_owners P_next P_kept P_hasImage P_image P_acts P_entries P_imageEntries S_fewest S_row S_strengths U_size U_found U_places U_kinds U_holds U_fitting U_tally L_letters L_firstCells L_secondCells L_firstBest L_secondBest W_refusals ++ fr)) 0 [(0, .ref (aC B 1))] [] (wdC B W_spillsNow W_drawn T_length T_at T_bytes D_cells D_clauses G_length G_code A_size A_chosen A_codes A_lengths A_stack Y_cells Y_clauses N_marbles N_chipped N_swallowed N_sweets N_day N_owners P_next P_kept P_hasImage P_image P_acts P_entries P_imageEntries S_fewest S_row S_strengths U_size U_found U_places U_kinds U_holds U_fitting U_tally L_letters L_firstCells L_secondCells L_firstBest L_secondBest W_refusals ++ fr) (f_Tape_size T_length) := by
  unfold f_Tape_size
  refine h_aload_n hX dX7_size_0 rfl rfl ?_
  refine get_RX7_15_C1 hX dX7_size_1 ?_
  exact h_ret hX (rv := some (.int T_length)) dX7_size_4 trivial (fun h => h)
theorem c_Tape_size {r : Int32} (h : f_Tape_size T_length = some r) : gMet B 0 yX7_size cX7_size 1 (some .int) [.ref (aC B 1)] (wdC B W_spillsNow W_drawn T_length T_at T_bytes D_cells D_clauses G_length G_code A_size A_chosen A_codes A_lengths A_stack Y_cells Y_clauses N_marbles N_chipped N_swallowed N_sweets N_day N_owners P_next P_kept P_hasImage P_image P_acts P_entries P_imageEntries S_fewest S_row S_strengths U_size U_found U_places U_kinds U_holds U_fitting U_tally L_letters L_firstCells L_secondCells L_firstBest L_secondBest W_refusals ++ fr) (some (.int r)) (wdC B W_spillsNow W_drawn T_length T_at T_bytes D_cells D_clauses G_length G_code A_size A_chosen A_codes A_lengths A_stack Y_cells Y_clauses N_marbles N_chipped N_swallowed N_sweets N_day N_owners P_next P_kept P_hasImage P_image P_acts P_entries P_imageEntries S_fewest S_row S_strengths U_size U_found U_places U_kinds U_holds U_fitting U_tally L_letters L_firstCells L_secondCells L_firstBest L_secondBest W_refusals ++ fr) :=
  gMet.of rfl (Nat.le_of_ble_eq_true rfl) (fun X hX hF => w_Tape_size hX r h hF)
set_option maxRecDepth 4000 in
theorem w_Laws_size (hX : gOk B X RX3 cX3_size 1 0 (some .int)) : gH B X (fun r : Int32 => gFin X (some (.int r)) (wdC B W_spillsNow W_drawn T_length T_at T_bytes D_cells D_clauses G_length G_code A_size A_chosen A_codes A_lengths A_stack Y_cells Y_clauses N_marbles N_chipped N_swallowed N_sweets N_day N_owners P_next P_kept P_hasImage P_image P_acts P_entries P_imageEntries S_fewest S_row S_strengths U_size U_found U_places U_kinds U_holds U_fitting U_tally L_letters L_firstCells L_secondCells L_firstBest L_secondBest W_refusals ++ fr)) 0 [(0, .ref (aC B 9))] [] (wdC B W_spillsNow W_drawn T_length T_at T_bytes D_cells D_clauses G_length G_code A_size A_chosen A_codes A_lengths A_stack Y_cells Y_clauses N_marbles N_chipped N_swallowed N_sweets N_day N_owners P_next P_kept P_hasImage P_image P_acts P_entries P_imageEntries S_fewest S_row S_strengths U_size U_found U_places U_kinds U_holds U_fitting U_tally L_letters L_firstCells L_secondCells L_firstBest L_secondBest W_refusals ++ fr) (f_Laws_size A_size) := by
  unfold f_Laws_size
  refine h_aload_n hX dX3_size_0 rfl rfl ?_
  refine get_RX3_25_C9 hX dX3_size_1 ?_
  exact h_ret hX (rv := some (.int A_size)) dX3_size_4 trivial (fun h => h)
theorem c_Laws_size {r : Int32} (h : f_Laws_size A_size = some r) : gMet B 0 yX3_size cX3_size 1 (some .int) [.ref (aC B 9)] (wdC B W_spillsNow W_drawn T_length T_at T_bytes D_cells D_clauses G_length G_code A_size A_chosen A_codes A_lengths A_stack Y_cells Y_clauses N_marbles N_chipped N_swallowed N_sweets N_day N_owners P_next P_kept P_hasImage P_image P_acts P_entries P_imageEntries S_fewest S_row S_strengths U_size U_found U_places U_kinds U_holds U_fitting U_tally L_letters L_firstCells L_secondCells L_firstBest L_secondBest W_refusals ++ fr) (some (.int r)) (wdC B W_spillsNow W_drawn T_length T_at T_bytes D_cells D_clauses G_length G_code A_size A_chosen A_codes A_lengths A_stack Y_cells Y_clauses N_marbles N_chipped N_swallowed N_sweets N_day N_owners P_next P_kept P_hasImage P_image P_acts P_entries P_imageEntries S_fewest S_row S_strengths U_size U_found U_places U_kinds U_holds U_fitting U_tally L_letters L_firstCells L_secondCells L_firstBest L_secondBest W_refusals ++ fr) :=
  gMet.of rfl (Nat.le_of_ble_eq_true rfl) (fun X hX hF => w_Laws_size hX r h hF)
set_option maxRecDepth 4000 in
theorem w_Main_count {p0 : Int32} (hX : gOk B X RX10 cX10_count 2 5 (some .int)) : gH B X (fun r : (Int32 × (Nat → Int32)) => gFin X (some (.int r.1)) (wdC B W_spillsNow W_drawn T_length T_at T_bytes D_cells D_clauses G_length G_code A_size A_chosen A_codes A_lengths A_stack Y_cells Y_clauses N_marbles N_chipped N_swallowed N_sweets N_day N_owners P_next P_kept P_hasImage P_image P_acts P_entries P_imageEntries S_fewest S_row r.2 U_size U_found U_places U_kinds U_holds U_fitting U_tally L_letters L_firstCells L_secondCells L_firstBest L_secondBest W_refusals ++ fr)) 0 [(0, .ref (aC B 0)), (1, .int p0)] [] (wdC B W_spillsNow W_drawn T_length T_at T_bytes D_cells D_clauses G_length G_code A_size A_chosen A_codes A_lengths A_stack Y_cells Y_clauses N_marbles N_chipped N_swallowed N_sweets N_day N_owners P_next P_kept P_hasImage P_image P_acts P_entries P_imageEntries S_fewest S_row S_strengths U_size U_found U_places U_kinds U_holds U_fitting U_tally L_letters L_firstCells L_secondCells L_firstBest L_secondBest W_refusals ++ fr) (f_Main_count W_spillsNow T_length A_size A_chosen Y_cells Y_clauses N_marbles N_chipped N_day N_owners P_kept S_strengths U_size p0) := by
  unfold f_Main_count
  refine h_iload_n hX dX10_count_0 rfl rfl ?_
  refine gH.ite (fun hc0 => ?_) (fun hc0 => ?_)
  · refine h_tsin hX dX10_count_1 hc0 (by decide) (by decide) rfl (tgt := 68) (by decide) ?_
    refine h_aload_n hX dX10_count_68 rfl rfl ?_
    refine get_RX10_42_C0 hX dX10_count_69 ?_
    refine h_callVi hX dX10_count_72 (cv_RX10_131) rc_C13 (As := []) (st := []) (fun _ h => c_Yard_marbles h) rfl rfl (by decide) (Nat.le_of_ble_eq_true rfl) (fun a_1 => ?_)
    exact h_ret hX (rv := some (.int a_1)) dX10_count_75 trivial (fun h => h)
  refine gH.ite (fun hc1 => ?_) (fun hc1 => ?_)
  · refine h_tsin hX dX10_count_1 hc1 (by decide) (by decide) rfl (tgt := 76) (by decide) ?_
    refine h_aload_n hX dX10_count_76 rfl rfl ?_
    refine get_RX10_42_C0 hX dX10_count_77 ?_
    refine h_callVi hX dX10_count_80 (cv_RX10_358) rc_C13 (As := []) (st := []) (fun _ h => c_Yard_boys h) rfl rfl (by decide) (Nat.le_of_ble_eq_true rfl) (fun a_2 => ?_)
    exact h_ret hX (rv := some (.int a_2)) dX10_count_83 trivial (fun h => h)
  refine gH.ite (fun hc2 => ?_) (fun hc2 => ?_)
  · refine h_tsin hX dX10_count_1 hc2 (by decide) (by decide) rfl (tgt := 84) (by decide) ?_
    refine h_aload_n hX dX10_count_84 rfl rfl ?_
    refine get_RX10_42_C0 hX dX10_count_85 ?_
    refine h_callVi hX dX10_count_88 (cv_RX10_361) rc_C13 (As := []) (st := []) (fun _ h => c_Yard_farms h) rfl rfl (by decide) (Nat.le_of_ble_eq_true rfl) (fun a_3 => ?_)
    exact h_ret hX (rv := some (.int a_3)) dX10_count_91 trivial (fun h => h)
  refine gH.ite (fun hc3 => ?_) (fun hc3 => ?_)
  · refine h_tsin hX dX10_count_1 hc3 (by decide) (by decide) rfl (tgt := 92) (by decide) ?_
    refine h_aload_n hX dX10_count_92 rfl rfl ?_
    refine get_RX10_35_C0 hX dX10_count_93 ?_
    refine h_callVi hX dX10_count_96 (cv_RX10_134) rc_C9 (As := []) (st := []) (fun _ h => c_Laws_size h) rfl rfl (by decide) (Nat.le_of_ble_eq_true rfl) (fun a_4 => ?_)
    exact h_ret hX (rv := some (.int a_4)) dX10_count_99 trivial (fun h => h)
  refine gH.ite (fun hc4 => ?_) (fun hc4 => ?_)
  · refine h_tsin hX dX10_count_1 hc4 (by decide) (by decide) rfl (tgt := 100) (by decide) ?_
    refine h_aload_n hX dX10_count_100 rfl rfl ?_
    refine get_RX10_10_C0 hX dX10_count_101 ?_
    refine h_callVi hX dX10_count_104 (cv_RX10_97) rc_C1 (As := []) (st := []) (fun _ h => c_Tape_size h) rfl rfl (by decide) (Nat.le_of_ble_eq_true rfl) (fun a_5 => ?_)
    exact h_ret hX (rv := some (.int a_5)) dX10_count_107 trivial (fun h => h)
  refine gH.ite (fun hc5 => ?_) (fun hc5 => ?_)
  · refine h_tsin hX dX10_count_1 hc5 (by decide) (by decide) rfl (tgt := 108) (by decide) ?_
    refine h_aload_n hX dX10_count_108 rfl rfl ?_
    refine get_RX10_35_C0 hX dX10_count_109 ?_
    refine h_callVi hX dX10_count_112 (cv_RX10_364) rc_C9 (As := []) (st := []) (fun _ h => c_Laws_chosen h) rfl rfl (by decide) (Nat.le_of_ble_eq_true rfl) (fun a_6 => ?_)
    exact h_ret hX (rv := some (.int a_6)) dX10_count_115 trivial (fun h => h)
  refine gH.ite (fun hc6 => ?_) (fun hc6 => ?_)
  · refine h_tsin hX dX10_count_1 hc6 (by decide) (by decide) rfl (tgt := 116) (by decide) ?_
    refine h_aload_n hX dX10_count_116 rfl rfl ?_
    refine get_RX10_49_C0 hX dX10_count_117 ?_
    refine get_RX10_242_C16 hX dX10_count_120 ?_
    exact h_ret hX (rv := some (.int N_day)) dX10_count_123 trivial (fun h => h)
  refine gH.ite (fun hc7 => ?_) (fun hc7 => ?_)
  · refine h_tsin hX dX10_count_1 hc7 (by decide) (by decide) rfl (tgt := 124) (by decide) ?_
    refine h_aload_n hX dX10_count_124 rfl rfl ?_
    refine h_callVi hX dX10_count_125 (cv_RX10_207) rc_C0 (As := []) (st := []) (fun _ h => c_Main_contentNow h) rfl rfl (by decide) (Nat.le_of_ble_eq_true rfl) (fun a_7 => ?_)
    exact h_ret hX (rv := some (.int a_7.1)) dX10_count_128 trivial (fun h => h)
  refine gH.ite (fun hc8 => ?_) (fun hc8 => ?_)
  · refine h_tsin hX dX10_count_1 hc8 (by decide) (by decide) rfl (tgt := 129) (by decide) ?_
    refine h_aload_n hX dX10_count_129 rfl rfl ?_
    refine get_RX10_49_C0 hX dX10_count_130 ?_
    refine h_callVi hX dX10_count_133 (cv_RX10_367) rc_C16 (As := []) (st := []) (fun _ h => c_Now_drainedBits h) rfl rfl (by decide) (Nat.le_of_ble_eq_true rfl) (fun a_8 => ?_)
    exact h_ret hX (rv := some (.int a_8)) dX10_count_136 trivial (fun h => h)
  refine gH.ite (fun hc9 => ?_) (fun hc9 => ?_)
  · refine h_tsin hX dX10_count_1 hc9 (by decide) (by decide) rfl (tgt := 137) (by decide) ?_
    refine h_aload_n hX dX10_count_137 rfl rfl ?_
    refine get_RX10_248_C0 hX dX10_count_138 ?_
    exact h_ret hX (rv := some (.int W_spillsNow)) dX10_count_141 trivial (fun h => h)
  refine gH.ite (fun hc10 => ?_) (fun hc10 => ?_)
  · refine h_tsin hX dX10_count_1 hc10 (by decide) (by decide) rfl (tgt := 142) (by decide) ?_
    refine h_aload_n hX dX10_count_142 rfl rfl ?_
    refine get_RX10_76_C0 hX dX10_count_143 ?_
    refine h_callVi hX dX10_count_146 (cv_RX10_318) rc_C24 (As := []) (st := []) (fun _ h => c_Clues_size h) rfl rfl (by decide) (Nat.le_of_ble_eq_true rfl) (fun a_9 => ?_)
    exact h_ret hX (rv := some (.int a_9)) dX10_count_149 trivial (fun h => h)
  refine gH.ite (fun hc11 => ?_) (fun hc11 => ?_)
  · refine h_tsin hX dX10_count_1 hc11 (by decide) (by decide) rfl (tgt := 150) (by decide) ?_
    refine h_aload_n hX dX10_count_150 rfl rfl ?_
    refine get_RX10_58_C0 hX dX10_count_151 ?_
    refine h_callVi hX dX10_count_154 (cv_RX10_264) rc_C18 (As := []) (st := []) (fun _ h => c_Past_logLength h) rfl rfl (by decide) (Nat.le_of_ble_eq_true rfl) (fun a_10 => ?_)
    exact h_ret hX (rv := some (.int a_10)) dX10_count_157 trivial (fun h => h)
  refine gH.ite (fun hc12 => ?_) (fun hc12 => ?_)
  · refine h_tsin hX dX10_count_1 hc12 (by decide) (by decide) rfl (tgt := 158) (by decide) ?_
    refine h_aload_n hX dX10_count_158 rfl rfl ?_
    refine get_RX10_58_C0 hX dX10_count_159 ?_
    refine h_callVi hX dX10_count_162 (cv_RX10_370) rc_C18 (As := []) (st := []) (fun _ h => c_Past_undoable h) rfl rfl (by decide) (Nat.le_of_ble_eq_true rfl) (fun a_11 => ?_)
    exact h_ret hX (rv := some (.int a_11)) dX10_count_165 trivial (fun h => h)
  refine h_tsdef hX dX10_count_1 (cs := [0, 1, 2, 3, 4, 5, 6, 7, 8, 9, 10, 11, 12]) (by decide) (by decide) (List.forall_mem_cons.mpr ⟨hc0, (List.forall_mem_cons.mpr ⟨hc1, (List.forall_mem_cons.mpr ⟨hc2, (List.forall_mem_cons.mpr ⟨hc3, (List.forall_mem_cons.mpr ⟨hc4, (List.forall_mem_cons.mpr ⟨hc5, (List.forall_mem_cons.mpr ⟨hc6, (List.forall_mem_cons.mpr ⟨hc7, (List.forall_mem_cons.mpr ⟨hc8, (List.forall_mem_cons.mpr ⟨hc9, (List.forall_mem_cons.mpr ⟨hc10, (List.forall_mem_cons.mpr ⟨hc11, (List.forall_mem_cons.mpr ⟨hc12, fun _ h => absurd h List.not_mem_nil⟩)⟩)⟩)⟩)⟩)⟩)⟩)⟩)⟩)⟩)⟩)⟩)⟩) (tgt := 166) (by decide) ?_
  refine h_ldc hX dX10_count_166 cst_RX10_180 ?_
  exact h_ret hX (rv := some (.int ((-1000000)))) dX10_count_168 trivial (fun h => h)
theorem c_Main_count {p0 : Int32} {r : (Int32 × (Nat → Int32))} (h : f_Main_count W_spillsNow T_length A_size A_chosen Y_cells Y_clauses N_marbles N_chipped N_day N_owners P_kept S_strengths U_size p0 = some r) : gMet B 5 yX10_count cX10_count 2 (some .int) [.ref (aC B 0), .int p0] (wdC B W_spillsNow W_drawn T_length T_at T_bytes D_cells D_clauses G_length G_code A_size A_chosen A_codes A_lengths A_stack Y_cells Y_clauses N_marbles N_chipped N_swallowed N_sweets N_day N_owners P_next P_kept P_hasImage P_image P_acts P_entries P_imageEntries S_fewest S_row S_strengths U_size U_found U_places U_kinds U_holds U_fitting U_tally L_letters L_firstCells L_secondCells L_firstBest L_secondBest W_refusals ++ fr) (some (.int r.1)) (wdC B W_spillsNow W_drawn T_length T_at T_bytes D_cells D_clauses G_length G_code A_size A_chosen A_codes A_lengths A_stack Y_cells Y_clauses N_marbles N_chipped N_swallowed N_sweets N_day N_owners P_next P_kept P_hasImage P_image P_acts P_entries P_imageEntries S_fewest S_row r.2 U_size U_found U_places U_kinds U_holds U_fitting U_tally L_letters L_firstCells L_secondCells L_firstBest L_secondBest W_refusals ++ fr) :=
  gMet.of rfl (Nat.le_of_ble_eq_true rfl) (fun X hX hF => w_Main_count hX r h hF)
set_option maxRecDepth 4000 in
theorem w_Yard_payment {p0 : Int32} (hX : gOk B X RX8 cX8_payment 2 1 (some .int)) : gH B X (fun r : Int32 => gFin X (some (.int r)) (wdC B W_spillsNow W_drawn T_length T_at T_bytes D_cells D_clauses G_length G_code A_size A_chosen A_codes A_lengths A_stack Y_cells Y_clauses N_marbles N_chipped N_swallowed N_sweets N_day N_owners P_next P_kept P_hasImage P_image P_acts P_entries P_imageEntries S_fewest S_row S_strengths U_size U_found U_places U_kinds U_holds U_fitting U_tally L_letters L_firstCells L_secondCells L_firstBest L_secondBest W_refusals ++ fr)) 0 [(0, .ref (aC B 13)), (1, .int p0)] [] (wdC B W_spillsNow W_drawn T_length T_at T_bytes D_cells D_clauses G_length G_code A_size A_chosen A_codes A_lengths A_stack Y_cells Y_clauses N_marbles N_chipped N_swallowed N_sweets N_day N_owners P_next P_kept P_hasImage P_image P_acts P_entries P_imageEntries S_fewest S_row S_strengths U_size U_found U_places U_kinds U_holds U_fitting U_tally L_letters L_firstCells L_secondCells L_firstBest L_secondBest W_refusals ++ fr) (f_Yard_payment Y_cells p0) := by
  unfold f_Yard_payment
  refine h_aload_n hX dX8_payment_0 rfl rfl ?_
  refine h_iconst hX dX8_payment_1 ki_3 ?_
  refine h_iload_n hX dX8_payment_2 rfl rfl ?_
  refine h_iconst hX dX8_payment_3 ki_2 ?_
  refine h_callVi hX dX8_payment_4 (cv_RX8_60) rc_C13 (As := [.int 3, .int p0, .int 2]) (st := []) (fun _ h => c_Yard_cell h) rfl rfl (by decide) (Nat.le_of_ble_eq_true rfl) (fun a_1 => ?_)
  exact h_ret hX (rv := some (.int a_1)) dX8_payment_7 trivial (fun h => h)
theorem c_Yard_payment {p0 : Int32} {r : Int32} (h : f_Yard_payment Y_cells p0 = some r) : gMet B 1 yX8_payment cX8_payment 2 (some .int) [.ref (aC B 13), .int p0] (wdC B W_spillsNow W_drawn T_length T_at T_bytes D_cells D_clauses G_length G_code A_size A_chosen A_codes A_lengths A_stack Y_cells Y_clauses N_marbles N_chipped N_swallowed N_sweets N_day N_owners P_next P_kept P_hasImage P_image P_acts P_entries P_imageEntries S_fewest S_row S_strengths U_size U_found U_places U_kinds U_holds U_fitting U_tally L_letters L_firstCells L_secondCells L_firstBest L_secondBest W_refusals ++ fr) (some (.int r)) (wdC B W_spillsNow W_drawn T_length T_at T_bytes D_cells D_clauses G_length G_code A_size A_chosen A_codes A_lengths A_stack Y_cells Y_clauses N_marbles N_chipped N_swallowed N_sweets N_day N_owners P_next P_kept P_hasImage P_image P_acts P_entries P_imageEntries S_fewest S_row S_strengths U_size U_found U_places U_kinds U_holds U_fitting U_tally L_letters L_firstCells L_secondCells L_firstBest L_secondBest W_refusals ++ fr) :=
  gMet.of rfl (Nat.le_of_ble_eq_true rfl) (fun X hX hF => w_Yard_payment hX r h hF)
set_option maxRecDepth 4000 in
theorem w_Yard_paymentOf_L4 {v1 : Int32} (hX : gOk B X RX8 cX8_paymentOf 4 2 (some .int)) (s : (Int32 × Int32)) : gH B X (Sum.elim (fun s : (Int32 × Int32) => gG B X 4 [(0, .ref (aC B 13)), (1, .int v1), (2, .int s.1), (3, .int s.2)] [] (wdC B W_spillsNow W_drawn T_length T_at T_bytes D_cells D_clauses G_length G_code A_size A_chosen A_codes A_lengths A_stack Y_cells Y_clauses N_marbles N_chipped N_swallowed N_sweets N_day N_owners P_next P_kept P_hasImage P_image P_acts P_entries P_imageEntries S_fewest S_row S_strengths U_size U_found U_places U_kinds U_holds U_fitting U_tally L_letters L_firstCells L_secondCells L_firstBest L_secondBest W_refusals ++ fr)) (fun r : Int32 => gFin X (some (.int r)) (wdC B W_spillsNow W_drawn T_length T_at T_bytes D_cells D_clauses G_length G_code A_size A_chosen A_codes A_lengths A_stack Y_cells Y_clauses N_marbles N_chipped N_swallowed N_sweets N_day N_owners P_next P_kept P_hasImage P_image P_acts P_entries P_imageEntries S_fewest S_row S_strengths U_size U_found U_places U_kinds U_holds U_fitting U_tally L_letters L_firstCells L_secondCells L_firstBest L_secondBest W_refusals ++ fr))) 4 [(0, .ref (aC B 13)), (1, .int v1), (2, .int s.1), (3, .int s.2)] [] (wdC B W_spillsNow W_drawn T_length T_at T_bytes D_cells D_clauses G_length G_code A_size A_chosen A_codes A_lengths A_stack Y_cells Y_clauses N_marbles N_chipped N_swallowed N_sweets N_day N_owners P_next P_kept P_hasImage P_image P_acts P_entries P_imageEntries S_fewest S_row S_strengths U_size U_found U_places U_kinds U_holds U_fitting U_tally L_letters L_firstCells L_secondCells L_firstBest L_secondBest W_refusals ++ fr) (f_Yard_paymentOf_L4 Y_cells Y_clauses v1 s) := by
  unfold f_Yard_paymentOf_L4
  refine h_iload_n hX dX8_paymentOf_4 rfl rfl ?_
  refine h_aload_n hX dX8_paymentOf_5 rfl rfl ?_
  refine h_callVi hX dX8_paymentOf_6 (cv_RX8_57) rc_C13 (As := []) (st := [.int s.2]) (fun _ h => c_Yard_farms h) rfl rfl (by decide) (Nat.le_of_ble_eq_true rfl) (fun a_1 => ?_)
  refine h_icmp_ge hX dX8_paymentOf_9 (tgt := 32) (by decide) (fun _ => ?_) (fun _ => ?_)
  · refine h_iload_n hX dX8_paymentOf_32 rfl rfl ?_
    exact h_ret hX (rv := some (.int s.1)) dX8_paymentOf_33 trivial (fun h => h)
  · refine h_iload_n hX dX8_paymentOf_12 rfl rfl ?_
    refine h_iload_n hX dX8_paymentOf_13 rfl rfl ?_
    refine h_iload_n hX dX8_paymentOf_14 rfl rfl ?_
    refine h_ishr hX dX8_paymentOf_15 ?_
    refine h_iconst hX dX8_paymentOf_16 ki_1 ?_
    refine h_iand hX dX8_paymentOf_17 ?_
    refine h_aload_n hX dX8_paymentOf_18 rfl rfl ?_
    refine h_iload_n hX dX8_paymentOf_19 rfl rfl ?_
    refine h_callVi hX dX8_paymentOf_20 (cv_RX8_64) rc_C13 (As := [.int s.2]) (st := [.int ((v1 >>> (s.2 &&& 31)) &&& 1), .int s.1]) (fun _ h => c_Yard_payment h) rfl rfl (by decide) (Nat.le_of_ble_eq_true rfl) (fun a_2 => ?_)
    refine h_imul hX dX8_paymentOf_23 ?_
    refine h_iadd hX dX8_paymentOf_24 ?_
    refine gH.leti (fun v2_3 => ?_)
    refine h_istore_n hX dX8_paymentOf_25 rfl (by decide) (lv' := [(0, .ref (aC B 13)), (1, .int v1), (2, .int v2_3), (3, .int s.2)]) rfl ?_
    refine h_iincc hX dX8_paymentOf_26 rfl ki_1 (by decide) (lv' := [(0, .ref (aC B 13)), (1, .int v1), (2, .int v2_3), (3, .int (s.2 + 1))]) rfl ?_
    refine h_goto hX dX8_paymentOf_29 (tgt := 4) (by decide) ?_
    exact gH.some' (fun h => h)
set_option maxRecDepth 4000 in
theorem w_Yard_paymentOf {p0 : Int32} (hX : gOk B X RX8 cX8_paymentOf 4 2 (some .int)) : gH B X (fun r : Int32 => gFin X (some (.int r)) (wdC B W_spillsNow W_drawn T_length T_at T_bytes D_cells D_clauses G_length G_code A_size A_chosen A_codes A_lengths A_stack Y_cells Y_clauses N_marbles N_chipped N_swallowed N_sweets N_day N_owners P_next P_kept P_hasImage P_image P_acts P_entries P_imageEntries S_fewest S_row S_strengths U_size U_found U_places U_kinds U_holds U_fitting U_tally L_letters L_firstCells L_secondCells L_firstBest L_secondBest W_refusals ++ fr)) 0 [(0, .ref (aC B 13)), (1, .int p0)] [] (wdC B W_spillsNow W_drawn T_length T_at T_bytes D_cells D_clauses G_length G_code A_size A_chosen A_codes A_lengths A_stack Y_cells Y_clauses N_marbles N_chipped N_swallowed N_sweets N_day N_owners P_next P_kept P_hasImage P_image P_acts P_entries P_imageEntries S_fewest S_row S_strengths U_size U_found U_places U_kinds U_holds U_fitting U_tally L_letters L_firstCells L_secondCells L_firstBest L_secondBest W_refusals ++ fr) (f_Yard_paymentOf Y_cells Y_clauses p0) := by
  unfold f_Yard_paymentOf
  refine h_iconst hX dX8_paymentOf_0 ki_0 ?_
  refine h_istore_n hX dX8_paymentOf_1 rfl (by decide) (lv' := [(0, .ref (aC B 13)), (1, .int p0), (2, .int 0)]) rfl ?_
  refine h_iconst hX dX8_paymentOf_2 ki_0 ?_
  refine h_istore_n hX dX8_paymentOf_3 rfl (by decide) (lv' := [(0, .ref (aC B 13)), (1, .int p0), (2, .int 0), (3, .int 0)]) rfl ?_
  exact gH.loop (lvf := fun s : (Int32 × Int32) => [(0, .ref (aC B 13)), (1, .int p0), (2, .int s.1), (3, .int s.2)]) (wf := fun s : (Int32 × Int32) => wdC B W_spillsNow W_drawn T_length T_at T_bytes D_cells D_clauses G_length G_code A_size A_chosen A_codes A_lengths A_stack Y_cells Y_clauses N_marbles N_chipped N_swallowed N_sweets N_day N_owners P_next P_kept P_hasImage P_image P_acts P_entries P_imageEntries S_fewest S_row S_strengths U_size U_found U_places U_kinds U_holds U_fitting U_tally L_letters L_firstCells L_secondCells L_firstBest L_secondBest W_refusals ++ fr) (fun s => w_Yard_paymentOf_L4 hX s) (0, 0)
theorem c_Yard_paymentOf {p0 : Int32} {r : Int32} (h : f_Yard_paymentOf Y_cells Y_clauses p0 = some r) : gMet B 2 yX8_paymentOf cX8_paymentOf 4 (some .int) [.ref (aC B 13), .int p0] (wdC B W_spillsNow W_drawn T_length T_at T_bytes D_cells D_clauses G_length G_code A_size A_chosen A_codes A_lengths A_stack Y_cells Y_clauses N_marbles N_chipped N_swallowed N_sweets N_day N_owners P_next P_kept P_hasImage P_image P_acts P_entries P_imageEntries S_fewest S_row S_strengths U_size U_found U_places U_kinds U_holds U_fitting U_tally L_letters L_firstCells L_secondCells L_firstBest L_secondBest W_refusals ++ fr) (some (.int r)) (wdC B W_spillsNow W_drawn T_length T_at T_bytes D_cells D_clauses G_length G_code A_size A_chosen A_codes A_lengths A_stack Y_cells Y_clauses N_marbles N_chipped N_swallowed N_sweets N_day N_owners P_next P_kept P_hasImage P_image P_acts P_entries P_imageEntries S_fewest S_row S_strengths U_size U_found U_places U_kinds U_holds U_fitting U_tally L_letters L_firstCells L_secondCells L_firstBest L_secondBest W_refusals ++ fr) :=
  gMet.of rfl (Nat.le_of_ble_eq_true rfl) (fun X hX hF => w_Yard_paymentOf hX r h hF)
set_option maxRecDepth 4000 in
theorem w_Past_write {p0 : Int32} (hX : gOk B X RX5 cX5_write 2 1 none) : gH B X (fun r : (Nat → Int32) => gFin X (none) (wdC B W_spillsNow W_drawn T_length T_at T_bytes D_cells D_clauses G_length G_code A_size A_chosen A_codes A_lengths A_stack Y_cells Y_clauses N_marbles N_chipped N_swallowed N_sweets N_day N_owners P_next P_kept P_hasImage P_image P_acts r P_imageEntries S_fewest S_row S_strengths U_size U_found U_places U_kinds U_holds U_fitting U_tally L_letters L_firstCells L_secondCells L_firstBest L_secondBest W_refusals ++ fr)) 0 [(0, .ref (aC B 18)), (1, .int p0)] [] (wdC B W_spillsNow W_drawn T_length T_at T_bytes D_cells D_clauses G_length G_code A_size A_chosen A_codes A_lengths A_stack Y_cells Y_clauses N_marbles N_chipped N_swallowed N_sweets N_day N_owners P_next P_kept P_hasImage P_image P_acts P_entries P_imageEntries S_fewest S_row S_strengths U_size U_found U_places U_kinds U_holds U_fitting U_tally L_letters L_firstCells L_secondCells L_firstBest L_secondBest W_refusals ++ fr) (f_Past_write N_sweets N_day P_entries p0) := by
  unfold f_Past_write
  refine h_aload_n hX dX5_write_0 rfl rfl ?_
  refine get_RX5_15_C18 hX dX5_write_1 ?_
  refine h_aload_n hX dX5_write_4 rfl rfl ?_
  refine h_iconst hX dX5_write_5 ki_m1 ?_
  refine h_callVi hX dX5_write_6 (cv_RX5_56) rc_C18 (As := [.int ((-1))]) (st := [.ref (aC B 20)]) (fun _ h => c_Past_ringIndex h) rfl rfl (by decide) (Nat.le_of_ble_eq_true rfl) (fun a_1 => ?_)
  refine h_aload_n hX dX5_write_9 rfl rfl ?_
  refine get_RX5_22_C18 hX dX5_write_10 ?_
  refine get_RX5_60_C16 hX dX5_write_13 ?_
  refine h_bipush hX dX5_write_16 kb_6 ?_
  refine h_ishl hX dX5_write_18 ?_
  refine h_iload_n hX dX5_write_19 rfl rfl ?_
  refine h_ior hX dX5_write_20 ?_
  refine ast_C20 hX dX5_write_21 ?_
  refine gH.letw (w := fun y => wdC B W_spillsNow W_drawn T_length T_at T_bytes D_cells D_clauses G_length G_code A_size A_chosen A_codes A_lengths A_stack Y_cells Y_clauses N_marbles N_chipped N_swallowed N_sweets N_day N_owners P_next P_kept P_hasImage P_image P_acts y P_imageEntries S_fewest S_row S_strengths U_size U_found U_places U_kinds U_holds U_fitting U_tally L_letters L_firstCells L_secondCells L_firstBest L_secondBest W_refusals ++ fr) (fun P_entries_2 => ?_)
  exact h_ret hX (rv := none) dX5_write_22 trivial (fun h => h)
theorem c_Past_write {p0 : Int32} {r : (Nat → Int32)} (h : f_Past_write N_sweets N_day P_entries p0 = some r) : gMet B 1 yX5_write cX5_write 2 none [.ref (aC B 18), .int p0] (wdC B W_spillsNow W_drawn T_length T_at T_bytes D_cells D_clauses G_length G_code A_size A_chosen A_codes A_lengths A_stack Y_cells Y_clauses N_marbles N_chipped N_swallowed N_sweets N_day N_owners P_next P_kept P_hasImage P_image P_acts P_entries P_imageEntries S_fewest S_row S_strengths U_size U_found U_places U_kinds U_holds U_fitting U_tally L_letters L_firstCells L_secondCells L_firstBest L_secondBest W_refusals ++ fr) (none) (wdC B W_spillsNow W_drawn T_length T_at T_bytes D_cells D_clauses G_length G_code A_size A_chosen A_codes A_lengths A_stack Y_cells Y_clauses N_marbles N_chipped N_swallowed N_sweets N_day N_owners P_next P_kept P_hasImage P_image P_acts r P_imageEntries S_fewest S_row S_strengths U_size U_found U_places U_kinds U_holds U_fitting U_tally L_letters L_firstCells L_secondCells L_firstBest L_secondBest W_refusals ++ fr) :=
  gMet.of rfl (Nat.le_of_ble_eq_true rfl) (fun X hX hF => w_Past_write hX r h hF)
set_option maxRecDepth 4000 in
theorem w_Main_passDay (hX : gOk B X RX10 cX10_passDay 2 5 none) : gH B X (fun r : (Int32 × Int32 × (Nat → Int32) × (Nat → Int32)) => gFin X (none) (wdC B W_spillsNow W_drawn T_length T_at T_bytes D_cells D_clauses G_length G_code A_size A_chosen A_codes A_lengths A_stack Y_cells Y_clauses N_marbles N_chipped N_swallowed r.1 r.2.1 N_owners P_next P_kept P_hasImage P_image P_acts r.2.2.1 P_imageEntries S_fewest S_row r.2.2.2 U_size U_found U_places U_kinds U_holds U_fitting U_tally L_letters L_firstCells L_secondCells L_firstBest L_secondBest W_refusals ++ fr)) 0 [(0, .ref (aC B 0))] [] (wdC B W_spillsNow W_drawn T_length T_at T_bytes D_cells D_clauses G_length G_code A_size A_chosen A_codes A_lengths A_stack Y_cells Y_clauses N_marbles N_chipped N_swallowed N_sweets N_day N_owners P_next P_kept P_hasImage P_image P_acts P_entries P_imageEntries S_fewest S_row S_strengths U_size U_found U_places U_kinds U_holds U_fitting U_tally L_letters L_firstCells L_secondCells L_firstBest L_secondBest W_refusals ++ fr) (f_Main_passDay Y_cells Y_clauses N_marbles N_chipped N_sweets N_day N_owners P_entries S_strengths) := by
  unfold f_Main_passDay
  refine h_aload_n hX dX10_passDay_0 rfl rfl ?_
  refine h_callVi hX dX10_passDay_1 (cv_RX10_207) rc_C0 (As := []) (st := []) (fun _ h => c_Main_contentNow h) rfl rfl (by decide) (Nat.le_of_ble_eq_true rfl) (fun a_1 => ?_)
  refine h_istore_n hX dX10_passDay_4 rfl (by decide) (lv' := [(0, .ref (aC B 0)), (1, .int a_1.1)]) rfl ?_
  refine h_aload_n hX dX10_passDay_5 rfl rfl ?_
  refine get_RX10_49_C0 hX dX10_passDay_6 ?_
  refine h_sipush hX dX10_passDay_9 ks_999 ?_
  refine h_aload_n hX dX10_passDay_12 rfl rfl ?_
  refine get_RX10_49_C0 hX dX10_passDay_13 ?_
  refine get_RX10_148_C16 hX dX10_passDay_16 ?_
  refine h_aload_n hX dX10_passDay_19 rfl rfl ?_
  refine get_RX10_42_C0 hX dX10_passDay_20 ?_
  refine h_iload_n hX dX10_passDay_23 rfl rfl ?_
  refine h_callVi hX dX10_passDay_24 (cv_RX10_337) rc_C13 (As := [.int a_1.1]) (st := [.int N_sweets, .int 999, .ref (aC B 16)]) (fun _ h => c_Yard_paymentOf h) rfl rfl (by decide) (Nat.le_of_ble_eq_true rfl) (fun a_2 => ?_)
  refine h_iadd hX dX10_passDay_27 ?_
  refine h_callSi hX dX10_passDay_28 (cs_RX10_376) (As := [.int 999, .int (N_sweets + a_2)]) (st := [.ref (aC B 16)]) (fun _ h => c_J_min h) rfl rfl (by decide) (Nat.le_of_ble_eq_true rfl) (fun a_3 => ?_)
  refine put_RX10_148_C16 hX dX10_passDay_31 ?_
  refine h_aload_n hX dX10_passDay_34 rfl rfl ?_
  refine get_RX10_58_C0 hX dX10_passDay_35 ?_
  refine h_iload_n hX dX10_passDay_38 rfl rfl ?_
  refine h_callVv hX dX10_passDay_39 (cv_RX10_381) rc_C18 (As := [.int a_1.1]) (st := []) (fun _ h => c_Past_write h) rfl rfl (by decide) (Nat.le_of_ble_eq_true rfl) (fun a_4 => ?_)
  refine h_aload_n hX dX10_passDay_42 rfl rfl ?_
  refine get_RX10_49_C0 hX dX10_passDay_43 ?_
  refine h_dup hX dX10_passDay_46 rfl ?_
  refine get_RX10_242_C16 hX dX10_passDay_47 ?_
  refine h_iconst hX dX10_passDay_50 ki_1 ?_
  refine h_iadd hX dX10_passDay_51 ?_
  refine put_RX10_242_C16 hX dX10_passDay_52 ?_
  refine gH.letw (w := fun y => wdC B W_spillsNow W_drawn T_length T_at T_bytes D_cells D_clauses G_length G_code A_size A_chosen A_codes A_lengths A_stack Y_cells Y_clauses N_marbles N_chipped N_swallowed a_3 y N_owners P_next P_kept P_hasImage P_image P_acts a_4 P_imageEntries S_fewest S_row a_1.2 U_size U_found U_places U_kinds U_holds U_fitting U_tally L_letters L_firstCells L_secondCells L_firstBest L_secondBest W_refusals ++ fr) (fun N_day_5 => ?_)
  exact h_ret hX (rv := none) dX10_passDay_55 trivial (fun h => h)
theorem c_Main_passDay {r : (Int32 × Int32 × (Nat → Int32) × (Nat → Int32))} (h : f_Main_passDay Y_cells Y_clauses N_marbles N_chipped N_sweets N_day N_owners P_entries S_strengths = some r) : gMet B 5 yX10_passDay cX10_passDay 2 none [.ref (aC B 0)] (wdC B W_spillsNow W_drawn T_length T_at T_bytes D_cells D_clauses G_length G_code A_size A_chosen A_codes A_lengths A_stack Y_cells Y_clauses N_marbles N_chipped N_swallowed N_sweets N_day N_owners P_next P_kept P_hasImage P_image P_acts P_entries P_imageEntries S_fewest S_row S_strengths U_size U_found U_places U_kinds U_holds U_fitting U_tally L_letters L_firstCells L_secondCells L_firstBest L_secondBest W_refusals ++ fr) (none) (wdC B W_spillsNow W_drawn T_length T_at T_bytes D_cells D_clauses G_length G_code A_size A_chosen A_codes A_lengths A_stack Y_cells Y_clauses N_marbles N_chipped N_swallowed r.1 r.2.1 N_owners P_next P_kept P_hasImage P_image P_acts r.2.2.1 P_imageEntries S_fewest S_row r.2.2.2 U_size U_found U_places U_kinds U_holds U_fitting U_tally L_letters L_firstCells L_secondCells L_firstBest L_secondBest W_refusals ++ fr) :=
  gMet.of rfl (Nat.le_of_ble_eq_true rfl) (fun X hX hF => w_Main_passDay hX r h hF)
set_option maxRecDepth 4000 in
theorem w_Main_days_J27 (hX : gOk B X RX10 cX10_days 3 6 (some .int)) : gH B X (fun r : (Int32 × Int32 × Int32 × Int32 × Int32 × (Nat → Int64) × (Nat → Int32) × (Nat → Int32) × (Nat → Int32)) => gFin X (some (.int r.1)) (wdC B W_spillsNow W_drawn T_length T_at T_bytes D_cells D_clauses G_length G_code A_size A_chosen A_codes A_lengths A_stack Y_cells Y_clauses N_marbles N_chipped N_swallowed r.2.1 r.2.2.1 N_owners r.2.2.2.1 r.2.2.2.2.1 P_hasImage P_image r.2.2.2.2.2.1 r.2.2.2.2.2.2.1 P_imageEntries S_fewest S_row r.2.2.2.2.2.2.2.1 U_size U_found U_places U_kinds U_holds U_fitting U_tally L_letters L_firstCells L_secondCells L_firstBest L_secondBest r.2.2.2.2.2.2.2.2 ++ fr)) 27 [(0, .ref (aC B 0))] [] (wdC B W_spillsNow W_drawn T_length T_at T_bytes D_cells D_clauses G_length G_code A_size A_chosen A_codes A_lengths A_stack Y_cells Y_clauses N_marbles N_chipped N_swallowed N_sweets N_day N_owners P_next P_kept P_hasImage P_image P_acts P_entries P_imageEntries S_fewest S_row S_strengths U_size U_found U_places U_kinds U_holds U_fitting U_tally L_letters L_firstCells L_secondCells L_firstBest L_secondBest W_refusals ++ fr) (f_Main_days_J27 N_sweets N_day P_next P_kept P_acts P_entries S_strengths W_refusals) := by
  unfold f_Main_days_J27
  refine h_aload_n hX dX10_days_27 rfl rfl ?_
  refine h_iconst hX dX10_days_28 ki_1 ?_
  refine h_callVi hX dX10_days_29 (cv_RX10_217) rc_C0 (As := [.int 1]) (st := []) (fun _ h => c_Main_refuse h) rfl rfl (by decide) (Nat.le_of_ble_eq_true rfl) (fun a_2 => ?_)
  exact h_ret hX (rv := some (.int a_2.1)) dX10_days_32 trivial (fun h => h)
set_option maxRecDepth 4000 in
theorem w_Main_days_L56 {v1 : Int32} (hX : gOk B X RX10 cX10_days 3 6 (some .int)) (s : (Int32 × Int32 × Int32 × Int32 × Int32 × (Nat → Int64) × (Nat → Int32) × (Nat → Int32))) : gH B X (Sum.elim (fun s : (Int32 × Int32 × Int32 × Int32 × Int32 × (Nat → Int64) × (Nat → Int32) × (Nat → Int32)) => gG B X 56 [(0, .ref (aC B 0)), (1, .int v1), (2, .int s.1)] [] (wdC B W_spillsNow W_drawn T_length T_at T_bytes D_cells D_clauses G_length G_code A_size A_chosen A_codes A_lengths A_stack Y_cells Y_clauses N_marbles N_chipped N_swallowed s.2.1 s.2.2.1 N_owners s.2.2.2.1 s.2.2.2.2.1 P_hasImage P_image s.2.2.2.2.2.1 s.2.2.2.2.2.2.1 P_imageEntries S_fewest S_row s.2.2.2.2.2.2.2 U_size U_found U_places U_kinds U_holds U_fitting U_tally L_letters L_firstCells L_secondCells L_firstBest L_secondBest W_refusals ++ fr)) (fun r : (Int32 × Int32 × Int32 × Int32 × Int32 × (Nat → Int64) × (Nat → Int32) × (Nat → Int32) × (Nat → Int32)) => gFin X (some (.int r.1)) (wdC B W_spillsNow W_drawn T_length T_at T_bytes D_cells D_clauses G_length G_code A_size A_chosen A_codes A_lengths A_stack Y_cells Y_clauses N_marbles N_chipped N_swallowed r.2.1 r.2.2.1 N_owners r.2.2.2.1 r.2.2.2.2.1 P_hasImage P_image r.2.2.2.2.2.1 r.2.2.2.2.2.2.1 P_imageEntries S_fewest S_row r.2.2.2.2.2.2.2.1 U_size U_found U_places U_kinds U_holds U_fitting U_tally L_letters L_firstCells L_secondCells L_firstBest L_secondBest r.2.2.2.2.2.2.2.2 ++ fr))) 56 [(0, .ref (aC B 0)), (1, .int v1), (2, .int s.1)] [] (wdC B W_spillsNow W_drawn T_length T_at T_bytes D_cells D_clauses G_length G_code A_size A_chosen A_codes A_lengths A_stack Y_cells Y_clauses N_marbles N_chipped N_swallowed s.2.1 s.2.2.1 N_owners s.2.2.2.1 s.2.2.2.2.1 P_hasImage P_image s.2.2.2.2.2.1 s.2.2.2.2.2.2.1 P_imageEntries S_fewest S_row s.2.2.2.2.2.2.2 U_size U_found U_places U_kinds U_holds U_fitting U_tally L_letters L_firstCells L_secondCells L_firstBest L_secondBest W_refusals ++ fr) (f_Main_days_L56 Y_cells Y_clauses N_marbles N_chipped N_swallowed N_owners W_refusals v1 s) := by
  unfold f_Main_days_L56
  refine h_iload_n hX dX10_days_56 rfl rfl ?_
  refine h_iload_n hX dX10_days_57 rfl rfl ?_
  refine h_icmp_ge hX dX10_days_58 (tgt := 78) (by decide) (fun _ => ?_) (fun _ => ?_)
  · refine h_aload_n hX dX10_days_78 rfl rfl ?_
    refine get_RX10_49_C0 hX dX10_days_79 ?_
    refine get_RX10_148_C16 hX dX10_days_82 ?_
    exact h_ret hX (rv := some (.int s.2.1)) dX10_days_85 trivial (fun h => h)
  · refine h_aload_n hX dX10_days_61 rfl rfl ?_
    refine get_RX10_58_C0 hX dX10_days_62 ?_
    refine h_callVv hX dX10_days_65 (cv_RX10_220) rc_C18 (As := []) (st := []) (fun _ h => c_Past_remember h) rfl rfl (by decide) (Nat.le_of_ble_eq_true rfl) (fun a_3 => ?_)
    refine h_aload_n hX dX10_days_68 rfl rfl ?_
    refine h_callVv hX dX10_days_69 (cv_RX10_245) rc_C0 (As := []) (st := []) (fun _ h => c_Main_passDay h) rfl rfl (by decide) (Nat.le_of_ble_eq_true rfl) (fun a_4 => ?_)
    refine h_iincc hX dX10_days_72 rfl ki_1 (by decide) (lv' := [(0, .ref (aC B 0)), (1, .int v1), (2, .int (s.1 + 1))]) rfl ?_
    refine h_goto hX dX10_days_75 (tgt := 56) (by decide) ?_
    exact gH.some' (fun h => h)
set_option maxRecDepth 4000 in
theorem w_Main_days {p0 : Int32} (hX : gOk B X RX10 cX10_days 3 6 (some .int)) : gH B X (fun r : (Int32 × Int32 × Int32 × Int32 × Int32 × (Nat → Int64) × (Nat → Int32) × (Nat → Int32) × (Nat → Int32)) => gFin X (some (.int r.1)) (wdC B W_spillsNow W_drawn T_length T_at T_bytes D_cells D_clauses G_length G_code A_size A_chosen A_codes A_lengths A_stack Y_cells Y_clauses N_marbles N_chipped N_swallowed r.2.1 r.2.2.1 N_owners r.2.2.2.1 r.2.2.2.2.1 P_hasImage P_image r.2.2.2.2.2.1 r.2.2.2.2.2.2.1 P_imageEntries S_fewest S_row r.2.2.2.2.2.2.2.1 U_size U_found U_places U_kinds U_holds U_fitting U_tally L_letters L_firstCells L_secondCells L_firstBest L_secondBest r.2.2.2.2.2.2.2.2 ++ fr)) 0 [(0, .ref (aC B 0)), (1, .int p0)] [] (wdC B W_spillsNow W_drawn T_length T_at T_bytes D_cells D_clauses G_length G_code A_size A_chosen A_codes A_lengths A_stack Y_cells Y_clauses N_marbles N_chipped N_swallowed N_sweets N_day N_owners P_next P_kept P_hasImage P_image P_acts P_entries P_imageEntries S_fewest S_row S_strengths U_size U_found U_places U_kinds U_holds U_fitting U_tally L_letters L_firstCells L_secondCells L_firstBest L_secondBest W_refusals ++ fr) (f_Main_days Y_cells Y_clauses N_marbles N_chipped N_swallowed N_sweets N_day N_owners P_next P_kept P_acts P_entries S_strengths W_refusals p0) := by
  unfold f_Main_days
  refine h_aload_n hX dX10_days_0 rfl rfl ?_
  refine get_RX10_42_C0 hX dX10_days_1 ?_
  refine h_callVi hX dX10_days_4 (cv_RX10_139) rc_C13 (As := []) (st := []) (fun _ h => c_Yard_stands h) rfl rfl (by decide) (Nat.le_of_ble_eq_true rfl) (fun a_1 => ?_)
  refine h_if_ne hX dX10_days_7 (tgt := 16) (by decide) (fun _ => ?_) (fun _ => ?_)
  · refine h_iload_n hX dX10_days_16 rfl rfl ?_
    refine h_iconst hX dX10_days_17 ki_1 ?_
    refine h_icmp_lt hX dX10_days_18 (tgt := 27) (by decide) (fun _ => ?_) (fun _ => ?_)
    · refine gH.dead [0] rfl ?_
      exact w_Main_days_J27 hX
    · refine h_iload_n hX dX10_days_21 rfl rfl ?_
      refine h_bipush hX dX10_days_22 kb_60 ?_
      refine h_icmp_le hX dX10_days_24 (tgt := 33) (by decide) (fun _ => ?_) (fun _ => ?_)
      · refine h_aload_n hX dX10_days_33 rfl rfl ?_
        refine get_RX10_49_C0 hX dX10_days_34 ?_
        refine get_RX10_242_C16 hX dX10_days_37 ?_
        refine h_iload_n hX dX10_days_40 rfl rfl ?_
        refine h_iadd hX dX10_days_41 ?_
        refine h_sipush hX dX10_days_42 ks_9999 ?_
        refine h_icmp_le hX dX10_days_45 (tgt := 54) (by decide) (fun _ => ?_) (fun _ => ?_)
        · refine h_iconst hX dX10_days_54 ki_0 ?_
          refine h_istore_n hX dX10_days_55 rfl (by decide) (lv' := [(0, .ref (aC B 0)), (1, .int p0), (2, .int 0)]) rfl ?_
          exact gH.loop (lvf := fun s : (Int32 × Int32 × Int32 × Int32 × Int32 × (Nat → Int64) × (Nat → Int32) × (Nat → Int32)) => [(0, .ref (aC B 0)), (1, .int p0), (2, .int s.1)]) (wf := fun s : (Int32 × Int32 × Int32 × Int32 × Int32 × (Nat → Int64) × (Nat → Int32) × (Nat → Int32)) => wdC B W_spillsNow W_drawn T_length T_at T_bytes D_cells D_clauses G_length G_code A_size A_chosen A_codes A_lengths A_stack Y_cells Y_clauses N_marbles N_chipped N_swallowed s.2.1 s.2.2.1 N_owners s.2.2.2.1 s.2.2.2.2.1 P_hasImage P_image s.2.2.2.2.2.1 s.2.2.2.2.2.2.1 P_imageEntries S_fewest S_row s.2.2.2.2.2.2.2 U_size U_found U_places U_kinds U_holds U_fitting U_tally L_letters L_firstCells L_secondCells L_firstBest L_secondBest W_refusals ++ fr) (fun s => w_Main_days_L56 hX s) (0, N_sweets, N_day, P_next, P_kept, P_acts, P_entries, S_strengths)
        · refine h_aload_n hX dX10_days_48 rfl rfl ?_
          refine h_iconst hX dX10_days_49 ki_4 ?_
          refine h_callVi hX dX10_days_50 (cv_RX10_217) rc_C0 (As := [.int 4]) (st := []) (fun _ h => c_Main_refuse h) rfl rfl (by decide) (Nat.le_of_ble_eq_true rfl) (fun a_6 => ?_)
          exact h_ret hX (rv := some (.int a_6.1)) dX10_days_53 trivial (fun h => h)
      · refine gH.dead [0] rfl ?_
        exact w_Main_days_J27 hX
  · refine h_aload_n hX dX10_days_10 rfl rfl ?_
    refine h_iconst hX dX10_days_11 ki_0 ?_
    refine h_callVi hX dX10_days_12 (cv_RX10_217) rc_C0 (As := [.int 0]) (st := []) (fun _ h => c_Main_refuse h) rfl rfl (by decide) (Nat.le_of_ble_eq_true rfl) (fun a_7 => ?_)
    exact h_ret hX (rv := some (.int a_7.1)) dX10_days_15 trivial (fun h => h)
theorem c_Main_days {p0 : Int32} {r : (Int32 × Int32 × Int32 × Int32 × Int32 × (Nat → Int64) × (Nat → Int32) × (Nat → Int32) × (Nat → Int32))} (h : f_Main_days Y_cells Y_clauses N_marbles N_chipped N_swallowed N_sweets N_day N_owners P_next P_kept P_acts P_entries S_strengths W_refusals p0 = some r) : gMet B 6 yX10_days cX10_days 3 (some .int) [.ref (aC B 0), .int p0] (wdC B W_spillsNow W_drawn T_length T_at T_bytes D_cells D_clauses G_length G_code A_size A_chosen A_codes A_lengths A_stack Y_cells Y_clauses N_marbles N_chipped N_swallowed N_sweets N_day N_owners P_next P_kept P_hasImage P_image P_acts P_entries P_imageEntries S_fewest S_row S_strengths U_size U_found U_places U_kinds U_holds U_fitting U_tally L_letters L_firstCells L_secondCells L_firstBest L_secondBest W_refusals ++ fr) (some (.int r.1)) (wdC B W_spillsNow W_drawn T_length T_at T_bytes D_cells D_clauses G_length G_code A_size A_chosen A_codes A_lengths A_stack Y_cells Y_clauses N_marbles N_chipped N_swallowed r.2.1 r.2.2.1 N_owners r.2.2.2.1 r.2.2.2.2.1 P_hasImage P_image r.2.2.2.2.2.1 r.2.2.2.2.2.2.1 P_imageEntries S_fewest S_row r.2.2.2.2.2.2.2.1 U_size U_found U_places U_kinds U_holds U_fitting U_tally L_letters L_firstCells L_secondCells L_firstBest L_secondBest r.2.2.2.2.2.2.2.2 ++ fr) :=
  gMet.of rfl (Nat.le_of_ble_eq_true rfl) (fun X hX hF => w_Main_days hX r h hF)
set_option maxRecDepth 4000 in
theorem w_Main_draw {p0 : Int32} (hX : gOk B X RX10 cX10_draw 2 0 (some .int)) : gH B X (fun r : (Int32 × Int64) => gFin X (some (.int r.1)) (wdC B W_spillsNow r.2 T_length T_at T_bytes D_cells D_clauses G_length G_code A_size A_chosen A_codes A_lengths A_stack Y_cells Y_clauses N_marbles N_chipped N_swallowed N_sweets N_day N_owners P_next P_kept P_hasImage P_image P_acts P_entries P_imageEntries S_fewest S_row S_strengths U_size U_found U_places U_kinds U_holds U_fitting U_tally L_letters L_firstCells L_secondCells L_firstBest L_secondBest W_refusals ++ fr)) 0 [(0, .ref (aC B 0)), (1, .int p0)] [] (wdC B W_spillsNow W_drawn T_length T_at T_bytes D_cells D_clauses G_length G_code A_size A_chosen A_codes A_lengths A_stack Y_cells Y_clauses N_marbles N_chipped N_swallowed N_sweets N_day N_owners P_next P_kept P_hasImage P_image P_acts P_entries P_imageEntries S_fewest S_row S_strengths U_size U_found U_places U_kinds U_holds U_fitting U_tally L_letters L_firstCells L_secondCells L_firstBest L_secondBest W_refusals ++ fr) (f_Main_draw W_drawn p0) := by
  unfold f_Main_draw
  refine h_aload_n hX dX10_draw_0 rfl rfl ?_
  refine h_aload_n hX dX10_draw_1 rfl rfl ?_
  refine get_RX10_251_C0 hX dX10_draw_2 ?_
  refine h_ldc2 hX dX10_draw_5 cstl_RX10_384 ?_
  refine h_lmul hX dX10_draw_8 ?_
  refine h_ldc2 hX dX10_draw_9 cstl_RX10_386 ?_
  refine h_ladd hX dX10_draw_12 ?_
  refine put_RX10_251_C0 hX dX10_draw_13 ?_
  refine gH.letw (w := fun y => wdC B W_spillsNow y T_length T_at T_bytes D_cells D_clauses G_length G_code A_size A_chosen A_codes A_lengths A_stack Y_cells Y_clauses N_marbles N_chipped N_swallowed N_sweets N_day N_owners P_next P_kept P_hasImage P_image P_acts P_entries P_imageEntries S_fewest S_row S_strengths U_size U_found U_places U_kinds U_holds U_fitting U_tally L_letters L_firstCells L_secondCells L_firstBest L_secondBest W_refusals ++ fr) (fun W_drawn_1 => ?_)
  refine h_iload_n hX dX10_draw_16 rfl rfl ?_
  refine h_if_le hX dX10_draw_17 (tgt := 34) (by decide) (fun _ => ?_) (fun _ => ?_)
  · refine h_iconst hX dX10_draw_34 ki_0 ?_
    exact h_ret hX (rv := some (.int 0)) dX10_draw_35 trivial (fun h => h)
  · refine h_aload_n hX dX10_draw_20 rfl rfl ?_
    refine get_RX10_251_C0 hX dX10_draw_21 ?_
    refine h_bipush hX dX10_draw_24 kb_33 ?_
    refine h_lushr hX dX10_draw_26 ?_
    refine h_iload_n hX dX10_draw_27 rfl rfl ?_
    refine h_i2l hX dX10_draw_28 ?_
    refine h_lremz hX dX10_draw_29 ?_
    refine h_l2i hX dX10_draw_30 ?_
    refine h_goto hX dX10_draw_31 (tgt := 35) (by decide) ?_
    exact h_ret hX (rv := some (.int ((((W_drawn_1.toUInt64 >>> ((33 : Int32).toInt64.toUInt64 &&& Int64.toUInt64 63)).toInt64) - ((W_drawn_1.toUInt64 >>> ((33 : Int32).toInt64.toUInt64 &&& Int64.toUInt64 63)).toInt64) / ((p0 : Int32).toInt64) * ((p0 : Int32).toInt64) : Int64).toInt32))) dX10_draw_35 trivial (fun h => h)
theorem c_Main_draw {p0 : Int32} {r : (Int32 × Int64)} (h : f_Main_draw W_drawn p0 = some r) : gMet B 0 yX10_draw cX10_draw 2 (some .int) [.ref (aC B 0), .int p0] (wdC B W_spillsNow W_drawn T_length T_at T_bytes D_cells D_clauses G_length G_code A_size A_chosen A_codes A_lengths A_stack Y_cells Y_clauses N_marbles N_chipped N_swallowed N_sweets N_day N_owners P_next P_kept P_hasImage P_image P_acts P_entries P_imageEntries S_fewest S_row S_strengths U_size U_found U_places U_kinds U_holds U_fitting U_tally L_letters L_firstCells L_secondCells L_firstBest L_secondBest W_refusals ++ fr) (some (.int r.1)) (wdC B W_spillsNow r.2 T_length T_at T_bytes D_cells D_clauses G_length G_code A_size A_chosen A_codes A_lengths A_stack Y_cells Y_clauses N_marbles N_chipped N_swallowed N_sweets N_day N_owners P_next P_kept P_hasImage P_image P_acts P_entries P_imageEntries S_fewest S_row S_strengths U_size U_found U_places U_kinds U_holds U_fitting U_tally L_letters L_firstCells L_secondCells L_firstBest L_secondBest W_refusals ++ fr) :=
  gMet.of rfl (Nat.le_of_ble_eq_true rfl) (fun X hX hF => w_Main_draw hX r h hF)
set_option maxRecDepth 4000 in
theorem w_Tape_cutTo {p0 : Int32} (hX : gOk B X RX7 cX7_cutTo 2 0 none) : gH B X (fun r : Int32 => gFin X (none) (wdC B W_spillsNow W_drawn r T_at T_bytes D_cells D_clauses G_length G_code A_size A_chosen A_codes A_lengths A_stack Y_cells Y_clauses N_marbles N_chipped N_swallowed N_sweets N_day N_owners P_next P_kept P_hasImage P_image P_acts P_entries P_imageEntries S_fewest S_row S_strengths U_size U_found U_places U_kinds U_holds U_fitting U_tally L_letters L_firstCells L_secondCells L_firstBest L_secondBest W_refusals ++ fr)) 0 [(0, .ref (aC B 1)), (1, .int p0)] [] (wdC B W_spillsNow W_drawn T_length T_at T_bytes D_cells D_clauses G_length G_code A_size A_chosen A_codes A_lengths A_stack Y_cells Y_clauses N_marbles N_chipped N_swallowed N_sweets N_day N_owners P_next P_kept P_hasImage P_image P_acts P_entries P_imageEntries S_fewest S_row S_strengths U_size U_found U_places U_kinds U_holds U_fitting U_tally L_letters L_firstCells L_secondCells L_firstBest L_secondBest W_refusals ++ fr) (f_Tape_cutTo T_length p0) := by
  unfold f_Tape_cutTo
  refine h_aload_n hX dX7_cutTo_0 rfl rfl ?_
  refine h_iload_n hX dX7_cutTo_1 rfl rfl ?_
  refine put_RX7_15_C1 hX dX7_cutTo_2 ?_
  exact h_ret hX (rv := none) dX7_cutTo_5 trivial (fun h => h)
theorem c_Tape_cutTo {p0 : Int32} {r : Int32} (h : f_Tape_cutTo T_length p0 = some r) : gMet B 0 yX7_cutTo cX7_cutTo 2 none [.ref (aC B 1), .int p0] (wdC B W_spillsNow W_drawn T_length T_at T_bytes D_cells D_clauses G_length G_code A_size A_chosen A_codes A_lengths A_stack Y_cells Y_clauses N_marbles N_chipped N_swallowed N_sweets N_day N_owners P_next P_kept P_hasImage P_image P_acts P_entries P_imageEntries S_fewest S_row S_strengths U_size U_found U_places U_kinds U_holds U_fitting U_tally L_letters L_firstCells L_secondCells L_firstBest L_secondBest W_refusals ++ fr) (none) (wdC B W_spillsNow W_drawn r T_at T_bytes D_cells D_clauses G_length G_code A_size A_chosen A_codes A_lengths A_stack Y_cells Y_clauses N_marbles N_chipped N_swallowed N_sweets N_day N_owners P_next P_kept P_hasImage P_image P_acts P_entries P_imageEntries S_fewest S_row S_strengths U_size U_found U_places U_kinds U_holds U_fitting U_tally L_letters L_firstCells L_secondCells L_firstBest L_secondBest W_refusals ++ fr) :=
  gMet.of rfl (Nat.le_of_ble_eq_true rfl) (fun X hX hF => w_Tape_cutTo hX r h hF)
set_option maxRecDepth 4000 in
theorem w_Main_end {p0 : Int32} (hX : gOk B X RX10 cX10_end 2 1 (some .boolean)) : gH B X (fun r : (Int32 × Int32) => gFin X (some (.int r.1)) (wdC B W_spillsNow W_drawn r.2 T_at T_bytes D_cells D_clauses G_length G_code A_size A_chosen A_codes A_lengths A_stack Y_cells Y_clauses N_marbles N_chipped N_swallowed N_sweets N_day N_owners P_next P_kept P_hasImage P_image P_acts P_entries P_imageEntries S_fewest S_row S_strengths U_size U_found U_places U_kinds U_holds U_fitting U_tally L_letters L_firstCells L_secondCells L_firstBest L_secondBest W_refusals ++ fr)) 0 [(0, .ref (aC B 0)), (1, .int p0)] [] (wdC B W_spillsNow W_drawn T_length T_at T_bytes D_cells D_clauses G_length G_code A_size A_chosen A_codes A_lengths A_stack Y_cells Y_clauses N_marbles N_chipped N_swallowed N_sweets N_day N_owners P_next P_kept P_hasImage P_image P_acts P_entries P_imageEntries S_fewest S_row S_strengths U_size U_found U_places U_kinds U_holds U_fitting U_tally L_letters L_firstCells L_secondCells L_firstBest L_secondBest W_refusals ++ fr) (f_Main_end T_length p0) := by
  unfold f_Main_end
  refine h_iload_n hX dX10_end_0 rfl rfl ?_
  refine h_if_lt hX dX10_end_1 (tgt := 15) (by decide) (fun _ => ?_) (fun _ => ?_)
  · refine h_iconst hX dX10_end_15 ki_0 ?_
    exact h_ret hX (rv := some (.int 0)) dX10_end_16 rfl (fun h => h)
  · refine h_iload_n hX dX10_end_4 rfl rfl ?_
    refine h_aload_n hX dX10_end_5 rfl rfl ?_
    refine get_RX10_10_C0 hX dX10_end_6 ?_
    refine h_callVi hX dX10_end_9 (cv_RX10_97) rc_C1 (As := []) (st := [.int p0]) (fun _ h => c_Tape_size h) rfl rfl (by decide) (Nat.le_of_ble_eq_true rfl) (fun a_1 => ?_)
    refine h_icmp_le hX dX10_end_12 (tgt := 17) (by decide) (fun _ => ?_) (fun _ => ?_)
    · refine h_aload_n hX dX10_end_17 rfl rfl ?_
      refine get_RX10_10_C0 hX dX10_end_18 ?_
      refine h_iload_n hX dX10_end_21 rfl rfl ?_
      refine h_callVv hX dX10_end_22 (cv_RX10_105) rc_C1 (As := [.int p0]) (st := []) (fun _ h => c_Tape_cutTo h) rfl rfl (by decide) (Nat.le_of_ble_eq_true rfl) (fun a_2 => ?_)
      refine h_iconst hX dX10_end_25 ki_1 ?_
      exact h_ret hX (rv := some (.int 1)) dX10_end_26 rfl (fun h => h)
    · refine h_iconst hX dX10_end_15 ki_0 ?_
      exact h_ret hX (rv := some (.int 0)) dX10_end_16 rfl (fun h => h)
theorem c_Main_end {p0 : Int32} {r : (Int32 × Int32)} (h : f_Main_end T_length p0 = some r) : gMet B 1 yX10_end cX10_end 2 (some .boolean) [.ref (aC B 0), .int p0] (wdC B W_spillsNow W_drawn T_length T_at T_bytes D_cells D_clauses G_length G_code A_size A_chosen A_codes A_lengths A_stack Y_cells Y_clauses N_marbles N_chipped N_swallowed N_sweets N_day N_owners P_next P_kept P_hasImage P_image P_acts P_entries P_imageEntries S_fewest S_row S_strengths U_size U_found U_places U_kinds U_holds U_fitting U_tally L_letters L_firstCells L_secondCells L_firstBest L_secondBest W_refusals ++ fr) (some (.int r.1)) (wdC B W_spillsNow W_drawn r.2 T_at T_bytes D_cells D_clauses G_length G_code A_size A_chosen A_codes A_lengths A_stack Y_cells Y_clauses N_marbles N_chipped N_swallowed N_sweets N_day N_owners P_next P_kept P_hasImage P_image P_acts P_entries P_imageEntries S_fewest S_row S_strengths U_size U_found U_places U_kinds U_holds U_fitting U_tally L_letters L_firstCells L_secondCells L_firstBest L_secondBest W_refusals ++ fr) :=
  gMet.of rfl (Nat.le_of_ble_eq_true rfl) (fun X hX hF => w_Main_end hX r h hF)
