variable {B : gB} {X : gX} {fr : va_W} {W_spillsNow : Int32} {W_drawn : Int64} {T_length : Int32} {T_at : Int32} {T_bytes : Nat → Int32} {D_cells : Nat → Int32} {D_clauses : Nat → Int32} {G_length : Int32} {G_code : Nat → Int32} {A_size : Int32} {A_chosen : Int32} {A_codes : Nat → Int32} {A_lengths : Nat → Int32} {A_stack : Nat → Int32} {Y_cells : Nat → Int32} {Y_clauses : Nat → Int32} {N_marbles : Int32} {N_chipped : Int32} {N_swallowed : Int32} {N_sweets : Int32} {N_day : Int32} {N_owners : Nat → Int32} {P_next : Int32} {P_kept : Int32} {P_hasImage : Int32} {P_image : Int64} {P_acts : Nat → Int64} {P_entries : Nat → Int32} {P_imageEntries : Nat → Int32} {S_fewest : Int32} {S_row : Int32} {S_strengths : Nat → Int32} {U_size : Int32} {U_found : Int32} {U_places : Nat → Int32} {U_kinds : Nat → Int32} {U_holds : Nat → Int32} {U_fitting : Nat → Int32} {U_tally : Nat → Int32} {L_letters : Nat → Int32} {L_firstCells : Nat → Int32} {L_secondCells : Nat → Int32} {L_firstBest : Nat → Int32} {L_secondBest : Nat → Int32} {W_refusals : Nat → Int32}
set_option maxRecDepth 4000 in
theorem w_Past_ringIndex {p0 : Int32} (hX : gOk B X RX5 cX5_ringIndex 2 0 (some .int)) : gH B X (fun r : Int32 => gFin X (some (.int r)) (wdC B W_spillsNow W_drawn T_length T_at T_bytes D_cells D_clauses G_length G_code A_size A_chosen A_codes A_lengths A_stack Y_cells Y_clauses N_marbles N_chipped N_swallowed N_sweets N_day N_owners P_next P_kept P_hasImage P_image P_acts P_entries P_imageEntries S_fewest S_row S_strengths U_size U_found U_places U_kinds U_holds U_fitting U_tally L_letters L_firstCells L_secondCells L_firstBest L_secondBest W_refusals ++ fr)) 0 [(0, .ref (aC B 18)), (1, .int p0)] [] (wdC B W_spillsNow W_drawn T_length T_at T_bytes D_cells D_clauses G_length G_code A_size A_chosen A_codes A_lengths A_stack Y_cells Y_clauses N_marbles N_chipped N_swallowed N_sweets N_day N_owners P_next P_kept P_hasImage P_image P_acts P_entries P_imageEntries S_fewest S_row S_strengths U_size U_found U_places U_kinds U_holds U_fitting U_tally L_letters L_firstCells L_secondCells L_firstBest L_secondBest W_refusals ++ fr) (f_Past_ringIndex N_day p0) := by
  unfold f_Past_ringIndex
  refine h_aload_n hX dX5_ringIndex_0 rfl rfl ?_
  refine get_RX5_22_C18 hX dX5_ringIndex_1 ?_
  refine get_RX5_53_C16 hX dX5_ringIndex_4 ?_
  refine h_iconst hX dX5_ringIndex_7 ki_1 ?_
  refine h_isub hX dX5_ringIndex_8 ?_
  refine h_iload_n hX dX5_ringIndex_9 rfl rfl ?_
  refine h_isub hX dX5_ringIndex_10 ?_
  refine h_bipush hX dX5_ringIndex_11 kb_127 ?_
  refine h_iand hX dX5_ringIndex_13 ?_
  exact h_ret hX (rv := some (.int (((N_day - 1) - p0) &&& 127))) dX5_ringIndex_14 trivial (fun h => h)
theorem c_Past_ringIndex {p0 : Int32} {r : Int32} (h : f_Past_ringIndex N_day p0 = some r) : gMet B 0 yX5_ringIndex cX5_ringIndex 2 (some .int) [.ref (aC B 18), .int p0] (wdC B W_spillsNow W_drawn T_length T_at T_bytes D_cells D_clauses G_length G_code A_size A_chosen A_codes A_lengths A_stack Y_cells Y_clauses N_marbles N_chipped N_swallowed N_sweets N_day N_owners P_next P_kept P_hasImage P_image P_acts P_entries P_imageEntries S_fewest S_row S_strengths U_size U_found U_places U_kinds U_holds U_fitting U_tally L_letters L_firstCells L_secondCells L_firstBest L_secondBest W_refusals ++ fr) (some (.int r)) (wdC B W_spillsNow W_drawn T_length T_at T_bytes D_cells D_clauses G_length G_code A_size A_chosen A_codes A_lengths A_stack Y_cells Y_clauses N_marbles N_chipped N_swallowed N_sweets N_day N_owners P_next P_kept P_hasImage P_image P_acts P_entries P_imageEntries S_fewest S_row S_strengths U_size U_found U_places U_kinds U_holds U_fitting U_tally L_letters L_firstCells L_secondCells L_firstBest L_secondBest W_refusals ++ fr) :=
  gMet.of rfl (Nat.le_of_ble_eq_true rfl) (fun X hX hF => w_Past_ringIndex hX r h hF)
set_option maxRecDepth 4000 in
theorem w_Past_restoreImage_L22 (hX : gOk B X RX5 cX5_restoreImage 2 2 (some .boolean)) (s : (Int32 × (Nat → Int32))) : gH B X (Sum.elim (fun s : (Int32 × (Nat → Int32)) => gG B X 22 [(0, .ref (aC B 18)), (1, .int s.1)] [] (wdC B W_spillsNow W_drawn T_length T_at T_bytes D_cells D_clauses G_length G_code A_size A_chosen A_codes A_lengths A_stack Y_cells Y_clauses N_marbles N_chipped N_swallowed N_sweets N_day N_owners P_next P_kept P_hasImage P_image P_acts s.2 P_imageEntries S_fewest S_row S_strengths U_size U_found U_places U_kinds U_holds U_fitting U_tally L_letters L_firstCells L_secondCells L_firstBest L_secondBest W_refusals ++ fr)) (fun r : (Int32 × Int32 × Int32 × Int32 × Int32 × (Nat → Int32) × Int32 × (Nat → Int32)) => gFin X (some (.int r.1)) (wdC B W_spillsNow W_drawn T_length T_at T_bytes D_cells D_clauses G_length G_code A_size A_chosen A_codes A_lengths A_stack Y_cells Y_clauses N_marbles r.2.1 r.2.2.1 r.2.2.2.1 r.2.2.2.2.1 r.2.2.2.2.2.1 P_next r.2.2.2.2.2.2.1 P_hasImage P_image P_acts r.2.2.2.2.2.2.2 P_imageEntries S_fewest S_row S_strengths U_size U_found U_places U_kinds U_holds U_fitting U_tally L_letters L_firstCells L_secondCells L_firstBest L_secondBest W_refusals ++ fr))) 22 [(0, .ref (aC B 18)), (1, .int s.1)] [] (wdC B W_spillsNow W_drawn T_length T_at T_bytes D_cells D_clauses G_length G_code A_size A_chosen A_codes A_lengths A_stack Y_cells Y_clauses N_marbles N_chipped N_swallowed N_sweets N_day N_owners P_next P_kept P_hasImage P_image P_acts s.2 P_imageEntries S_fewest S_row S_strengths U_size U_found U_places U_kinds U_holds U_fitting U_tally L_letters L_firstCells L_secondCells L_firstBest L_secondBest W_refusals ++ fr) (f_Past_restoreImage_L22 N_chipped N_swallowed N_sweets N_day N_owners P_imageEntries s) := by
  unfold f_Past_restoreImage_L22
  refine h_iload_n hX dX5_restoreImage_22 rfl rfl ?_
  refine h_aload_n hX dX5_restoreImage_23 rfl rfl ?_
  refine h_callVi hX dX5_restoreImage_24 (cv_RX5_67) rc_C18 (As := []) (st := [.int s.1]) (fun _ h => c_Past_logLength h) rfl rfl (by decide) (Nat.le_of_ble_eq_true rfl) (fun a_2 => ?_)
  refine h_icmp_ge hX dX5_restoreImage_27 (tgt := 52) (by decide) (fun _ => ?_) (fun _ => ?_)
  · refine gH.inr ?_
    refine h_aload_n hX dX5_restoreImage_52 rfl rfl ?_
    refine h_iconst hX dX5_restoreImage_53 ki_0 ?_
    refine put_RX5_26_C18 hX dX5_restoreImage_54 ?_
    refine h_iconst hX dX5_restoreImage_57 ki_1 ?_
    exact h_ret hX (rv := some (.int 1)) dX5_restoreImage_58 rfl (fun h => h)
  · refine h_aload_n hX dX5_restoreImage_30 rfl rfl ?_
    refine get_RX5_15_C18 hX dX5_restoreImage_31 ?_
    refine h_aload_n hX dX5_restoreImage_34 rfl rfl ?_
    refine h_iload_n hX dX5_restoreImage_35 rfl rfl ?_
    refine h_callVi hX dX5_restoreImage_36 (cv_RX5_56) rc_C18 (As := [.int s.1]) (st := [.ref (aC B 20)]) (fun _ h => c_Past_ringIndex h) rfl rfl (by decide) (Nat.le_of_ble_eq_true rfl) (fun a_3 => ?_)
    refine h_aload_n hX dX5_restoreImage_39 rfl rfl ?_
    refine get_RX5_19_C18 hX dX5_restoreImage_40 ?_
    refine h_iload_n hX dX5_restoreImage_43 rfl rfl ?_
    refine ald_C21 hX dX5_restoreImage_44 ?_
    refine ast_C20 hX dX5_restoreImage_45 ?_
    refine gH.letw (w := fun y => wdC B W_spillsNow W_drawn T_length T_at T_bytes D_cells D_clauses G_length G_code A_size A_chosen A_codes A_lengths A_stack Y_cells Y_clauses N_marbles N_chipped N_swallowed N_sweets N_day N_owners P_next P_kept P_hasImage P_image P_acts y P_imageEntries S_fewest S_row S_strengths U_size U_found U_places U_kinds U_holds U_fitting U_tally L_letters L_firstCells L_secondCells L_firstBest L_secondBest W_refusals ++ fr) (fun P_entries_4 => ?_)
    refine h_iincc hX dX5_restoreImage_46 rfl ki_1 (by decide) (lv' := [(0, .ref (aC B 18)), (1, .int (s.1 + 1))]) rfl ?_
    refine h_goto hX dX5_restoreImage_49 (tgt := 22) (by decide) ?_
    exact gH.some' (fun h => h)
set_option maxRecDepth 4000 in
theorem w_Past_restoreImage (hX : gOk B X RX5 cX5_restoreImage 2 2 (some .boolean)) : gH B X (fun r : (Int32 × Int32 × Int32 × Int32 × Int32 × (Nat → Int32) × Int32 × (Nat → Int32)) => gFin X (some (.int r.1)) (wdC B W_spillsNow W_drawn T_length T_at T_bytes D_cells D_clauses G_length G_code A_size A_chosen A_codes A_lengths A_stack Y_cells Y_clauses N_marbles r.2.1 r.2.2.1 r.2.2.2.1 r.2.2.2.2.1 r.2.2.2.2.2.1 P_next r.2.2.2.2.2.2.1 P_hasImage P_image P_acts r.2.2.2.2.2.2.2 P_imageEntries S_fewest S_row S_strengths U_size U_found U_places U_kinds U_holds U_fitting U_tally L_letters L_firstCells L_secondCells L_firstBest L_secondBest W_refusals ++ fr)) 0 [(0, .ref (aC B 18))] [] (wdC B W_spillsNow W_drawn T_length T_at T_bytes D_cells D_clauses G_length G_code A_size A_chosen A_codes A_lengths A_stack Y_cells Y_clauses N_marbles N_chipped N_swallowed N_sweets N_day N_owners P_next P_kept P_hasImage P_image P_acts P_entries P_imageEntries S_fewest S_row S_strengths U_size U_found U_places U_kinds U_holds U_fitting U_tally L_letters L_firstCells L_secondCells L_firstBest L_secondBest W_refusals ++ fr) (f_Past_restoreImage N_marbles N_chipped N_swallowed N_sweets N_day N_owners P_kept P_hasImage P_image P_entries P_imageEntries) := by
  unfold f_Past_restoreImage
  refine h_aload_n hX dX5_restoreImage_0 rfl rfl ?_
  refine get_RX5_30_C18 hX dX5_restoreImage_1 ?_
  refine h_if_ne hX dX5_restoreImage_4 (tgt := 9) (by decide) (fun _ => ?_) (fun _ => ?_)
  · refine h_aload_n hX dX5_restoreImage_9 rfl rfl ?_
    refine get_RX5_22_C18 hX dX5_restoreImage_10 ?_
    refine h_aload_n hX dX5_restoreImage_13 rfl rfl ?_
    refine get_RX5_63_C18 hX dX5_restoreImage_14 ?_
    refine h_callVv hX dX5_restoreImage_17 (cv_RX5_49) rc_C16 (As := [.long P_image]) (st := []) (fun _ h => c_Now_unpack h) rfl rfl (by decide) (Nat.le_of_ble_eq_true rfl) (fun a_1 => ?_)
    refine h_iconst hX dX5_restoreImage_20 ki_0 ?_
    refine h_istore_n hX dX5_restoreImage_21 rfl (by decide) (lv' := [(0, .ref (aC B 18)), (1, .int 0)]) rfl ?_
    exact gH.loop (lvf := fun z : (Int32 × (Nat → Int32)) => [(0, .ref (aC B 18)), (1, .int z.1)]) (wf := fun z : (Int32 × (Nat → Int32)) => wdC B W_spillsNow W_drawn T_length T_at T_bytes D_cells D_clauses G_length G_code A_size A_chosen A_codes A_lengths A_stack Y_cells Y_clauses N_marbles a_1.1 a_1.2.1 a_1.2.2.1 a_1.2.2.2.1 a_1.2.2.2.2 P_next P_kept P_hasImage P_image P_acts z.2 P_imageEntries S_fewest S_row S_strengths U_size U_found U_places U_kinds U_holds U_fitting U_tally L_letters L_firstCells L_secondCells L_firstBest L_secondBest W_refusals ++ fr) (fun z => w_Past_restoreImage_L22 hX z) (0, P_entries)
  · refine h_iconst hX dX5_restoreImage_7 ki_0 ?_
    exact h_ret hX (rv := some (.int 0)) dX5_restoreImage_8 rfl (fun h => h)
theorem c_Past_restoreImage {r : (Int32 × Int32 × Int32 × Int32 × Int32 × (Nat → Int32) × Int32 × (Nat → Int32))} (h : f_Past_restoreImage N_marbles N_chipped N_swallowed N_sweets N_day N_owners P_kept P_hasImage P_image P_entries P_imageEntries = some r) : gMet B 2 yX5_restoreImage cX5_restoreImage 2 (some .boolean) [.ref (aC B 18)] (wdC B W_spillsNow W_drawn T_length T_at T_bytes D_cells D_clauses G_length G_code A_size A_chosen A_codes A_lengths A_stack Y_cells Y_clauses N_marbles N_chipped N_swallowed N_sweets N_day N_owners P_next P_kept P_hasImage P_image P_acts P_entries P_imageEntries S_fewest S_row S_strengths U_size U_found U_places U_kinds U_holds U_fitting U_tally L_letters L_firstCells L_secondCells L_firstBest L_secondBest W_refusals ++ fr) (some (.int r.1)) (wdC B W_spillsNow W_drawn T_length T_at T_bytes D_cells D_clauses G_length G_code A_size A_chosen A_codes A_lengths A_stack Y_cells Y_clauses N_marbles r.2.1 r.2.2.1 r.2.2.2.1 r.2.2.2.2.1 r.2.2.2.2.2.1 P_next r.2.2.2.2.2.2.1 P_hasImage P_image P_acts r.2.2.2.2.2.2.2 P_imageEntries S_fewest S_row S_strengths U_size U_found U_places U_kinds U_holds U_fitting U_tally L_letters L_firstCells L_secondCells L_firstBest L_secondBest W_refusals ++ fr) :=
  gMet.of rfl (Nat.le_of_ble_eq_true rfl) (fun X hX hF => w_Past_restoreImage hX r h hF)
set_option maxRecDepth 4000 in
theorem w_Main_back (hX : gOk B X RX10 cX10_back 1 3 (some .int)) : gH B X (fun r : (Int32 × Int32 × Int32 × Int32 × Int32 × (Nat → Int32) × Int32 × (Nat → Int32)) => gFin X (some (.int r.1)) (wdC B W_spillsNow W_drawn T_length T_at T_bytes D_cells D_clauses G_length G_code A_size A_chosen A_codes A_lengths A_stack Y_cells Y_clauses N_marbles r.2.1 r.2.2.1 r.2.2.2.1 r.2.2.2.2.1 r.2.2.2.2.2.1 P_next r.2.2.2.2.2.2.1 P_hasImage P_image P_acts r.2.2.2.2.2.2.2 P_imageEntries S_fewest S_row S_strengths U_size U_found U_places U_kinds U_holds U_fitting U_tally L_letters L_firstCells L_secondCells L_firstBest L_secondBest W_refusals ++ fr)) 0 [(0, .ref (aC B 0))] [] (wdC B W_spillsNow W_drawn T_length T_at T_bytes D_cells D_clauses G_length G_code A_size A_chosen A_codes A_lengths A_stack Y_cells Y_clauses N_marbles N_chipped N_swallowed N_sweets N_day N_owners P_next P_kept P_hasImage P_image P_acts P_entries P_imageEntries S_fewest S_row S_strengths U_size U_found U_places U_kinds U_holds U_fitting U_tally L_letters L_firstCells L_secondCells L_firstBest L_secondBest W_refusals ++ fr) (f_Main_back N_marbles N_chipped N_swallowed N_sweets N_day N_owners P_kept P_hasImage P_image P_entries P_imageEntries) := by
  unfold f_Main_back
  refine h_aload_n hX dX10_back_0 rfl rfl ?_
  refine get_RX10_58_C0 hX dX10_back_1 ?_
  refine h_callVi hX dX10_back_4 (cv_RX10_355) rc_C18 (As := []) (st := []) (fun _ h => c_Past_restoreImage h) rfl rfl (by decide) (Nat.le_of_ble_eq_true rfl) (fun a_1 => ?_)
  refine h_if_eq hX dX10_back_7 (tgt := 20) (by decide) (fun _ => ?_) (fun _ => ?_)
  · refine h_iconst hX dX10_back_20 ki_m1 ?_
    exact h_ret hX (rv := some (.int ((-1)))) dX10_back_21 trivial (fun h => h)
  · refine h_aload_n hX dX10_back_10 rfl rfl ?_
    refine get_RX10_49_C0 hX dX10_back_11 ?_
    refine get_RX10_242_C16 hX dX10_back_14 ?_
    refine h_goto hX dX10_back_17 (tgt := 21) (by decide) ?_
    exact h_ret hX (rv := some (.int a_1.2.2.2.2.1)) dX10_back_21 trivial (fun h => h)
theorem c_Main_back {r : (Int32 × Int32 × Int32 × Int32 × Int32 × (Nat → Int32) × Int32 × (Nat → Int32))} (h : f_Main_back N_marbles N_chipped N_swallowed N_sweets N_day N_owners P_kept P_hasImage P_image P_entries P_imageEntries = some r) : gMet B 3 yX10_back cX10_back 1 (some .int) [.ref (aC B 0)] (wdC B W_spillsNow W_drawn T_length T_at T_bytes D_cells D_clauses G_length G_code A_size A_chosen A_codes A_lengths A_stack Y_cells Y_clauses N_marbles N_chipped N_swallowed N_sweets N_day N_owners P_next P_kept P_hasImage P_image P_acts P_entries P_imageEntries S_fewest S_row S_strengths U_size U_found U_places U_kinds U_holds U_fitting U_tally L_letters L_firstCells L_secondCells L_firstBest L_secondBest W_refusals ++ fr) (some (.int r.1)) (wdC B W_spillsNow W_drawn T_length T_at T_bytes D_cells D_clauses G_length G_code A_size A_chosen A_codes A_lengths A_stack Y_cells Y_clauses N_marbles r.2.1 r.2.2.1 r.2.2.2.1 r.2.2.2.2.1 r.2.2.2.2.2.1 P_next r.2.2.2.2.2.2.1 P_hasImage P_image P_acts r.2.2.2.2.2.2.2 P_imageEntries S_fewest S_row S_strengths U_size U_found U_places U_kinds U_holds U_fitting U_tally L_letters L_firstCells L_secondCells L_firstBest L_secondBest W_refusals ++ fr) :=
  gMet.of rfl (Nat.le_of_ble_eq_true rfl) (fun X hX hF => w_Main_back hX r h hF)
set_option maxRecDepth 4000 in
theorem w_Main_best (hX : gOk B X RX10 cX10_best 1 7 (some .int)) : gH B X (fun r : (Int32 × (Nat → Int32) × Int32 × (Nat → Int32) × (Nat → Int32)) => gFin X (some (.int r.1)) (wdC B W_spillsNow W_drawn T_length T_at T_bytes D_cells D_clauses G_length G_code A_size A_chosen A_codes A_lengths A_stack Y_cells Y_clauses N_marbles N_chipped N_swallowed N_sweets N_day N_owners P_next P_kept P_hasImage P_image P_acts P_entries P_imageEntries S_fewest S_row r.2.1 U_size r.2.2.1 U_places U_kinds U_holds r.2.2.2.1 r.2.2.2.2 L_letters L_firstCells L_secondCells L_firstBest L_secondBest W_refusals ++ fr)) 0 [(0, .ref (aC B 0))] [] (wdC B W_spillsNow W_drawn T_length T_at T_bytes D_cells D_clauses G_length G_code A_size A_chosen A_codes A_lengths A_stack Y_cells Y_clauses N_marbles N_chipped N_swallowed N_sweets N_day N_owners P_next P_kept P_hasImage P_image P_acts P_entries P_imageEntries S_fewest S_row S_strengths U_size U_found U_places U_kinds U_holds U_fitting U_tally L_letters L_firstCells L_secondCells L_firstBest L_secondBest W_refusals ++ fr) (f_Main_best Y_cells Y_clauses N_marbles N_chipped N_owners S_strengths U_size U_found U_places U_kinds U_holds U_fitting U_tally) := by
  unfold f_Main_best
  refine h_aload_n hX dX10_best_0 rfl rfl ?_
  refine get_RX10_42_C0 hX dX10_best_1 ?_
  refine h_callVi hX dX10_best_4 (cv_RX10_139) rc_C13 (As := []) (st := []) (fun _ h => c_Yard_stands h) rfl rfl (by decide) (Nat.le_of_ble_eq_true rfl) (fun a_1 => ?_)
  refine h_if_eq hX dX10_best_7 (tgt := 20) (by decide) (fun _ => ?_) (fun _ => ?_)
  · refine h_iconst hX dX10_best_20 ki_m1 ?_
    exact h_ret hX (rv := some (.int ((-1)))) dX10_best_21 trivial (fun h => h)
  · refine h_aload_n hX dX10_best_10 rfl rfl ?_
    refine get_RX10_76_C0 hX dX10_best_11 ?_
    refine h_callVi hX dX10_best_14 (cv_RX10_328) rc_C24 (As := []) (st := []) (fun _ h => c_Clues_placeToLook h) rfl rfl (by decide) (Nat.le_of_ble_eq_true rfl) (fun a_2 => ?_)
    refine h_goto hX dX10_best_17 (tgt := 21) (by decide) ?_
    exact h_ret hX (rv := some (.int a_2.1)) dX10_best_21 trivial (fun h => h)
theorem c_Main_best {r : (Int32 × (Nat → Int32) × Int32 × (Nat → Int32) × (Nat → Int32))} (h : f_Main_best Y_cells Y_clauses N_marbles N_chipped N_owners S_strengths U_size U_found U_places U_kinds U_holds U_fitting U_tally = some r) : gMet B 7 yX10_best cX10_best 1 (some .int) [.ref (aC B 0)] (wdC B W_spillsNow W_drawn T_length T_at T_bytes D_cells D_clauses G_length G_code A_size A_chosen A_codes A_lengths A_stack Y_cells Y_clauses N_marbles N_chipped N_swallowed N_sweets N_day N_owners P_next P_kept P_hasImage P_image P_acts P_entries P_imageEntries S_fewest S_row S_strengths U_size U_found U_places U_kinds U_holds U_fitting U_tally L_letters L_firstCells L_secondCells L_firstBest L_secondBest W_refusals ++ fr) (some (.int r.1)) (wdC B W_spillsNow W_drawn T_length T_at T_bytes D_cells D_clauses G_length G_code A_size A_chosen A_codes A_lengths A_stack Y_cells Y_clauses N_marbles N_chipped N_swallowed N_sweets N_day N_owners P_next P_kept P_hasImage P_image P_acts P_entries P_imageEntries S_fewest S_row r.2.1 U_size r.2.2.1 U_places U_kinds U_holds r.2.2.2.1 r.2.2.2.2 L_letters L_firstCells L_secondCells L_firstBest L_secondBest W_refusals ++ fr) :=
  gMet.of rfl (Nat.le_of_ble_eq_true rfl) (fun X hX hF => w_Main_best hX r h hF)
set_option maxRecDepth 4000 in
theorem w_Main_likingFor_J63 {v1 : Int32} {v2 : Int32} {v4 : Int32} {k0 : Int32} {k1 : Int32} (hX : gOk B X RX10 cX10_likingFor 5 3 (some .int)) : gH B X (Sum.elim (fun s : (Int32 × Int32) => gG B X 5 [(0, .ref (aC B 0)), (1, .int v1), (2, .int v2), (3, .int s.1), (4, .int s.2)] [] (wdC B W_spillsNow W_drawn T_length T_at T_bytes D_cells D_clauses G_length G_code A_size A_chosen A_codes A_lengths A_stack Y_cells Y_clauses N_marbles N_chipped N_swallowed N_sweets N_day N_owners P_next P_kept P_hasImage P_image P_acts P_entries P_imageEntries S_fewest S_row S_strengths U_size U_found U_places U_kinds U_holds U_fitting U_tally L_letters L_firstCells L_secondCells L_firstBest L_secondBest W_refusals ++ fr)) (fun r : Int32 => gFin X (some (.int r)) (wdC B W_spillsNow W_drawn T_length T_at T_bytes D_cells D_clauses G_length G_code A_size A_chosen A_codes A_lengths A_stack Y_cells Y_clauses N_marbles N_chipped N_swallowed N_sweets N_day N_owners P_next P_kept P_hasImage P_image P_acts P_entries P_imageEntries S_fewest S_row S_strengths U_size U_found U_places U_kinds U_holds U_fitting U_tally L_letters L_firstCells L_secondCells L_firstBest L_secondBest W_refusals ++ fr))) 63 [(0, .ref (aC B 0)), (1, .int v1), (2, .int v2), (4, .int v4)] [.int k1, .int k0] (wdC B W_spillsNow W_drawn T_length T_at T_bytes D_cells D_clauses G_length G_code A_size A_chosen A_codes A_lengths A_stack Y_cells Y_clauses N_marbles N_chipped N_swallowed N_sweets N_day N_owners P_next P_kept P_hasImage P_image P_acts P_entries P_imageEntries S_fewest S_row S_strengths U_size U_found U_places U_kinds U_holds U_fitting U_tally L_letters L_firstCells L_secondCells L_firstBest L_secondBest W_refusals ++ fr) (f_Main_likingFor_J63 v4 k0 k1) := by
  unfold f_Main_likingFor_J63
  refine h_ior hX dX10_likingFor_63 ?_
  refine gH.leti (fun v3_5 => ?_)
  refine h_istore_n hX dX10_likingFor_64 rfl (by decide) (lv' := [(0, .ref (aC B 0)), (1, .int v1), (2, .int v2), (3, .int v3_5), (4, .int v4)]) rfl ?_
  refine h_iincc hX dX10_likingFor_65 rfl ki_1 (by decide) (lv' := [(0, .ref (aC B 0)), (1, .int v1), (2, .int v2), (3, .int v3_5), (4, .int (v4 + 1))]) rfl ?_
  refine h_goto hX dX10_likingFor_68 (tgt := 5) (by decide) ?_
  exact gH.some' (fun h => h)
set_option maxRecDepth 4000 in
theorem w_Main_likingFor_J62 {v1 : Int32} {v2 : Int32} {v4 : Int32} {k0 : Int32} (hX : gOk B X RX10 cX10_likingFor 5 3 (some .int)) : gH B X (Sum.elim (fun s : (Int32 × Int32) => gG B X 5 [(0, .ref (aC B 0)), (1, .int v1), (2, .int v2), (3, .int s.1), (4, .int s.2)] [] (wdC B W_spillsNow W_drawn T_length T_at T_bytes D_cells D_clauses G_length G_code A_size A_chosen A_codes A_lengths A_stack Y_cells Y_clauses N_marbles N_chipped N_swallowed N_sweets N_day N_owners P_next P_kept P_hasImage P_image P_acts P_entries P_imageEntries S_fewest S_row S_strengths U_size U_found U_places U_kinds U_holds U_fitting U_tally L_letters L_firstCells L_secondCells L_firstBest L_secondBest W_refusals ++ fr)) (fun r : Int32 => gFin X (some (.int r)) (wdC B W_spillsNow W_drawn T_length T_at T_bytes D_cells D_clauses G_length G_code A_size A_chosen A_codes A_lengths A_stack Y_cells Y_clauses N_marbles N_chipped N_swallowed N_sweets N_day N_owners P_next P_kept P_hasImage P_image P_acts P_entries P_imageEntries S_fewest S_row S_strengths U_size U_found U_places U_kinds U_holds U_fitting U_tally L_letters L_firstCells L_secondCells L_firstBest L_secondBest W_refusals ++ fr))) 62 [(0, .ref (aC B 0)), (1, .int v1), (2, .int v2), (4, .int v4)] [.int k0] (wdC B W_spillsNow W_drawn T_length T_at T_bytes D_cells D_clauses G_length G_code A_size A_chosen A_codes A_lengths A_stack Y_cells Y_clauses N_marbles N_chipped N_swallowed N_sweets N_day N_owners P_next P_kept P_hasImage P_image P_acts P_entries P_imageEntries S_fewest S_row S_strengths U_size U_found U_places U_kinds U_holds U_fitting U_tally L_letters L_firstCells L_secondCells L_firstBest L_secondBest W_refusals ++ fr) (f_Main_likingFor_J62 v4 k0) := by
  unfold f_Main_likingFor_J62
  refine h_iconst hX dX10_likingFor_62 ki_0 ?_
  exact w_Main_likingFor_J63 hX
set_option maxRecDepth 4000 in
theorem w_Main_likingFor_L5 {v1 : Int32} {v2 : Int32} (hX : gOk B X RX10 cX10_likingFor 5 3 (some .int)) (s : (Int32 × Int32)) : gH B X (Sum.elim (fun s : (Int32 × Int32) => gG B X 5 [(0, .ref (aC B 0)), (1, .int v1), (2, .int v2), (3, .int s.1), (4, .int s.2)] [] (wdC B W_spillsNow W_drawn T_length T_at T_bytes D_cells D_clauses G_length G_code A_size A_chosen A_codes A_lengths A_stack Y_cells Y_clauses N_marbles N_chipped N_swallowed N_sweets N_day N_owners P_next P_kept P_hasImage P_image P_acts P_entries P_imageEntries S_fewest S_row S_strengths U_size U_found U_places U_kinds U_holds U_fitting U_tally L_letters L_firstCells L_secondCells L_firstBest L_secondBest W_refusals ++ fr)) (fun r : Int32 => gFin X (some (.int r)) (wdC B W_spillsNow W_drawn T_length T_at T_bytes D_cells D_clauses G_length G_code A_size A_chosen A_codes A_lengths A_stack Y_cells Y_clauses N_marbles N_chipped N_swallowed N_sweets N_day N_owners P_next P_kept P_hasImage P_image P_acts P_entries P_imageEntries S_fewest S_row S_strengths U_size U_found U_places U_kinds U_holds U_fitting U_tally L_letters L_firstCells L_secondCells L_firstBest L_secondBest W_refusals ++ fr))) 5 [(0, .ref (aC B 0)), (1, .int v1), (2, .int v2), (3, .int s.1), (4, .int s.2)] [] (wdC B W_spillsNow W_drawn T_length T_at T_bytes D_cells D_clauses G_length G_code A_size A_chosen A_codes A_lengths A_stack Y_cells Y_clauses N_marbles N_chipped N_swallowed N_sweets N_day N_owners P_next P_kept P_hasImage P_image P_acts P_entries P_imageEntries S_fewest S_row S_strengths U_size U_found U_places U_kinds U_holds U_fitting U_tally L_letters L_firstCells L_secondCells L_firstBest L_secondBest W_refusals ++ fr) (f_Main_likingFor_L5 Y_cells Y_clauses N_chipped v1 v2 s) := by
  unfold f_Main_likingFor_L5
  refine h_iload hX dX10_likingFor_5 rfl ?_
  refine h_aload_n hX dX10_likingFor_7 rfl rfl ?_
  refine get_RX10_42_C0 hX dX10_likingFor_8 ?_
  refine h_callVi hX dX10_likingFor_11 (cv_RX10_361) rc_C13 (As := []) (st := [.int s.2]) (fun _ h => c_Yard_farms h) rfl rfl (by decide) (Nat.le_of_ble_eq_true rfl) (fun a_1 => ?_)
  refine h_icmp_ge hX dX10_likingFor_14 (tgt := 71) (by decide) (fun _ => ?_) (fun _ => ?_)
  · refine gH.inr ?_
    refine h_aload_n hX dX10_likingFor_71 rfl rfl ?_
    refine get_RX10_49_C0 hX dX10_likingFor_72 ?_
    refine h_aload_n hX dX10_likingFor_75 rfl rfl ?_
    refine get_RX10_42_C0 hX dX10_likingFor_76 ?_
    refine h_iload_n hX dX10_likingFor_79 rfl rfl ?_
    refine h_callVi hX dX10_likingFor_80 (cv_RX10_391) rc_C16 (As := [.ref (aC B 13), .int v2]) (st := []) (fun _ h => c_Now_soundSize_C13 h) rfl rfl (by decide) (Nat.le_of_ble_eq_true rfl) (fun a_2 => ?_)
    refine h_iload_n hX dX10_likingFor_83 rfl rfl ?_
    refine h_if_eq hX dX10_likingFor_84 (tgt := 91) (by decide) (fun _ => ?_) (fun _ => ?_)
    · refine h_iconst hX dX10_likingFor_91 ki_0 ?_
      refine h_iadd hX dX10_likingFor_92 ?_
      exact h_ret hX (rv := some (.int (a_2 + 0))) dX10_likingFor_93 trivial (fun h => h)
    · refine h_iconst hX dX10_likingFor_87 ki_5 ?_
      refine h_goto hX dX10_likingFor_88 (tgt := 92) (by decide) ?_
      refine h_iadd hX dX10_likingFor_92 ?_
      exact h_ret hX (rv := some (.int (a_2 + 5))) dX10_likingFor_93 trivial (fun h => h)
  · refine h_iload_n hX dX10_likingFor_17 rfl rfl ?_
    refine h_aload_n hX dX10_likingFor_18 rfl rfl ?_
    refine get_RX10_42_C0 hX dX10_likingFor_19 ?_
    refine h_iload hX dX10_likingFor_22 rfl ?_
    refine h_callVi hX dX10_likingFor_24 (cv_RX10_198) rc_C13 (As := [.int s.2]) (st := [.int s.1]) (fun _ h => c_Yard_farmPlace h) rfl rfl (by decide) (Nat.le_of_ble_eq_true rfl) (fun a_3 => ?_)
    refine h_aload_n hX dX10_likingFor_27 rfl rfl ?_
    refine get_RX10_42_C0 hX dX10_likingFor_28 ?_
    refine h_iload_n hX dX10_likingFor_31 rfl rfl ?_
    refine h_callVi hX dX10_likingFor_32 (cv_RX10_166) rc_C13 (As := [.int v1]) (st := [.int a_3, .int s.1]) (fun _ h => c_Yard_boyPlace h) rfl rfl (by decide) (Nat.le_of_ble_eq_true rfl) (fun a_4 => ?_)
    refine h_icmp_ne hX dX10_likingFor_35 (tgt := 62) (by decide) (fun _ => ?_) (fun _ => ?_)
    · refine gH.dead [0, 1, 2, 4] rfl ?_
      exact w_Main_likingFor_J62 hX
    · refine h_aload_n hX dX10_likingFor_38 rfl rfl ?_
      refine get_RX10_42_C0 hX dX10_likingFor_39 ?_
      refine h_iload hX dX10_likingFor_42 rfl ?_
      refine h_callVi hX dX10_likingFor_44 (cv_RX10_201) rc_C13 (As := [.int s.2]) (st := [.int s.1]) (fun _ h => c_Yard_wanted h) rfl rfl (by decide) (Nat.le_of_ble_eq_true rfl) (fun a_7 => ?_)
      refine h_aload_n hX dX10_likingFor_47 rfl rfl ?_
      refine get_RX10_42_C0 hX dX10_likingFor_48 ?_
      refine h_iload_n hX dX10_likingFor_51 rfl rfl ?_
      refine h_callVi hX dX10_likingFor_52 (cv_RX10_184) rc_C13 (As := [.int v2]) (st := [.int a_7, .int s.1]) (fun _ h => c_Yard_kind h) rfl rfl (by decide) (Nat.le_of_ble_eq_true rfl) (fun a_8 => ?_)
      refine h_icmp_ne hX dX10_likingFor_55 (tgt := 62) (by decide) (fun _ => ?_) (fun _ => ?_)
      · refine gH.dead [0, 1, 2, 4] rfl ?_
        exact w_Main_likingFor_J62 hX
      · refine h_iconst hX dX10_likingFor_58 ki_1 ?_
        refine h_goto hX dX10_likingFor_59 (tgt := 63) (by decide) ?_
        refine gH.dead [0, 1, 2, 4] rfl ?_
        exact w_Main_likingFor_J63 hX
set_option maxRecDepth 4000 in
theorem w_Main_likingFor {p0 : Int32} {p1 : Int32} (hX : gOk B X RX10 cX10_likingFor 5 3 (some .int)) : gH B X (fun r : Int32 => gFin X (some (.int r)) (wdC B W_spillsNow W_drawn T_length T_at T_bytes D_cells D_clauses G_length G_code A_size A_chosen A_codes A_lengths A_stack Y_cells Y_clauses N_marbles N_chipped N_swallowed N_sweets N_day N_owners P_next P_kept P_hasImage P_image P_acts P_entries P_imageEntries S_fewest S_row S_strengths U_size U_found U_places U_kinds U_holds U_fitting U_tally L_letters L_firstCells L_secondCells L_firstBest L_secondBest W_refusals ++ fr)) 0 [(0, .ref (aC B 0)), (1, .int p0), (2, .int p1)] [] (wdC B W_spillsNow W_drawn T_length T_at T_bytes D_cells D_clauses G_length G_code A_size A_chosen A_codes A_lengths A_stack Y_cells Y_clauses N_marbles N_chipped N_swallowed N_sweets N_day N_owners P_next P_kept P_hasImage P_image P_acts P_entries P_imageEntries S_fewest S_row S_strengths U_size U_found U_places U_kinds U_holds U_fitting U_tally L_letters L_firstCells L_secondCells L_firstBest L_secondBest W_refusals ++ fr) (f_Main_likingFor Y_cells Y_clauses N_chipped p0 p1) := by
  unfold f_Main_likingFor
  refine h_iconst hX dX10_likingFor_0 ki_0 ?_
  refine h_istore_n hX dX10_likingFor_1 rfl (by decide) (lv' := [(0, .ref (aC B 0)), (1, .int p0), (2, .int p1), (3, .int 0)]) rfl ?_
  refine h_iconst hX dX10_likingFor_2 ki_0 ?_
  refine h_istore hX dX10_likingFor_3 (by decide) (lv' := [(0, .ref (aC B 0)), (1, .int p0), (2, .int p1), (3, .int 0), (4, .int 0)]) rfl ?_
  exact gH.loop (lvf := fun z : (Int32 × Int32) => [(0, .ref (aC B 0)), (1, .int p0), (2, .int p1), (3, .int z.1), (4, .int z.2)]) (wf := fun z : (Int32 × Int32) => wdC B W_spillsNow W_drawn T_length T_at T_bytes D_cells D_clauses G_length G_code A_size A_chosen A_codes A_lengths A_stack Y_cells Y_clauses N_marbles N_chipped N_swallowed N_sweets N_day N_owners P_next P_kept P_hasImage P_image P_acts P_entries P_imageEntries S_fewest S_row S_strengths U_size U_found U_places U_kinds U_holds U_fitting U_tally L_letters L_firstCells L_secondCells L_firstBest L_secondBest W_refusals ++ fr) (fun z => w_Main_likingFor_L5 hX z) (0, 0)
theorem c_Main_likingFor {p0 : Int32} {p1 : Int32} {r : Int32} (h : f_Main_likingFor Y_cells Y_clauses N_chipped p0 p1 = some r) : gMet B 3 yX10_likingFor cX10_likingFor 5 (some .int) [.ref (aC B 0), .int p0, .int p1] (wdC B W_spillsNow W_drawn T_length T_at T_bytes D_cells D_clauses G_length G_code A_size A_chosen A_codes A_lengths A_stack Y_cells Y_clauses N_marbles N_chipped N_swallowed N_sweets N_day N_owners P_next P_kept P_hasImage P_image P_acts P_entries P_imageEntries S_fewest S_row S_strengths U_size U_found U_places U_kinds U_holds U_fitting U_tally L_letters L_firstCells L_secondCells L_firstBest L_secondBest W_refusals ++ fr) (some (.int r)) (wdC B W_spillsNow W_drawn T_length T_at T_bytes D_cells D_clauses G_length G_code A_size A_chosen A_codes A_lengths A_stack Y_cells Y_clauses N_marbles N_chipped N_swallowed N_sweets N_day N_owners P_next P_kept P_hasImage P_image P_acts P_entries P_imageEntries S_fewest S_row S_strengths U_size U_found U_places U_kinds U_holds U_fitting U_tally L_letters L_firstCells L_secondCells L_firstBest L_secondBest W_refusals ++ fr) :=
  gMet.of rfl (Nat.le_of_ble_eq_true rfl) (fun X hX hF => w_Main_likingFor hX r h hF)
set_option maxRecDepth 4000 in
theorem w_Main_bothWouldSwap {p0 : Int32} {p1 : Int32} (hX : gOk B X RX10 cX10_bothWouldSwap 5 4 (some .boolean)) : gH B X (fun r : Int32 => gFin X (some (.int r)) (wdC B W_spillsNow W_drawn T_length T_at T_bytes D_cells D_clauses G_length G_code A_size A_chosen A_codes A_lengths A_stack Y_cells Y_clauses N_marbles N_chipped N_swallowed N_sweets N_day N_owners P_next P_kept P_hasImage P_image P_acts P_entries P_imageEntries S_fewest S_row S_strengths U_size U_found U_places U_kinds U_holds U_fitting U_tally L_letters L_firstCells L_secondCells L_firstBest L_secondBest W_refusals ++ fr)) 0 [(0, .ref (aC B 0)), (1, .int p0), (2, .int p1)] [] (wdC B W_spillsNow W_drawn T_length T_at T_bytes D_cells D_clauses G_length G_code A_size A_chosen A_codes A_lengths A_stack Y_cells Y_clauses N_marbles N_chipped N_swallowed N_sweets N_day N_owners P_next P_kept P_hasImage P_image P_acts P_entries P_imageEntries S_fewest S_row S_strengths U_size U_found U_places U_kinds U_holds U_fitting U_tally L_letters L_firstCells L_secondCells L_firstBest L_secondBest W_refusals ++ fr) (f_Main_bothWouldSwap Y_cells Y_clauses N_marbles N_chipped N_swallowed N_owners p0 p1) := by
  unfold f_Main_bothWouldSwap
  refine h_aload_n hX dX10_bothWouldSwap_0 rfl rfl ?_
  refine get_RX10_85_C0 hX dX10_bothWouldSwap_1 ?_
  refine h_iload_n hX dX10_bothWouldSwap_4 rfl rfl ?_
  refine h_iconst hX dX10_bothWouldSwap_5 ki_1 ?_
  refine h_iload_n hX dX10_bothWouldSwap_6 rfl rfl ?_
  refine h_iconst hX dX10_bothWouldSwap_7 ki_1 ?_
  refine h_callVi hX dX10_bothWouldSwap_8 (cv_RX10_213) rc_C30 (As := [.int p0, .int 1, .int p1, .int 1]) (st := []) (fun _ h => c_Lane_refusalOf h) rfl rfl (by decide) (Nat.le_of_ble_eq_true rfl) (fun a_1 => ?_)
  refine h_iconst hX dX10_bothWouldSwap_11 ki_m1 ?_
  refine h_icmp_eq hX dX10_bothWouldSwap_12 (tgt := 17) (by decide) (fun _ => ?_) (fun _ => ?_)
  · refine h_aload_n hX dX10_bothWouldSwap_17 rfl rfl ?_
    refine get_RX10_49_C0 hX dX10_bothWouldSwap_18 ?_
    refine h_iload_n hX dX10_bothWouldSwap_21 rfl rfl ?_
    refine h_callVi hX dX10_bothWouldSwap_22 (cv_RX10_181) rc_C16 (As := [.int p0]) (st := []) (fun _ h => c_Now_ownerOf h) rfl rfl (by decide) (Nat.le_of_ble_eq_true rfl) (fun a_2 => ?_)
    refine h_istore_n hX dX10_bothWouldSwap_25 rfl (by decide) (lv' := [(0, .ref (aC B 0)), (1, .int p0), (2, .int p1), (3, .int a_2)]) rfl ?_
    refine h_aload_n hX dX10_bothWouldSwap_26 rfl rfl ?_
    refine get_RX10_49_C0 hX dX10_bothWouldSwap_27 ?_
    refine h_iload_n hX dX10_bothWouldSwap_30 rfl rfl ?_
    refine h_callVi hX dX10_bothWouldSwap_31 (cv_RX10_181) rc_C16 (As := [.int p1]) (st := []) (fun _ h => c_Now_ownerOf h) rfl rfl (by decide) (Nat.le_of_ble_eq_true rfl) (fun a_3 => ?_)
    refine h_istore hX dX10_bothWouldSwap_34 (by decide) (lv' := [(0, .ref (aC B 0)), (1, .int p0), (2, .int p1), (3, .int a_2), (4, .int a_3)]) rfl ?_
    refine h_aload_n hX dX10_bothWouldSwap_36 rfl rfl ?_
    refine h_iload_n hX dX10_bothWouldSwap_37 rfl rfl ?_
    refine h_iload_n hX dX10_bothWouldSwap_38 rfl rfl ?_
    refine h_callVi hX dX10_bothWouldSwap_39 (cv_RX10_331) rc_C0 (As := [.int a_2, .int p1]) (st := []) (fun _ h => c_Main_likingFor h) rfl rfl (by decide) (Nat.le_of_ble_eq_true rfl) (fun a_4 => ?_)
    refine h_aload_n hX dX10_bothWouldSwap_42 rfl rfl ?_
    refine h_iload_n hX dX10_bothWouldSwap_43 rfl rfl ?_
    refine h_iload_n hX dX10_bothWouldSwap_44 rfl rfl ?_
    refine h_callVi hX dX10_bothWouldSwap_45 (cv_RX10_331) rc_C0 (As := [.int a_2, .int p0]) (st := [.int a_4]) (fun _ h => c_Main_likingFor h) rfl rfl (by decide) (Nat.le_of_ble_eq_true rfl) (fun a_5 => ?_)
    refine h_icmp_le hX dX10_bothWouldSwap_48 (tgt := 72) (by decide) (fun _ => ?_) (fun _ => ?_)
    · refine h_iconst hX dX10_bothWouldSwap_72 ki_0 ?_
      exact h_ret hX (rv := some (.int 0)) dX10_bothWouldSwap_73 rfl (fun h => h)
    · refine h_aload_n hX dX10_bothWouldSwap_51 rfl rfl ?_
      refine h_iload hX dX10_bothWouldSwap_52 rfl ?_
      refine h_iload_n hX dX10_bothWouldSwap_54 rfl rfl ?_
      refine h_callVi hX dX10_bothWouldSwap_55 (cv_RX10_331) rc_C0 (As := [.int a_3, .int p0]) (st := []) (fun _ h => c_Main_likingFor h) rfl rfl (by decide) (Nat.le_of_ble_eq_true rfl) (fun a_6 => ?_)
      refine h_aload_n hX dX10_bothWouldSwap_58 rfl rfl ?_
      refine h_iload hX dX10_bothWouldSwap_59 rfl ?_
      refine h_iload_n hX dX10_bothWouldSwap_61 rfl rfl ?_
      refine h_callVi hX dX10_bothWouldSwap_62 (cv_RX10_331) rc_C0 (As := [.int a_3, .int p1]) (st := [.int a_6]) (fun _ h => c_Main_likingFor h) rfl rfl (by decide) (Nat.le_of_ble_eq_true rfl) (fun a_7 => ?_)
      refine h_icmp_le hX dX10_bothWouldSwap_65 (tgt := 72) (by decide) (fun _ => ?_) (fun _ => ?_)
      · refine h_iconst hX dX10_bothWouldSwap_72 ki_0 ?_
        exact h_ret hX (rv := some (.int 0)) dX10_bothWouldSwap_73 rfl (fun h => h)
      · refine h_iconst hX dX10_bothWouldSwap_68 ki_1 ?_
        refine h_goto hX dX10_bothWouldSwap_69 (tgt := 73) (by decide) ?_
        exact h_ret hX (rv := some (.int 1)) dX10_bothWouldSwap_73 rfl (fun h => h)
  · refine h_iconst hX dX10_bothWouldSwap_15 ki_0 ?_
    exact h_ret hX (rv := some (.int 0)) dX10_bothWouldSwap_16 rfl (fun h => h)
theorem c_Main_bothWouldSwap {p0 : Int32} {p1 : Int32} {r : Int32} (h : f_Main_bothWouldSwap Y_cells Y_clauses N_marbles N_chipped N_swallowed N_owners p0 p1 = some r) : gMet B 4 yX10_bothWouldSwap cX10_bothWouldSwap 5 (some .boolean) [.ref (aC B 0), .int p0, .int p1] (wdC B W_spillsNow W_drawn T_length T_at T_bytes D_cells D_clauses G_length G_code A_size A_chosen A_codes A_lengths A_stack Y_cells Y_clauses N_marbles N_chipped N_swallowed N_sweets N_day N_owners P_next P_kept P_hasImage P_image P_acts P_entries P_imageEntries S_fewest S_row S_strengths U_size U_found U_places U_kinds U_holds U_fitting U_tally L_letters L_firstCells L_secondCells L_firstBest L_secondBest W_refusals ++ fr) (some (.int r)) (wdC B W_spillsNow W_drawn T_length T_at T_bytes D_cells D_clauses G_length G_code A_size A_chosen A_codes A_lengths A_stack Y_cells Y_clauses N_marbles N_chipped N_swallowed N_sweets N_day N_owners P_next P_kept P_hasImage P_image P_acts P_entries P_imageEntries S_fewest S_row S_strengths U_size U_found U_places U_kinds U_holds U_fitting U_tally L_letters L_firstCells L_secondCells L_firstBest L_secondBest W_refusals ++ fr) :=
  gMet.of rfl (Nat.le_of_ble_eq_true rfl) (fun X hX hF => w_Main_bothWouldSwap hX r h hF)
set_option maxRecDepth 4000 in
theorem w_Main_boy_J20 (hX : gOk B X RX10 cX10_boy 3 2 (some .int)) : gH B X (fun r : Int32 => gFin X (some (.int r)) (wdC B W_spillsNow W_drawn T_length T_at T_bytes D_cells D_clauses G_length G_code A_size A_chosen A_codes A_lengths A_stack Y_cells Y_clauses N_marbles N_chipped N_swallowed N_sweets N_day N_owners P_next P_kept P_hasImage P_image P_acts P_entries P_imageEntries S_fewest S_row S_strengths U_size U_found U_places U_kinds U_holds U_fitting U_tally L_letters L_firstCells L_secondCells L_firstBest L_secondBest W_refusals ++ fr)) 20 [] [] (wdC B W_spillsNow W_drawn T_length T_at T_bytes D_cells D_clauses G_length G_code A_size A_chosen A_codes A_lengths A_stack Y_cells Y_clauses N_marbles N_chipped N_swallowed N_sweets N_day N_owners P_next P_kept P_hasImage P_image P_acts P_entries P_imageEntries S_fewest S_row S_strengths U_size U_found U_places U_kinds U_holds U_fitting U_tally L_letters L_firstCells L_secondCells L_firstBest L_secondBest W_refusals ++ fr) (f_Main_boy_J20) := by
  unfold f_Main_boy_J20
  exact gH.none'
set_option maxRecDepth 4000 in
theorem w_Main_boy {p0 : Int32} {p1 : Int32} (hX : gOk B X RX10 cX10_boy 3 2 (some .int)) : gH B X (fun r : Int32 => gFin X (some (.int r)) (wdC B W_spillsNow W_drawn T_length T_at T_bytes D_cells D_clauses G_length G_code A_size A_chosen A_codes A_lengths A_stack Y_cells Y_clauses N_marbles N_chipped N_swallowed N_sweets N_day N_owners P_next P_kept P_hasImage P_image P_acts P_entries P_imageEntries S_fewest S_row S_strengths U_size U_found U_places U_kinds U_holds U_fitting U_tally L_letters L_firstCells L_secondCells L_firstBest L_secondBest W_refusals ++ fr)) 0 [(0, .ref (aC B 0)), (1, .int p0), (2, .int p1)] [] (wdC B W_spillsNow W_drawn T_length T_at T_bytes D_cells D_clauses G_length G_code A_size A_chosen A_codes A_lengths A_stack Y_cells Y_clauses N_marbles N_chipped N_swallowed N_sweets N_day N_owners P_next P_kept P_hasImage P_image P_acts P_entries P_imageEntries S_fewest S_row S_strengths U_size U_found U_places U_kinds U_holds U_fitting U_tally L_letters L_firstCells L_secondCells L_firstBest L_secondBest W_refusals ++ fr) (f_Main_boy Y_cells Y_clauses N_marbles N_owners p0 p1) := by
  unfold f_Main_boy
  refine h_aload_n hX dX10_boy_0 rfl rfl ?_
  refine get_RX10_42_C0 hX dX10_boy_1 ?_
  refine h_iload_n hX dX10_boy_4 rfl rfl ?_
  refine h_callVi hX dX10_boy_5 (cv_RX10_152) rc_C13 (As := [.int p0]) (st := []) (fun _ h => c_Yard_hasBoy h) rfl rfl (by decide) (Nat.le_of_ble_eq_true rfl) (fun a_1 => ?_)
  refine h_if_eq hX dX10_boy_8 (tgt := 20) (by decide) (fun _ => ?_) (fun _ => ?_)
  · refine gH.dead [] rfl ?_
    exact w_Main_boy_J20 hX
  · refine h_iload_n hX dX10_boy_11 rfl rfl ?_
    refine h_if_lt hX dX10_boy_12 (tgt := 20) (by decide) (fun _ => ?_) (fun _ => ?_)
    · refine gH.dead [] rfl ?_
      exact w_Main_boy_J20 hX
    · refine h_iload_n hX dX10_boy_15 rfl rfl ?_
      refine h_iconst hX dX10_boy_16 ki_2 ?_
      refine h_icmp_le hX dX10_boy_17 (tgt := 30) (by decide) (fun _ => ?_) (fun _ => ?_)
      · refine h_iload_n hX dX10_boy_30 rfl rfl ?_
        refine h_if_ne hX dX10_boy_31 (tgt := 43) (by decide) (fun _ => ?_) (fun _ => ?_)
        · refine h_iload_n hX dX10_boy_43 rfl rfl ?_
          refine h_iconst hX dX10_boy_44 ki_1 ?_
          refine h_icmp_ne hX dX10_boy_45 (tgt := 59) (by decide) (fun _ => ?_) (fun _ => ?_)
          · refine h_aload_n hX dX10_boy_59 rfl rfl ?_
            refine get_RX10_49_C0 hX dX10_boy_60 ?_
            refine h_iload_n hX dX10_boy_63 rfl rfl ?_
            refine h_callVi hX dX10_boy_64 (cv_RX10_169) rc_C16 (As := [.int p0]) (st := []) (fun _ h => c_Now_handOf h) rfl rfl (by decide) (Nat.le_of_ble_eq_true rfl) (fun a_2 => ?_)
            refine h_callSi hX dX10_boy_67 (cs_RX10_172) (As := [.int a_2]) (st := []) (fun _ h => c_J_bitCount h) rfl rfl (by decide) (Nat.le_of_ble_eq_true rfl) (fun a_3 => ?_)
            exact h_ret hX (rv := some (.int a_3)) dX10_boy_70 trivial (fun h => h)
          · refine h_aload_n hX dX10_boy_48 rfl rfl ?_
            refine get_RX10_42_C0 hX dX10_boy_49 ?_
            refine h_iload_n hX dX10_boy_52 rfl rfl ?_
            refine h_callVi hX dX10_boy_53 (cv_RX10_166) rc_C13 (As := [.int p0]) (st := []) (fun _ h => c_Yard_boyPlace h) rfl rfl (by decide) (Nat.le_of_ble_eq_true rfl) (fun a_4 => ?_)
            refine h_goto hX dX10_boy_56 (tgt := 70) (by decide) ?_
            exact h_ret hX (rv := some (.int a_4)) dX10_boy_70 trivial (fun h => h)
        · refine h_aload_n hX dX10_boy_34 rfl rfl ?_
          refine get_RX10_42_C0 hX dX10_boy_35 ?_
          refine h_iload_n hX dX10_boy_38 rfl rfl ?_
          refine h_callVi hX dX10_boy_39 (cv_RX10_163) rc_C13 (As := [.int p0]) (st := []) (fun _ h => c_Yard_skill h) rfl rfl (by decide) (Nat.le_of_ble_eq_true rfl) (fun a_5 => ?_)
          exact h_ret hX (rv := some (.int a_5)) dX10_boy_42 trivial (fun h => h)
      · refine gH.dead [] rfl ?_
        exact w_Main_boy_J20 hX
theorem c_Main_boy {p0 : Int32} {p1 : Int32} {r : Int32} (h : f_Main_boy Y_cells Y_clauses N_marbles N_owners p0 p1 = some r) : gMet B 2 yX10_boy cX10_boy 3 (some .int) [.ref (aC B 0), .int p0, .int p1] (wdC B W_spillsNow W_drawn T_length T_at T_bytes D_cells D_clauses G_length G_code A_size A_chosen A_codes A_lengths A_stack Y_cells Y_clauses N_marbles N_chipped N_swallowed N_sweets N_day N_owners P_next P_kept P_hasImage P_image P_acts P_entries P_imageEntries S_fewest S_row S_strengths U_size U_found U_places U_kinds U_holds U_fitting U_tally L_letters L_firstCells L_secondCells L_firstBest L_secondBest W_refusals ++ fr) (some (.int r)) (wdC B W_spillsNow W_drawn T_length T_at T_bytes D_cells D_clauses G_length G_code A_size A_chosen A_codes A_lengths A_stack Y_cells Y_clauses N_marbles N_chipped N_swallowed N_sweets N_day N_owners P_next P_kept P_hasImage P_image P_acts P_entries P_imageEntries S_fewest S_row S_strengths U_size U_found U_places U_kinds U_holds U_fitting U_tally L_letters L_firstCells L_secondCells L_firstBest L_secondBest W_refusals ++ fr) :=
  gMet.of rfl (Nat.le_of_ble_eq_true rfl) (fun X hX hF => w_Main_boy hX r h hF)
set_option maxRecDepth 4000 in
theorem w_Main_greatestOf_J64 {v1 : Int32} {v2 : Int32} {v3 : Int32} (hX : gOk B X RX10 cX10_greatestOf 4 2 (some .int)) : gH B X (Sum.elim (fun s : (Int32 × Int32) => gG B X 4 [(0, .ref (aC B 0)), (1, .int v1), (2, .int s.1), (3, .int s.2)] [] (wdC B W_spillsNow W_drawn T_length T_at T_bytes D_cells D_clauses G_length G_code A_size A_chosen A_codes A_lengths A_stack Y_cells Y_clauses N_marbles N_chipped N_swallowed N_sweets N_day N_owners P_next P_kept P_hasImage P_image P_acts P_entries P_imageEntries S_fewest S_row S_strengths U_size U_found U_places U_kinds U_holds U_fitting U_tally L_letters L_firstCells L_secondCells L_firstBest L_secondBest W_refusals ++ fr)) (fun r : Int32 => gFin X (some (.int r)) (wdC B W_spillsNow W_drawn T_length T_at T_bytes D_cells D_clauses G_length G_code A_size A_chosen A_codes A_lengths A_stack Y_cells Y_clauses N_marbles N_chipped N_swallowed N_sweets N_day N_owners P_next P_kept P_hasImage P_image P_acts P_entries P_imageEntries S_fewest S_row S_strengths U_size U_found U_places U_kinds U_holds U_fitting U_tally L_letters L_firstCells L_secondCells L_firstBest L_secondBest W_refusals ++ fr))) 64 [(0, .ref (aC B 0)), (1, .int v1), (2, .int v2), (3, .int v3)] [] (wdC B W_spillsNow W_drawn T_length T_at T_bytes D_cells D_clauses G_length G_code A_size A_chosen A_codes A_lengths A_stack Y_cells Y_clauses N_marbles N_chipped N_swallowed N_sweets N_day N_owners P_next P_kept P_hasImage P_image P_acts P_entries P_imageEntries S_fewest S_row S_strengths U_size U_found U_places U_kinds U_holds U_fitting U_tally L_letters L_firstCells L_secondCells L_firstBest L_secondBest W_refusals ++ fr) (f_Main_greatestOf_J64 v2 v3) := by
  unfold f_Main_greatestOf_J64
  refine h_iincc hX dX10_greatestOf_64 rfl ki_1 (by decide) (lv' := [(0, .ref (aC B 0)), (1, .int v1), (2, .int v2), (3, .int (v3 + 1))]) rfl ?_
  refine h_goto hX dX10_greatestOf_67 (tgt := 4) (by decide) ?_
  exact gH.some' (fun h => h)
set_option maxRecDepth 4000 in
theorem w_Main_greatestOf_J62 {v1 : Int32} {v3 : Int32} (hX : gOk B X RX10 cX10_greatestOf 4 2 (some .int)) : gH B X (Sum.elim (fun s : (Int32 × Int32) => gG B X 4 [(0, .ref (aC B 0)), (1, .int v1), (2, .int s.1), (3, .int s.2)] [] (wdC B W_spillsNow W_drawn T_length T_at T_bytes D_cells D_clauses G_length G_code A_size A_chosen A_codes A_lengths A_stack Y_cells Y_clauses N_marbles N_chipped N_swallowed N_sweets N_day N_owners P_next P_kept P_hasImage P_image P_acts P_entries P_imageEntries S_fewest S_row S_strengths U_size U_found U_places U_kinds U_holds U_fitting U_tally L_letters L_firstCells L_secondCells L_firstBest L_secondBest W_refusals ++ fr)) (fun r : Int32 => gFin X (some (.int r)) (wdC B W_spillsNow W_drawn T_length T_at T_bytes D_cells D_clauses G_length G_code A_size A_chosen A_codes A_lengths A_stack Y_cells Y_clauses N_marbles N_chipped N_swallowed N_sweets N_day N_owners P_next P_kept P_hasImage P_image P_acts P_entries P_imageEntries S_fewest S_row S_strengths U_size U_found U_places U_kinds U_holds U_fitting U_tally L_letters L_firstCells L_secondCells L_firstBest L_secondBest W_refusals ++ fr))) 62 [(0, .ref (aC B 0)), (1, .int v1), (3, .int v3)] [] (wdC B W_spillsNow W_drawn T_length T_at T_bytes D_cells D_clauses G_length G_code A_size A_chosen A_codes A_lengths A_stack Y_cells Y_clauses N_marbles N_chipped N_swallowed N_sweets N_day N_owners P_next P_kept P_hasImage P_image P_acts P_entries P_imageEntries S_fewest S_row S_strengths U_size U_found U_places U_kinds U_holds U_fitting U_tally L_letters L_firstCells L_secondCells L_firstBest L_secondBest W_refusals ++ fr) (f_Main_greatestOf_J62 v3) := by
  unfold f_Main_greatestOf_J62
  refine h_iload_n hX dX10_greatestOf_62 rfl rfl ?_
  refine h_istore_n hX dX10_greatestOf_63 rfl (by decide) (lv' := [(0, .ref (aC B 0)), (1, .int v1), (2, .int v3), (3, .int v3)]) rfl ?_
  exact w_Main_greatestOf_J64 hX
set_option maxRecDepth 4000 in
theorem w_Main_greatestOf_L4 {v1 : Int32} (hX : gOk B X RX10 cX10_greatestOf 4 2 (some .int)) (s : (Int32 × Int32)) : gH B X (Sum.elim (fun s : (Int32 × Int32) => gG B X 4 [(0, .ref (aC B 0)), (1, .int v1), (2, .int s.1), (3, .int s.2)] [] (wdC B W_spillsNow W_drawn T_length T_at T_bytes D_cells D_clauses G_length G_code A_size A_chosen A_codes A_lengths A_stack Y_cells Y_clauses N_marbles N_chipped N_swallowed N_sweets N_day N_owners P_next P_kept P_hasImage P_image P_acts P_entries P_imageEntries S_fewest S_row S_strengths U_size U_found U_places U_kinds U_holds U_fitting U_tally L_letters L_firstCells L_secondCells L_firstBest L_secondBest W_refusals ++ fr)) (fun r : Int32 => gFin X (some (.int r)) (wdC B W_spillsNow W_drawn T_length T_at T_bytes D_cells D_clauses G_length G_code A_size A_chosen A_codes A_lengths A_stack Y_cells Y_clauses N_marbles N_chipped N_swallowed N_sweets N_day N_owners P_next P_kept P_hasImage P_image P_acts P_entries P_imageEntries S_fewest S_row S_strengths U_size U_found U_places U_kinds U_holds U_fitting U_tally L_letters L_firstCells L_secondCells L_firstBest L_secondBest W_refusals ++ fr))) 4 [(0, .ref (aC B 0)), (1, .int v1), (2, .int s.1), (3, .int s.2)] [] (wdC B W_spillsNow W_drawn T_length T_at T_bytes D_cells D_clauses G_length G_code A_size A_chosen A_codes A_lengths A_stack Y_cells Y_clauses N_marbles N_chipped N_swallowed N_sweets N_day N_owners P_next P_kept P_hasImage P_image P_acts P_entries P_imageEntries S_fewest S_row S_strengths U_size U_found U_places U_kinds U_holds U_fitting U_tally L_letters L_firstCells L_secondCells L_firstBest L_secondBest W_refusals ++ fr) (f_Main_greatestOf_L4 Y_cells Y_clauses N_marbles N_swallowed N_owners v1 s) := by
  unfold f_Main_greatestOf_L4
  refine h_iload_n hX dX10_greatestOf_4 rfl rfl ?_
  refine h_aload_n hX dX10_greatestOf_5 rfl rfl ?_
  refine get_RX10_42_C0 hX dX10_greatestOf_6 ?_
  refine h_callVi hX dX10_greatestOf_9 (cv_RX10_131) rc_C13 (As := []) (st := [.int s.2]) (fun _ h => c_Yard_marbles h) rfl rfl (by decide) (Nat.le_of_ble_eq_true rfl) (fun a_1 => ?_)
  refine h_icmp_ge hX dX10_greatestOf_12 (tgt := 70) (by decide) (fun _ => ?_) (fun _ => ?_)
  · refine h_iload_n hX dX10_greatestOf_70 rfl rfl ?_
    exact h_ret hX (rv := some (.int s.1)) dX10_greatestOf_71 trivial (fun h => h)
  · refine h_aload_n hX dX10_greatestOf_15 rfl rfl ?_
    refine get_RX10_49_C0 hX dX10_greatestOf_16 ?_
    refine h_iload_n hX dX10_greatestOf_19 rfl rfl ?_
    refine h_callVi hX dX10_greatestOf_20 (cv_RX10_181) rc_C16 (As := [.int s.2]) (st := []) (fun _ h => c_Now_ownerOf h) rfl rfl (by decide) (Nat.le_of_ble_eq_true rfl) (fun a_2 => ?_)
    refine h_iload_n hX dX10_greatestOf_23 rfl rfl ?_
    refine h_icmp_ne hX dX10_greatestOf_24 (tgt := 64) (by decide) (fun _ => ?_) (fun _ => ?_)
    · exact w_Main_greatestOf_J64 hX
    · refine h_aload_n hX dX10_greatestOf_27 rfl rfl ?_
      refine get_RX10_49_C0 hX dX10_greatestOf_28 ?_
      refine h_iload_n hX dX10_greatestOf_31 rfl rfl ?_
      refine h_callVi hX dX10_greatestOf_32 (cv_RX10_192) rc_C16 (As := [.int s.2]) (st := []) (fun _ h => c_Now_isSwallowed h) rfl rfl (by decide) (Nat.le_of_ble_eq_true rfl) (fun a_4 => ?_)
      refine h_if_ne hX dX10_greatestOf_35 (tgt := 64) (by decide) (fun _ => ?_) (fun _ => ?_)
      · exact w_Main_greatestOf_J64 hX
      · refine h_iload_n hX dX10_greatestOf_38 rfl rfl ?_
        refine h_iconst hX dX10_greatestOf_39 ki_m1 ?_
        refine h_icmp_eq hX dX10_greatestOf_40 (tgt := 62) (by decide) (fun _ => ?_) (fun _ => ?_)
        · refine gH.dead [0, 1, 3] rfl ?_
          exact w_Main_greatestOf_J62 hX
        · refine h_aload_n hX dX10_greatestOf_43 rfl rfl ?_
          refine get_RX10_42_C0 hX dX10_greatestOf_44 ?_
          refine h_iload_n hX dX10_greatestOf_47 rfl rfl ?_
          refine h_callVi hX dX10_greatestOf_48 (cv_RX10_187) rc_C13 (As := [.int s.2]) (st := []) (fun _ h => c_Yard_size h) rfl rfl (by decide) (Nat.le_of_ble_eq_true rfl) (fun a_5 => ?_)
          refine h_aload_n hX dX10_greatestOf_51 rfl rfl ?_
          refine get_RX10_42_C0 hX dX10_greatestOf_52 ?_
          refine h_iload_n hX dX10_greatestOf_55 rfl rfl ?_
          refine h_callVi hX dX10_greatestOf_56 (cv_RX10_187) rc_C13 (As := [.int s.1]) (st := [.int a_5]) (fun _ h => c_Yard_size h) rfl rfl (by decide) (Nat.le_of_ble_eq_true rfl) (fun a_6 => ?_)
          refine h_icmp_le hX dX10_greatestOf_59 (tgt := 64) (by decide) (fun _ => ?_) (fun _ => ?_)
          · exact w_Main_greatestOf_J64 hX
          · refine gH.dead [0, 1, 3] rfl ?_
            exact w_Main_greatestOf_J62 hX
set_option maxRecDepth 4000 in
theorem w_Main_greatestOf {p0 : Int32} (hX : gOk B X RX10 cX10_greatestOf 4 2 (some .int)) : gH B X (fun r : Int32 => gFin X (some (.int r)) (wdC B W_spillsNow W_drawn T_length T_at T_bytes D_cells D_clauses G_length G_code A_size A_chosen A_codes A_lengths A_stack Y_cells Y_clauses N_marbles N_chipped N_swallowed N_sweets N_day N_owners P_next P_kept P_hasImage P_image P_acts P_entries P_imageEntries S_fewest S_row S_strengths U_size U_found U_places U_kinds U_holds U_fitting U_tally L_letters L_firstCells L_secondCells L_firstBest L_secondBest W_refusals ++ fr)) 0 [(0, .ref (aC B 0)), (1, .int p0)] [] (wdC B W_spillsNow W_drawn T_length T_at T_bytes D_cells D_clauses G_length G_code A_size A_chosen A_codes A_lengths A_stack Y_cells Y_clauses N_marbles N_chipped N_swallowed N_sweets N_day N_owners P_next P_kept P_hasImage P_image P_acts P_entries P_imageEntries S_fewest S_row S_strengths U_size U_found U_places U_kinds U_holds U_fitting U_tally L_letters L_firstCells L_secondCells L_firstBest L_secondBest W_refusals ++ fr) (f_Main_greatestOf Y_cells Y_clauses N_marbles N_swallowed N_owners p0) := by
  unfold f_Main_greatestOf
  refine h_iconst hX dX10_greatestOf_0 ki_m1 ?_
  refine h_istore_n hX dX10_greatestOf_1 rfl (by decide) (lv' := [(0, .ref (aC B 0)), (1, .int p0), (2, .int ((-1)))]) rfl ?_
  refine h_iconst hX dX10_greatestOf_2 ki_0 ?_
  refine h_istore_n hX dX10_greatestOf_3 rfl (by decide) (lv' := [(0, .ref (aC B 0)), (1, .int p0), (2, .int ((-1))), (3, .int 0)]) rfl ?_
  exact gH.loop (lvf := fun z : (Int32 × Int32) => [(0, .ref (aC B 0)), (1, .int p0), (2, .int z.1), (3, .int z.2)]) (wf := fun z : (Int32 × Int32) => wdC B W_spillsNow W_drawn T_length T_at T_bytes D_cells D_clauses G_length G_code A_size A_chosen A_codes A_lengths A_stack Y_cells Y_clauses N_marbles N_chipped N_swallowed N_sweets N_day N_owners P_next P_kept P_hasImage P_image P_acts P_entries P_imageEntries S_fewest S_row S_strengths U_size U_found U_places U_kinds U_holds U_fitting U_tally L_letters L_firstCells L_secondCells L_firstBest L_secondBest W_refusals ++ fr) (fun z => w_Main_greatestOf_L4 hX z) ((-1), 0)
theorem c_Main_greatestOf {p0 : Int32} {r : Int32} (h : f_Main_greatestOf Y_cells Y_clauses N_marbles N_swallowed N_owners p0 = some r) : gMet B 2 yX10_greatestOf cX10_greatestOf 4 (some .int) [.ref (aC B 0), .int p0] (wdC B W_spillsNow W_drawn T_length T_at T_bytes D_cells D_clauses G_length G_code A_size A_chosen A_codes A_lengths A_stack Y_cells Y_clauses N_marbles N_chipped N_swallowed N_sweets N_day N_owners P_next P_kept P_hasImage P_image P_acts P_entries P_imageEntries S_fewest S_row S_strengths U_size U_found U_places U_kinds U_holds U_fitting U_tally L_letters L_firstCells L_secondCells L_firstBest L_secondBest W_refusals ++ fr) (some (.int r)) (wdC B W_spillsNow W_drawn T_length T_at T_bytes D_cells D_clauses G_length G_code A_size A_chosen A_codes A_lengths A_stack Y_cells Y_clauses N_marbles N_chipped N_swallowed N_sweets N_day N_owners P_next P_kept P_hasImage P_image P_acts P_entries P_imageEntries S_fewest S_row S_strengths U_size U_found U_places U_kinds U_holds U_fitting U_tally L_letters L_firstCells L_secondCells L_firstBest L_secondBest W_refusals ++ fr) :=
  gMet.of rfl (Nat.le_of_ble_eq_true rfl) (fun X hX hF => w_Main_greatestOf hX r h hF)
set_option maxRecDepth 4000 in
theorem w_Main_champion_J92 {v1 : Int32} {v2 : Int32} {v3 : Int32} (hX : gOk B X RX10 cX10_champion 7 6 (some .int)) : gH B X (Sum.elim (fun s : (Int32 × Int32 × Int32 × (Nat → Int32) × (Nat → Int32)) => gG B X 6 [(0, .ref (aC B 0)), (1, .int s.1), (2, .int s.2.1), (3, .int s.2.2.1)] [] (wdC B W_spillsNow W_drawn T_length T_at T_bytes D_cells D_clauses G_length G_code A_size A_chosen A_codes A_lengths s.2.2.2.1 Y_cells Y_clauses N_marbles N_chipped N_swallowed N_sweets N_day N_owners P_next P_kept P_hasImage P_image P_acts P_entries P_imageEntries S_fewest S_row S_strengths U_size U_found U_places U_kinds U_holds U_fitting U_tally s.2.2.2.2 L_firstCells L_secondCells L_firstBest L_secondBest W_refusals ++ fr)) (fun r : (Int32 × (Nat → Int32) × (Nat → Int32)) => gFin X (some (.int r.1)) (wdC B W_spillsNow W_drawn T_length T_at T_bytes D_cells D_clauses G_length G_code A_size A_chosen A_codes A_lengths r.2.1 Y_cells Y_clauses N_marbles N_chipped N_swallowed N_sweets N_day N_owners P_next P_kept P_hasImage P_image P_acts P_entries P_imageEntries S_fewest S_row S_strengths U_size U_found U_places U_kinds U_holds U_fitting U_tally r.2.2 L_firstCells L_secondCells L_firstBest L_secondBest W_refusals ++ fr))) 92 [(0, .ref (aC B 0)), (1, .int v1), (2, .int v2), (3, .int v3)] [] (wdC B W_spillsNow W_drawn T_length T_at T_bytes D_cells D_clauses G_length G_code A_size A_chosen A_codes A_lengths A_stack Y_cells Y_clauses N_marbles N_chipped N_swallowed N_sweets N_day N_owners P_next P_kept P_hasImage P_image P_acts P_entries P_imageEntries S_fewest S_row S_strengths U_size U_found U_places U_kinds U_holds U_fitting U_tally L_letters L_firstCells L_secondCells L_firstBest L_secondBest W_refusals ++ fr) (f_Main_champion_J92 A_stack L_letters v1 v2 v3) := by
  unfold f_Main_champion_J92
  refine h_iincc hX dX10_champion_92 rfl ki_1 (by decide) (lv' := [(0, .ref (aC B 0)), (1, .int v1), (2, .int v2), (3, .int (v3 + 1))]) rfl ?_
  refine h_goto hX dX10_champion_95 (tgt := 6) (by decide) ?_
  exact gH.some' (fun h => h)
set_option maxRecDepth 4000 in
theorem w_Main_champion_J87 {v3 : Int32} {v6 : Int32} (hX : gOk B X RX10 cX10_champion 7 6 (some .int)) : gH B X (Sum.elim (fun s : (Int32 × Int32 × Int32 × (Nat → Int32) × (Nat → Int32)) => gG B X 6 [(0, .ref (aC B 0)), (1, .int s.1), (2, .int s.2.1), (3, .int s.2.2.1)] [] (wdC B W_spillsNow W_drawn T_length T_at T_bytes D_cells D_clauses G_length G_code A_size A_chosen A_codes A_lengths s.2.2.2.1 Y_cells Y_clauses N_marbles N_chipped N_swallowed N_sweets N_day N_owners P_next P_kept P_hasImage P_image P_acts P_entries P_imageEntries S_fewest S_row S_strengths U_size U_found U_places U_kinds U_holds U_fitting U_tally s.2.2.2.2 L_firstCells L_secondCells L_firstBest L_secondBest W_refusals ++ fr)) (fun r : (Int32 × (Nat → Int32) × (Nat → Int32)) => gFin X (some (.int r.1)) (wdC B W_spillsNow W_drawn T_length T_at T_bytes D_cells D_clauses G_length G_code A_size A_chosen A_codes A_lengths r.2.1 Y_cells Y_clauses N_marbles N_chipped N_swallowed N_sweets N_day N_owners P_next P_kept P_hasImage P_image P_acts P_entries P_imageEntries S_fewest S_row S_strengths U_size U_found U_places U_kinds U_holds U_fitting U_tally r.2.2 L_firstCells L_secondCells L_firstBest L_secondBest W_refusals ++ fr))) 87 [(0, .ref (aC B 0)), (3, .int v3), (6, .int v6)] [] (wdC B W_spillsNow W_drawn T_length T_at T_bytes D_cells D_clauses G_length G_code A_size A_chosen A_codes A_lengths A_stack Y_cells Y_clauses N_marbles N_chipped N_swallowed N_sweets N_day N_owners P_next P_kept P_hasImage P_image P_acts P_entries P_imageEntries S_fewest S_row S_strengths U_size U_found U_places U_kinds U_holds U_fitting U_tally L_letters L_firstCells L_secondCells L_firstBest L_secondBest W_refusals ++ fr) (f_Main_champion_J87 A_stack L_letters v3 v6) := by
  unfold f_Main_champion_J87
  refine h_iload_n hX dX10_champion_87 rfl rfl ?_
  refine h_istore_n hX dX10_champion_88 rfl (by decide) (lv' := [(0, .ref (aC B 0)), (1, .int v3), (3, .int v3), (6, .int v6)]) rfl ?_
  refine h_iload hX dX10_champion_89 rfl ?_
  refine h_istore_n hX dX10_champion_91 rfl (by decide) (lv' := [(0, .ref (aC B 0)), (1, .int v3), (2, .int v6), (3, .int v3), (6, .int v6)]) rfl ?_
  refine gH.dead [0, 1, 2, 3] rfl ?_
  exact w_Main_champion_J92 hX
set_option maxRecDepth 4000 in
theorem w_Main_champion_J44 {v1 : Int32} {v2 : Int32} {v3 : Int32} {v4 : Int32} {k0 : Int32} (hX : gOk B X RX10 cX10_champion 7 6 (some .int)) : gH B X (Sum.elim (fun s : (Int32 × Int32 × Int32 × (Nat → Int32) × (Nat → Int32)) => gG B X 6 [(0, .ref (aC B 0)), (1, .int s.1), (2, .int s.2.1), (3, .int s.2.2.1)] [] (wdC B W_spillsNow W_drawn T_length T_at T_bytes D_cells D_clauses G_length G_code A_size A_chosen A_codes A_lengths s.2.2.2.1 Y_cells Y_clauses N_marbles N_chipped N_swallowed N_sweets N_day N_owners P_next P_kept P_hasImage P_image P_acts P_entries P_imageEntries S_fewest S_row S_strengths U_size U_found U_places U_kinds U_holds U_fitting U_tally s.2.2.2.2 L_firstCells L_secondCells L_firstBest L_secondBest W_refusals ++ fr)) (fun r : (Int32 × (Nat → Int32) × (Nat → Int32)) => gFin X (some (.int r.1)) (wdC B W_spillsNow W_drawn T_length T_at T_bytes D_cells D_clauses G_length G_code A_size A_chosen A_codes A_lengths r.2.1 Y_cells Y_clauses N_marbles N_chipped N_swallowed N_sweets N_day N_owners P_next P_kept P_hasImage P_image P_acts P_entries P_imageEntries S_fewest S_row S_strengths U_size U_found U_places U_kinds U_holds U_fitting U_tally r.2.2 L_firstCells L_secondCells L_firstBest L_secondBest W_refusals ++ fr))) 44 [(0, .ref (aC B 0)), (1, .int v1), (2, .int v2), (3, .int v3), (4, .int v4)] [.int k0] (wdC B W_spillsNow W_drawn T_length T_at T_bytes D_cells D_clauses G_length G_code A_size A_chosen A_codes A_lengths A_stack Y_cells Y_clauses N_marbles N_chipped N_swallowed N_sweets N_day N_owners P_next P_kept P_hasImage P_image P_acts P_entries P_imageEntries S_fewest S_row S_strengths U_size U_found U_places U_kinds U_holds U_fitting U_tally L_letters L_firstCells L_secondCells L_firstBest L_secondBest W_refusals ++ fr) (f_Main_champion_J44 A_size A_chosen A_codes A_lengths A_stack Y_cells N_marbles N_chipped N_day N_owners L_letters v1 v2 v3 v4 k0) := by
  unfold f_Main_champion_J44
  refine h_istore hX dX10_champion_44 (by decide) (lv' := [(0, .ref (aC B 0)), (1, .int v1), (2, .int v2), (3, .int v3), (4, .int v4), (5, .int k0)]) rfl ?_
  refine h_iload hX dX10_champion_46 rfl ?_
  refine h_iconst hX dX10_champion_48 ki_m1 ?_
  refine h_icmp_ne hX dX10_champion_49 (tgt := 55) (by decide) (fun _ => ?_) (fun _ => ?_)
  · refine h_aload_n hX dX10_champion_55 rfl rfl ?_
    refine get_RX10_85_C0 hX dX10_champion_56 ?_
    refine h_aload_n hX dX10_champion_59 rfl rfl ?_
    refine get_RX10_85_C0 hX dX10_champion_60 ?_
    refine h_iload_n hX dX10_champion_63 rfl rfl ?_
    refine h_iload hX dX10_champion_64 rfl ?_
    refine h_iload hX dX10_champion_66 rfl ?_
    refine h_callVi hX dX10_champion_68 (cv_RX10_276) rc_C30 (As := [.int v3, .int v4, .int k0]) (st := [.ref (aC B 30)]) (fun _ h => c_Lane_flick h) rfl rfl (by decide) (Nat.le_of_ble_eq_true rfl) (fun a_4 => ?_)
    refine h_callVi hX dX10_champion_71 (cv_RX10_398) rc_C30 (As := [.int a_4.1]) (st := []) (fun _ h => c_Lane_distance h) rfl rfl (by decide) (Nat.le_of_ble_eq_true rfl) (fun a_5 => ?_)
    refine h_istore hX dX10_champion_74 (by decide) (lv' := [(0, .ref (aC B 0)), (1, .int v1), (2, .int v2), (3, .int v3), (4, .int v4), (5, .int k0), (6, .int a_5)]) rfl ?_
    refine h_iload_n hX dX10_champion_76 rfl rfl ?_
    refine h_iconst hX dX10_champion_77 ki_m1 ?_
    refine h_icmp_eq hX dX10_champion_78 (tgt := 87) (by decide) (fun _ => ?_) (fun _ => ?_)
    · refine gH.dead [0, 3, 6] rfl ?_
      exact w_Main_champion_J87 hX
    · refine h_iload hX dX10_champion_81 rfl ?_
      refine h_iload_n hX dX10_champion_83 rfl rfl ?_
      refine h_icmp_ge hX dX10_champion_84 (tgt := 92) (by decide) (fun _ => ?_) (fun _ => ?_)
      · refine gH.dead [0, 1, 2, 3] rfl ?_
        exact w_Main_champion_J92 hX
      · refine gH.dead [0, 3, 6] rfl ?_
        exact w_Main_champion_J87 hX
  · refine h_goto hX dX10_champion_52 (tgt := 92) (by decide) ?_
    refine gH.dead [0, 1, 2, 3] rfl ?_
    exact w_Main_champion_J92 hX
set_option maxRecDepth 4000 in
theorem w_Main_champion_L6 (hX : gOk B X RX10 cX10_champion 7 6 (some .int)) (s : (Int32 × Int32 × Int32 × (Nat → Int32) × (Nat → Int32))) : gH B X (Sum.elim (fun s : (Int32 × Int32 × Int32 × (Nat → Int32) × (Nat → Int32)) => gG B X 6 [(0, .ref (aC B 0)), (1, .int s.1), (2, .int s.2.1), (3, .int s.2.2.1)] [] (wdC B W_spillsNow W_drawn T_length T_at T_bytes D_cells D_clauses G_length G_code A_size A_chosen A_codes A_lengths s.2.2.2.1 Y_cells Y_clauses N_marbles N_chipped N_swallowed N_sweets N_day N_owners P_next P_kept P_hasImage P_image P_acts P_entries P_imageEntries S_fewest S_row S_strengths U_size U_found U_places U_kinds U_holds U_fitting U_tally s.2.2.2.2 L_firstCells L_secondCells L_firstBest L_secondBest W_refusals ++ fr)) (fun r : (Int32 × (Nat → Int32) × (Nat → Int32)) => gFin X (some (.int r.1)) (wdC B W_spillsNow W_drawn T_length T_at T_bytes D_cells D_clauses G_length G_code A_size A_chosen A_codes A_lengths r.2.1 Y_cells Y_clauses N_marbles N_chipped N_swallowed N_sweets N_day N_owners P_next P_kept P_hasImage P_image P_acts P_entries P_imageEntries S_fewest S_row S_strengths U_size U_found U_places U_kinds U_holds U_fitting U_tally r.2.2 L_firstCells L_secondCells L_firstBest L_secondBest W_refusals ++ fr))) 6 [(0, .ref (aC B 0)), (1, .int s.1), (2, .int s.2.1), (3, .int s.2.2.1)] [] (wdC B W_spillsNow W_drawn T_length T_at T_bytes D_cells D_clauses G_length G_code A_size A_chosen A_codes A_lengths s.2.2.2.1 Y_cells Y_clauses N_marbles N_chipped N_swallowed N_sweets N_day N_owners P_next P_kept P_hasImage P_image P_acts P_entries P_imageEntries S_fewest S_row S_strengths U_size U_found U_places U_kinds U_holds U_fitting U_tally s.2.2.2.2 L_firstCells L_secondCells L_firstBest L_secondBest W_refusals ++ fr) (f_Main_champion_L6 A_size A_chosen A_codes A_lengths Y_cells Y_clauses N_marbles N_chipped N_swallowed N_day N_owners s) := by
  unfold f_Main_champion_L6
  refine h_iload_n hX dX10_champion_6 rfl rfl ?_
  refine h_aload_n hX dX10_champion_7 rfl rfl ?_
  refine get_RX10_42_C0 hX dX10_champion_8 ?_
  refine h_callVi hX dX10_champion_11 (cv_RX10_358) rc_C13 (As := []) (st := [.int s.2.2.1]) (fun _ h => c_Yard_boys h) rfl rfl (by decide) (Nat.le_of_ble_eq_true rfl) (fun a_1 => ?_)
  refine h_icmp_ge hX dX10_champion_14 (tgt := 98) (by decide) (fun _ => ?_) (fun _ => ?_)
  · refine h_iload_n hX dX10_champion_98 rfl rfl ?_
    exact h_ret hX (rv := some (.int s.1)) dX10_champion_99 trivial (fun h => h)
  · refine h_aload_n hX dX10_champion_17 rfl rfl ?_
    refine h_iload_n hX dX10_champion_18 rfl rfl ?_
    refine h_callVi hX dX10_champion_19 (cv_RX10_395) rc_C0 (As := [.int s.2.2.1]) (st := []) (fun _ h => c_Main_greatestOf h) rfl rfl (by decide) (Nat.le_of_ble_eq_true rfl) (fun a_2 => ?_)
    refine h_istore hX dX10_champion_22 (by decide) (lv' := [(0, .ref (aC B 0)), (1, .int s.1), (2, .int s.2.1), (3, .int s.2.2.1), (4, .int a_2)]) rfl ?_
    refine h_iload hX dX10_champion_24 rfl ?_
    refine h_iconst hX dX10_champion_26 ki_m1 ?_
    refine h_icmp_ne hX dX10_champion_27 (tgt := 34) (by decide) (fun _ => ?_) (fun _ => ?_)
    · refine h_aload_n hX dX10_champion_34 rfl rfl ?_
      refine get_RX10_85_C0 hX dX10_champion_35 ?_
      refine h_iload_n hX dX10_champion_38 rfl rfl ?_
      refine h_iload hX dX10_champion_39 rfl ?_
      refine h_callVi hX dX10_champion_41 (cv_RX10_280) rc_C30 (As := [.int s.2.2.1, .int a_2]) (st := []) (fun _ h => c_Lane_nearestPower h) rfl rfl (by decide) (Nat.le_of_ble_eq_true rfl) (fun a_3 => ?_)
      exact w_Main_champion_J44 hX
    · refine h_iconst hX dX10_champion_30 ki_m1 ?_
      refine h_goto hX dX10_champion_31 (tgt := 44) (by decide) ?_
      exact w_Main_champion_J44 hX
set_option maxRecDepth 4000 in
theorem w_Main_champion (hX : gOk B X RX10 cX10_champion 7 6 (some .int)) : gH B X (fun r : (Int32 × (Nat → Int32) × (Nat → Int32)) => gFin X (some (.int r.1)) (wdC B W_spillsNow W_drawn T_length T_at T_bytes D_cells D_clauses G_length G_code A_size A_chosen A_codes A_lengths r.2.1 Y_cells Y_clauses N_marbles N_chipped N_swallowed N_sweets N_day N_owners P_next P_kept P_hasImage P_image P_acts P_entries P_imageEntries S_fewest S_row S_strengths U_size U_found U_places U_kinds U_holds U_fitting U_tally r.2.2 L_firstCells L_secondCells L_firstBest L_secondBest W_refusals ++ fr)) 0 [(0, .ref (aC B 0))] [] (wdC B W_spillsNow W_drawn T_length T_at T_bytes D_cells D_clauses G_length G_code A_size A_chosen A_codes A_lengths A_stack Y_cells Y_clauses N_marbles N_chipped N_swallowed N_sweets N_day N_owners P_next P_kept P_hasImage P_image P_acts P_entries P_imageEntries S_fewest S_row S_strengths U_size U_found U_places U_kinds U_holds U_fitting U_tally L_letters L_firstCells L_secondCells L_firstBest L_secondBest W_refusals ++ fr) (f_Main_champion A_size A_chosen A_codes A_lengths A_stack Y_cells Y_clauses N_marbles N_chipped N_swallowed N_day N_owners L_letters) := by
  unfold f_Main_champion
  refine h_iconst hX dX10_champion_0 ki_m1 ?_
  refine h_istore_n hX dX10_champion_1 rfl (by decide) (lv' := [(0, .ref (aC B 0)), (1, .int ((-1)))]) rfl ?_
  refine h_iconst hX dX10_champion_2 ki_0 ?_
  refine h_istore_n hX dX10_champion_3 rfl (by decide) (lv' := [(0, .ref (aC B 0)), (1, .int ((-1))), (2, .int 0)]) rfl ?_
  refine h_iconst hX dX10_champion_4 ki_0 ?_
  refine h_istore_n hX dX10_champion_5 rfl (by decide) (lv' := [(0, .ref (aC B 0)), (1, .int ((-1))), (2, .int 0), (3, .int 0)]) rfl ?_
  exact gH.loop (lvf := fun z : (Int32 × Int32 × Int32 × (Nat → Int32) × (Nat → Int32)) => [(0, .ref (aC B 0)), (1, .int z.1), (2, .int z.2.1), (3, .int z.2.2.1)]) (wf := fun z : (Int32 × Int32 × Int32 × (Nat → Int32) × (Nat → Int32)) => wdC B W_spillsNow W_drawn T_length T_at T_bytes D_cells D_clauses G_length G_code A_size A_chosen A_codes A_lengths z.2.2.2.1 Y_cells Y_clauses N_marbles N_chipped N_swallowed N_sweets N_day N_owners P_next P_kept P_hasImage P_image P_acts P_entries P_imageEntries S_fewest S_row S_strengths U_size U_found U_places U_kinds U_holds U_fitting U_tally z.2.2.2.2 L_firstCells L_secondCells L_firstBest L_secondBest W_refusals ++ fr) (fun z => w_Main_champion_L6 hX z) ((-1), 0, 0, A_stack, L_letters)
theorem c_Main_champion {r : (Int32 × (Nat → Int32) × (Nat → Int32))} (h : f_Main_champion A_size A_chosen A_codes A_lengths A_stack Y_cells Y_clauses N_marbles N_chipped N_swallowed N_day N_owners L_letters = some r) : gMet B 6 yX10_champion cX10_champion 7 (some .int) [.ref (aC B 0)] (wdC B W_spillsNow W_drawn T_length T_at T_bytes D_cells D_clauses G_length G_code A_size A_chosen A_codes A_lengths A_stack Y_cells Y_clauses N_marbles N_chipped N_swallowed N_sweets N_day N_owners P_next P_kept P_hasImage P_image P_acts P_entries P_imageEntries S_fewest S_row S_strengths U_size U_found U_places U_kinds U_holds U_fitting U_tally L_letters L_firstCells L_secondCells L_firstBest L_secondBest W_refusals ++ fr) (some (.int r.1)) (wdC B W_spillsNow W_drawn T_length T_at T_bytes D_cells D_clauses G_length G_code A_size A_chosen A_codes A_lengths r.2.1 Y_cells Y_clauses N_marbles N_chipped N_swallowed N_sweets N_day N_owners P_next P_kept P_hasImage P_image P_acts P_entries P_imageEntries S_fewest S_row S_strengths U_size U_found U_places U_kinds U_holds U_fitting U_tally r.2.2 L_firstCells L_secondCells L_firstBest L_secondBest W_refusals ++ fr) :=
  gMet.of rfl (Nat.le_of_ble_eq_true rfl) (fun X hX hF => w_Main_champion hX r h hF)
set_option maxRecDepth 4000 in
theorem w_Main_refuse {p0 : Int32} (hX : gOk B X RX10 cX10_refuse 2 0 (some .int)) : gH B X (fun r : (Int32 × (Nat → Int32)) => gFin X (some (.int r.1)) (wdC B W_spillsNow W_drawn T_length T_at T_bytes D_cells D_clauses G_length G_code A_size A_chosen A_codes A_lengths A_stack Y_cells Y_clauses N_marbles N_chipped N_swallowed N_sweets N_day N_owners P_next P_kept P_hasImage P_image P_acts P_entries P_imageEntries S_fewest S_row S_strengths U_size U_found U_places U_kinds U_holds U_fitting U_tally L_letters L_firstCells L_secondCells L_firstBest L_secondBest r.2 ++ fr)) 0 [(0, .ref (aC B 0)), (1, .int p0)] [] (wdC B W_spillsNow W_drawn T_length T_at T_bytes D_cells D_clauses G_length G_code A_size A_chosen A_codes A_lengths A_stack Y_cells Y_clauses N_marbles N_chipped N_swallowed N_sweets N_day N_owners P_next P_kept P_hasImage P_image P_acts P_entries P_imageEntries S_fewest S_row S_strengths U_size U_found U_places U_kinds U_holds U_fitting U_tally L_letters L_firstCells L_secondCells L_firstBest L_secondBest W_refusals ++ fr) (f_Main_refuse W_refusals p0) := by
  unfold f_Main_refuse
  refine h_iload_n hX dX10_refuse_0 rfl rfl ?_
  refine h_if_lt hX dX10_refuse_1 (tgt := 19) (by decide) (fun _ => ?_) (fun _ => ?_)
  · refine h_iconst hX dX10_refuse_19 ki_m1 ?_
    exact h_ret hX (rv := some (.int ((-1)))) dX10_refuse_20 trivial (fun h => h)
  · refine h_iload_n hX dX10_refuse_4 rfl rfl ?_
    refine h_iconst hX dX10_refuse_5 ki_5 ?_
    refine h_icmp_ge hX dX10_refuse_6 (tgt := 19) (by decide) (fun _ => ?_) (fun _ => ?_)
    · refine h_iconst hX dX10_refuse_19 ki_m1 ?_
      exact h_ret hX (rv := some (.int ((-1)))) dX10_refuse_20 trivial (fun h => h)
    · refine h_aload_n hX dX10_refuse_9 rfl rfl ?_
      refine get_RX10_89_C0 hX dX10_refuse_10 ?_
      refine h_iload_n hX dX10_refuse_13 rfl rfl ?_
      refine h_dup2 hX dX10_refuse_14 rfl rfl ?_
      refine ald_C36 hX dX10_refuse_15 ?_
      refine h_iconst hX dX10_refuse_16 ki_1 ?_
      refine h_iadd hX dX10_refuse_17 ?_
      refine ast_C36 hX dX10_refuse_18 ?_
      refine gH.letw (w := fun y => wdC B W_spillsNow W_drawn T_length T_at T_bytes D_cells D_clauses G_length G_code A_size A_chosen A_codes A_lengths A_stack Y_cells Y_clauses N_marbles N_chipped N_swallowed N_sweets N_day N_owners P_next P_kept P_hasImage P_image P_acts P_entries P_imageEntries S_fewest S_row S_strengths U_size U_found U_places U_kinds U_holds U_fitting U_tally L_letters L_firstCells L_secondCells L_firstBest L_secondBest y ++ fr) (fun W_refusals_1 => ?_)
      refine h_iconst hX dX10_refuse_19 ki_m1 ?_
      exact h_ret hX (rv := some (.int ((-1)))) dX10_refuse_20 trivial (fun h => h)
theorem c_Main_refuse {p0 : Int32} {r : (Int32 × (Nat → Int32))} (h : f_Main_refuse W_refusals p0 = some r) : gMet B 0 yX10_refuse cX10_refuse 2 (some .int) [.ref (aC B 0), .int p0] (wdC B W_spillsNow W_drawn T_length T_at T_bytes D_cells D_clauses G_length G_code A_size A_chosen A_codes A_lengths A_stack Y_cells Y_clauses N_marbles N_chipped N_swallowed N_sweets N_day N_owners P_next P_kept P_hasImage P_image P_acts P_entries P_imageEntries S_fewest S_row S_strengths U_size U_found U_places U_kinds U_holds U_fitting U_tally L_letters L_firstCells L_secondCells L_firstBest L_secondBest W_refusals ++ fr) (some (.int r.1)) (wdC B W_spillsNow W_drawn T_length T_at T_bytes D_cells D_clauses G_length G_code A_size A_chosen A_codes A_lengths A_stack Y_cells Y_clauses N_marbles N_chipped N_swallowed N_sweets N_day N_owners P_next P_kept P_hasImage P_image P_acts P_entries P_imageEntries S_fewest S_row S_strengths U_size U_found U_places U_kinds U_holds U_fitting U_tally L_letters L_firstCells L_secondCells L_firstBest L_secondBest r.2 ++ fr) :=
  gMet.of rfl (Nat.le_of_ble_eq_true rfl) (fun X hX hF => w_Main_refuse hX r h hF)
set_option maxRecDepth 4000 in
theorem w_Now_packed_L38 (hX : gOk B X RX4 cX4_packed 4 0 (some .long)) (s : (Int64 × Int32)) : gH B X (Sum.elim (fun s : (Int64 × Int32) => gG B X 38 [(0, .ref (aC B 16)), (1, .long s.1), (3, .int s.2)] [] (wdC B W_spillsNow W_drawn T_length T_at T_bytes D_cells D_clauses G_length G_code A_size A_chosen A_codes A_lengths A_stack Y_cells Y_clauses N_marbles N_chipped N_swallowed N_sweets N_day N_owners P_next P_kept P_hasImage P_image P_acts P_entries P_imageEntries S_fewest S_row S_strengths U_size U_found U_places U_kinds U_holds U_fitting U_tally L_letters L_firstCells L_secondCells L_firstBest L_secondBest W_refusals ++ fr)) (fun r : Int64 => gFin X (some (.long r)) (wdC B W_spillsNow W_drawn T_length T_at T_bytes D_cells D_clauses G_length G_code A_size A_chosen A_codes A_lengths A_stack Y_cells Y_clauses N_marbles N_chipped N_swallowed N_sweets N_day N_owners P_next P_kept P_hasImage P_image P_acts P_entries P_imageEntries S_fewest S_row S_strengths U_size U_found U_places U_kinds U_holds U_fitting U_tally L_letters L_firstCells L_secondCells L_firstBest L_secondBest W_refusals ++ fr))) 38 [(0, .ref (aC B 16)), (1, .long s.1), (3, .int s.2)] [] (wdC B W_spillsNow W_drawn T_length T_at T_bytes D_cells D_clauses G_length G_code A_size A_chosen A_codes A_lengths A_stack Y_cells Y_clauses N_marbles N_chipped N_swallowed N_sweets N_day N_owners P_next P_kept P_hasImage P_image P_acts P_entries P_imageEntries S_fewest S_row S_strengths U_size U_found U_places U_kinds U_holds U_fitting U_tally L_letters L_firstCells L_secondCells L_firstBest L_secondBest W_refusals ++ fr) (f_Now_packed_L38 N_marbles N_owners s) := by
  unfold f_Now_packed_L38
  refine h_iload_n hX dX4_packed_38 rfl rfl ?_
  refine h_aload_n hX dX4_packed_39 rfl rfl ?_
  refine get_RX4_27_C16 hX dX4_packed_40 ?_
  refine h_icmp_ge hX dX4_packed_43 (tgt := 68) (by decide) (fun _ => ?_) (fun _ => ?_)
  · refine h_lload_n hX dX4_packed_68 rfl rfl ?_
    exact h_ret hX (rv := some (.long s.1)) dX4_packed_69 trivial (fun h => h)
  · refine h_lload_n hX dX4_packed_46 rfl rfl ?_
    refine h_aload_n hX dX4_packed_47 rfl rfl ?_
    refine get_RX4_9_C16 hX dX4_packed_48 ?_
    refine h_iload_n hX dX4_packed_51 rfl rfl ?_
    refine ald_C17 hX dX4_packed_52 ?_
    refine h_iconst hX dX4_packed_53 ki_1 ?_
    refine h_iadd hX dX4_packed_54 ?_
    refine h_i2l hX dX4_packed_55 ?_
    refine h_iconst hX dX4_packed_56 ki_3 ?_
    refine h_iload_n hX dX4_packed_57 rfl rfl ?_
    refine h_imul hX dX4_packed_58 ?_
    refine h_lshl hX dX4_packed_59 ?_
    refine h_lor hX dX4_packed_60 ?_
    refine gH.letl (fun v1_2 => ?_)
    refine h_lstore_n hX dX4_packed_61 rfl (by decide) (lv' := [(0, .ref (aC B 16)), (1, .long v1_2), (3, .int s.2)]) rfl ?_
    refine h_iincc hX dX4_packed_62 rfl ki_1 (by decide) (lv' := [(0, .ref (aC B 16)), (1, .long v1_2), (3, .int (s.2 + 1))]) rfl ?_
    refine h_goto hX dX4_packed_65 (tgt := 38) (by decide) ?_
    exact gH.some' (fun h => h)
set_option maxRecDepth 4000 in
theorem w_Now_packed (hX : gOk B X RX4 cX4_packed 4 0 (some .long)) : gH B X (fun r : Int64 => gFin X (some (.long r)) (wdC B W_spillsNow W_drawn T_length T_at T_bytes D_cells D_clauses G_length G_code A_size A_chosen A_codes A_lengths A_stack Y_cells Y_clauses N_marbles N_chipped N_swallowed N_sweets N_day N_owners P_next P_kept P_hasImage P_image P_acts P_entries P_imageEntries S_fewest S_row S_strengths U_size U_found U_places U_kinds U_holds U_fitting U_tally L_letters L_firstCells L_secondCells L_firstBest L_secondBest W_refusals ++ fr)) 0 [(0, .ref (aC B 16))] [] (wdC B W_spillsNow W_drawn T_length T_at T_bytes D_cells D_clauses G_length G_code A_size A_chosen A_codes A_lengths A_stack Y_cells Y_clauses N_marbles N_chipped N_swallowed N_sweets N_day N_owners P_next P_kept P_hasImage P_image P_acts P_entries P_imageEntries S_fewest S_row S_strengths U_size U_found U_places U_kinds U_holds U_fitting U_tally L_letters L_firstCells L_secondCells L_firstBest L_secondBest W_refusals ++ fr) (f_Now_packed N_marbles N_chipped N_swallowed N_sweets N_day N_owners) := by
  unfold f_Now_packed
  refine h_aload_n hX dX4_packed_0 rfl rfl ?_
  refine get_RX4_46_C16 hX dX4_packed_1 ?_
  refine h_i2l hX dX4_packed_4 ?_
  refine h_bipush hX dX4_packed_5 kb_40 ?_
  refine h_lshl hX dX4_packed_7 ?_
  refine h_aload_n hX dX4_packed_8 rfl rfl ?_
  refine get_RX4_43_C16 hX dX4_packed_9 ?_
  refine h_i2l hX dX4_packed_12 ?_
  refine h_bipush hX dX4_packed_13 kb_30 ?_
  refine h_lshl hX dX4_packed_15 ?_
  refine h_lor hX dX4_packed_16 ?_
  refine h_aload_n hX dX4_packed_17 rfl rfl ?_
  refine get_RX4_37_C16 hX dX4_packed_18 ?_
  refine h_i2l hX dX4_packed_21 ?_
  refine h_bipush hX dX4_packed_22 kb_24 ?_
  refine h_lshl hX dX4_packed_24 ?_
  refine h_lor hX dX4_packed_25 ?_
  refine h_aload_n hX dX4_packed_26 rfl rfl ?_
  refine get_RX4_34_C16 hX dX4_packed_27 ?_
  refine h_i2l hX dX4_packed_30 ?_
  refine h_bipush hX dX4_packed_31 kb_18 ?_
  refine h_lshl hX dX4_packed_33 ?_
  refine h_lor hX dX4_packed_34 ?_
  refine gH.letl (fun v1_1 => ?_)
  refine h_lstore_n hX dX4_packed_35 rfl (by decide) (lv' := [(0, .ref (aC B 16)), (1, .long v1_1)]) rfl ?_
  refine h_iconst hX dX4_packed_36 ki_0 ?_
  refine h_istore_n hX dX4_packed_37 rfl (by decide) (lv' := [(0, .ref (aC B 16)), (1, .long v1_1), (3, .int 0)]) rfl ?_
  exact gH.loop (lvf := fun z : (Int64 × Int32) => [(0, .ref (aC B 16)), (1, .long z.1), (3, .int z.2)]) (wf := fun z : (Int64 × Int32) => wdC B W_spillsNow W_drawn T_length T_at T_bytes D_cells D_clauses G_length G_code A_size A_chosen A_codes A_lengths A_stack Y_cells Y_clauses N_marbles N_chipped N_swallowed N_sweets N_day N_owners P_next P_kept P_hasImage P_image P_acts P_entries P_imageEntries S_fewest S_row S_strengths U_size U_found U_places U_kinds U_holds U_fitting U_tally L_letters L_firstCells L_secondCells L_firstBest L_secondBest W_refusals ++ fr) (fun z => w_Now_packed_L38 hX z) (v1_1, 0)
theorem c_Now_packed {r : Int64} (h : f_Now_packed N_marbles N_chipped N_swallowed N_sweets N_day N_owners = some r) : gMet B 0 yX4_packed cX4_packed 4 (some .long) [.ref (aC B 16)] (wdC B W_spillsNow W_drawn T_length T_at T_bytes D_cells D_clauses G_length G_code A_size A_chosen A_codes A_lengths A_stack Y_cells Y_clauses N_marbles N_chipped N_swallowed N_sweets N_day N_owners P_next P_kept P_hasImage P_image P_acts P_entries P_imageEntries S_fewest S_row S_strengths U_size U_found U_places U_kinds U_holds U_fitting U_tally L_letters L_firstCells L_secondCells L_firstBest L_secondBest W_refusals ++ fr) (some (.long r)) (wdC B W_spillsNow W_drawn T_length T_at T_bytes D_cells D_clauses G_length G_code A_size A_chosen A_codes A_lengths A_stack Y_cells Y_clauses N_marbles N_chipped N_swallowed N_sweets N_day N_owners P_next P_kept P_hasImage P_image P_acts P_entries P_imageEntries S_fewest S_row S_strengths U_size U_found U_places U_kinds U_holds U_fitting U_tally L_letters L_firstCells L_secondCells L_firstBest L_secondBest W_refusals ++ fr) :=
  gMet.of rfl (Nat.le_of_ble_eq_true rfl) (fun X hX hF => w_Now_packed hX r h hF)
set_option maxRecDepth 4000 in
theorem w_Past_remember (hX : gOk B X RX5 cX5_remember 1 1 none) : gH B X (fun r : (Int32 × Int32 × (Nat → Int64)) => gFin X (none) (wdC B W_spillsNow W_drawn T_length T_at T_bytes D_cells D_clauses G_length G_code A_size A_chosen A_codes A_lengths A_stack Y_cells Y_clauses N_marbles N_chipped N_swallowed N_sweets N_day N_owners r.1 r.2.1 P_hasImage P_image r.2.2 P_entries P_imageEntries S_fewest S_row S_strengths U_size U_found U_places U_kinds U_holds U_fitting U_tally L_letters L_firstCells L_secondCells L_firstBest L_secondBest W_refusals ++ fr)) 0 [(0, .ref (aC B 18))] [] (wdC B W_spillsNow W_drawn T_length T_at T_bytes D_cells D_clauses G_length G_code A_size A_chosen A_codes A_lengths A_stack Y_cells Y_clauses N_marbles N_chipped N_swallowed N_sweets N_day N_owners P_next P_kept P_hasImage P_image P_acts P_entries P_imageEntries S_fewest S_row S_strengths U_size U_found U_places U_kinds U_holds U_fitting U_tally L_letters L_firstCells L_secondCells L_firstBest L_secondBest W_refusals ++ fr) (f_Past_remember N_marbles N_chipped N_swallowed N_sweets N_day N_owners P_next P_kept P_acts) := by
  unfold f_Past_remember
  refine h_aload_n hX dX5_remember_0 rfl rfl ?_
  refine get_RX5_9_C18 hX dX5_remember_1 ?_
  refine h_aload_n hX dX5_remember_4 rfl rfl ?_
  refine get_RX5_34_C18 hX dX5_remember_5 ?_
  refine h_aload_n hX dX5_remember_8 rfl rfl ?_
  refine get_RX5_22_C18 hX dX5_remember_9 ?_
  refine h_callVl hX dX5_remember_12 (cv_RX5_37) rc_C16 (As := []) (st := [.int P_next, .ref (aC B 19)]) (fun _ h => c_Now_packed h) rfl rfl (by decide) (Nat.le_of_ble_eq_true rfl) (fun a_1 => ?_)
  refine ast_C19 hX dX5_remember_15 ?_
  refine gH.letw (w := fun y => wdC B W_spillsNow W_drawn T_length T_at T_bytes D_cells D_clauses G_length G_code A_size A_chosen A_codes A_lengths A_stack Y_cells Y_clauses N_marbles N_chipped N_swallowed N_sweets N_day N_owners P_next P_kept P_hasImage P_image y P_entries P_imageEntries S_fewest S_row S_strengths U_size U_found U_places U_kinds U_holds U_fitting U_tally L_letters L_firstCells L_secondCells L_firstBest L_secondBest W_refusals ++ fr) (fun P_acts_2 => ?_)
  refine h_aload_n hX dX5_remember_16 rfl rfl ?_
  refine h_aload_n hX dX5_remember_17 rfl rfl ?_
  refine get_RX5_34_C18 hX dX5_remember_18 ?_
  refine h_iconst hX dX5_remember_21 ki_1 ?_
  refine h_iadd hX dX5_remember_22 ?_
  refine h_bipush hX dX5_remember_23 kb_40 ?_
  refine h_iremc hX dX5_remember_25 (by decide) ?_
  refine put_RX5_34_C18 hX dX5_remember_26 ?_
  refine gH.letw (w := fun y => wdC B W_spillsNow W_drawn T_length T_at T_bytes D_cells D_clauses G_length G_code A_size A_chosen A_codes A_lengths A_stack Y_cells Y_clauses N_marbles N_chipped N_swallowed N_sweets N_day N_owners y P_kept P_hasImage P_image P_acts_2 P_entries P_imageEntries S_fewest S_row S_strengths U_size U_found U_places U_kinds U_holds U_fitting U_tally L_letters L_firstCells L_secondCells L_firstBest L_secondBest W_refusals ++ fr) (fun P_next_3 => ?_)
  refine h_aload_n hX dX5_remember_29 rfl rfl ?_
  refine h_aload_n hX dX5_remember_30 rfl rfl ?_
  refine get_RX5_26_C18 hX dX5_remember_31 ?_
  refine h_iconst hX dX5_remember_34 ki_1 ?_
  refine h_iadd hX dX5_remember_35 ?_
  refine h_bipush hX dX5_remember_36 kb_40 ?_
  refine h_jmin hX dX5_remember_38 cm_RX5_43 (by omega) (Nat.le_of_ble_eq_true rfl) ?_
  refine put_RX5_26_C18 hX dX5_remember_41 ?_
  refine gH.letw (w := fun y => wdC B W_spillsNow W_drawn T_length T_at T_bytes D_cells D_clauses G_length G_code A_size A_chosen A_codes A_lengths A_stack Y_cells Y_clauses N_marbles N_chipped N_swallowed N_sweets N_day N_owners P_next_3 y P_hasImage P_image P_acts_2 P_entries P_imageEntries S_fewest S_row S_strengths U_size U_found U_places U_kinds U_holds U_fitting U_tally L_letters L_firstCells L_secondCells L_firstBest L_secondBest W_refusals ++ fr) (fun P_kept_4 => ?_)
  exact h_ret hX (rv := none) dX5_remember_44 trivial (fun h => h)
theorem c_Past_remember {r : (Int32 × Int32 × (Nat → Int64))} (h : f_Past_remember N_marbles N_chipped N_swallowed N_sweets N_day N_owners P_next P_kept P_acts = some r) : gMet B 1 yX5_remember cX5_remember 1 none [.ref (aC B 18)] (wdC B W_spillsNow W_drawn T_length T_at T_bytes D_cells D_clauses G_length G_code A_size A_chosen A_codes A_lengths A_stack Y_cells Y_clauses N_marbles N_chipped N_swallowed N_sweets N_day N_owners P_next P_kept P_hasImage P_image P_acts P_entries P_imageEntries S_fewest S_row S_strengths U_size U_found U_places U_kinds U_holds U_fitting U_tally L_letters L_firstCells L_secondCells L_firstBest L_secondBest W_refusals ++ fr) (none) (wdC B W_spillsNow W_drawn T_length T_at T_bytes D_cells D_clauses G_length G_code A_size A_chosen A_codes A_lengths A_stack Y_cells Y_clauses N_marbles N_chipped N_swallowed N_sweets N_day N_owners r.1 r.2.1 P_hasImage P_image r.2.2 P_entries P_imageEntries S_fewest S_row S_strengths U_size U_found U_places U_kinds U_holds U_fitting U_tally L_letters L_firstCells L_secondCells L_firstBest L_secondBest W_refusals ++ fr) :=
  gMet.of rfl (Nat.le_of_ble_eq_true rfl) (fun X hX hF => w_Past_remember hX r h hF)
set_option maxRecDepth 4000 in
theorem w_Main_chip_J39 (hX : gOk B X RX10 cX10_chip 2 2 (some .int)) : gH B X (fun r : (Int32 × Int32 × Int32 × Int32 × (Nat → Int64) × (Nat → Int32)) => gFin X (some (.int r.1)) (wdC B W_spillsNow W_drawn T_length T_at T_bytes D_cells D_clauses G_length G_code A_size A_chosen A_codes A_lengths A_stack Y_cells Y_clauses N_marbles r.2.1 N_swallowed N_sweets N_day N_owners r.2.2.1 r.2.2.2.1 P_hasImage P_image r.2.2.2.2.1 P_entries P_imageEntries S_fewest S_row S_strengths U_size U_found U_places U_kinds U_holds U_fitting U_tally L_letters L_firstCells L_secondCells L_firstBest L_secondBest r.2.2.2.2.2 ++ fr)) 39 [(0, .ref (aC B 0))] [] (wdC B W_spillsNow W_drawn T_length T_at T_bytes D_cells D_clauses G_length G_code A_size A_chosen A_codes A_lengths A_stack Y_cells Y_clauses N_marbles N_chipped N_swallowed N_sweets N_day N_owners P_next P_kept P_hasImage P_image P_acts P_entries P_imageEntries S_fewest S_row S_strengths U_size U_found U_places U_kinds U_holds U_fitting U_tally L_letters L_firstCells L_secondCells L_firstBest L_secondBest W_refusals ++ fr) (f_Main_chip_J39 N_chipped P_next P_kept P_acts W_refusals) := by
  unfold f_Main_chip_J39
  refine h_aload_n hX dX10_chip_39 rfl rfl ?_
  refine h_iconst hX dX10_chip_40 ki_2 ?_
  refine h_callVi hX dX10_chip_41 (cv_RX10_217) rc_C0 (As := [.int 2]) (st := []) (fun _ h => c_Main_refuse h) rfl rfl (by decide) (Nat.le_of_ble_eq_true rfl) (fun a_3 => ?_)
  exact h_ret hX (rv := some (.int a_3.1)) dX10_chip_44 trivial (fun h => h)
set_option maxRecDepth 4000 in
theorem w_Main_chip {p0 : Int32} (hX : gOk B X RX10 cX10_chip 2 2 (some .int)) : gH B X (fun r : (Int32 × Int32 × Int32 × Int32 × (Nat → Int64) × (Nat → Int32)) => gFin X (some (.int r.1)) (wdC B W_spillsNow W_drawn T_length T_at T_bytes D_cells D_clauses G_length G_code A_size A_chosen A_codes A_lengths A_stack Y_cells Y_clauses N_marbles r.2.1 N_swallowed N_sweets N_day N_owners r.2.2.1 r.2.2.2.1 P_hasImage P_image r.2.2.2.2.1 P_entries P_imageEntries S_fewest S_row S_strengths U_size U_found U_places U_kinds U_holds U_fitting U_tally L_letters L_firstCells L_secondCells L_firstBest L_secondBest r.2.2.2.2.2 ++ fr)) 0 [(0, .ref (aC B 0)), (1, .int p0)] [] (wdC B W_spillsNow W_drawn T_length T_at T_bytes D_cells D_clauses G_length G_code A_size A_chosen A_codes A_lengths A_stack Y_cells Y_clauses N_marbles N_chipped N_swallowed N_sweets N_day N_owners P_next P_kept P_hasImage P_image P_acts P_entries P_imageEntries S_fewest S_row S_strengths U_size U_found U_places U_kinds U_holds U_fitting U_tally L_letters L_firstCells L_secondCells L_firstBest L_secondBest W_refusals ++ fr) (f_Main_chip Y_clauses N_marbles N_chipped N_swallowed N_sweets N_day N_owners P_next P_kept P_acts W_refusals p0) := by
  unfold f_Main_chip
  refine h_aload_n hX dX10_chip_0 rfl rfl ?_
  refine get_RX10_42_C0 hX dX10_chip_1 ?_
  refine h_iload_n hX dX10_chip_4 rfl rfl ?_
  refine h_callVi hX dX10_chip_5 (cv_RX10_177) rc_C13 (As := [.int p0]) (st := []) (fun _ h => c_Yard_hasMarble h) rfl rfl (by decide) (Nat.le_of_ble_eq_true rfl) (fun a_1 => ?_)
  refine h_if_ne hX dX10_chip_8 (tgt := 17) (by decide) (fun _ => ?_) (fun _ => ?_)
  · refine h_aload_n hX dX10_chip_17 rfl rfl ?_
    refine get_RX10_49_C0 hX dX10_chip_18 ?_
    refine h_iload_n hX dX10_chip_21 rfl rfl ?_
    refine h_callVi hX dX10_chip_22 (cv_RX10_189) rc_C16 (As := [.int p0]) (st := []) (fun _ h => c_Now_isChipped h) rfl rfl (by decide) (Nat.le_of_ble_eq_true rfl) (fun a_2 => ?_)
    refine h_if_ne hX dX10_chip_25 (tgt := 39) (by decide) (fun _ => ?_) (fun _ => ?_)
    · refine gH.dead [0] rfl ?_
      exact w_Main_chip_J39 hX
    · refine h_aload_n hX dX10_chip_28 rfl rfl ?_
      refine get_RX10_49_C0 hX dX10_chip_29 ?_
      refine h_iload_n hX dX10_chip_32 rfl rfl ?_
      refine h_callVi hX dX10_chip_33 (cv_RX10_233) rc_C16 (As := [.int p0]) (st := []) (fun _ h => c_Now_isDrained h) rfl rfl (by decide) (Nat.le_of_ble_eq_true rfl) (fun a_4 => ?_)
      refine h_if_eq hX dX10_chip_36 (tgt := 45) (by decide) (fun _ => ?_) (fun _ => ?_)
      · refine h_aload_n hX dX10_chip_45 rfl rfl ?_
        refine get_RX10_58_C0 hX dX10_chip_46 ?_
        refine h_callVv hX dX10_chip_49 (cv_RX10_220) rc_C18 (As := []) (st := []) (fun _ h => c_Past_remember h) rfl rfl (by decide) (Nat.le_of_ble_eq_true rfl) (fun a_5 => ?_)
        refine h_aload_n hX dX10_chip_52 rfl rfl ?_
        refine get_RX10_49_C0 hX dX10_chip_53 ?_
        refine h_dup hX dX10_chip_56 rfl ?_
        refine get_RX10_236_C16 hX dX10_chip_57 ?_
        refine h_iconst hX dX10_chip_60 ki_1 ?_
        refine h_iload_n hX dX10_chip_61 rfl rfl ?_
        refine h_ishl hX dX10_chip_62 ?_
        refine h_ior hX dX10_chip_63 ?_
        refine put_RX10_236_C16 hX dX10_chip_64 ?_
        refine gH.letw (w := fun y => wdC B W_spillsNow W_drawn T_length T_at T_bytes D_cells D_clauses G_length G_code A_size A_chosen A_codes A_lengths A_stack Y_cells Y_clauses N_marbles y N_swallowed N_sweets N_day N_owners a_5.1 a_5.2.1 P_hasImage P_image a_5.2.2 P_entries P_imageEntries S_fewest S_row S_strengths U_size U_found U_places U_kinds U_holds U_fitting U_tally L_letters L_firstCells L_secondCells L_firstBest L_secondBest W_refusals ++ fr) (fun N_chipped_6 => ?_)
        refine h_aload_n hX dX10_chip_67 rfl rfl ?_
        refine get_RX10_49_C0 hX dX10_chip_68 ?_
        refine get_RX10_236_C16 hX dX10_chip_71 ?_
        refine h_callSi hX dX10_chip_74 (cs_RX10_172) (As := [.int N_chipped_6]) (st := []) (fun _ h => c_J_bitCount h) rfl rfl (by decide) (Nat.le_of_ble_eq_true rfl) (fun a_7 => ?_)
        exact h_ret hX (rv := some (.int a_7)) dX10_chip_77 trivial (fun h => h)
      · refine gH.dead [0] rfl ?_
        exact w_Main_chip_J39 hX
  · refine h_aload_n hX dX10_chip_11 rfl rfl ?_
    refine h_iconst hX dX10_chip_12 ki_0 ?_
    refine h_callVi hX dX10_chip_13 (cv_RX10_217) rc_C0 (As := [.int 0]) (st := []) (fun _ h => c_Main_refuse h) rfl rfl (by decide) (Nat.le_of_ble_eq_true rfl) (fun a_8 => ?_)
    exact h_ret hX (rv := some (.int a_8.1)) dX10_chip_16 trivial (fun h => h)
theorem c_Main_chip {p0 : Int32} {r : (Int32 × Int32 × Int32 × Int32 × (Nat → Int64) × (Nat → Int32))} (h : f_Main_chip Y_clauses N_marbles N_chipped N_swallowed N_sweets N_day N_owners P_next P_kept P_acts W_refusals p0 = some r) : gMet B 2 yX10_chip cX10_chip 2 (some .int) [.ref (aC B 0), .int p0] (wdC B W_spillsNow W_drawn T_length T_at T_bytes D_cells D_clauses G_length G_code A_size A_chosen A_codes A_lengths A_stack Y_cells Y_clauses N_marbles N_chipped N_swallowed N_sweets N_day N_owners P_next P_kept P_hasImage P_image P_acts P_entries P_imageEntries S_fewest S_row S_strengths U_size U_found U_places U_kinds U_holds U_fitting U_tally L_letters L_firstCells L_secondCells L_firstBest L_secondBest W_refusals ++ fr) (some (.int r.1)) (wdC B W_spillsNow W_drawn T_length T_at T_bytes D_cells D_clauses G_length G_code A_size A_chosen A_codes A_lengths A_stack Y_cells Y_clauses N_marbles r.2.1 N_swallowed N_sweets N_day N_owners r.2.2.1 r.2.2.2.1 P_hasImage P_image r.2.2.2.2.1 P_entries P_imageEntries S_fewest S_row S_strengths U_size U_found U_places U_kinds U_holds U_fitting U_tally L_letters L_firstCells L_secondCells L_firstBest L_secondBest r.2.2.2.2.2 ++ fr) :=
  gMet.of rfl (Nat.le_of_ble_eq_true rfl) (fun X hX hF => w_Main_chip hX r h hF)
set_option maxRecDepth 4000 in
theorem w_Sky_contentBits_J46 {v2 : Int32} {k0 : Int32} {k1 : Int32} (hX : gOk B X RX6 cX6_contentBits 3 2 (some .int)) : gH B X (Sum.elim (fun s : (Int32 × Int32) => gG B X 4 [(0, .ref (aC B 22)), (1, .int s.1), (2, .int s.2)] [] (wdC B W_spillsNow W_drawn T_length T_at T_bytes D_cells D_clauses G_length G_code A_size A_chosen A_codes A_lengths A_stack Y_cells Y_clauses N_marbles N_chipped N_swallowed N_sweets N_day N_owners P_next P_kept P_hasImage P_image P_acts P_entries P_imageEntries S_fewest S_row S_strengths U_size U_found U_places U_kinds U_holds U_fitting U_tally L_letters L_firstCells L_secondCells L_firstBest L_secondBest W_refusals ++ fr)) (fun r : Int32 => gFin X (some (.int r)) (wdC B W_spillsNow W_drawn T_length T_at T_bytes D_cells D_clauses G_length G_code A_size A_chosen A_codes A_lengths A_stack Y_cells Y_clauses N_marbles N_chipped N_swallowed N_sweets N_day N_owners P_next P_kept P_hasImage P_image P_acts P_entries P_imageEntries S_fewest S_row S_strengths U_size U_found U_places U_kinds U_holds U_fitting U_tally L_letters L_firstCells L_secondCells L_firstBest L_secondBest W_refusals ++ fr))) 46 [(0, .ref (aC B 22)), (2, .int v2)] [.int k1, .int k0] (wdC B W_spillsNow W_drawn T_length T_at T_bytes D_cells D_clauses G_length G_code A_size A_chosen A_codes A_lengths A_stack Y_cells Y_clauses N_marbles N_chipped N_swallowed N_sweets N_day N_owners P_next P_kept P_hasImage P_image P_acts P_entries P_imageEntries S_fewest S_row S_strengths U_size U_found U_places U_kinds U_holds U_fitting U_tally L_letters L_firstCells L_secondCells L_firstBest L_secondBest W_refusals ++ fr) (f_Sky_contentBits_J46 v2 k0 k1) := by
  unfold f_Sky_contentBits_J46
  refine h_ior hX dX6_contentBits_46 ?_
  refine gH.leti (fun v1_5 => ?_)
  refine h_istore_n hX dX6_contentBits_47 rfl (by decide) (lv' := [(0, .ref (aC B 22)), (1, .int v1_5), (2, .int v2)]) rfl ?_
  refine h_iincc hX dX6_contentBits_48 rfl ki_1 (by decide) (lv' := [(0, .ref (aC B 22)), (1, .int v1_5), (2, .int (v2 + 1))]) rfl ?_
  refine h_goto hX dX6_contentBits_51 (tgt := 4) (by decide) ?_
  exact gH.some' (fun h => h)
set_option maxRecDepth 4000 in
theorem w_Sky_contentBits_L4 (hX : gOk B X RX6 cX6_contentBits 3 2 (some .int)) (s : (Int32 × Int32)) : gH B X (Sum.elim (fun s : (Int32 × Int32) => gG B X 4 [(0, .ref (aC B 22)), (1, .int s.1), (2, .int s.2)] [] (wdC B W_spillsNow W_drawn T_length T_at T_bytes D_cells D_clauses G_length G_code A_size A_chosen A_codes A_lengths A_stack Y_cells Y_clauses N_marbles N_chipped N_swallowed N_sweets N_day N_owners P_next P_kept P_hasImage P_image P_acts P_entries P_imageEntries S_fewest S_row S_strengths U_size U_found U_places U_kinds U_holds U_fitting U_tally L_letters L_firstCells L_secondCells L_firstBest L_secondBest W_refusals ++ fr)) (fun r : Int32 => gFin X (some (.int r)) (wdC B W_spillsNow W_drawn T_length T_at T_bytes D_cells D_clauses G_length G_code A_size A_chosen A_codes A_lengths A_stack Y_cells Y_clauses N_marbles N_chipped N_swallowed N_sweets N_day N_owners P_next P_kept P_hasImage P_image P_acts P_entries P_imageEntries S_fewest S_row S_strengths U_size U_found U_places U_kinds U_holds U_fitting U_tally L_letters L_firstCells L_secondCells L_firstBest L_secondBest W_refusals ++ fr))) 4 [(0, .ref (aC B 22)), (1, .int s.1), (2, .int s.2)] [] (wdC B W_spillsNow W_drawn T_length T_at T_bytes D_cells D_clauses G_length G_code A_size A_chosen A_codes A_lengths A_stack Y_cells Y_clauses N_marbles N_chipped N_swallowed N_sweets N_day N_owners P_next P_kept P_hasImage P_image P_acts P_entries P_imageEntries S_fewest S_row S_strengths U_size U_found U_places U_kinds U_holds U_fitting U_tally L_letters L_firstCells L_secondCells L_firstBest L_secondBest W_refusals ++ fr) (f_Sky_contentBits_L4 Y_cells Y_clauses S_strengths s) := by
  unfold f_Sky_contentBits_L4
  refine h_iload_n hX dX6_contentBits_4 rfl rfl ?_
  refine h_aload_n hX dX6_contentBits_5 rfl rfl ?_
  refine get_RX6_15_C22 hX dX6_contentBits_6 ?_
  refine h_callVi hX dX6_contentBits_9 (cv_RX6_69) rc_C13 (As := []) (st := [.int s.2]) (fun _ h => c_Yard_farms h) rfl rfl (by decide) (Nat.le_of_ble_eq_true rfl) (fun a_1 => ?_)
  refine h_icmp_ge hX dX6_contentBits_12 (tgt := 54) (by decide) (fun _ => ?_) (fun _ => ?_)
  · refine h_iload_n hX dX6_contentBits_54 rfl rfl ?_
    exact h_ret hX (rv := some (.int s.1)) dX6_contentBits_55 trivial (fun h => h)
  · refine h_iload_n hX dX6_contentBits_15 rfl rfl ?_
    refine h_aload_n hX dX6_contentBits_16 rfl rfl ?_
    refine h_aload_n hX dX6_contentBits_17 rfl rfl ?_
    refine get_RX6_15_C22 hX dX6_contentBits_18 ?_
    refine h_iload_n hX dX6_contentBits_21 rfl rfl ?_
    refine h_callVi hX dX6_contentBits_22 (cv_RX6_72) rc_C13 (As := [.int s.2]) (st := [.ref (aC B 22), .int s.1]) (fun _ h => c_Yard_farmPlace h) rfl rfl (by decide) (Nat.le_of_ble_eq_true rfl) (fun a_2 => ?_)
    refine h_callVi hX dX6_contentBits_25 (cv_RX6_75) rc_C22 (As := [.int a_2]) (st := [.int s.1]) (fun _ h => c_Sky_strongestKind h) rfl rfl (by decide) (Nat.le_of_ble_eq_true rfl) (fun a_3 => ?_)
    refine h_aload_n hX dX6_contentBits_28 rfl rfl ?_
    refine get_RX6_15_C22 hX dX6_contentBits_29 ?_
    refine h_iload_n hX dX6_contentBits_32 rfl rfl ?_
    refine h_callVi hX dX6_contentBits_33 (cv_RX6_78) rc_C13 (As := [.int s.2]) (st := [.int a_3, .int s.1]) (fun _ h => c_Yard_wanted h) rfl rfl (by decide) (Nat.le_of_ble_eq_true rfl) (fun a_4 => ?_)
    refine h_icmp_ne hX dX6_contentBits_36 (tgt := 45) (by decide) (fun _ => ?_) (fun _ => ?_)
    · refine h_iconst hX dX6_contentBits_45 ki_0 ?_
      refine gH.dead [0, 2] rfl ?_
      exact w_Sky_contentBits_J46 hX
    · refine h_iconst hX dX6_contentBits_39 ki_1 ?_
      refine h_iload_n hX dX6_contentBits_40 rfl rfl ?_
      refine h_ishl hX dX6_contentBits_41 ?_
      refine h_goto hX dX6_contentBits_42 (tgt := 46) (by decide) ?_
      refine gH.dead [0, 2] rfl ?_
      exact w_Sky_contentBits_J46 hX
set_option maxRecDepth 4000 in
theorem w_Sky_contentBits (hX : gOk B X RX6 cX6_contentBits 3 2 (some .int)) : gH B X (fun r : Int32 => gFin X (some (.int r)) (wdC B W_spillsNow W_drawn T_length T_at T_bytes D_cells D_clauses G_length G_code A_size A_chosen A_codes A_lengths A_stack Y_cells Y_clauses N_marbles N_chipped N_swallowed N_sweets N_day N_owners P_next P_kept P_hasImage P_image P_acts P_entries P_imageEntries S_fewest S_row S_strengths U_size U_found U_places U_kinds U_holds U_fitting U_tally L_letters L_firstCells L_secondCells L_firstBest L_secondBest W_refusals ++ fr)) 0 [(0, .ref (aC B 22))] [] (wdC B W_spillsNow W_drawn T_length T_at T_bytes D_cells D_clauses G_length G_code A_size A_chosen A_codes A_lengths A_stack Y_cells Y_clauses N_marbles N_chipped N_swallowed N_sweets N_day N_owners P_next P_kept P_hasImage P_image P_acts P_entries P_imageEntries S_fewest S_row S_strengths U_size U_found U_places U_kinds U_holds U_fitting U_tally L_letters L_firstCells L_secondCells L_firstBest L_secondBest W_refusals ++ fr) (f_Sky_contentBits Y_cells Y_clauses S_strengths) := by
  unfold f_Sky_contentBits
  refine h_iconst hX dX6_contentBits_0 ki_0 ?_
  refine h_istore_n hX dX6_contentBits_1 rfl (by decide) (lv' := [(0, .ref (aC B 22)), (1, .int 0)]) rfl ?_
  refine h_iconst hX dX6_contentBits_2 ki_0 ?_
  refine h_istore_n hX dX6_contentBits_3 rfl (by decide) (lv' := [(0, .ref (aC B 22)), (1, .int 0), (2, .int 0)]) rfl ?_
  exact gH.loop (lvf := fun z : (Int32 × Int32) => [(0, .ref (aC B 22)), (1, .int z.1), (2, .int z.2)]) (wf := fun z : (Int32 × Int32) => wdC B W_spillsNow W_drawn T_length T_at T_bytes D_cells D_clauses G_length G_code A_size A_chosen A_codes A_lengths A_stack Y_cells Y_clauses N_marbles N_chipped N_swallowed N_sweets N_day N_owners P_next P_kept P_hasImage P_image P_acts P_entries P_imageEntries S_fewest S_row S_strengths U_size U_found U_places U_kinds U_holds U_fitting U_tally L_letters L_firstCells L_secondCells L_firstBest L_secondBest W_refusals ++ fr) (fun z => w_Sky_contentBits_L4 hX z) (0, 0)
theorem c_Sky_contentBits {r : Int32} (h : f_Sky_contentBits Y_cells Y_clauses S_strengths = some r) : gMet B 2 yX6_contentBits cX6_contentBits 3 (some .int) [.ref (aC B 22)] (wdC B W_spillsNow W_drawn T_length T_at T_bytes D_cells D_clauses G_length G_code A_size A_chosen A_codes A_lengths A_stack Y_cells Y_clauses N_marbles N_chipped N_swallowed N_sweets N_day N_owners P_next P_kept P_hasImage P_image P_acts P_entries P_imageEntries S_fewest S_row S_strengths U_size U_found U_places U_kinds U_holds U_fitting U_tally L_letters L_firstCells L_secondCells L_firstBest L_secondBest W_refusals ++ fr) (some (.int r)) (wdC B W_spillsNow W_drawn T_length T_at T_bytes D_cells D_clauses G_length G_code A_size A_chosen A_codes A_lengths A_stack Y_cells Y_clauses N_marbles N_chipped N_swallowed N_sweets N_day N_owners P_next P_kept P_hasImage P_image P_acts P_entries P_imageEntries S_fewest S_row S_strengths U_size U_found U_places U_kinds U_holds U_fitting U_tally L_letters L_firstCells L_secondCells L_firstBest L_secondBest W_refusals ++ fr) :=
  gMet.of rfl (Nat.le_of_ble_eq_true rfl) (fun X hX hF => w_Sky_contentBits hX r h hF)
set_option maxRecDepth 4000 in
theorem w_Main_contentNow (hX : gOk B X RX10 cX10_contentNow 1 4 (some .int)) : gH B X (fun r : (Int32 × (Nat → Int32)) => gFin X (some (.int r.1)) (wdC B W_spillsNow W_drawn T_length T_at T_bytes D_cells D_clauses G_length G_code A_size A_chosen A_codes A_lengths A_stack Y_cells Y_clauses N_marbles N_chipped N_swallowed N_sweets N_day N_owners P_next P_kept P_hasImage P_image P_acts P_entries P_imageEntries S_fewest S_row r.2 U_size U_found U_places U_kinds U_holds U_fitting U_tally L_letters L_firstCells L_secondCells L_firstBest L_secondBest W_refusals ++ fr)) 0 [(0, .ref (aC B 0))] [] (wdC B W_spillsNow W_drawn T_length T_at T_bytes D_cells D_clauses G_length G_code A_size A_chosen A_codes A_lengths A_stack Y_cells Y_clauses N_marbles N_chipped N_swallowed N_sweets N_day N_owners P_next P_kept P_hasImage P_image P_acts P_entries P_imageEntries S_fewest S_row S_strengths U_size U_found U_places U_kinds U_holds U_fitting U_tally L_letters L_firstCells L_secondCells L_firstBest L_secondBest W_refusals ++ fr) (f_Main_contentNow Y_cells Y_clauses N_marbles N_chipped N_owners S_strengths) := by
  unfold f_Main_contentNow
  refine h_aload_n hX dX10_contentNow_0 rfl rfl ?_
  refine get_RX10_67_C0 hX dX10_contentNow_1 ?_
  refine h_callVv hX dX10_contentNow_4 (cv_RX10_296) rc_C22 (As := []) (st := []) (fun _ h => c_Sky_measure h) rfl rfl (by decide) (Nat.le_of_ble_eq_true rfl) (fun a_1 => ?_)
  refine h_aload_n hX dX10_contentNow_7 rfl rfl ?_
  refine get_RX10_67_C0 hX dX10_contentNow_8 ?_
  refine h_callVi hX dX10_contentNow_11 (cv_RX10_373) rc_C22 (As := []) (st := []) (fun _ h => c_Sky_contentBits h) rfl rfl (by decide) (Nat.le_of_ble_eq_true rfl) (fun a_2 => ?_)
  exact h_ret hX (rv := some (.int a_2)) dX10_contentNow_14 trivial (fun h => h)
theorem c_Main_contentNow {r : (Int32 × (Nat → Int32))} (h : f_Main_contentNow Y_cells Y_clauses N_marbles N_chipped N_owners S_strengths = some r) : gMet B 4 yX10_contentNow cX10_contentNow 1 (some .int) [.ref (aC B 0)] (wdC B W_spillsNow W_drawn T_length T_at T_bytes D_cells D_clauses G_length G_code A_size A_chosen A_codes A_lengths A_stack Y_cells Y_clauses N_marbles N_chipped N_swallowed N_sweets N_day N_owners P_next P_kept P_hasImage P_image P_acts P_entries P_imageEntries S_fewest S_row S_strengths U_size U_found U_places U_kinds U_holds U_fitting U_tally L_letters L_firstCells L_secondCells L_firstBest L_secondBest W_refusals ++ fr) (some (.int r.1)) (wdC B W_spillsNow W_drawn T_length T_at T_bytes D_cells D_clauses G_length G_code A_size A_chosen A_codes A_lengths A_stack Y_cells Y_clauses N_marbles N_chipped N_swallowed N_sweets N_day N_owners P_next P_kept P_hasImage P_image P_acts P_entries P_imageEntries S_fewest S_row r.2 U_size U_found U_places U_kinds U_holds U_fitting U_tally L_letters L_firstCells L_secondCells L_firstBest L_secondBest W_refusals ++ fr) :=
  gMet.of rfl (Nat.le_of_ble_eq_true rfl) (fun X hX hF => w_Main_contentNow hX r h hF)
set_option maxRecDepth 4000 in
theorem w_Main_corner_J81 {v1 : Int32} {v2 : Int32} {v3 : Int32} (hX : gOk B X RX10 cX10_corner 4 2 (some .int)) : gH B X (Sum.elim (fun s : (Int32 × Int32) => gG B X 16 [(0, .ref (aC B 0)), (1, .int v1), (2, .int s.1), (3, .int s.2)] [] (wdC B W_spillsNow W_drawn T_length T_at T_bytes D_cells D_clauses G_length G_code A_size A_chosen A_codes A_lengths A_stack Y_cells Y_clauses N_marbles N_chipped N_swallowed N_sweets N_day N_owners P_next P_kept P_hasImage P_image P_acts P_entries P_imageEntries S_fewest S_row S_strengths U_size U_found U_places U_kinds U_holds U_fitting U_tally L_letters L_firstCells L_secondCells L_firstBest L_secondBest W_refusals ++ fr)) (fun r : Int32 => gFin X (some (.int r)) (wdC B W_spillsNow W_drawn T_length T_at T_bytes D_cells D_clauses G_length G_code A_size A_chosen A_codes A_lengths A_stack Y_cells Y_clauses N_marbles N_chipped N_swallowed N_sweets N_day N_owners P_next P_kept P_hasImage P_image P_acts P_entries P_imageEntries S_fewest S_row S_strengths U_size U_found U_places U_kinds U_holds U_fitting U_tally L_letters L_firstCells L_secondCells L_firstBest L_secondBest W_refusals ++ fr))) 81 [(0, .ref (aC B 0)), (1, .int v1), (2, .int v2), (3, .int v3)] [] (wdC B W_spillsNow W_drawn T_length T_at T_bytes D_cells D_clauses G_length G_code A_size A_chosen A_codes A_lengths A_stack Y_cells Y_clauses N_marbles N_chipped N_swallowed N_sweets N_day N_owners P_next P_kept P_hasImage P_image P_acts P_entries P_imageEntries S_fewest S_row S_strengths U_size U_found U_places U_kinds U_holds U_fitting U_tally L_letters L_firstCells L_secondCells L_firstBest L_secondBest W_refusals ++ fr) (f_Main_corner_J81 v2 v3) := by
  unfold f_Main_corner_J81
  refine h_iincc hX dX10_corner_81 rfl ki_1 (by decide) (lv' := [(0, .ref (aC B 0)), (1, .int v1), (2, .int v2), (3, .int (v3 + 1))]) rfl ?_
  refine h_goto hX dX10_corner_84 (tgt := 16) (by decide) ?_
  exact gH.some' (fun h => h)
set_option maxRecDepth 4000 in
theorem w_Main_corner_J72 {v1 : Int32} {v3 : Int32} (hX : gOk B X RX10 cX10_corner 4 2 (some .int)) : gH B X (Sum.elim (fun s : (Int32 × Int32) => gG B X 16 [(0, .ref (aC B 0)), (1, .int v1), (2, .int s.1), (3, .int s.2)] [] (wdC B W_spillsNow W_drawn T_length T_at T_bytes D_cells D_clauses G_length G_code A_size A_chosen A_codes A_lengths A_stack Y_cells Y_clauses N_marbles N_chipped N_swallowed N_sweets N_day N_owners P_next P_kept P_hasImage P_image P_acts P_entries P_imageEntries S_fewest S_row S_strengths U_size U_found U_places U_kinds U_holds U_fitting U_tally L_letters L_firstCells L_secondCells L_firstBest L_secondBest W_refusals ++ fr)) (fun r : Int32 => gFin X (some (.int r)) (wdC B W_spillsNow W_drawn T_length T_at T_bytes D_cells D_clauses G_length G_code A_size A_chosen A_codes A_lengths A_stack Y_cells Y_clauses N_marbles N_chipped N_swallowed N_sweets N_day N_owners P_next P_kept P_hasImage P_image P_acts P_entries P_imageEntries S_fewest S_row S_strengths U_size U_found U_places U_kinds U_holds U_fitting U_tally L_letters L_firstCells L_secondCells L_firstBest L_secondBest W_refusals ++ fr))) 72 [(0, .ref (aC B 0)), (1, .int v1), (3, .int v3)] [] (wdC B W_spillsNow W_drawn T_length T_at T_bytes D_cells D_clauses G_length G_code A_size A_chosen A_codes A_lengths A_stack Y_cells Y_clauses N_marbles N_chipped N_swallowed N_sweets N_day N_owners P_next P_kept P_hasImage P_image P_acts P_entries P_imageEntries S_fewest S_row S_strengths U_size U_found U_places U_kinds U_holds U_fitting U_tally L_letters L_firstCells L_secondCells L_firstBest L_secondBest W_refusals ++ fr) (f_Main_corner_J72 N_marbles N_owners v3) := by
  unfold f_Main_corner_J72
  refine h_aload_n hX dX10_corner_72 rfl rfl ?_
  refine get_RX10_49_C0 hX dX10_corner_73 ?_
  refine h_iload_n hX dX10_corner_76 rfl rfl ?_
  refine h_callVi hX dX10_corner_77 (cv_RX10_181) rc_C16 (As := [.int v3]) (st := []) (fun _ h => c_Now_ownerOf h) rfl rfl (by decide) (Nat.le_of_ble_eq_true rfl) (fun a_5 => ?_)
  refine h_istore_n hX dX10_corner_80 rfl (by decide) (lv' := [(0, .ref (aC B 0)), (1, .int v1), (2, .int a_5), (3, .int v3)]) rfl ?_
  exact w_Main_corner_J81 hX
set_option maxRecDepth 4000 in
theorem w_Main_corner_L16 {v1 : Int32} (hX : gOk B X RX10 cX10_corner 4 2 (some .int)) (s : (Int32 × Int32)) : gH B X (Sum.elim (fun s : (Int32 × Int32) => gG B X 16 [(0, .ref (aC B 0)), (1, .int v1), (2, .int s.1), (3, .int s.2)] [] (wdC B W_spillsNow W_drawn T_length T_at T_bytes D_cells D_clauses G_length G_code A_size A_chosen A_codes A_lengths A_stack Y_cells Y_clauses N_marbles N_chipped N_swallowed N_sweets N_day N_owners P_next P_kept P_hasImage P_image P_acts P_entries P_imageEntries S_fewest S_row S_strengths U_size U_found U_places U_kinds U_holds U_fitting U_tally L_letters L_firstCells L_secondCells L_firstBest L_secondBest W_refusals ++ fr)) (fun r : Int32 => gFin X (some (.int r)) (wdC B W_spillsNow W_drawn T_length T_at T_bytes D_cells D_clauses G_length G_code A_size A_chosen A_codes A_lengths A_stack Y_cells Y_clauses N_marbles N_chipped N_swallowed N_sweets N_day N_owners P_next P_kept P_hasImage P_image P_acts P_entries P_imageEntries S_fewest S_row S_strengths U_size U_found U_places U_kinds U_holds U_fitting U_tally L_letters L_firstCells L_secondCells L_firstBest L_secondBest W_refusals ++ fr))) 16 [(0, .ref (aC B 0)), (1, .int v1), (2, .int s.1), (3, .int s.2)] [] (wdC B W_spillsNow W_drawn T_length T_at T_bytes D_cells D_clauses G_length G_code A_size A_chosen A_codes A_lengths A_stack Y_cells Y_clauses N_marbles N_chipped N_swallowed N_sweets N_day N_owners P_next P_kept P_hasImage P_image P_acts P_entries P_imageEntries S_fewest S_row S_strengths U_size U_found U_places U_kinds U_holds U_fitting U_tally L_letters L_firstCells L_secondCells L_firstBest L_secondBest W_refusals ++ fr) (f_Main_corner_L16 Y_cells Y_clauses N_marbles N_owners v1 s) := by
  unfold f_Main_corner_L16
  refine h_iload_n hX dX10_corner_16 rfl rfl ?_
  refine h_aload_n hX dX10_corner_17 rfl rfl ?_
  refine get_RX10_42_C0 hX dX10_corner_18 ?_
  refine h_callVi hX dX10_corner_21 (cv_RX10_131) rc_C13 (As := []) (st := [.int s.2]) (fun _ h => c_Yard_marbles h) rfl rfl (by decide) (Nat.le_of_ble_eq_true rfl) (fun a_1 => ?_)
  refine h_icmp_ge hX dX10_corner_24 (tgt := 87) (by decide) (fun _ => ?_) (fun _ => ?_)
  · refine h_iload_n hX dX10_corner_87 rfl rfl ?_
    exact h_ret hX (rv := some (.int s.1)) dX10_corner_88 trivial (fun h => h)
  · refine h_aload_n hX dX10_corner_27 rfl rfl ?_
    refine get_RX10_42_C0 hX dX10_corner_28 ?_
    refine h_iload_n hX dX10_corner_31 rfl rfl ?_
    refine h_callVi hX dX10_corner_32 (cv_RX10_184) rc_C13 (As := [.int s.2]) (st := []) (fun _ h => c_Yard_kind h) rfl rfl (by decide) (Nat.le_of_ble_eq_true rfl) (fun a_2 => ?_)
    refine h_iload_n hX dX10_corner_35 rfl rfl ?_
    refine h_icmp_ne hX dX10_corner_36 (tgt := 81) (by decide) (fun _ => ?_) (fun _ => ?_)
    · exact w_Main_corner_J81 hX
    · refine h_aload_n hX dX10_corner_39 rfl rfl ?_
      refine get_RX10_49_C0 hX dX10_corner_40 ?_
      refine h_iload_n hX dX10_corner_43 rfl rfl ?_
      refine h_callVi hX dX10_corner_44 (cv_RX10_233) rc_C16 (As := [.int s.2]) (st := []) (fun _ h => c_Now_isDrained h) rfl rfl (by decide) (Nat.le_of_ble_eq_true rfl) (fun a_4 => ?_)
      refine h_if_eq hX dX10_corner_47 (tgt := 53) (by decide) (fun _ => ?_) (fun _ => ?_)
      · refine h_iload_n hX dX10_corner_53 rfl rfl ?_
        refine h_iconst hX dX10_corner_54 ki_m1 ?_
        refine h_icmp_eq hX dX10_corner_55 (tgt := 72) (by decide) (fun _ => ?_) (fun _ => ?_)
        · refine gH.dead [0, 1, 3] rfl ?_
          exact w_Main_corner_J72 hX
        · refine h_iload_n hX dX10_corner_58 rfl rfl ?_
          refine h_aload_n hX dX10_corner_59 rfl rfl ?_
          refine get_RX10_49_C0 hX dX10_corner_60 ?_
          refine h_iload_n hX dX10_corner_63 rfl rfl ?_
          refine h_callVi hX dX10_corner_64 (cv_RX10_181) rc_C16 (As := [.int s.2]) (st := [.int s.1]) (fun _ h => c_Now_ownerOf h) rfl rfl (by decide) (Nat.le_of_ble_eq_true rfl) (fun a_6 => ?_)
          refine h_icmp_eq hX dX10_corner_67 (tgt := 72) (by decide) (fun _ => ?_) (fun _ => ?_)
          · refine gH.dead [0, 1, 3] rfl ?_
            exact w_Main_corner_J72 hX
          · refine h_iconst hX dX10_corner_70 ki_m1 ?_
            exact h_ret hX (rv := some (.int ((-1)))) dX10_corner_71 trivial (fun h => h)
      · refine h_goto hX dX10_corner_50 (tgt := 81) (by decide) ?_
        exact w_Main_corner_J81 hX
set_option maxRecDepth 4000 in
theorem w_Main_corner {p0 : Int32} (hX : gOk B X RX10 cX10_corner 4 2 (some .int)) : gH B X (fun r : Int32 => gFin X (some (.int r)) (wdC B W_spillsNow W_drawn T_length T_at T_bytes D_cells D_clauses G_length G_code A_size A_chosen A_codes A_lengths A_stack Y_cells Y_clauses N_marbles N_chipped N_swallowed N_sweets N_day N_owners P_next P_kept P_hasImage P_image P_acts P_entries P_imageEntries S_fewest S_row S_strengths U_size U_found U_places U_kinds U_holds U_fitting U_tally L_letters L_firstCells L_secondCells L_firstBest L_secondBest W_refusals ++ fr)) 0 [(0, .ref (aC B 0)), (1, .int p0)] [] (wdC B W_spillsNow W_drawn T_length T_at T_bytes D_cells D_clauses G_length G_code A_size A_chosen A_codes A_lengths A_stack Y_cells Y_clauses N_marbles N_chipped N_swallowed N_sweets N_day N_owners P_next P_kept P_hasImage P_image P_acts P_entries P_imageEntries S_fewest S_row S_strengths U_size U_found U_places U_kinds U_holds U_fitting U_tally L_letters L_firstCells L_secondCells L_firstBest L_secondBest W_refusals ++ fr) (f_Main_corner Y_cells Y_clauses N_marbles N_owners p0) := by
  unfold f_Main_corner
  refine h_iload_n hX dX10_corner_0 rfl rfl ?_
  refine h_if_lt hX dX10_corner_1 (tgt := 10) (by decide) (fun _ => ?_) (fun _ => ?_)
  · refine h_iconst hX dX10_corner_10 ki_m1 ?_
    exact h_ret hX (rv := some (.int ((-1)))) dX10_corner_11 trivial (fun h => h)
  · refine h_iload_n hX dX10_corner_4 rfl rfl ?_
    refine h_bipush hX dX10_corner_5 kb_6 ?_
    refine h_icmp_lt hX dX10_corner_7 (tgt := 12) (by decide) (fun _ => ?_) (fun _ => ?_)
    · refine h_iconst hX dX10_corner_12 ki_m1 ?_
      refine h_istore_n hX dX10_corner_13 rfl (by decide) (lv' := [(0, .ref (aC B 0)), (1, .int p0), (2, .int ((-1)))]) rfl ?_
      refine h_iconst hX dX10_corner_14 ki_0 ?_
      refine h_istore_n hX dX10_corner_15 rfl (by decide) (lv' := [(0, .ref (aC B 0)), (1, .int p0), (2, .int ((-1))), (3, .int 0)]) rfl ?_
      exact gH.loop (lvf := fun z : (Int32 × Int32) => [(0, .ref (aC B 0)), (1, .int p0), (2, .int z.1), (3, .int z.2)]) (wf := fun z : (Int32 × Int32) => wdC B W_spillsNow W_drawn T_length T_at T_bytes D_cells D_clauses G_length G_code A_size A_chosen A_codes A_lengths A_stack Y_cells Y_clauses N_marbles N_chipped N_swallowed N_sweets N_day N_owners P_next P_kept P_hasImage P_image P_acts P_entries P_imageEntries S_fewest S_row S_strengths U_size U_found U_places U_kinds U_holds U_fitting U_tally L_letters L_firstCells L_secondCells L_firstBest L_secondBest W_refusals ++ fr) (fun z => w_Main_corner_L16 hX z) ((-1), 0)
    · refine h_iconst hX dX10_corner_10 ki_m1 ?_
      exact h_ret hX (rv := some (.int ((-1)))) dX10_corner_11 trivial (fun h => h)
theorem c_Main_corner {p0 : Int32} {r : Int32} (h : f_Main_corner Y_cells Y_clauses N_marbles N_owners p0 = some r) : gMet B 2 yX10_corner cX10_corner 4 (some .int) [.ref (aC B 0), .int p0] (wdC B W_spillsNow W_drawn T_length T_at T_bytes D_cells D_clauses G_length G_code A_size A_chosen A_codes A_lengths A_stack Y_cells Y_clauses N_marbles N_chipped N_swallowed N_sweets N_day N_owners P_next P_kept P_hasImage P_image P_acts P_entries P_imageEntries S_fewest S_row S_strengths U_size U_found U_places U_kinds U_holds U_fitting U_tally L_letters L_firstCells L_secondCells L_firstBest L_secondBest W_refusals ++ fr) (some (.int r)) (wdC B W_spillsNow W_drawn T_length T_at T_bytes D_cells D_clauses G_length G_code A_size A_chosen A_codes A_lengths A_stack Y_cells Y_clauses N_marbles N_chipped N_swallowed N_sweets N_day N_owners P_next P_kept P_hasImage P_image P_acts P_entries P_imageEntries S_fewest S_row S_strengths U_size U_found U_places U_kinds U_holds U_fitting U_tally L_letters L_firstCells L_secondCells L_firstBest L_secondBest W_refusals ++ fr) :=
  gMet.of rfl (Nat.le_of_ble_eq_true rfl) (fun X hX hF => w_Main_corner hX r h hF)
set_option maxRecDepth 4000 in
theorem w_Past_undoable (hX : gOk B X RX5 cX5_undoable 1 0 (some .int)) : gH B X (fun r : Int32 => gFin X (some (.int r)) (wdC B W_spillsNow W_drawn T_length T_at T_bytes D_cells D_clauses G_length G_code A_size A_chosen A_codes A_lengths A_stack Y_cells Y_clauses N_marbles N_chipped N_swallowed N_sweets N_day N_owners P_next P_kept P_hasImage P_image P_acts P_entries P_imageEntries S_fewest S_row S_strengths U_size U_found U_places U_kinds U_holds U_fitting U_tally L_letters L_firstCells L_secondCells L_firstBest L_secondBest W_refusals ++ fr)) 0 [(0, .ref (aC B 18))] [] (wdC B W_spillsNow W_drawn T_length T_at T_bytes D_cells D_clauses G_length G_code A_size A_chosen A_codes A_lengths A_stack Y_cells Y_clauses N_marbles N_chipped N_swallowed N_sweets N_day N_owners P_next P_kept P_hasImage P_image P_acts P_entries P_imageEntries S_fewest S_row S_strengths U_size U_found U_places U_kinds U_holds U_fitting U_tally L_letters L_firstCells L_secondCells L_firstBest L_secondBest W_refusals ++ fr) (f_Past_undoable P_kept) := by
  unfold f_Past_undoable
  refine h_aload_n hX dX5_undoable_0 rfl rfl ?_
  refine get_RX5_26_C18 hX dX5_undoable_1 ?_
  exact h_ret hX (rv := some (.int P_kept)) dX5_undoable_4 trivial (fun h => h)
theorem c_Past_undoable {r : Int32} (h : f_Past_undoable P_kept = some r) : gMet B 0 yX5_undoable cX5_undoable 1 (some .int) [.ref (aC B 18)] (wdC B W_spillsNow W_drawn T_length T_at T_bytes D_cells D_clauses G_length G_code A_size A_chosen A_codes A_lengths A_stack Y_cells Y_clauses N_marbles N_chipped N_swallowed N_sweets N_day N_owners P_next P_kept P_hasImage P_image P_acts P_entries P_imageEntries S_fewest S_row S_strengths U_size U_found U_places U_kinds U_holds U_fitting U_tally L_letters L_firstCells L_secondCells L_firstBest L_secondBest W_refusals ++ fr) (some (.int r)) (wdC B W_spillsNow W_drawn T_length T_at T_bytes D_cells D_clauses G_length G_code A_size A_chosen A_codes A_lengths A_stack Y_cells Y_clauses N_marbles N_chipped N_swallowed N_sweets N_day N_owners P_next P_kept P_hasImage P_image P_acts P_entries P_imageEntries S_fewest S_row S_strengths U_size U_found U_places U_kinds U_holds U_fitting U_tally L_letters L_firstCells L_secondCells L_firstBest L_secondBest W_refusals ++ fr) :=
  gMet.of rfl (Nat.le_of_ble_eq_true rfl) (fun X hX hF => w_Past_undoable hX r h hF)
