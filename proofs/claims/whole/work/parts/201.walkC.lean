variable {B : gB} {X : gX} {fr : va_W} {W_spillsNow : Int32} {W_drawn : Int64} {T_length : Int32} {T_at : Int32} {T_bytes : Nat → Int32} {D_cells : Nat → Int32} {D_clauses : Nat → Int32} {G_length : Int32} {G_code : Nat → Int32} {A_size : Int32} {A_chosen : Int32} {A_codes : Nat → Int32} {A_lengths : Nat → Int32} {A_stack : Nat → Int32} {Y_cells : Nat → Int32} {Y_clauses : Nat → Int32} {N_marbles : Int32} {N_chipped : Int32} {N_swallowed : Int32} {N_sweets : Int32} {N_day : Int32} {N_owners : Nat → Int32} {P_next : Int32} {P_kept : Int32} {P_hasImage : Int32} {P_image : Int64} {P_acts : Nat → Int64} {P_entries : Nat → Int32} {P_imageEntries : Nat → Int32} {S_fewest : Int32} {S_row : Int32} {S_strengths : Nat → Int32} {U_size : Int32} {U_found : Int32} {U_places : Nat → Int32} {U_kinds : Nat → Int32} {U_holds : Nat → Int32} {U_fitting : Nat → Int32} {U_tally : Nat → Int32} {L_letters : Nat → Int32} {L_firstCells : Nat → Int32} {L_secondCells : Nat → Int32} {L_firstBest : Nat → Int32} {L_secondBest : Nat → Int32} {W_refusals : Nat → Int32}
set_option maxRecDepth 4000 in
theorem w_J_fill_C6_L5 {v1 : Int32} {v3 : Int32} (hX : gOk B X RJ7 cJ7_fill_53178 4 0 none) (s : (Int32 × (Nat → Int32))) : gH B X (Sum.elim (fun s : (Int32 × (Nat → Int32)) => gG B X 5 [(0, .ref (aC B 6)), (1, .int v1), (2, .int s.1), (3, .int v3)] [] (wdC B W_spillsNow W_drawn T_length T_at T_bytes D_cells s.2 G_length G_code A_size A_chosen A_codes A_lengths A_stack Y_cells Y_clauses N_marbles N_chipped N_swallowed N_sweets N_day N_owners P_next P_kept P_hasImage P_image P_acts P_entries P_imageEntries S_fewest S_row S_strengths U_size U_found U_places U_kinds U_holds U_fitting U_tally L_letters L_firstCells L_secondCells L_firstBest L_secondBest W_refusals ++ fr)) (fun r : (Nat → Int32) => gFin X (none) (wdC B W_spillsNow W_drawn T_length T_at T_bytes D_cells r G_length G_code A_size A_chosen A_codes A_lengths A_stack Y_cells Y_clauses N_marbles N_chipped N_swallowed N_sweets N_day N_owners P_next P_kept P_hasImage P_image P_acts P_entries P_imageEntries S_fewest S_row S_strengths U_size U_found U_places U_kinds U_holds U_fitting U_tally L_letters L_firstCells L_secondCells L_firstBest L_secondBest W_refusals ++ fr))) 5 [(0, .ref (aC B 6)), (1, .int v1), (2, .int s.1), (3, .int v3)] [] (wdC B W_spillsNow W_drawn T_length T_at T_bytes D_cells s.2 G_length G_code A_size A_chosen A_codes A_lengths A_stack Y_cells Y_clauses N_marbles N_chipped N_swallowed N_sweets N_day N_owners P_next P_kept P_hasImage P_image P_acts P_entries P_imageEntries S_fewest S_row S_strengths U_size U_found U_places U_kinds U_holds U_fitting U_tally L_letters L_firstCells L_secondCells L_firstBest L_secondBest W_refusals ++ fr) (f_J_fill_C6_L5 v1 v3 s) := by
  unfold f_J_fill_C6_L5
  refine h_iload_n hX dJ7_fill_53178_5 rfl rfl ?_
  refine h_iload_n hX dJ7_fill_53178_6 rfl rfl ?_
  refine h_icmp_ge hX dJ7_fill_53178_7 (tgt := 20) (by decide) (fun _ => ?_) (fun _ => ?_)
  · exact h_ret hX (rv := none) dJ7_fill_53178_20 trivial (fun h => h)
  · refine h_aload_n hX dJ7_fill_53178_10 rfl rfl ?_
    refine h_iload_n hX dJ7_fill_53178_11 rfl rfl ?_
    refine h_iload_n hX dJ7_fill_53178_12 rfl rfl ?_
    refine ast_C6 hX dJ7_fill_53178_13 ?_
    refine gH.letw (w := fun y => wdC B W_spillsNow W_drawn T_length T_at T_bytes D_cells y G_length G_code A_size A_chosen A_codes A_lengths A_stack Y_cells Y_clauses N_marbles N_chipped N_swallowed N_sweets N_day N_owners P_next P_kept P_hasImage P_image P_acts P_entries P_imageEntries S_fewest S_row S_strengths U_size U_found U_places U_kinds U_holds U_fitting U_tally L_letters L_firstCells L_secondCells L_firstBest L_secondBest W_refusals ++ fr) (fun D_clauses_1 => ?_)
    refine h_iincc hX dJ7_fill_53178_14 rfl ki_1 (by decide) (lv' := [(0, .ref (aC B 6)), (1, .int v1), (2, .int (s.1 + 1)), (3, .int v3)]) rfl ?_
    refine h_goto hX dJ7_fill_53178_17 (tgt := 5) (by decide) ?_
    exact gH.some' (fun h => h)
set_option maxRecDepth 4000 in
theorem w_J_fill_C6 {p0 : Int32} (hX : gOk B X RJ7 cJ7_fill_53178 4 0 none) : gH B X (fun r : (Nat → Int32) => gFin X (none) (wdC B W_spillsNow W_drawn T_length T_at T_bytes D_cells r G_length G_code A_size A_chosen A_codes A_lengths A_stack Y_cells Y_clauses N_marbles N_chipped N_swallowed N_sweets N_day N_owners P_next P_kept P_hasImage P_image P_acts P_entries P_imageEntries S_fewest S_row S_strengths U_size U_found U_places U_kinds U_holds U_fitting U_tally L_letters L_firstCells L_secondCells L_firstBest L_secondBest W_refusals ++ fr)) 0 [(0, .ref (aC B 6)), (1, .int p0)] [] (wdC B W_spillsNow W_drawn T_length T_at T_bytes D_cells D_clauses G_length G_code A_size A_chosen A_codes A_lengths A_stack Y_cells Y_clauses N_marbles N_chipped N_swallowed N_sweets N_day N_owners P_next P_kept P_hasImage P_image P_acts P_entries P_imageEntries S_fewest S_row S_strengths U_size U_found U_places U_kinds U_holds U_fitting U_tally L_letters L_firstCells L_secondCells L_firstBest L_secondBest W_refusals ++ fr) (f_J_fill_C6 D_clauses p0) := by
  unfold f_J_fill_C6
  refine h_iconst hX dJ7_fill_53178_0 ki_0 ?_
  refine h_istore_n hX dJ7_fill_53178_1 rfl (by decide) (lv' := [(0, .ref (aC B 6)), (1, .int p0), (2, .int 0)]) rfl ?_
  refine h_aload_n hX dJ7_fill_53178_2 rfl rfl ?_
  refine alen_C6 hX dJ7_fill_53178_3 ?_
  refine h_istore_n hX dJ7_fill_53178_4 rfl (by decide) (lv' := [(0, .ref (aC B 6)), (1, .int p0), (2, .int 0), (3, .int 4)]) rfl ?_
  exact gH.loop (lvf := fun z : (Int32 × (Nat → Int32)) => [(0, .ref (aC B 6)), (1, .int p0), (2, .int z.1), (3, .int 4)]) (wf := fun z : (Int32 × (Nat → Int32)) => wdC B W_spillsNow W_drawn T_length T_at T_bytes D_cells z.2 G_length G_code A_size A_chosen A_codes A_lengths A_stack Y_cells Y_clauses N_marbles N_chipped N_swallowed N_sweets N_day N_owners P_next P_kept P_hasImage P_image P_acts P_entries P_imageEntries S_fewest S_row S_strengths U_size U_found U_places U_kinds U_holds U_fitting U_tally L_letters L_firstCells L_secondCells L_firstBest L_secondBest W_refusals ++ fr) (fun z => w_J_fill_C6_L5 hX z) (0, D_clauses)
theorem c_J_fill_C6 {p0 : Int32} {r : (Nat → Int32)} (h : f_J_fill_C6 D_clauses p0 = some r) : gMet B 0 yJ7_fill_53178 cJ7_fill_53178 4 none [.ref (aC B 6), .int p0] (wdC B W_spillsNow W_drawn T_length T_at T_bytes D_cells D_clauses G_length G_code A_size A_chosen A_codes A_lengths A_stack Y_cells Y_clauses N_marbles N_chipped N_swallowed N_sweets N_day N_owners P_next P_kept P_hasImage P_image P_acts P_entries P_imageEntries S_fewest S_row S_strengths U_size U_found U_places U_kinds U_holds U_fitting U_tally L_letters L_firstCells L_secondCells L_firstBest L_secondBest W_refusals ++ fr) (none) (wdC B W_spillsNow W_drawn T_length T_at T_bytes D_cells r G_length G_code A_size A_chosen A_codes A_lengths A_stack Y_cells Y_clauses N_marbles N_chipped N_swallowed N_sweets N_day N_owners P_next P_kept P_hasImage P_image P_acts P_entries P_imageEntries S_fewest S_row S_strengths U_size U_found U_places U_kinds U_holds U_fitting U_tally L_letters L_firstCells L_secondCells L_firstBest L_secondBest W_refusals ++ fr) :=
  gMet.of rfl (Nat.le_of_ble_eq_true rfl) (fun X hX hF => w_J_fill_C6 hX r h hF)
set_option maxRecDepth 4000 in
theorem w_J_fill_C23_L5 {v1 : Int32} {v3 : Int32} (hX : gOk B X RJ7 cJ7_fill_53178 4 0 none) (s : (Int32 × (Nat → Int32))) : gH B X (Sum.elim (fun s : (Int32 × (Nat → Int32)) => gG B X 5 [(0, .ref (aC B 23)), (1, .int v1), (2, .int s.1), (3, .int v3)] [] (wdC B W_spillsNow W_drawn T_length T_at T_bytes D_cells D_clauses G_length G_code A_size A_chosen A_codes A_lengths A_stack Y_cells Y_clauses N_marbles N_chipped N_swallowed N_sweets N_day N_owners P_next P_kept P_hasImage P_image P_acts P_entries P_imageEntries S_fewest S_row s.2 U_size U_found U_places U_kinds U_holds U_fitting U_tally L_letters L_firstCells L_secondCells L_firstBest L_secondBest W_refusals ++ fr)) (fun r : (Nat → Int32) => gFin X (none) (wdC B W_spillsNow W_drawn T_length T_at T_bytes D_cells D_clauses G_length G_code A_size A_chosen A_codes A_lengths A_stack Y_cells Y_clauses N_marbles N_chipped N_swallowed N_sweets N_day N_owners P_next P_kept P_hasImage P_image P_acts P_entries P_imageEntries S_fewest S_row r U_size U_found U_places U_kinds U_holds U_fitting U_tally L_letters L_firstCells L_secondCells L_firstBest L_secondBest W_refusals ++ fr))) 5 [(0, .ref (aC B 23)), (1, .int v1), (2, .int s.1), (3, .int v3)] [] (wdC B W_spillsNow W_drawn T_length T_at T_bytes D_cells D_clauses G_length G_code A_size A_chosen A_codes A_lengths A_stack Y_cells Y_clauses N_marbles N_chipped N_swallowed N_sweets N_day N_owners P_next P_kept P_hasImage P_image P_acts P_entries P_imageEntries S_fewest S_row s.2 U_size U_found U_places U_kinds U_holds U_fitting U_tally L_letters L_firstCells L_secondCells L_firstBest L_secondBest W_refusals ++ fr) (f_J_fill_C23_L5 v1 v3 s) := by
  unfold f_J_fill_C23_L5
  refine h_iload_n hX dJ7_fill_53178_5 rfl rfl ?_
  refine h_iload_n hX dJ7_fill_53178_6 rfl rfl ?_
  refine h_icmp_ge hX dJ7_fill_53178_7 (tgt := 20) (by decide) (fun _ => ?_) (fun _ => ?_)
  · exact h_ret hX (rv := none) dJ7_fill_53178_20 trivial (fun h => h)
  · refine h_aload_n hX dJ7_fill_53178_10 rfl rfl ?_
    refine h_iload_n hX dJ7_fill_53178_11 rfl rfl ?_
    refine h_iload_n hX dJ7_fill_53178_12 rfl rfl ?_
    refine ast_C23 hX dJ7_fill_53178_13 ?_
    refine gH.letw (w := fun y => wdC B W_spillsNow W_drawn T_length T_at T_bytes D_cells D_clauses G_length G_code A_size A_chosen A_codes A_lengths A_stack Y_cells Y_clauses N_marbles N_chipped N_swallowed N_sweets N_day N_owners P_next P_kept P_hasImage P_image P_acts P_entries P_imageEntries S_fewest S_row y U_size U_found U_places U_kinds U_holds U_fitting U_tally L_letters L_firstCells L_secondCells L_firstBest L_secondBest W_refusals ++ fr) (fun S_strengths_1 => ?_)
    refine h_iincc hX dJ7_fill_53178_14 rfl ki_1 (by decide) (lv' := [(0, .ref (aC B 23)), (1, .int v1), (2, .int (s.1 + 1)), (3, .int v3)]) rfl ?_
    refine h_goto hX dJ7_fill_53178_17 (tgt := 5) (by decide) ?_
    exact gH.some' (fun h => h)
set_option maxRecDepth 4000 in
theorem w_J_fill_C23 {p0 : Int32} (hX : gOk B X RJ7 cJ7_fill_53178 4 0 none) : gH B X (fun r : (Nat → Int32) => gFin X (none) (wdC B W_spillsNow W_drawn T_length T_at T_bytes D_cells D_clauses G_length G_code A_size A_chosen A_codes A_lengths A_stack Y_cells Y_clauses N_marbles N_chipped N_swallowed N_sweets N_day N_owners P_next P_kept P_hasImage P_image P_acts P_entries P_imageEntries S_fewest S_row r U_size U_found U_places U_kinds U_holds U_fitting U_tally L_letters L_firstCells L_secondCells L_firstBest L_secondBest W_refusals ++ fr)) 0 [(0, .ref (aC B 23)), (1, .int p0)] [] (wdC B W_spillsNow W_drawn T_length T_at T_bytes D_cells D_clauses G_length G_code A_size A_chosen A_codes A_lengths A_stack Y_cells Y_clauses N_marbles N_chipped N_swallowed N_sweets N_day N_owners P_next P_kept P_hasImage P_image P_acts P_entries P_imageEntries S_fewest S_row S_strengths U_size U_found U_places U_kinds U_holds U_fitting U_tally L_letters L_firstCells L_secondCells L_firstBest L_secondBest W_refusals ++ fr) (f_J_fill_C23 S_strengths p0) := by
  unfold f_J_fill_C23
  refine h_iconst hX dJ7_fill_53178_0 ki_0 ?_
  refine h_istore_n hX dJ7_fill_53178_1 rfl (by decide) (lv' := [(0, .ref (aC B 23)), (1, .int p0), (2, .int 0)]) rfl ?_
  refine h_aload_n hX dJ7_fill_53178_2 rfl rfl ?_
  refine alen_C23 hX dJ7_fill_53178_3 ?_
  refine h_istore_n hX dJ7_fill_53178_4 rfl (by decide) (lv' := [(0, .ref (aC B 23)), (1, .int p0), (2, .int 0), (3, .int 60)]) rfl ?_
  exact gH.loop (lvf := fun z : (Int32 × (Nat → Int32)) => [(0, .ref (aC B 23)), (1, .int p0), (2, .int z.1), (3, .int 60)]) (wf := fun z : (Int32 × (Nat → Int32)) => wdC B W_spillsNow W_drawn T_length T_at T_bytes D_cells D_clauses G_length G_code A_size A_chosen A_codes A_lengths A_stack Y_cells Y_clauses N_marbles N_chipped N_swallowed N_sweets N_day N_owners P_next P_kept P_hasImage P_image P_acts P_entries P_imageEntries S_fewest S_row z.2 U_size U_found U_places U_kinds U_holds U_fitting U_tally L_letters L_firstCells L_secondCells L_firstBest L_secondBest W_refusals ++ fr) (fun z => w_J_fill_C23_L5 hX z) (0, S_strengths)
theorem c_J_fill_C23 {p0 : Int32} {r : (Nat → Int32)} (h : f_J_fill_C23 S_strengths p0 = some r) : gMet B 0 yJ7_fill_53178 cJ7_fill_53178 4 none [.ref (aC B 23), .int p0] (wdC B W_spillsNow W_drawn T_length T_at T_bytes D_cells D_clauses G_length G_code A_size A_chosen A_codes A_lengths A_stack Y_cells Y_clauses N_marbles N_chipped N_swallowed N_sweets N_day N_owners P_next P_kept P_hasImage P_image P_acts P_entries P_imageEntries S_fewest S_row S_strengths U_size U_found U_places U_kinds U_holds U_fitting U_tally L_letters L_firstCells L_secondCells L_firstBest L_secondBest W_refusals ++ fr) (none) (wdC B W_spillsNow W_drawn T_length T_at T_bytes D_cells D_clauses G_length G_code A_size A_chosen A_codes A_lengths A_stack Y_cells Y_clauses N_marbles N_chipped N_swallowed N_sweets N_day N_owners P_next P_kept P_hasImage P_image P_acts P_entries P_imageEntries S_fewest S_row r U_size U_found U_places U_kinds U_holds U_fitting U_tally L_letters L_firstCells L_secondCells L_firstBest L_secondBest W_refusals ++ fr) :=
  gMet.of rfl (Nat.le_of_ble_eq_true rfl) (fun X hX hF => w_J_fill_C23 hX r h hF)
set_option maxRecDepth 4000 in
theorem w_J_fill_C29_L5 {v1 : Int32} {v3 : Int32} (hX : gOk B X RJ7 cJ7_fill_53178 4 0 none) (s : (Int32 × (Nat → Int32))) : gH B X (Sum.elim (fun s : (Int32 × (Nat → Int32)) => gG B X 5 [(0, .ref (aC B 29)), (1, .int v1), (2, .int s.1), (3, .int v3)] [] (wdC B W_spillsNow W_drawn T_length T_at T_bytes D_cells D_clauses G_length G_code A_size A_chosen A_codes A_lengths A_stack Y_cells Y_clauses N_marbles N_chipped N_swallowed N_sweets N_day N_owners P_next P_kept P_hasImage P_image P_acts P_entries P_imageEntries S_fewest S_row S_strengths U_size U_found U_places U_kinds U_holds U_fitting s.2 L_letters L_firstCells L_secondCells L_firstBest L_secondBest W_refusals ++ fr)) (fun r : (Nat → Int32) => gFin X (none) (wdC B W_spillsNow W_drawn T_length T_at T_bytes D_cells D_clauses G_length G_code A_size A_chosen A_codes A_lengths A_stack Y_cells Y_clauses N_marbles N_chipped N_swallowed N_sweets N_day N_owners P_next P_kept P_hasImage P_image P_acts P_entries P_imageEntries S_fewest S_row S_strengths U_size U_found U_places U_kinds U_holds U_fitting r L_letters L_firstCells L_secondCells L_firstBest L_secondBest W_refusals ++ fr))) 5 [(0, .ref (aC B 29)), (1, .int v1), (2, .int s.1), (3, .int v3)] [] (wdC B W_spillsNow W_drawn T_length T_at T_bytes D_cells D_clauses G_length G_code A_size A_chosen A_codes A_lengths A_stack Y_cells Y_clauses N_marbles N_chipped N_swallowed N_sweets N_day N_owners P_next P_kept P_hasImage P_image P_acts P_entries P_imageEntries S_fewest S_row S_strengths U_size U_found U_places U_kinds U_holds U_fitting s.2 L_letters L_firstCells L_secondCells L_firstBest L_secondBest W_refusals ++ fr) (f_J_fill_C29_L5 v1 v3 s) := by
  unfold f_J_fill_C29_L5
  refine h_iload_n hX dJ7_fill_53178_5 rfl rfl ?_
  refine h_iload_n hX dJ7_fill_53178_6 rfl rfl ?_
  refine h_icmp_ge hX dJ7_fill_53178_7 (tgt := 20) (by decide) (fun _ => ?_) (fun _ => ?_)
  · exact h_ret hX (rv := none) dJ7_fill_53178_20 trivial (fun h => h)
  · refine h_aload_n hX dJ7_fill_53178_10 rfl rfl ?_
    refine h_iload_n hX dJ7_fill_53178_11 rfl rfl ?_
    refine h_iload_n hX dJ7_fill_53178_12 rfl rfl ?_
    refine ast_C29 hX dJ7_fill_53178_13 ?_
    refine gH.letw (w := fun y => wdC B W_spillsNow W_drawn T_length T_at T_bytes D_cells D_clauses G_length G_code A_size A_chosen A_codes A_lengths A_stack Y_cells Y_clauses N_marbles N_chipped N_swallowed N_sweets N_day N_owners P_next P_kept P_hasImage P_image P_acts P_entries P_imageEntries S_fewest S_row S_strengths U_size U_found U_places U_kinds U_holds U_fitting y L_letters L_firstCells L_secondCells L_firstBest L_secondBest W_refusals ++ fr) (fun U_tally_1 => ?_)
    refine h_iincc hX dJ7_fill_53178_14 rfl ki_1 (by decide) (lv' := [(0, .ref (aC B 29)), (1, .int v1), (2, .int (s.1 + 1)), (3, .int v3)]) rfl ?_
    refine h_goto hX dJ7_fill_53178_17 (tgt := 5) (by decide) ?_
    exact gH.some' (fun h => h)
set_option maxRecDepth 4000 in
theorem w_J_fill_C29 {p0 : Int32} (hX : gOk B X RJ7 cJ7_fill_53178 4 0 none) : gH B X (fun r : (Nat → Int32) => gFin X (none) (wdC B W_spillsNow W_drawn T_length T_at T_bytes D_cells D_clauses G_length G_code A_size A_chosen A_codes A_lengths A_stack Y_cells Y_clauses N_marbles N_chipped N_swallowed N_sweets N_day N_owners P_next P_kept P_hasImage P_image P_acts P_entries P_imageEntries S_fewest S_row S_strengths U_size U_found U_places U_kinds U_holds U_fitting r L_letters L_firstCells L_secondCells L_firstBest L_secondBest W_refusals ++ fr)) 0 [(0, .ref (aC B 29)), (1, .int p0)] [] (wdC B W_spillsNow W_drawn T_length T_at T_bytes D_cells D_clauses G_length G_code A_size A_chosen A_codes A_lengths A_stack Y_cells Y_clauses N_marbles N_chipped N_swallowed N_sweets N_day N_owners P_next P_kept P_hasImage P_image P_acts P_entries P_imageEntries S_fewest S_row S_strengths U_size U_found U_places U_kinds U_holds U_fitting U_tally L_letters L_firstCells L_secondCells L_firstBest L_secondBest W_refusals ++ fr) (f_J_fill_C29 U_tally p0) := by
  unfold f_J_fill_C29
  refine h_iconst hX dJ7_fill_53178_0 ki_0 ?_
  refine h_istore_n hX dJ7_fill_53178_1 rfl (by decide) (lv' := [(0, .ref (aC B 29)), (1, .int p0), (2, .int 0)]) rfl ?_
  refine h_aload_n hX dJ7_fill_53178_2 rfl rfl ?_
  refine alen_C29 hX dJ7_fill_53178_3 ?_
  refine h_istore_n hX dJ7_fill_53178_4 rfl (by decide) (lv' := [(0, .ref (aC B 29)), (1, .int p0), (2, .int 0), (3, .int 70)]) rfl ?_
  exact gH.loop (lvf := fun z : (Int32 × (Nat → Int32)) => [(0, .ref (aC B 29)), (1, .int p0), (2, .int z.1), (3, .int 70)]) (wf := fun z : (Int32 × (Nat → Int32)) => wdC B W_spillsNow W_drawn T_length T_at T_bytes D_cells D_clauses G_length G_code A_size A_chosen A_codes A_lengths A_stack Y_cells Y_clauses N_marbles N_chipped N_swallowed N_sweets N_day N_owners P_next P_kept P_hasImage P_image P_acts P_entries P_imageEntries S_fewest S_row S_strengths U_size U_found U_places U_kinds U_holds U_fitting z.2 L_letters L_firstCells L_secondCells L_firstBest L_secondBest W_refusals ++ fr) (fun z => w_J_fill_C29_L5 hX z) (0, U_tally)
theorem c_J_fill_C29 {p0 : Int32} {r : (Nat → Int32)} (h : f_J_fill_C29 U_tally p0 = some r) : gMet B 0 yJ7_fill_53178 cJ7_fill_53178 4 none [.ref (aC B 29), .int p0] (wdC B W_spillsNow W_drawn T_length T_at T_bytes D_cells D_clauses G_length G_code A_size A_chosen A_codes A_lengths A_stack Y_cells Y_clauses N_marbles N_chipped N_swallowed N_sweets N_day N_owners P_next P_kept P_hasImage P_image P_acts P_entries P_imageEntries S_fewest S_row S_strengths U_size U_found U_places U_kinds U_holds U_fitting U_tally L_letters L_firstCells L_secondCells L_firstBest L_secondBest W_refusals ++ fr) (none) (wdC B W_spillsNow W_drawn T_length T_at T_bytes D_cells D_clauses G_length G_code A_size A_chosen A_codes A_lengths A_stack Y_cells Y_clauses N_marbles N_chipped N_swallowed N_sweets N_day N_owners P_next P_kept P_hasImage P_image P_acts P_entries P_imageEntries S_fewest S_row S_strengths U_size U_found U_places U_kinds U_holds U_fitting r L_letters L_firstCells L_secondCells L_firstBest L_secondBest W_refusals ++ fr) :=
  gMet.of rfl (Nat.le_of_ble_eq_true rfl) (fun X hX hF => w_J_fill_C29 hX r h hF)
set_option maxRecDepth 4000 in
theorem w_Clues_add {p0 : Int32} {p1 : Int32} {p2 : Int32} (hX : gOk B X RX0 cX0_add 4 0 none) : gH B X (fun r : (Int32 × (Nat → Int32) × (Nat → Int32) × (Nat → Int32)) => gFin X (none) (wdC B W_spillsNow W_drawn T_length T_at T_bytes D_cells D_clauses G_length G_code A_size A_chosen A_codes A_lengths A_stack Y_cells Y_clauses N_marbles N_chipped N_swallowed N_sweets N_day N_owners P_next P_kept P_hasImage P_image P_acts P_entries P_imageEntries S_fewest S_row S_strengths r.1 U_found r.2.1 r.2.2.1 r.2.2.2 U_fitting U_tally L_letters L_firstCells L_secondCells L_firstBest L_secondBest W_refusals ++ fr)) 0 [(0, .ref (aC B 24)), (1, .int p0), (2, .int p1), (3, .int p2)] [] (wdC B W_spillsNow W_drawn T_length T_at T_bytes D_cells D_clauses G_length G_code A_size A_chosen A_codes A_lengths A_stack Y_cells Y_clauses N_marbles N_chipped N_swallowed N_sweets N_day N_owners P_next P_kept P_hasImage P_image P_acts P_entries P_imageEntries S_fewest S_row S_strengths U_size U_found U_places U_kinds U_holds U_fitting U_tally L_letters L_firstCells L_secondCells L_firstBest L_secondBest W_refusals ++ fr) (f_Clues_add U_size U_places U_kinds U_holds p0 p1 p2) := by
  unfold f_Clues_add
  refine h_aload_n hX dX0_add_0 rfl rfl ?_
  refine get_RX0_40_C24 hX dX0_add_1 ?_
  refine h_bipush hX dX0_add_4 kb_10 ?_
  refine h_icmp_ge hX dX0_add_6 (tgt := 49) (by decide) (fun _ => ?_) (fun _ => ?_)
  · exact h_ret hX (rv := none) dX0_add_49 trivial (fun h => h)
  · refine h_aload_n hX dX0_add_9 rfl rfl ?_
    refine get_RX0_9_C24 hX dX0_add_10 ?_
    refine h_aload_n hX dX0_add_13 rfl rfl ?_
    refine get_RX0_40_C24 hX dX0_add_14 ?_
    refine h_iload_n hX dX0_add_17 rfl rfl ?_
    refine ast_C25 hX dX0_add_18 ?_
    refine gH.letw (w := fun y => wdC B W_spillsNow W_drawn T_length T_at T_bytes D_cells D_clauses G_length G_code A_size A_chosen A_codes A_lengths A_stack Y_cells Y_clauses N_marbles N_chipped N_swallowed N_sweets N_day N_owners P_next P_kept P_hasImage P_image P_acts P_entries P_imageEntries S_fewest S_row S_strengths U_size U_found y U_kinds U_holds U_fitting U_tally L_letters L_firstCells L_secondCells L_firstBest L_secondBest W_refusals ++ fr) (fun U_places_1 => ?_)
    refine h_aload_n hX dX0_add_19 rfl rfl ?_
    refine get_RX0_15_C24 hX dX0_add_20 ?_
    refine h_aload_n hX dX0_add_23 rfl rfl ?_
    refine get_RX0_40_C24 hX dX0_add_24 ?_
    refine h_iload_n hX dX0_add_27 rfl rfl ?_
    refine ast_C26 hX dX0_add_28 ?_
    refine gH.letw (w := fun y => wdC B W_spillsNow W_drawn T_length T_at T_bytes D_cells D_clauses G_length G_code A_size A_chosen A_codes A_lengths A_stack Y_cells Y_clauses N_marbles N_chipped N_swallowed N_sweets N_day N_owners P_next P_kept P_hasImage P_image P_acts P_entries P_imageEntries S_fewest S_row S_strengths U_size U_found U_places_1 y U_holds U_fitting U_tally L_letters L_firstCells L_secondCells L_firstBest L_secondBest W_refusals ++ fr) (fun U_kinds_2 => ?_)
    refine h_aload_n hX dX0_add_29 rfl rfl ?_
    refine get_RX0_18_C24 hX dX0_add_30 ?_
    refine h_aload_n hX dX0_add_33 rfl rfl ?_
    refine get_RX0_40_C24 hX dX0_add_34 ?_
    refine h_iload_n hX dX0_add_37 rfl rfl ?_
    refine ast_C27 hX dX0_add_38 ?_
    refine gH.letw (w := fun y => wdC B W_spillsNow W_drawn T_length T_at T_bytes D_cells D_clauses G_length G_code A_size A_chosen A_codes A_lengths A_stack Y_cells Y_clauses N_marbles N_chipped N_swallowed N_sweets N_day N_owners P_next P_kept P_hasImage P_image P_acts P_entries P_imageEntries S_fewest S_row S_strengths U_size U_found U_places_1 U_kinds_2 y U_fitting U_tally L_letters L_firstCells L_secondCells L_firstBest L_secondBest W_refusals ++ fr) (fun U_holds_3 => ?_)
    refine h_aload_n hX dX0_add_39 rfl rfl ?_
    refine h_dup hX dX0_add_40 rfl ?_
    refine get_RX0_40_C24 hX dX0_add_41 ?_
    refine h_iconst hX dX0_add_44 ki_1 ?_
    refine h_iadd hX dX0_add_45 ?_
    refine put_RX0_40_C24 hX dX0_add_46 ?_
    refine gH.letw (w := fun y => wdC B W_spillsNow W_drawn T_length T_at T_bytes D_cells D_clauses G_length G_code A_size A_chosen A_codes A_lengths A_stack Y_cells Y_clauses N_marbles N_chipped N_swallowed N_sweets N_day N_owners P_next P_kept P_hasImage P_image P_acts P_entries P_imageEntries S_fewest S_row S_strengths y U_found U_places_1 U_kinds_2 U_holds_3 U_fitting U_tally L_letters L_firstCells L_secondCells L_firstBest L_secondBest W_refusals ++ fr) (fun U_size_4 => ?_)
    exact h_ret hX (rv := none) dX0_add_49 trivial (fun h => h)
theorem c_Clues_add {p0 : Int32} {p1 : Int32} {p2 : Int32} {r : (Int32 × (Nat → Int32) × (Nat → Int32) × (Nat → Int32))} (h : f_Clues_add U_size U_places U_kinds U_holds p0 p1 p2 = some r) : gMet B 0 yX0_add cX0_add 4 none [.ref (aC B 24), .int p0, .int p1, .int p2] (wdC B W_spillsNow W_drawn T_length T_at T_bytes D_cells D_clauses G_length G_code A_size A_chosen A_codes A_lengths A_stack Y_cells Y_clauses N_marbles N_chipped N_swallowed N_sweets N_day N_owners P_next P_kept P_hasImage P_image P_acts P_entries P_imageEntries S_fewest S_row S_strengths U_size U_found U_places U_kinds U_holds U_fitting U_tally L_letters L_firstCells L_secondCells L_firstBest L_secondBest W_refusals ++ fr) (none) (wdC B W_spillsNow W_drawn T_length T_at T_bytes D_cells D_clauses G_length G_code A_size A_chosen A_codes A_lengths A_stack Y_cells Y_clauses N_marbles N_chipped N_swallowed N_sweets N_day N_owners P_next P_kept P_hasImage P_image P_acts P_entries P_imageEntries S_fewest S_row S_strengths r.1 U_found r.2.1 r.2.2.1 r.2.2.2 U_fitting U_tally L_letters L_firstCells L_secondCells L_firstBest L_secondBest W_refusals ++ fr) :=
  gMet.of rfl (Nat.le_of_ble_eq_true rfl) (fun X hX hF => w_Clues_add hX r h hF)
set_option maxRecDepth 4000 in
theorem w_Sky_strengthOf {p0 : Int32} {p1 : Int32} (hX : gOk B X RX6 cX6_strengthOf 3 0 (some .int)) : gH B X (fun r : Int32 => gFin X (some (.int r)) (wdC B W_spillsNow W_drawn T_length T_at T_bytes D_cells D_clauses G_length G_code A_size A_chosen A_codes A_lengths A_stack Y_cells Y_clauses N_marbles N_chipped N_swallowed N_sweets N_day N_owners P_next P_kept P_hasImage P_image P_acts P_entries P_imageEntries S_fewest S_row S_strengths U_size U_found U_places U_kinds U_holds U_fitting U_tally L_letters L_firstCells L_secondCells L_firstBest L_secondBest W_refusals ++ fr)) 0 [(0, .ref (aC B 22)), (1, .int p0), (2, .int p1)] [] (wdC B W_spillsNow W_drawn T_length T_at T_bytes D_cells D_clauses G_length G_code A_size A_chosen A_codes A_lengths A_stack Y_cells Y_clauses N_marbles N_chipped N_swallowed N_sweets N_day N_owners P_next P_kept P_hasImage P_image P_acts P_entries P_imageEntries S_fewest S_row S_strengths U_size U_found U_places U_kinds U_holds U_fitting U_tally L_letters L_firstCells L_secondCells L_firstBest L_secondBest W_refusals ++ fr) (f_Sky_strengthOf S_strengths p0 p1) := by
  unfold f_Sky_strengthOf
  refine h_aload_n hX dX6_strengthOf_0 rfl rfl ?_
  refine get_RX6_9_C22 hX dX6_strengthOf_1 ?_
  refine h_iload_n hX dX6_strengthOf_4 rfl rfl ?_
  refine h_bipush hX dX6_strengthOf_5 kb_6 ?_
  refine h_imul hX dX6_strengthOf_7 ?_
  refine h_iload_n hX dX6_strengthOf_8 rfl rfl ?_
  refine h_iadd hX dX6_strengthOf_9 ?_
  refine ald_C23 hX dX6_strengthOf_10 ?_
  exact h_ret hX (rv := some (.int (S_strengths ((p0 * 6) + p1 : Int32).toNatClampNeg))) dX6_strengthOf_11 trivial (fun h => h)
theorem c_Sky_strengthOf {p0 : Int32} {p1 : Int32} {r : Int32} (h : f_Sky_strengthOf S_strengths p0 p1 = some r) : gMet B 0 yX6_strengthOf cX6_strengthOf 3 (some .int) [.ref (aC B 22), .int p0, .int p1] (wdC B W_spillsNow W_drawn T_length T_at T_bytes D_cells D_clauses G_length G_code A_size A_chosen A_codes A_lengths A_stack Y_cells Y_clauses N_marbles N_chipped N_swallowed N_sweets N_day N_owners P_next P_kept P_hasImage P_image P_acts P_entries P_imageEntries S_fewest S_row S_strengths U_size U_found U_places U_kinds U_holds U_fitting U_tally L_letters L_firstCells L_secondCells L_firstBest L_secondBest W_refusals ++ fr) (some (.int r)) (wdC B W_spillsNow W_drawn T_length T_at T_bytes D_cells D_clauses G_length G_code A_size A_chosen A_codes A_lengths A_stack Y_cells Y_clauses N_marbles N_chipped N_swallowed N_sweets N_day N_owners P_next P_kept P_hasImage P_image P_acts P_entries P_imageEntries S_fewest S_row S_strengths U_size U_found U_places U_kinds U_holds U_fitting U_tally L_letters L_firstCells L_secondCells L_firstBest L_secondBest W_refusals ++ fr) :=
  gMet.of rfl (Nat.le_of_ble_eq_true rfl) (fun X hX hF => w_Sky_strengthOf hX r h hF)
set_option maxRecDepth 4000 in
theorem w_Sky_strongestKind_J36 {v1 : Int32} {v2 : Int32} {v3 : Int32} {v4 : Int32} (hX : gOk B X RX6 cX6_strongestKind 5 1 (some .int)) : gH B X (Sum.elim (fun s : (Int32 × Int32 × Int32) => gG B X 7 [(0, .ref (aC B 22)), (1, .int v1), (2, .int s.1), (3, .int s.2.1), (4, .int s.2.2)] [] (wdC B W_spillsNow W_drawn T_length T_at T_bytes D_cells D_clauses G_length G_code A_size A_chosen A_codes A_lengths A_stack Y_cells Y_clauses N_marbles N_chipped N_swallowed N_sweets N_day N_owners P_next P_kept P_hasImage P_image P_acts P_entries P_imageEntries S_fewest S_row S_strengths U_size U_found U_places U_kinds U_holds U_fitting U_tally L_letters L_firstCells L_secondCells L_firstBest L_secondBest W_refusals ++ fr)) (fun r : Int32 => gFin X (some (.int r)) (wdC B W_spillsNow W_drawn T_length T_at T_bytes D_cells D_clauses G_length G_code A_size A_chosen A_codes A_lengths A_stack Y_cells Y_clauses N_marbles N_chipped N_swallowed N_sweets N_day N_owners P_next P_kept P_hasImage P_image P_acts P_entries P_imageEntries S_fewest S_row S_strengths U_size U_found U_places U_kinds U_holds U_fitting U_tally L_letters L_firstCells L_secondCells L_firstBest L_secondBest W_refusals ++ fr))) 36 [(0, .ref (aC B 22)), (1, .int v1), (2, .int v2), (3, .int v3), (4, .int v4)] [] (wdC B W_spillsNow W_drawn T_length T_at T_bytes D_cells D_clauses G_length G_code A_size A_chosen A_codes A_lengths A_stack Y_cells Y_clauses N_marbles N_chipped N_swallowed N_sweets N_day N_owners P_next P_kept P_hasImage P_image P_acts P_entries P_imageEntries S_fewest S_row S_strengths U_size U_found U_places U_kinds U_holds U_fitting U_tally L_letters L_firstCells L_secondCells L_firstBest L_secondBest W_refusals ++ fr) (f_Sky_strongestKind_J36 v2 v3 v4) := by
  unfold f_Sky_strongestKind_J36
  refine h_iincc hX dX6_strongestKind_36 rfl ki_1 (by decide) (lv' := [(0, .ref (aC B 22)), (1, .int v1), (2, .int v2), (3, .int v3), (4, .int (v4 + 1))]) rfl ?_
  refine h_goto hX dX6_strongestKind_39 (tgt := 7) (by decide) ?_
  exact gH.some' (fun h => h)
set_option maxRecDepth 4000 in
theorem w_Sky_strongestKind_L7 {v1 : Int32} (hX : gOk B X RX6 cX6_strongestKind 5 1 (some .int)) (s : (Int32 × Int32 × Int32)) : gH B X (Sum.elim (fun s : (Int32 × Int32 × Int32) => gG B X 7 [(0, .ref (aC B 22)), (1, .int v1), (2, .int s.1), (3, .int s.2.1), (4, .int s.2.2)] [] (wdC B W_spillsNow W_drawn T_length T_at T_bytes D_cells D_clauses G_length G_code A_size A_chosen A_codes A_lengths A_stack Y_cells Y_clauses N_marbles N_chipped N_swallowed N_sweets N_day N_owners P_next P_kept P_hasImage P_image P_acts P_entries P_imageEntries S_fewest S_row S_strengths U_size U_found U_places U_kinds U_holds U_fitting U_tally L_letters L_firstCells L_secondCells L_firstBest L_secondBest W_refusals ++ fr)) (fun r : Int32 => gFin X (some (.int r)) (wdC B W_spillsNow W_drawn T_length T_at T_bytes D_cells D_clauses G_length G_code A_size A_chosen A_codes A_lengths A_stack Y_cells Y_clauses N_marbles N_chipped N_swallowed N_sweets N_day N_owners P_next P_kept P_hasImage P_image P_acts P_entries P_imageEntries S_fewest S_row S_strengths U_size U_found U_places U_kinds U_holds U_fitting U_tally L_letters L_firstCells L_secondCells L_firstBest L_secondBest W_refusals ++ fr))) 7 [(0, .ref (aC B 22)), (1, .int v1), (2, .int s.1), (3, .int s.2.1), (4, .int s.2.2)] [] (wdC B W_spillsNow W_drawn T_length T_at T_bytes D_cells D_clauses G_length G_code A_size A_chosen A_codes A_lengths A_stack Y_cells Y_clauses N_marbles N_chipped N_swallowed N_sweets N_day N_owners P_next P_kept P_hasImage P_image P_acts P_entries P_imageEntries S_fewest S_row S_strengths U_size U_found U_places U_kinds U_holds U_fitting U_tally L_letters L_firstCells L_secondCells L_firstBest L_secondBest W_refusals ++ fr) (f_Sky_strongestKind_L7 S_strengths v1 s) := by
  unfold f_Sky_strongestKind_L7
  refine h_iload hX dX6_strongestKind_7 rfl ?_
  refine h_bipush hX dX6_strongestKind_9 kb_6 ?_
  refine h_icmp_ge hX dX6_strongestKind_11 (tgt := 42) (by decide) (fun _ => ?_) (fun _ => ?_)
  · refine h_iload_n hX dX6_strongestKind_42 rfl rfl ?_
    exact h_ret hX (rv := some (.int s.1)) dX6_strongestKind_43 trivial (fun h => h)
  · refine h_aload_n hX dX6_strongestKind_14 rfl rfl ?_
    refine h_iload_n hX dX6_strongestKind_15 rfl rfl ?_
    refine h_iload hX dX6_strongestKind_16 rfl ?_
    refine h_callVi hX dX6_strongestKind_18 (cv_RX6_66) rc_C22 (As := [.int v1, .int s.2.2]) (st := []) (fun _ h => c_Sky_strengthOf h) rfl rfl (by decide) (Nat.le_of_ble_eq_true rfl) (fun a_1 => ?_)
    refine h_iload_n hX dX6_strongestKind_21 rfl rfl ?_
    refine h_icmp_le hX dX6_strongestKind_22 (tgt := 36) (by decide) (fun _ => ?_) (fun _ => ?_)
    · exact w_Sky_strongestKind_J36 hX
    · refine h_aload_n hX dX6_strongestKind_25 rfl rfl ?_
      refine h_iload_n hX dX6_strongestKind_26 rfl rfl ?_
      refine h_iload hX dX6_strongestKind_27 rfl ?_
      refine h_callVi hX dX6_strongestKind_29 (cv_RX6_66) rc_C22 (As := [.int v1, .int s.2.2]) (st := []) (fun _ h => c_Sky_strengthOf h) rfl rfl (by decide) (Nat.le_of_ble_eq_true rfl) (fun a_3 => ?_)
      refine h_istore_n hX dX6_strongestKind_32 rfl (by decide) (lv' := [(0, .ref (aC B 22)), (1, .int v1), (2, .int s.1), (3, .int a_3), (4, .int s.2.2)]) rfl ?_
      refine h_iload hX dX6_strongestKind_33 rfl ?_
      refine h_istore_n hX dX6_strongestKind_35 rfl (by decide) (lv' := [(0, .ref (aC B 22)), (1, .int v1), (2, .int s.2.2), (3, .int a_3), (4, .int s.2.2)]) rfl ?_
      exact w_Sky_strongestKind_J36 hX
set_option maxRecDepth 4000 in
theorem w_Sky_strongestKind {p0 : Int32} (hX : gOk B X RX6 cX6_strongestKind 5 1 (some .int)) : gH B X (fun r : Int32 => gFin X (some (.int r)) (wdC B W_spillsNow W_drawn T_length T_at T_bytes D_cells D_clauses G_length G_code A_size A_chosen A_codes A_lengths A_stack Y_cells Y_clauses N_marbles N_chipped N_swallowed N_sweets N_day N_owners P_next P_kept P_hasImage P_image P_acts P_entries P_imageEntries S_fewest S_row S_strengths U_size U_found U_places U_kinds U_holds U_fitting U_tally L_letters L_firstCells L_secondCells L_firstBest L_secondBest W_refusals ++ fr)) 0 [(0, .ref (aC B 22)), (1, .int p0)] [] (wdC B W_spillsNow W_drawn T_length T_at T_bytes D_cells D_clauses G_length G_code A_size A_chosen A_codes A_lengths A_stack Y_cells Y_clauses N_marbles N_chipped N_swallowed N_sweets N_day N_owners P_next P_kept P_hasImage P_image P_acts P_entries P_imageEntries S_fewest S_row S_strengths U_size U_found U_places U_kinds U_holds U_fitting U_tally L_letters L_firstCells L_secondCells L_firstBest L_secondBest W_refusals ++ fr) (f_Sky_strongestKind S_strengths p0) := by
  unfold f_Sky_strongestKind
  refine h_iconst hX dX6_strongestKind_0 ki_m1 ?_
  refine h_istore_n hX dX6_strongestKind_1 rfl (by decide) (lv' := [(0, .ref (aC B 22)), (1, .int p0), (2, .int ((-1)))]) rfl ?_
  refine h_iconst hX dX6_strongestKind_2 ki_0 ?_
  refine h_istore_n hX dX6_strongestKind_3 rfl (by decide) (lv' := [(0, .ref (aC B 22)), (1, .int p0), (2, .int ((-1))), (3, .int 0)]) rfl ?_
  refine h_iconst hX dX6_strongestKind_4 ki_0 ?_
  refine h_istore hX dX6_strongestKind_5 (by decide) (lv' := [(0, .ref (aC B 22)), (1, .int p0), (2, .int ((-1))), (3, .int 0), (4, .int 0)]) rfl ?_
  exact gH.loop (lvf := fun z : (Int32 × Int32 × Int32) => [(0, .ref (aC B 22)), (1, .int p0), (2, .int z.1), (3, .int z.2.1), (4, .int z.2.2)]) (wf := fun z : (Int32 × Int32 × Int32) => wdC B W_spillsNow W_drawn T_length T_at T_bytes D_cells D_clauses G_length G_code A_size A_chosen A_codes A_lengths A_stack Y_cells Y_clauses N_marbles N_chipped N_swallowed N_sweets N_day N_owners P_next P_kept P_hasImage P_image P_acts P_entries P_imageEntries S_fewest S_row S_strengths U_size U_found U_places U_kinds U_holds U_fitting U_tally L_letters L_firstCells L_secondCells L_firstBest L_secondBest W_refusals ++ fr) (fun z => w_Sky_strongestKind_L7 hX z) ((-1), 0, 0)
theorem c_Sky_strongestKind {p0 : Int32} {r : Int32} (h : f_Sky_strongestKind S_strengths p0 = some r) : gMet B 1 yX6_strongestKind cX6_strongestKind 5 (some .int) [.ref (aC B 22), .int p0] (wdC B W_spillsNow W_drawn T_length T_at T_bytes D_cells D_clauses G_length G_code A_size A_chosen A_codes A_lengths A_stack Y_cells Y_clauses N_marbles N_chipped N_swallowed N_sweets N_day N_owners P_next P_kept P_hasImage P_image P_acts P_entries P_imageEntries S_fewest S_row S_strengths U_size U_found U_places U_kinds U_holds U_fitting U_tally L_letters L_firstCells L_secondCells L_firstBest L_secondBest W_refusals ++ fr) (some (.int r)) (wdC B W_spillsNow W_drawn T_length T_at T_bytes D_cells D_clauses G_length G_code A_size A_chosen A_codes A_lengths A_stack Y_cells Y_clauses N_marbles N_chipped N_swallowed N_sweets N_day N_owners P_next P_kept P_hasImage P_image P_acts P_entries P_imageEntries S_fewest S_row S_strengths U_size U_found U_places U_kinds U_holds U_fitting U_tally L_letters L_firstCells L_secondCells L_firstBest L_secondBest W_refusals ++ fr) :=
  gMet.of rfl (Nat.le_of_ble_eq_true rfl) (fun X hX hF => w_Sky_strongestKind hX r h hF)
set_option maxRecDepth 4000 in
theorem w_Clues_areAllSo_J37 {v1 : Int32} {k0 : Int32} (hX : gOk B X RX0 cX0_areAllSo 2 2 (some .boolean)) : gH B X (Sum.elim (fun s : Int32 => gG B X 2 [(0, .ref (aC B 24)), (1, .int s)] [] (wdC B W_spillsNow W_drawn T_length T_at T_bytes D_cells D_clauses G_length G_code A_size A_chosen A_codes A_lengths A_stack Y_cells Y_clauses N_marbles N_chipped N_swallowed N_sweets N_day N_owners P_next P_kept P_hasImage P_image P_acts P_entries P_imageEntries S_fewest S_row S_strengths U_size U_found U_places U_kinds U_holds U_fitting U_tally L_letters L_firstCells L_secondCells L_firstBest L_secondBest W_refusals ++ fr)) (fun r : Int32 => gFin X (some (.int r)) (wdC B W_spillsNow W_drawn T_length T_at T_bytes D_cells D_clauses G_length G_code A_size A_chosen A_codes A_lengths A_stack Y_cells Y_clauses N_marbles N_chipped N_swallowed N_sweets N_day N_owners P_next P_kept P_hasImage P_image P_acts P_entries P_imageEntries S_fewest S_row S_strengths U_size U_found U_places U_kinds U_holds U_fitting U_tally L_letters L_firstCells L_secondCells L_firstBest L_secondBest W_refusals ++ fr))) 37 [(0, .ref (aC B 24)), (1, .int v1)] [.int k0] (wdC B W_spillsNow W_drawn T_length T_at T_bytes D_cells D_clauses G_length G_code A_size A_chosen A_codes A_lengths A_stack Y_cells Y_clauses N_marbles N_chipped N_swallowed N_sweets N_day N_owners P_next P_kept P_hasImage P_image P_acts P_entries P_imageEntries S_fewest S_row S_strengths U_size U_found U_places U_kinds U_holds U_fitting U_tally L_letters L_firstCells L_secondCells L_firstBest L_secondBest W_refusals ++ fr) (f_Clues_areAllSo_J37 U_holds v1 k0) := by
  unfold f_Clues_areAllSo_J37
  refine h_aload_n hX dX0_areAllSo_37 rfl rfl ?_
  refine get_RX0_18_C24 hX dX0_areAllSo_38 ?_
  refine h_iload_n hX dX0_areAllSo_41 rfl rfl ?_
  refine ald_C27 hX dX0_areAllSo_42 ?_
  refine h_icmp_eq hX dX0_areAllSo_43 (tgt := 48) (by decide) (fun _ => ?_) (fun _ => ?_)
  · refine h_iincc hX dX0_areAllSo_48 rfl ki_1 (by decide) (lv' := [(0, .ref (aC B 24)), (1, .int (v1 + 1))]) rfl ?_
    refine h_goto hX dX0_areAllSo_51 (tgt := 2) (by decide) ?_
    exact gH.some' (fun h => h)
  · refine h_iconst hX dX0_areAllSo_46 ki_0 ?_
    exact h_ret hX (rv := some (.int 0)) dX0_areAllSo_47 rfl (fun h => h)
set_option maxRecDepth 4000 in
theorem w_Clues_areAllSo_L2 (hX : gOk B X RX0 cX0_areAllSo 2 2 (some .boolean)) (s : Int32) : gH B X (Sum.elim (fun s : Int32 => gG B X 2 [(0, .ref (aC B 24)), (1, .int s)] [] (wdC B W_spillsNow W_drawn T_length T_at T_bytes D_cells D_clauses G_length G_code A_size A_chosen A_codes A_lengths A_stack Y_cells Y_clauses N_marbles N_chipped N_swallowed N_sweets N_day N_owners P_next P_kept P_hasImage P_image P_acts P_entries P_imageEntries S_fewest S_row S_strengths U_size U_found U_places U_kinds U_holds U_fitting U_tally L_letters L_firstCells L_secondCells L_firstBest L_secondBest W_refusals ++ fr)) (fun r : Int32 => gFin X (some (.int r)) (wdC B W_spillsNow W_drawn T_length T_at T_bytes D_cells D_clauses G_length G_code A_size A_chosen A_codes A_lengths A_stack Y_cells Y_clauses N_marbles N_chipped N_swallowed N_sweets N_day N_owners P_next P_kept P_hasImage P_image P_acts P_entries P_imageEntries S_fewest S_row S_strengths U_size U_found U_places U_kinds U_holds U_fitting U_tally L_letters L_firstCells L_secondCells L_firstBest L_secondBest W_refusals ++ fr))) 2 [(0, .ref (aC B 24)), (1, .int s)] [] (wdC B W_spillsNow W_drawn T_length T_at T_bytes D_cells D_clauses G_length G_code A_size A_chosen A_codes A_lengths A_stack Y_cells Y_clauses N_marbles N_chipped N_swallowed N_sweets N_day N_owners P_next P_kept P_hasImage P_image P_acts P_entries P_imageEntries S_fewest S_row S_strengths U_size U_found U_places U_kinds U_holds U_fitting U_tally L_letters L_firstCells L_secondCells L_firstBest L_secondBest W_refusals ++ fr) (f_Clues_areAllSo_L2 S_strengths U_size U_places U_kinds U_holds s) := by
  unfold f_Clues_areAllSo_L2
  refine h_iload_n hX dX0_areAllSo_2 rfl rfl ?_
  refine h_aload_n hX dX0_areAllSo_3 rfl rfl ?_
  refine get_RX0_40_C24 hX dX0_areAllSo_4 ?_
  refine h_icmp_ge hX dX0_areAllSo_7 (tgt := 54) (by decide) (fun _ => ?_) (fun _ => ?_)
  · refine h_iconst hX dX0_areAllSo_54 ki_1 ?_
    exact h_ret hX (rv := some (.int 1)) dX0_areAllSo_55 rfl (fun h => h)
  · refine h_aload_n hX dX0_areAllSo_10 rfl rfl ?_
    refine get_RX0_36_C24 hX dX0_areAllSo_11 ?_
    refine h_aload_n hX dX0_areAllSo_14 rfl rfl ?_
    refine get_RX0_9_C24 hX dX0_areAllSo_15 ?_
    refine h_iload_n hX dX0_areAllSo_18 rfl rfl ?_
    refine ald_C25 hX dX0_areAllSo_19 ?_
    refine h_callVi hX dX0_areAllSo_20 (cv_RX0_44) rc_C22 (As := [.int (U_places s.toNatClampNeg)]) (st := []) (fun _ h => c_Sky_strongestKind h) rfl rfl (by decide) (Nat.le_of_ble_eq_true rfl) (fun a_1 => ?_)
    refine h_aload_n hX dX0_areAllSo_23 rfl rfl ?_
    refine get_RX0_15_C24 hX dX0_areAllSo_24 ?_
    refine h_iload_n hX dX0_areAllSo_27 rfl rfl ?_
    refine ald_C26 hX dX0_areAllSo_28 ?_
    refine h_icmp_ne hX dX0_areAllSo_29 (tgt := 36) (by decide) (fun _ => ?_) (fun _ => ?_)
    · refine h_iconst hX dX0_areAllSo_36 ki_0 ?_
      exact w_Clues_areAllSo_J37 hX
    · refine h_iconst hX dX0_areAllSo_32 ki_1 ?_
      refine h_goto hX dX0_areAllSo_33 (tgt := 37) (by decide) ?_
      exact w_Clues_areAllSo_J37 hX
set_option maxRecDepth 4000 in
theorem w_Clues_areAllSo (hX : gOk B X RX0 cX0_areAllSo 2 2 (some .boolean)) : gH B X (fun r : Int32 => gFin X (some (.int r)) (wdC B W_spillsNow W_drawn T_length T_at T_bytes D_cells D_clauses G_length G_code A_size A_chosen A_codes A_lengths A_stack Y_cells Y_clauses N_marbles N_chipped N_swallowed N_sweets N_day N_owners P_next P_kept P_hasImage P_image P_acts P_entries P_imageEntries S_fewest S_row S_strengths U_size U_found U_places U_kinds U_holds U_fitting U_tally L_letters L_firstCells L_secondCells L_firstBest L_secondBest W_refusals ++ fr)) 0 [(0, .ref (aC B 24))] [] (wdC B W_spillsNow W_drawn T_length T_at T_bytes D_cells D_clauses G_length G_code A_size A_chosen A_codes A_lengths A_stack Y_cells Y_clauses N_marbles N_chipped N_swallowed N_sweets N_day N_owners P_next P_kept P_hasImage P_image P_acts P_entries P_imageEntries S_fewest S_row S_strengths U_size U_found U_places U_kinds U_holds U_fitting U_tally L_letters L_firstCells L_secondCells L_firstBest L_secondBest W_refusals ++ fr) (f_Clues_areAllSo S_strengths U_size U_places U_kinds U_holds) := by
  unfold f_Clues_areAllSo
  refine h_iconst hX dX0_areAllSo_0 ki_0 ?_
  refine h_istore_n hX dX0_areAllSo_1 rfl (by decide) (lv' := [(0, .ref (aC B 24)), (1, .int 0)]) rfl ?_
  exact gH.loop (lvf := fun z : Int32 => [(0, .ref (aC B 24)), (1, .int z)]) (wf := fun z : Int32 => wdC B W_spillsNow W_drawn T_length T_at T_bytes D_cells D_clauses G_length G_code A_size A_chosen A_codes A_lengths A_stack Y_cells Y_clauses N_marbles N_chipped N_swallowed N_sweets N_day N_owners P_next P_kept P_hasImage P_image P_acts P_entries P_imageEntries S_fewest S_row S_strengths U_size U_found U_places U_kinds U_holds U_fitting U_tally L_letters L_firstCells L_secondCells L_firstBest L_secondBest W_refusals ++ fr) (fun z => w_Clues_areAllSo_L2 hX z) 0
theorem c_Clues_areAllSo {r : Int32} (h : f_Clues_areAllSo S_strengths U_size U_places U_kinds U_holds = some r) : gMet B 2 yX0_areAllSo cX0_areAllSo 2 (some .boolean) [.ref (aC B 24)] (wdC B W_spillsNow W_drawn T_length T_at T_bytes D_cells D_clauses G_length G_code A_size A_chosen A_codes A_lengths A_stack Y_cells Y_clauses N_marbles N_chipped N_swallowed N_sweets N_day N_owners P_next P_kept P_hasImage P_image P_acts P_entries P_imageEntries S_fewest S_row S_strengths U_size U_found U_places U_kinds U_holds U_fitting U_tally L_letters L_firstCells L_secondCells L_firstBest L_secondBest W_refusals ++ fr) (some (.int r)) (wdC B W_spillsNow W_drawn T_length T_at T_bytes D_cells D_clauses G_length G_code A_size A_chosen A_codes A_lengths A_stack Y_cells Y_clauses N_marbles N_chipped N_swallowed N_sweets N_day N_owners P_next P_kept P_hasImage P_image P_acts P_entries P_imageEntries S_fewest S_row S_strengths U_size U_found U_places U_kinds U_holds U_fitting U_tally L_letters L_firstCells L_secondCells L_firstBest L_secondBest W_refusals ++ fr) :=
  gMet.of rfl (Nat.le_of_ble_eq_true rfl) (fun X hX hF => w_Clues_areAllSo hX r h hF)
set_option maxRecDepth 4000 in
theorem w_Now_ownerOf {p0 : Int32} (hX : gOk B X RX4 cX4_ownerOf 2 0 (some .int)) : gH B X (fun r : Int32 => gFin X (some (.int r)) (wdC B W_spillsNow W_drawn T_length T_at T_bytes D_cells D_clauses G_length G_code A_size A_chosen A_codes A_lengths A_stack Y_cells Y_clauses N_marbles N_chipped N_swallowed N_sweets N_day N_owners P_next P_kept P_hasImage P_image P_acts P_entries P_imageEntries S_fewest S_row S_strengths U_size U_found U_places U_kinds U_holds U_fitting U_tally L_letters L_firstCells L_secondCells L_firstBest L_secondBest W_refusals ++ fr)) 0 [(0, .ref (aC B 16)), (1, .int p0)] [] (wdC B W_spillsNow W_drawn T_length T_at T_bytes D_cells D_clauses G_length G_code A_size A_chosen A_codes A_lengths A_stack Y_cells Y_clauses N_marbles N_chipped N_swallowed N_sweets N_day N_owners P_next P_kept P_hasImage P_image P_acts P_entries P_imageEntries S_fewest S_row S_strengths U_size U_found U_places U_kinds U_holds U_fitting U_tally L_letters L_firstCells L_secondCells L_firstBest L_secondBest W_refusals ++ fr) (f_Now_ownerOf N_marbles N_owners p0) := by
  unfold f_Now_ownerOf
  refine h_iload_n hX dX4_ownerOf_0 rfl rfl ?_
  refine h_if_lt hX dX4_ownerOf_1 (tgt := 21) (by decide) (fun _ => ?_) (fun _ => ?_)
  · refine h_iconst hX dX4_ownerOf_21 ki_m1 ?_
    exact h_ret hX (rv := some (.int ((-1)))) dX4_ownerOf_22 trivial (fun h => h)
  · refine h_iload_n hX dX4_ownerOf_4 rfl rfl ?_
    refine h_aload_n hX dX4_ownerOf_5 rfl rfl ?_
    refine get_RX4_27_C16 hX dX4_ownerOf_6 ?_
    refine h_icmp_ge hX dX4_ownerOf_9 (tgt := 21) (by decide) (fun _ => ?_) (fun _ => ?_)
    · refine h_iconst hX dX4_ownerOf_21 ki_m1 ?_
      exact h_ret hX (rv := some (.int ((-1)))) dX4_ownerOf_22 trivial (fun h => h)
    · refine h_aload_n hX dX4_ownerOf_12 rfl rfl ?_
      refine get_RX4_9_C16 hX dX4_ownerOf_13 ?_
      refine h_iload_n hX dX4_ownerOf_16 rfl rfl ?_
      refine ald_C17 hX dX4_ownerOf_17 ?_
      refine h_goto hX dX4_ownerOf_18 (tgt := 22) (by decide) ?_
      exact h_ret hX (rv := some (.int (N_owners p0.toNatClampNeg))) dX4_ownerOf_22 trivial (fun h => h)
theorem c_Now_ownerOf {p0 : Int32} {r : Int32} (h : f_Now_ownerOf N_marbles N_owners p0 = some r) : gMet B 0 yX4_ownerOf cX4_ownerOf 2 (some .int) [.ref (aC B 16), .int p0] (wdC B W_spillsNow W_drawn T_length T_at T_bytes D_cells D_clauses G_length G_code A_size A_chosen A_codes A_lengths A_stack Y_cells Y_clauses N_marbles N_chipped N_swallowed N_sweets N_day N_owners P_next P_kept P_hasImage P_image P_acts P_entries P_imageEntries S_fewest S_row S_strengths U_size U_found U_places U_kinds U_holds U_fitting U_tally L_letters L_firstCells L_secondCells L_firstBest L_secondBest W_refusals ++ fr) (some (.int r)) (wdC B W_spillsNow W_drawn T_length T_at T_bytes D_cells D_clauses G_length G_code A_size A_chosen A_codes A_lengths A_stack Y_cells Y_clauses N_marbles N_chipped N_swallowed N_sweets N_day N_owners P_next P_kept P_hasImage P_image P_acts P_entries P_imageEntries S_fewest S_row S_strengths U_size U_found U_places U_kinds U_holds U_fitting U_tally L_letters L_firstCells L_secondCells L_firstBest L_secondBest W_refusals ++ fr) :=
  gMet.of rfl (Nat.le_of_ble_eq_true rfl) (fun X hX hF => w_Now_ownerOf hX r h hF)
set_option maxRecDepth 4000 in
theorem w_Yard_cell {p0 : Int32} {p1 : Int32} {p2 : Int32} (hX : gOk B X RX8 cX8_cell 4 0 (some .int)) : gH B X (fun r : Int32 => gFin X (some (.int r)) (wdC B W_spillsNow W_drawn T_length T_at T_bytes D_cells D_clauses G_length G_code A_size A_chosen A_codes A_lengths A_stack Y_cells Y_clauses N_marbles N_chipped N_swallowed N_sweets N_day N_owners P_next P_kept P_hasImage P_image P_acts P_entries P_imageEntries S_fewest S_row S_strengths U_size U_found U_places U_kinds U_holds U_fitting U_tally L_letters L_firstCells L_secondCells L_firstBest L_secondBest W_refusals ++ fr)) 0 [(0, .ref (aC B 13)), (1, .int p0), (2, .int p1), (3, .int p2)] [] (wdC B W_spillsNow W_drawn T_length T_at T_bytes D_cells D_clauses G_length G_code A_size A_chosen A_codes A_lengths A_stack Y_cells Y_clauses N_marbles N_chipped N_swallowed N_sweets N_day N_owners P_next P_kept P_hasImage P_image P_acts P_entries P_imageEntries S_fewest S_row S_strengths U_size U_found U_places U_kinds U_holds U_fitting U_tally L_letters L_firstCells L_secondCells L_firstBest L_secondBest W_refusals ++ fr) (f_Yard_cell Y_cells p0 p1 p2) := by
  unfold f_Yard_cell
  refine h_iload_n hX dX8_cell_0 rfl rfl ?_
  refine h_if_lt hX dX8_cell_1 (tgt := 32) (by decide) (fun _ => ?_) (fun _ => ?_)
  · refine h_iconst hX dX8_cell_32 ki_0 ?_
    exact h_ret hX (rv := some (.int 0)) dX8_cell_33 trivial (fun h => h)
  · refine h_iload_n hX dX8_cell_4 rfl rfl ?_
    refine h_gets hX 2 (q := ("MOST_CLAUSES", tab2)) rfl (by decide +kernel) dX8_cell_5 ?_
    refine h_iload_n hX dX8_cell_8 rfl rfl ?_
    refine h_tld hX 2 rfl dX8_cell_9 ?_
    refine h_icmp_ge hX dX8_cell_10 (tgt := 32) (by decide) (fun _ => ?_) (fun _ => ?_)
    · refine h_iconst hX dX8_cell_32 ki_0 ?_
      exact h_ret hX (rv := some (.int 0)) dX8_cell_33 trivial (fun h => h)
    · refine h_aload_n hX dX8_cell_13 rfl rfl ?_
      refine get_RX8_9_C13 hX dX8_cell_14 ?_
      refine h_gets hX 1 (q := ("FIRST_ROW", tab1)) rfl (by decide +kernel) dX8_cell_17 ?_
      refine h_iload_n hX dX8_cell_20 rfl rfl ?_
      refine h_tld hX 1 rfl dX8_cell_21 ?_
      refine h_iload_n hX dX8_cell_22 rfl rfl ?_
      refine h_iadd hX dX8_cell_23 ?_
      refine h_iconst hX dX8_cell_24 ki_3 ?_
      refine h_imul hX dX8_cell_25 ?_
      refine h_iload_n hX dX8_cell_26 rfl rfl ?_
      refine h_iadd hX dX8_cell_27 ?_
      refine ald_C14 hX dX8_cell_28 ?_
      refine h_goto hX dX8_cell_29 (tgt := 33) (by decide) ?_
      exact h_ret hX (rv := some (.int (Y_cells ((((tab1.getD p0.toNatClampNeg 0) + p1) * 3) + p2 : Int32).toNatClampNeg))) dX8_cell_33 trivial (fun h => h)
theorem c_Yard_cell {p0 : Int32} {p1 : Int32} {p2 : Int32} {r : Int32} (h : f_Yard_cell Y_cells p0 p1 p2 = some r) : gMet B 0 yX8_cell cX8_cell 4 (some .int) [.ref (aC B 13), .int p0, .int p1, .int p2] (wdC B W_spillsNow W_drawn T_length T_at T_bytes D_cells D_clauses G_length G_code A_size A_chosen A_codes A_lengths A_stack Y_cells Y_clauses N_marbles N_chipped N_swallowed N_sweets N_day N_owners P_next P_kept P_hasImage P_image P_acts P_entries P_imageEntries S_fewest S_row S_strengths U_size U_found U_places U_kinds U_holds U_fitting U_tally L_letters L_firstCells L_secondCells L_firstBest L_secondBest W_refusals ++ fr) (some (.int r)) (wdC B W_spillsNow W_drawn T_length T_at T_bytes D_cells D_clauses G_length G_code A_size A_chosen A_codes A_lengths A_stack Y_cells Y_clauses N_marbles N_chipped N_swallowed N_sweets N_day N_owners P_next P_kept P_hasImage P_image P_acts P_entries P_imageEntries S_fewest S_row S_strengths U_size U_found U_places U_kinds U_holds U_fitting U_tally L_letters L_firstCells L_secondCells L_firstBest L_secondBest W_refusals ++ fr) :=
  gMet.of rfl (Nat.le_of_ble_eq_true rfl) (fun X hX hF => w_Yard_cell hX r h hF)
set_option maxRecDepth 4000 in
theorem w_Yard_boyPlace {p0 : Int32} (hX : gOk B X RX8 cX8_boyPlace 2 1 (some .int)) : gH B X (fun r : Int32 => gFin X (some (.int r)) (wdC B W_spillsNow W_drawn T_length T_at T_bytes D_cells D_clauses G_length G_code A_size A_chosen A_codes A_lengths A_stack Y_cells Y_clauses N_marbles N_chipped N_swallowed N_sweets N_day N_owners P_next P_kept P_hasImage P_image P_acts P_entries P_imageEntries S_fewest S_row S_strengths U_size U_found U_places U_kinds U_holds U_fitting U_tally L_letters L_firstCells L_secondCells L_firstBest L_secondBest W_refusals ++ fr)) 0 [(0, .ref (aC B 13)), (1, .int p0)] [] (wdC B W_spillsNow W_drawn T_length T_at T_bytes D_cells D_clauses G_length G_code A_size A_chosen A_codes A_lengths A_stack Y_cells Y_clauses N_marbles N_chipped N_swallowed N_sweets N_day N_owners P_next P_kept P_hasImage P_image P_acts P_entries P_imageEntries S_fewest S_row S_strengths U_size U_found U_places U_kinds U_holds U_fitting U_tally L_letters L_firstCells L_secondCells L_firstBest L_secondBest W_refusals ++ fr) (f_Yard_boyPlace Y_cells p0) := by
  unfold f_Yard_boyPlace
  refine h_aload_n hX dX8_boyPlace_0 rfl rfl ?_
  refine h_iconst hX dX8_boyPlace_1 ki_1 ?_
  refine h_iload_n hX dX8_boyPlace_2 rfl rfl ?_
  refine h_iconst hX dX8_boyPlace_3 ki_1 ?_
  refine h_callVi hX dX8_boyPlace_4 (cv_RX8_60) rc_C13 (As := [.int 1, .int p0, .int 1]) (st := []) (fun _ h => c_Yard_cell h) rfl rfl (by decide) (Nat.le_of_ble_eq_true rfl) (fun a_1 => ?_)
  exact h_ret hX (rv := some (.int a_1)) dX8_boyPlace_7 trivial (fun h => h)
theorem c_Yard_boyPlace {p0 : Int32} {r : Int32} (h : f_Yard_boyPlace Y_cells p0 = some r) : gMet B 1 yX8_boyPlace cX8_boyPlace 2 (some .int) [.ref (aC B 13), .int p0] (wdC B W_spillsNow W_drawn T_length T_at T_bytes D_cells D_clauses G_length G_code A_size A_chosen A_codes A_lengths A_stack Y_cells Y_clauses N_marbles N_chipped N_swallowed N_sweets N_day N_owners P_next P_kept P_hasImage P_image P_acts P_entries P_imageEntries S_fewest S_row S_strengths U_size U_found U_places U_kinds U_holds U_fitting U_tally L_letters L_firstCells L_secondCells L_firstBest L_secondBest W_refusals ++ fr) (some (.int r)) (wdC B W_spillsNow W_drawn T_length T_at T_bytes D_cells D_clauses G_length G_code A_size A_chosen A_codes A_lengths A_stack Y_cells Y_clauses N_marbles N_chipped N_swallowed N_sweets N_day N_owners P_next P_kept P_hasImage P_image P_acts P_entries P_imageEntries S_fewest S_row S_strengths U_size U_found U_places U_kinds U_holds U_fitting U_tally L_letters L_firstCells L_secondCells L_firstBest L_secondBest W_refusals ++ fr) :=
  gMet.of rfl (Nat.le_of_ble_eq_true rfl) (fun X hX hF => w_Yard_boyPlace hX r h hF)
set_option maxRecDepth 4000 in
theorem w_Yard_kind {p0 : Int32} (hX : gOk B X RX8 cX8_kind 2 1 (some .int)) : gH B X (fun r : Int32 => gFin X (some (.int r)) (wdC B W_spillsNow W_drawn T_length T_at T_bytes D_cells D_clauses G_length G_code A_size A_chosen A_codes A_lengths A_stack Y_cells Y_clauses N_marbles N_chipped N_swallowed N_sweets N_day N_owners P_next P_kept P_hasImage P_image P_acts P_entries P_imageEntries S_fewest S_row S_strengths U_size U_found U_places U_kinds U_holds U_fitting U_tally L_letters L_firstCells L_secondCells L_firstBest L_secondBest W_refusals ++ fr)) 0 [(0, .ref (aC B 13)), (1, .int p0)] [] (wdC B W_spillsNow W_drawn T_length T_at T_bytes D_cells D_clauses G_length G_code A_size A_chosen A_codes A_lengths A_stack Y_cells Y_clauses N_marbles N_chipped N_swallowed N_sweets N_day N_owners P_next P_kept P_hasImage P_image P_acts P_entries P_imageEntries S_fewest S_row S_strengths U_size U_found U_places U_kinds U_holds U_fitting U_tally L_letters L_firstCells L_secondCells L_firstBest L_secondBest W_refusals ++ fr) (f_Yard_kind Y_cells p0) := by
  unfold f_Yard_kind
  refine h_aload_n hX dX8_kind_0 rfl rfl ?_
  refine h_iconst hX dX8_kind_1 ki_2 ?_
  refine h_iload_n hX dX8_kind_2 rfl rfl ?_
  refine h_iconst hX dX8_kind_3 ki_1 ?_
  refine h_callVi hX dX8_kind_4 (cv_RX8_60) rc_C13 (As := [.int 2, .int p0, .int 1]) (st := []) (fun _ h => c_Yard_cell h) rfl rfl (by decide) (Nat.le_of_ble_eq_true rfl) (fun a_1 => ?_)
  exact h_ret hX (rv := some (.int a_1)) dX8_kind_7 trivial (fun h => h)
theorem c_Yard_kind {p0 : Int32} {r : Int32} (h : f_Yard_kind Y_cells p0 = some r) : gMet B 1 yX8_kind cX8_kind 2 (some .int) [.ref (aC B 13), .int p0] (wdC B W_spillsNow W_drawn T_length T_at T_bytes D_cells D_clauses G_length G_code A_size A_chosen A_codes A_lengths A_stack Y_cells Y_clauses N_marbles N_chipped N_swallowed N_sweets N_day N_owners P_next P_kept P_hasImage P_image P_acts P_entries P_imageEntries S_fewest S_row S_strengths U_size U_found U_places U_kinds U_holds U_fitting U_tally L_letters L_firstCells L_secondCells L_firstBest L_secondBest W_refusals ++ fr) (some (.int r)) (wdC B W_spillsNow W_drawn T_length T_at T_bytes D_cells D_clauses G_length G_code A_size A_chosen A_codes A_lengths A_stack Y_cells Y_clauses N_marbles N_chipped N_swallowed N_sweets N_day N_owners P_next P_kept P_hasImage P_image P_acts P_entries P_imageEntries S_fewest S_row S_strengths U_size U_found U_places U_kinds U_holds U_fitting U_tally L_letters L_firstCells L_secondCells L_firstBest L_secondBest W_refusals ++ fr) :=
  gMet.of rfl (Nat.le_of_ble_eq_true rfl) (fun X hX hF => w_Yard_kind hX r h hF)
set_option maxRecDepth 4000 in
theorem w_Sky_indexOf {p0 : Int32} {p1 : Int32} (hX : gOk B X RX6 cX6_indexOf 3 2 (some .int)) : gH B X (fun r : Int32 => gFin X (some (.int r)) (wdC B W_spillsNow W_drawn T_length T_at T_bytes D_cells D_clauses G_length G_code A_size A_chosen A_codes A_lengths A_stack Y_cells Y_clauses N_marbles N_chipped N_swallowed N_sweets N_day N_owners P_next P_kept P_hasImage P_image P_acts P_entries P_imageEntries S_fewest S_row S_strengths U_size U_found U_places U_kinds U_holds U_fitting U_tally L_letters L_firstCells L_secondCells L_firstBest L_secondBest W_refusals ++ fr)) 0 [(0, .ref (aC B 22)), (1, .int p0), (2, .int p1)] [] (wdC B W_spillsNow W_drawn T_length T_at T_bytes D_cells D_clauses G_length G_code A_size A_chosen A_codes A_lengths A_stack Y_cells Y_clauses N_marbles N_chipped N_swallowed N_sweets N_day N_owners P_next P_kept P_hasImage P_image P_acts P_entries P_imageEntries S_fewest S_row S_strengths U_size U_found U_places U_kinds U_holds U_fitting U_tally L_letters L_firstCells L_secondCells L_firstBest L_secondBest W_refusals ++ fr) (f_Sky_indexOf Y_cells p0 p1) := by
  unfold f_Sky_indexOf
  refine h_aload_n hX dX6_indexOf_0 rfl rfl ?_
  refine get_RX6_15_C22 hX dX6_indexOf_1 ?_
  refine h_iload_n hX dX6_indexOf_4 rfl rfl ?_
  refine h_callVi hX dX6_indexOf_5 (cv_RX6_53) rc_C13 (As := [.int p0]) (st := []) (fun _ h => c_Yard_boyPlace h) rfl rfl (by decide) (Nat.le_of_ble_eq_true rfl) (fun a_1 => ?_)
  refine h_bipush hX dX6_indexOf_8 kb_6 ?_
  refine h_imul hX dX6_indexOf_10 ?_
  refine h_aload_n hX dX6_indexOf_11 rfl rfl ?_
  refine get_RX6_15_C22 hX dX6_indexOf_12 ?_
  refine h_iload_n hX dX6_indexOf_15 rfl rfl ?_
  refine h_callVi hX dX6_indexOf_16 (cv_RX6_56) rc_C13 (As := [.int p1]) (st := [.int (a_1 * 6)]) (fun _ h => c_Yard_kind h) rfl rfl (by decide) (Nat.le_of_ble_eq_true rfl) (fun a_2 => ?_)
  refine h_iadd hX dX6_indexOf_19 ?_
  exact h_ret hX (rv := some (.int ((a_1 * 6) + a_2))) dX6_indexOf_20 trivial (fun h => h)
theorem c_Sky_indexOf {p0 : Int32} {p1 : Int32} {r : Int32} (h : f_Sky_indexOf Y_cells p0 p1 = some r) : gMet B 2 yX6_indexOf cX6_indexOf 3 (some .int) [.ref (aC B 22), .int p0, .int p1] (wdC B W_spillsNow W_drawn T_length T_at T_bytes D_cells D_clauses G_length G_code A_size A_chosen A_codes A_lengths A_stack Y_cells Y_clauses N_marbles N_chipped N_swallowed N_sweets N_day N_owners P_next P_kept P_hasImage P_image P_acts P_entries P_imageEntries S_fewest S_row S_strengths U_size U_found U_places U_kinds U_holds U_fitting U_tally L_letters L_firstCells L_secondCells L_firstBest L_secondBest W_refusals ++ fr) (some (.int r)) (wdC B W_spillsNow W_drawn T_length T_at T_bytes D_cells D_clauses G_length G_code A_size A_chosen A_codes A_lengths A_stack Y_cells Y_clauses N_marbles N_chipped N_swallowed N_sweets N_day N_owners P_next P_kept P_hasImage P_image P_acts P_entries P_imageEntries S_fewest S_row S_strengths U_size U_found U_places U_kinds U_holds U_fitting U_tally L_letters L_firstCells L_secondCells L_firstBest L_secondBest W_refusals ++ fr) :=
  gMet.of rfl (Nat.le_of_ble_eq_true rfl) (fun X hX hF => w_Sky_indexOf hX r h hF)
set_option maxRecDepth 4000 in
theorem w_Yard_size {p0 : Int32} (hX : gOk B X RX8 cX8_size 2 1 (some .int)) : gH B X (fun r : Int32 => gFin X (some (.int r)) (wdC B W_spillsNow W_drawn T_length T_at T_bytes D_cells D_clauses G_length G_code A_size A_chosen A_codes A_lengths A_stack Y_cells Y_clauses N_marbles N_chipped N_swallowed N_sweets N_day N_owners P_next P_kept P_hasImage P_image P_acts P_entries P_imageEntries S_fewest S_row S_strengths U_size U_found U_places U_kinds U_holds U_fitting U_tally L_letters L_firstCells L_secondCells L_firstBest L_secondBest W_refusals ++ fr)) 0 [(0, .ref (aC B 13)), (1, .int p0)] [] (wdC B W_spillsNow W_drawn T_length T_at T_bytes D_cells D_clauses G_length G_code A_size A_chosen A_codes A_lengths A_stack Y_cells Y_clauses N_marbles N_chipped N_swallowed N_sweets N_day N_owners P_next P_kept P_hasImage P_image P_acts P_entries P_imageEntries S_fewest S_row S_strengths U_size U_found U_places U_kinds U_holds U_fitting U_tally L_letters L_firstCells L_secondCells L_firstBest L_secondBest W_refusals ++ fr) (f_Yard_size Y_cells p0) := by
  unfold f_Yard_size
  refine h_aload_n hX dX8_size_0 rfl rfl ?_
  refine h_iconst hX dX8_size_1 ki_2 ?_
  refine h_iload_n hX dX8_size_2 rfl rfl ?_
  refine h_iconst hX dX8_size_3 ki_2 ?_
  refine h_callVi hX dX8_size_4 (cv_RX8_60) rc_C13 (As := [.int 2, .int p0, .int 2]) (st := []) (fun _ h => c_Yard_cell h) rfl rfl (by decide) (Nat.le_of_ble_eq_true rfl) (fun a_1 => ?_)
  exact h_ret hX (rv := some (.int a_1)) dX8_size_7 trivial (fun h => h)
theorem c_Yard_size {p0 : Int32} {r : Int32} (h : f_Yard_size Y_cells p0 = some r) : gMet B 1 yX8_size cX8_size 2 (some .int) [.ref (aC B 13), .int p0] (wdC B W_spillsNow W_drawn T_length T_at T_bytes D_cells D_clauses G_length G_code A_size A_chosen A_codes A_lengths A_stack Y_cells Y_clauses N_marbles N_chipped N_swallowed N_sweets N_day N_owners P_next P_kept P_hasImage P_image P_acts P_entries P_imageEntries S_fewest S_row S_strengths U_size U_found U_places U_kinds U_holds U_fitting U_tally L_letters L_firstCells L_secondCells L_firstBest L_secondBest W_refusals ++ fr) (some (.int r)) (wdC B W_spillsNow W_drawn T_length T_at T_bytes D_cells D_clauses G_length G_code A_size A_chosen A_codes A_lengths A_stack Y_cells Y_clauses N_marbles N_chipped N_swallowed N_sweets N_day N_owners P_next P_kept P_hasImage P_image P_acts P_entries P_imageEntries S_fewest S_row S_strengths U_size U_found U_places U_kinds U_holds U_fitting U_tally L_letters L_firstCells L_secondCells L_firstBest L_secondBest W_refusals ++ fr) :=
  gMet.of rfl (Nat.le_of_ble_eq_true rfl) (fun X hX hF => w_Yard_size hX r h hF)
set_option maxRecDepth 4000 in
theorem w_Now_isChipped {p0 : Int32} (hX : gOk B X RX4 cX4_isChipped 2 0 (some .boolean)) : gH B X (fun r : Int32 => gFin X (some (.int r)) (wdC B W_spillsNow W_drawn T_length T_at T_bytes D_cells D_clauses G_length G_code A_size A_chosen A_codes A_lengths A_stack Y_cells Y_clauses N_marbles N_chipped N_swallowed N_sweets N_day N_owners P_next P_kept P_hasImage P_image P_acts P_entries P_imageEntries S_fewest S_row S_strengths U_size U_found U_places U_kinds U_holds U_fitting U_tally L_letters L_firstCells L_secondCells L_firstBest L_secondBest W_refusals ++ fr)) 0 [(0, .ref (aC B 16)), (1, .int p0)] [] (wdC B W_spillsNow W_drawn T_length T_at T_bytes D_cells D_clauses G_length G_code A_size A_chosen A_codes A_lengths A_stack Y_cells Y_clauses N_marbles N_chipped N_swallowed N_sweets N_day N_owners P_next P_kept P_hasImage P_image P_acts P_entries P_imageEntries S_fewest S_row S_strengths U_size U_found U_places U_kinds U_holds U_fitting U_tally L_letters L_firstCells L_secondCells L_firstBest L_secondBest W_refusals ++ fr) (f_Now_isChipped N_chipped p0) := by
  unfold f_Now_isChipped
  refine h_aload_n hX dX4_isChipped_0 rfl rfl ?_
  refine get_RX4_34_C16 hX dX4_isChipped_1 ?_
  refine h_iload_n hX dX4_isChipped_4 rfl rfl ?_
  refine h_ishr hX dX4_isChipped_5 ?_
  refine h_iconst hX dX4_isChipped_6 ki_1 ?_
  refine h_iand hX dX4_isChipped_7 ?_
  refine h_if_eq hX dX4_isChipped_8 (tgt := 15) (by decide) (fun _ => ?_) (fun _ => ?_)
  · refine h_iconst hX dX4_isChipped_15 ki_0 ?_
    exact h_ret hX (rv := some (.int 0)) dX4_isChipped_16 rfl (fun h => h)
  · refine h_iconst hX dX4_isChipped_11 ki_1 ?_
    refine h_goto hX dX4_isChipped_12 (tgt := 16) (by decide) ?_
    exact h_ret hX (rv := some (.int 1)) dX4_isChipped_16 rfl (fun h => h)
theorem c_Now_isChipped {p0 : Int32} {r : Int32} (h : f_Now_isChipped N_chipped p0 = some r) : gMet B 0 yX4_isChipped cX4_isChipped 2 (some .boolean) [.ref (aC B 16), .int p0] (wdC B W_spillsNow W_drawn T_length T_at T_bytes D_cells D_clauses G_length G_code A_size A_chosen A_codes A_lengths A_stack Y_cells Y_clauses N_marbles N_chipped N_swallowed N_sweets N_day N_owners P_next P_kept P_hasImage P_image P_acts P_entries P_imageEntries S_fewest S_row S_strengths U_size U_found U_places U_kinds U_holds U_fitting U_tally L_letters L_firstCells L_secondCells L_firstBest L_secondBest W_refusals ++ fr) (some (.int r)) (wdC B W_spillsNow W_drawn T_length T_at T_bytes D_cells D_clauses G_length G_code A_size A_chosen A_codes A_lengths A_stack Y_cells Y_clauses N_marbles N_chipped N_swallowed N_sweets N_day N_owners P_next P_kept P_hasImage P_image P_acts P_entries P_imageEntries S_fewest S_row S_strengths U_size U_found U_places U_kinds U_holds U_fitting U_tally L_letters L_firstCells L_secondCells L_firstBest L_secondBest W_refusals ++ fr) :=
  gMet.of rfl (Nat.le_of_ble_eq_true rfl) (fun X hX hF => w_Now_isChipped hX r h hF)
set_option maxRecDepth 4000 in
theorem w_Now_soundSize_C13 {p0 : Int32} (hX : gOk B X RX4 cX4_soundSize 4 2 (some .int)) : gH B X (fun r : Int32 => gFin X (some (.int r)) (wdC B W_spillsNow W_drawn T_length T_at T_bytes D_cells D_clauses G_length G_code A_size A_chosen A_codes A_lengths A_stack Y_cells Y_clauses N_marbles N_chipped N_swallowed N_sweets N_day N_owners P_next P_kept P_hasImage P_image P_acts P_entries P_imageEntries S_fewest S_row S_strengths U_size U_found U_places U_kinds U_holds U_fitting U_tally L_letters L_firstCells L_secondCells L_firstBest L_secondBest W_refusals ++ fr)) 0 [(0, .ref (aC B 16)), (1, .ref (aC B 13)), (2, .int p0)] [] (wdC B W_spillsNow W_drawn T_length T_at T_bytes D_cells D_clauses G_length G_code A_size A_chosen A_codes A_lengths A_stack Y_cells Y_clauses N_marbles N_chipped N_swallowed N_sweets N_day N_owners P_next P_kept P_hasImage P_image P_acts P_entries P_imageEntries S_fewest S_row S_strengths U_size U_found U_places U_kinds U_holds U_fitting U_tally L_letters L_firstCells L_secondCells L_firstBest L_secondBest W_refusals ++ fr) (f_Now_soundSize_C13 Y_cells N_chipped p0) := by
  unfold f_Now_soundSize_C13
  refine h_aload_n hX dX4_soundSize_0 rfl rfl ?_
  refine h_iload_n hX dX4_soundSize_1 rfl rfl ?_
  refine h_callVi hX dX4_soundSize_2 (cv_RX4_62) rc_C13 (As := [.int p0]) (st := []) (fun _ h => c_Yard_size h) rfl rfl (by decide) (Nat.le_of_ble_eq_true rfl) (fun a_1 => ?_)
  refine h_istore_n hX dX4_soundSize_5 rfl (by decide) (lv' := [(0, .ref (aC B 16)), (1, .ref (aC B 13)), (2, .int p0), (3, .int a_1)]) rfl ?_
  refine h_aload_n hX dX4_soundSize_6 rfl rfl ?_
  refine h_iload_n hX dX4_soundSize_7 rfl rfl ?_
  refine h_callVi hX dX4_soundSize_8 (cv_RX4_65) rc_C16 (As := [.int p0]) (st := []) (fun _ h => c_Now_isChipped h) rfl rfl (by decide) (Nat.le_of_ble_eq_true rfl) (fun a_2 => ?_)
  refine h_if_eq hX dX4_soundSize_11 (tgt := 24) (by decide) (fun _ => ?_) (fun _ => ?_)
  · refine h_iload_n hX dX4_soundSize_24 rfl rfl ?_
    exact h_ret hX (rv := some (.int a_1)) dX4_soundSize_25 trivial (fun h => h)
  · refine h_iconst hX dX4_soundSize_14 ki_0 ?_
    refine h_iload_n hX dX4_soundSize_15 rfl rfl ?_
    refine h_iconst hX dX4_soundSize_16 ki_2 ?_
    refine h_isub hX dX4_soundSize_17 ?_
    refine h_jmax hX dX4_soundSize_18 cm_RX4_68 (by omega) (Nat.le_of_ble_eq_true rfl) ?_
    refine h_goto hX dX4_soundSize_21 (tgt := 25) (by decide) ?_
    exact h_ret hX (rv := some (.int (jmax 0 (a_1 - 2)))) dX4_soundSize_25 trivial (fun h => h)
theorem c_Now_soundSize_C13 {p0 : Int32} {r : Int32} (h : f_Now_soundSize_C13 Y_cells N_chipped p0 = some r) : gMet B 2 yX4_soundSize cX4_soundSize 4 (some .int) [.ref (aC B 16), .ref (aC B 13), .int p0] (wdC B W_spillsNow W_drawn T_length T_at T_bytes D_cells D_clauses G_length G_code A_size A_chosen A_codes A_lengths A_stack Y_cells Y_clauses N_marbles N_chipped N_swallowed N_sweets N_day N_owners P_next P_kept P_hasImage P_image P_acts P_entries P_imageEntries S_fewest S_row S_strengths U_size U_found U_places U_kinds U_holds U_fitting U_tally L_letters L_firstCells L_secondCells L_firstBest L_secondBest W_refusals ++ fr) (some (.int r)) (wdC B W_spillsNow W_drawn T_length T_at T_bytes D_cells D_clauses G_length G_code A_size A_chosen A_codes A_lengths A_stack Y_cells Y_clauses N_marbles N_chipped N_swallowed N_sweets N_day N_owners P_next P_kept P_hasImage P_image P_acts P_entries P_imageEntries S_fewest S_row S_strengths U_size U_found U_places U_kinds U_holds U_fitting U_tally L_letters L_firstCells L_secondCells L_firstBest L_secondBest W_refusals ++ fr) :=
  gMet.of rfl (Nat.le_of_ble_eq_true rfl) (fun X hX hF => w_Now_soundSize_C13 hX r h hF)
set_option maxRecDepth 4000 in
theorem w_Sky_lift {p0 : Int32} {p1 : Int32} (hX : gOk B X RX6 cX6_lift 3 3 none) : gH B X (fun r : (Nat → Int32) => gFin X (none) (wdC B W_spillsNow W_drawn T_length T_at T_bytes D_cells D_clauses G_length G_code A_size A_chosen A_codes A_lengths A_stack Y_cells Y_clauses N_marbles N_chipped N_swallowed N_sweets N_day N_owners P_next P_kept P_hasImage P_image P_acts P_entries P_imageEntries S_fewest S_row r U_size U_found U_places U_kinds U_holds U_fitting U_tally L_letters L_firstCells L_secondCells L_firstBest L_secondBest W_refusals ++ fr)) 0 [(0, .ref (aC B 22)), (1, .int p0), (2, .int p1)] [] (wdC B W_spillsNow W_drawn T_length T_at T_bytes D_cells D_clauses G_length G_code A_size A_chosen A_codes A_lengths A_stack Y_cells Y_clauses N_marbles N_chipped N_swallowed N_sweets N_day N_owners P_next P_kept P_hasImage P_image P_acts P_entries P_imageEntries S_fewest S_row S_strengths U_size U_found U_places U_kinds U_holds U_fitting U_tally L_letters L_firstCells L_secondCells L_firstBest L_secondBest W_refusals ++ fr) (f_Sky_lift Y_cells N_chipped S_strengths p0 p1) := by
  unfold f_Sky_lift
  refine h_aload_n hX dX6_lift_0 rfl rfl ?_
  refine get_RX6_9_C22 hX dX6_lift_1 ?_
  refine h_aload_n hX dX6_lift_4 rfl rfl ?_
  refine h_iload_n hX dX6_lift_5 rfl rfl ?_
  refine h_iload_n hX dX6_lift_6 rfl rfl ?_
  refine h_callVi hX dX6_lift_7 (cv_RX6_45) rc_C22 (As := [.int p1, .int p0]) (st := [.ref (aC B 23)]) (fun _ h => c_Sky_indexOf h) rfl rfl (by decide) (Nat.le_of_ble_eq_true rfl) (fun a_1 => ?_)
  refine h_dup2 hX dX6_lift_10 rfl rfl ?_
  refine ald_C23 hX dX6_lift_11 ?_
  refine h_aload_n hX dX6_lift_12 rfl rfl ?_
  refine get_RX6_19_C22 hX dX6_lift_13 ?_
  refine h_aload_n hX dX6_lift_16 rfl rfl ?_
  refine get_RX6_15_C22 hX dX6_lift_17 ?_
  refine h_iload_n hX dX6_lift_20 rfl rfl ?_
  refine h_callVi hX dX6_lift_21 (cv_RX6_49) rc_C16 (As := [.ref (aC B 13), .int p0]) (st := [.int (S_strengths a_1.toNatClampNeg), .int a_1, .ref (aC B 23)]) (fun _ h => c_Now_soundSize_C13 h) rfl rfl (by decide) (Nat.le_of_ble_eq_true rfl) (fun a_2 => ?_)
  refine h_isub hX dX6_lift_24 ?_
  refine ast_C23 hX dX6_lift_25 ?_
  refine gH.letw (w := fun y => wdC B W_spillsNow W_drawn T_length T_at T_bytes D_cells D_clauses G_length G_code A_size A_chosen A_codes A_lengths A_stack Y_cells Y_clauses N_marbles N_chipped N_swallowed N_sweets N_day N_owners P_next P_kept P_hasImage P_image P_acts P_entries P_imageEntries S_fewest S_row y U_size U_found U_places U_kinds U_holds U_fitting U_tally L_letters L_firstCells L_secondCells L_firstBest L_secondBest W_refusals ++ fr) (fun S_strengths_3 => ?_)
  exact h_ret hX (rv := none) dX6_lift_26 trivial (fun h => h)
theorem c_Sky_lift {p0 : Int32} {p1 : Int32} {r : (Nat → Int32)} (h : f_Sky_lift Y_cells N_chipped S_strengths p0 p1 = some r) : gMet B 3 yX6_lift cX6_lift 3 none [.ref (aC B 22), .int p0, .int p1] (wdC B W_spillsNow W_drawn T_length T_at T_bytes D_cells D_clauses G_length G_code A_size A_chosen A_codes A_lengths A_stack Y_cells Y_clauses N_marbles N_chipped N_swallowed N_sweets N_day N_owners P_next P_kept P_hasImage P_image P_acts P_entries P_imageEntries S_fewest S_row S_strengths U_size U_found U_places U_kinds U_holds U_fitting U_tally L_letters L_firstCells L_secondCells L_firstBest L_secondBest W_refusals ++ fr) (none) (wdC B W_spillsNow W_drawn T_length T_at T_bytes D_cells D_clauses G_length G_code A_size A_chosen A_codes A_lengths A_stack Y_cells Y_clauses N_marbles N_chipped N_swallowed N_sweets N_day N_owners P_next P_kept P_hasImage P_image P_acts P_entries P_imageEntries S_fewest S_row r U_size U_found U_places U_kinds U_holds U_fitting U_tally L_letters L_firstCells L_secondCells L_firstBest L_secondBest W_refusals ++ fr) :=
  gMet.of rfl (Nat.le_of_ble_eq_true rfl) (fun X hX hF => w_Sky_lift hX r h hF)
set_option maxRecDepth 4000 in
theorem w_Sky_put {p0 : Int32} {p1 : Int32} (hX : gOk B X RX6 cX6_put 3 3 none) : gH B X (fun r : (Nat → Int32) => gFin X (none) (wdC B W_spillsNow W_drawn T_length T_at T_bytes D_cells D_clauses G_length G_code A_size A_chosen A_codes A_lengths A_stack Y_cells Y_clauses N_marbles N_chipped N_swallowed N_sweets N_day N_owners P_next P_kept P_hasImage P_image P_acts P_entries P_imageEntries S_fewest S_row r U_size U_found U_places U_kinds U_holds U_fitting U_tally L_letters L_firstCells L_secondCells L_firstBest L_secondBest W_refusals ++ fr)) 0 [(0, .ref (aC B 22)), (1, .int p0), (2, .int p1)] [] (wdC B W_spillsNow W_drawn T_length T_at T_bytes D_cells D_clauses G_length G_code A_size A_chosen A_codes A_lengths A_stack Y_cells Y_clauses N_marbles N_chipped N_swallowed N_sweets N_day N_owners P_next P_kept P_hasImage P_image P_acts P_entries P_imageEntries S_fewest S_row S_strengths U_size U_found U_places U_kinds U_holds U_fitting U_tally L_letters L_firstCells L_secondCells L_firstBest L_secondBest W_refusals ++ fr) (f_Sky_put Y_cells N_chipped S_strengths p0 p1) := by
  unfold f_Sky_put
  refine h_aload_n hX dX6_put_0 rfl rfl ?_
  refine get_RX6_9_C22 hX dX6_put_1 ?_
  refine h_aload_n hX dX6_put_4 rfl rfl ?_
  refine h_iload_n hX dX6_put_5 rfl rfl ?_
  refine h_iload_n hX dX6_put_6 rfl rfl ?_
  refine h_callVi hX dX6_put_7 (cv_RX6_45) rc_C22 (As := [.int p1, .int p0]) (st := [.ref (aC B 23)]) (fun _ h => c_Sky_indexOf h) rfl rfl (by decide) (Nat.le_of_ble_eq_true rfl) (fun a_1 => ?_)
  refine h_dup2 hX dX6_put_10 rfl rfl ?_
  refine ald_C23 hX dX6_put_11 ?_
  refine h_aload_n hX dX6_put_12 rfl rfl ?_
  refine get_RX6_19_C22 hX dX6_put_13 ?_
  refine h_aload_n hX dX6_put_16 rfl rfl ?_
  refine get_RX6_15_C22 hX dX6_put_17 ?_
  refine h_iload_n hX dX6_put_20 rfl rfl ?_
  refine h_callVi hX dX6_put_21 (cv_RX6_49) rc_C16 (As := [.ref (aC B 13), .int p0]) (st := [.int (S_strengths a_1.toNatClampNeg), .int a_1, .ref (aC B 23)]) (fun _ h => c_Now_soundSize_C13 h) rfl rfl (by decide) (Nat.le_of_ble_eq_true rfl) (fun a_2 => ?_)
  refine h_iadd hX dX6_put_24 ?_
  refine ast_C23 hX dX6_put_25 ?_
  refine gH.letw (w := fun y => wdC B W_spillsNow W_drawn T_length T_at T_bytes D_cells D_clauses G_length G_code A_size A_chosen A_codes A_lengths A_stack Y_cells Y_clauses N_marbles N_chipped N_swallowed N_sweets N_day N_owners P_next P_kept P_hasImage P_image P_acts P_entries P_imageEntries S_fewest S_row y U_size U_found U_places U_kinds U_holds U_fitting U_tally L_letters L_firstCells L_secondCells L_firstBest L_secondBest W_refusals ++ fr) (fun S_strengths_3 => ?_)
  exact h_ret hX (rv := none) dX6_put_26 trivial (fun h => h)
theorem c_Sky_put {p0 : Int32} {p1 : Int32} {r : (Nat → Int32)} (h : f_Sky_put Y_cells N_chipped S_strengths p0 p1 = some r) : gMet B 3 yX6_put cX6_put 3 none [.ref (aC B 22), .int p0, .int p1] (wdC B W_spillsNow W_drawn T_length T_at T_bytes D_cells D_clauses G_length G_code A_size A_chosen A_codes A_lengths A_stack Y_cells Y_clauses N_marbles N_chipped N_swallowed N_sweets N_day N_owners P_next P_kept P_hasImage P_image P_acts P_entries P_imageEntries S_fewest S_row S_strengths U_size U_found U_places U_kinds U_holds U_fitting U_tally L_letters L_firstCells L_secondCells L_firstBest L_secondBest W_refusals ++ fr) (none) (wdC B W_spillsNow W_drawn T_length T_at T_bytes D_cells D_clauses G_length G_code A_size A_chosen A_codes A_lengths A_stack Y_cells Y_clauses N_marbles N_chipped N_swallowed N_sweets N_day N_owners P_next P_kept P_hasImage P_image P_acts P_entries P_imageEntries S_fewest S_row r U_size U_found U_places U_kinds U_holds U_fitting U_tally L_letters L_firstCells L_secondCells L_firstBest L_secondBest W_refusals ++ fr) :=
  gMet.of rfl (Nat.le_of_ble_eq_true rfl) (fun X hX hF => w_Sky_put hX r h hF)
set_option maxRecDepth 4000 in
theorem w_Sky_move {p0 : Int32} {p1 : Int32} {p2 : Int32} (hX : gOk B X RX6 cX6_move 4 4 none) : gH B X (fun r : (Nat → Int32) => gFin X (none) (wdC B W_spillsNow W_drawn T_length T_at T_bytes D_cells D_clauses G_length G_code A_size A_chosen A_codes A_lengths A_stack Y_cells Y_clauses N_marbles N_chipped N_swallowed N_sweets N_day N_owners P_next P_kept P_hasImage P_image P_acts P_entries P_imageEntries S_fewest S_row r U_size U_found U_places U_kinds U_holds U_fitting U_tally L_letters L_firstCells L_secondCells L_firstBest L_secondBest W_refusals ++ fr)) 0 [(0, .ref (aC B 22)), (1, .int p0), (2, .int p1), (3, .int p2)] [] (wdC B W_spillsNow W_drawn T_length T_at T_bytes D_cells D_clauses G_length G_code A_size A_chosen A_codes A_lengths A_stack Y_cells Y_clauses N_marbles N_chipped N_swallowed N_sweets N_day N_owners P_next P_kept P_hasImage P_image P_acts P_entries P_imageEntries S_fewest S_row S_strengths U_size U_found U_places U_kinds U_holds U_fitting U_tally L_letters L_firstCells L_secondCells L_firstBest L_secondBest W_refusals ++ fr) (f_Sky_move Y_cells N_chipped S_strengths p0 p1 p2) := by
  unfold f_Sky_move
  refine h_aload_n hX dX6_move_0 rfl rfl ?_
  refine h_iload_n hX dX6_move_1 rfl rfl ?_
  refine h_iload_n hX dX6_move_2 rfl rfl ?_
  refine h_callVv hX dX6_move_3 (cv_RX6_59) rc_C22 (As := [.int p0, .int p1]) (st := []) (fun _ h => c_Sky_lift h) rfl rfl (by decide) (Nat.le_of_ble_eq_true rfl) (fun a_1 => ?_)
  refine h_aload_n hX dX6_move_6 rfl rfl ?_
  refine h_iload_n hX dX6_move_7 rfl rfl ?_
  refine h_iload_n hX dX6_move_8 rfl rfl ?_
  refine h_callVv hX dX6_move_9 (cv_RX6_63) rc_C22 (As := [.int p0, .int p2]) (st := []) (fun _ h => c_Sky_put h) rfl rfl (by decide) (Nat.le_of_ble_eq_true rfl) (fun a_2 => ?_)
  exact h_ret hX (rv := none) dX6_move_12 trivial (fun h => h)
theorem c_Sky_move {p0 : Int32} {p1 : Int32} {p2 : Int32} {r : (Nat → Int32)} (h : f_Sky_move Y_cells N_chipped S_strengths p0 p1 p2 = some r) : gMet B 4 yX6_move cX6_move 4 none [.ref (aC B 22), .int p0, .int p1, .int p2] (wdC B W_spillsNow W_drawn T_length T_at T_bytes D_cells D_clauses G_length G_code A_size A_chosen A_codes A_lengths A_stack Y_cells Y_clauses N_marbles N_chipped N_swallowed N_sweets N_day N_owners P_next P_kept P_hasImage P_image P_acts P_entries P_imageEntries S_fewest S_row S_strengths U_size U_found U_places U_kinds U_holds U_fitting U_tally L_letters L_firstCells L_secondCells L_firstBest L_secondBest W_refusals ++ fr) (none) (wdC B W_spillsNow W_drawn T_length T_at T_bytes D_cells D_clauses G_length G_code A_size A_chosen A_codes A_lengths A_stack Y_cells Y_clauses N_marbles N_chipped N_swallowed N_sweets N_day N_owners P_next P_kept P_hasImage P_image P_acts P_entries P_imageEntries S_fewest S_row r U_size U_found U_places U_kinds U_holds U_fitting U_tally L_letters L_firstCells L_secondCells L_firstBest L_secondBest W_refusals ++ fr) :=
  gMet.of rfl (Nat.le_of_ble_eq_true rfl) (fun X hX hF => w_Sky_move hX r h hF)
set_option maxRecDepth 4000 in
theorem w_Clues_countTold_L48 {v1 : Int32} {v2 : Int32} {v3 : Int32} {v4 : Int32} (hX : gOk B X RX0 cX0_countTold 6 5 none) (s : (Int32 × (Nat → Int32))) : gH B X (Sum.elim (fun s : (Int32 × (Nat → Int32)) => gG B X 48 [(0, .ref (aC B 24)), (1, .int v1), (2, .int v2), (3, .int v3), (4, .int v4), (5, .int s.1)] [] (wdC B W_spillsNow W_drawn T_length T_at T_bytes D_cells D_clauses G_length G_code A_size A_chosen A_codes A_lengths A_stack Y_cells Y_clauses N_marbles N_chipped N_swallowed N_sweets N_day N_owners P_next P_kept P_hasImage P_image P_acts P_entries P_imageEntries S_fewest S_row S_strengths U_size U_found U_places U_kinds U_holds U_fitting s.2 L_letters L_firstCells L_secondCells L_firstBest L_secondBest W_refusals ++ fr)) (fun r : ((Nat → Int32) × (Nat → Int32)) => gFin X (none) (wdC B W_spillsNow W_drawn T_length T_at T_bytes D_cells D_clauses G_length G_code A_size A_chosen A_codes A_lengths A_stack Y_cells Y_clauses N_marbles N_chipped N_swallowed N_sweets N_day N_owners P_next P_kept P_hasImage P_image P_acts P_entries P_imageEntries S_fewest S_row r.1 U_size U_found U_places U_kinds U_holds U_fitting r.2 L_letters L_firstCells L_secondCells L_firstBest L_secondBest W_refusals ++ fr))) 48 [(0, .ref (aC B 24)), (1, .int v1), (2, .int v2), (3, .int v3), (4, .int v4), (5, .int s.1)] [] (wdC B W_spillsNow W_drawn T_length T_at T_bytes D_cells D_clauses G_length G_code A_size A_chosen A_codes A_lengths A_stack Y_cells Y_clauses N_marbles N_chipped N_swallowed N_sweets N_day N_owners P_next P_kept P_hasImage P_image P_acts P_entries P_imageEntries S_fewest S_row S_strengths U_size U_found U_places U_kinds U_holds U_fitting s.2 L_letters L_firstCells L_secondCells L_firstBest L_secondBest W_refusals ++ fr) (f_Clues_countTold_L48 Y_cells N_chipped S_strengths v1 v2 v3 v4 s) := by
  unfold f_Clues_countTold_L48
  refine h_iload hX dX0_countTold_48 rfl ?_
  refine h_bipush hX dX0_countTold_50 kb_10 ?_
  refine h_icmp_ge hX dX0_countTold_52 (tgt := 87) (by decide) (fun _ => ?_) (fun _ => ?_)
  · refine gH.inr ?_
    refine h_iload hX dX0_countTold_87 rfl ?_
    refine h_if_eq hX dX0_countTold_89 (tgt := 105) (by decide) (fun _ => ?_) (fun _ => ?_)
    · exact h_ret hX (rv := none) dX0_countTold_105 trivial (fun h => h)
    · refine h_aload_n hX dX0_countTold_92 rfl rfl ?_
      refine get_RX0_36_C24 hX dX0_countTold_93 ?_
      refine h_iload_n hX dX0_countTold_96 rfl rfl ?_
      refine h_iload_n hX dX0_countTold_97 rfl rfl ?_
      refine h_bipush hX dX0_countTold_98 kb_10 ?_
      refine h_iremc hX dX0_countTold_100 (by decide) ?_
      refine h_iload_n hX dX0_countTold_101 rfl rfl ?_
      refine h_callVv hX dX0_countTold_102 (cv_RX0_70) rc_C22 (As := [.int v2, .int (v1 - v1 / 10 * 10), .int v3]) (st := []) (fun _ h => c_Sky_move h) rfl rfl (by decide) (Nat.le_of_ble_eq_true rfl) (fun a_3 => ?_)
      exact h_ret hX (rv := none) dX0_countTold_105 trivial (fun h => h)
  · refine h_aload_n hX dX0_countTold_55 rfl rfl ?_
    refine get_RX0_25_C24 hX dX0_countTold_56 ?_
    refine h_iload hX dX0_countTold_59 rfl ?_
    refine h_bipush hX dX0_countTold_61 kb_7 ?_
    refine h_imul hX dX0_countTold_63 ?_
    refine h_aload_n hX dX0_countTold_64 rfl rfl ?_
    refine get_RX0_36_C24 hX dX0_countTold_65 ?_
    refine h_iload hX dX0_countTold_68 rfl ?_
    refine h_callVi hX dX0_countTold_70 (cv_RX0_44) rc_C22 (As := [.int s.1]) (st := [.int (s.1 * 7), .ref (aC B 29)]) (fun _ h => c_Sky_strongestKind h) rfl rfl (by decide) (Nat.le_of_ble_eq_true rfl) (fun a_4 => ?_)
    refine h_iadd hX dX0_countTold_73 ?_
    refine h_iconst hX dX0_countTold_74 ki_1 ?_
    refine h_iadd hX dX0_countTold_75 ?_
    refine h_dup2 hX dX0_countTold_76 rfl rfl ?_
    refine ald_C29 hX dX0_countTold_77 ?_
    refine h_iconst hX dX0_countTold_78 ki_1 ?_
    refine h_iadd hX dX0_countTold_79 ?_
    refine ast_C29 hX dX0_countTold_80 ?_
    refine gH.letw (w := fun y => wdC B W_spillsNow W_drawn T_length T_at T_bytes D_cells D_clauses G_length G_code A_size A_chosen A_codes A_lengths A_stack Y_cells Y_clauses N_marbles N_chipped N_swallowed N_sweets N_day N_owners P_next P_kept P_hasImage P_image P_acts P_entries P_imageEntries S_fewest S_row S_strengths U_size U_found U_places U_kinds U_holds U_fitting y L_letters L_firstCells L_secondCells L_firstBest L_secondBest W_refusals ++ fr) (fun U_tally_5 => ?_)
    refine h_iincc hX dX0_countTold_81 rfl ki_1 (by decide) (lv' := [(0, .ref (aC B 24)), (1, .int v1), (2, .int v2), (3, .int v3), (4, .int v4), (5, .int (s.1 + 1))]) rfl ?_
    refine h_goto hX dX0_countTold_84 (tgt := 48) (by decide) ?_
    exact gH.some' (fun h => h)
set_option maxRecDepth 4000 in
theorem w_Clues_countTold_J45 {v1 : Int32} {v2 : Int32} {v3 : Int32} {v4 : Int32} (hX : gOk B X RX0 cX0_countTold 6 5 none) : gH B X (fun r : ((Nat → Int32) × (Nat → Int32)) => gFin X (none) (wdC B W_spillsNow W_drawn T_length T_at T_bytes D_cells D_clauses G_length G_code A_size A_chosen A_codes A_lengths A_stack Y_cells Y_clauses N_marbles N_chipped N_swallowed N_sweets N_day N_owners P_next P_kept P_hasImage P_image P_acts P_entries P_imageEntries S_fewest S_row r.1 U_size U_found U_places U_kinds U_holds U_fitting r.2 L_letters L_firstCells L_secondCells L_firstBest L_secondBest W_refusals ++ fr)) 45 [(0, .ref (aC B 24)), (1, .int v1), (2, .int v2), (3, .int v3), (4, .int v4)] [] (wdC B W_spillsNow W_drawn T_length T_at T_bytes D_cells D_clauses G_length G_code A_size A_chosen A_codes A_lengths A_stack Y_cells Y_clauses N_marbles N_chipped N_swallowed N_sweets N_day N_owners P_next P_kept P_hasImage P_image P_acts P_entries P_imageEntries S_fewest S_row S_strengths U_size U_found U_places U_kinds U_holds U_fitting U_tally L_letters L_firstCells L_secondCells L_firstBest L_secondBest W_refusals ++ fr) (f_Clues_countTold_J45 Y_cells N_chipped S_strengths U_tally v1 v2 v3 v4) := by
  unfold f_Clues_countTold_J45
  refine h_iconst hX dX0_countTold_45 ki_0 ?_
  refine h_istore hX dX0_countTold_46 (by decide) (lv' := [(0, .ref (aC B 24)), (1, .int v1), (2, .int v2), (3, .int v3), (4, .int v4), (5, .int 0)]) rfl ?_
  exact gH.loop (lvf := fun z : (Int32 × (Nat → Int32)) => [(0, .ref (aC B 24)), (1, .int v1), (2, .int v2), (3, .int v3), (4, .int v4), (5, .int z.1)]) (wf := fun z : (Int32 × (Nat → Int32)) => wdC B W_spillsNow W_drawn T_length T_at T_bytes D_cells D_clauses G_length G_code A_size A_chosen A_codes A_lengths A_stack Y_cells Y_clauses N_marbles N_chipped N_swallowed N_sweets N_day N_owners P_next P_kept P_hasImage P_image P_acts P_entries P_imageEntries S_fewest S_row S_strengths U_size U_found U_places U_kinds U_holds U_fitting z.2 L_letters L_firstCells L_secondCells L_firstBest L_secondBest W_refusals ++ fr) (fun z => w_Clues_countTold_L48 hX z) (0, U_tally)
set_option maxRecDepth 4000 in
theorem w_Clues_countTold_J25 {v1 : Int32} {v2 : Int32} {v3 : Int32} {k0 : Int32} (hX : gOk B X RX0 cX0_countTold 6 5 none) : gH B X (fun r : ((Nat → Int32) × (Nat → Int32)) => gFin X (none) (wdC B W_spillsNow W_drawn T_length T_at T_bytes D_cells D_clauses G_length G_code A_size A_chosen A_codes A_lengths A_stack Y_cells Y_clauses N_marbles N_chipped N_swallowed N_sweets N_day N_owners P_next P_kept P_hasImage P_image P_acts P_entries P_imageEntries S_fewest S_row r.1 U_size U_found U_places U_kinds U_holds U_fitting r.2 L_letters L_firstCells L_secondCells L_firstBest L_secondBest W_refusals ++ fr)) 25 [(0, .ref (aC B 24)), (1, .int v1), (2, .int v2), (3, .int v3)] [.int k0] (wdC B W_spillsNow W_drawn T_length T_at T_bytes D_cells D_clauses G_length G_code A_size A_chosen A_codes A_lengths A_stack Y_cells Y_clauses N_marbles N_chipped N_swallowed N_sweets N_day N_owners P_next P_kept P_hasImage P_image P_acts P_entries P_imageEntries S_fewest S_row S_strengths U_size U_found U_places U_kinds U_holds U_fitting U_tally L_letters L_firstCells L_secondCells L_firstBest L_secondBest W_refusals ++ fr) (f_Clues_countTold_J25 Y_cells N_chipped S_strengths U_tally v1 v2 v3 k0) := by
  unfold f_Clues_countTold_J25
  refine h_istore hX dX0_countTold_25 (by decide) (lv' := [(0, .ref (aC B 24)), (1, .int v1), (2, .int v2), (3, .int v3), (4, .int k0)]) rfl ?_
  refine h_iload hX dX0_countTold_27 rfl ?_
  refine h_if_eq hX dX0_countTold_29 (tgt := 45) (by decide) (fun _ => ?_) (fun _ => ?_)
  · exact w_Clues_countTold_J45 hX
  · refine h_aload_n hX dX0_countTold_32 rfl rfl ?_
    refine get_RX0_36_C24 hX dX0_countTold_33 ?_
    refine h_iload_n hX dX0_countTold_36 rfl rfl ?_
    refine h_iload_n hX dX0_countTold_37 rfl rfl ?_
    refine h_iload_n hX dX0_countTold_38 rfl rfl ?_
    refine h_bipush hX dX0_countTold_39 kb_10 ?_
    refine h_iremc hX dX0_countTold_41 (by decide) ?_
    refine h_callVv hX dX0_countTold_42 (cv_RX0_70) rc_C22 (As := [.int v2, .int v3, .int (v1 - v1 / 10 * 10)]) (st := []) (fun _ h => c_Sky_move h) rfl rfl (by decide) (Nat.le_of_ble_eq_true rfl) (fun a_7 => ?_)
    exact w_Clues_countTold_J45 hX
set_option maxRecDepth 4000 in
theorem w_Clues_countTold {p0 : Int32} (hX : gOk B X RX0 cX0_countTold 6 5 none) : gH B X (fun r : ((Nat → Int32) × (Nat → Int32)) => gFin X (none) (wdC B W_spillsNow W_drawn T_length T_at T_bytes D_cells D_clauses G_length G_code A_size A_chosen A_codes A_lengths A_stack Y_cells Y_clauses N_marbles N_chipped N_swallowed N_sweets N_day N_owners P_next P_kept P_hasImage P_image P_acts P_entries P_imageEntries S_fewest S_row r.1 U_size U_found U_places U_kinds U_holds U_fitting r.2 L_letters L_firstCells L_secondCells L_firstBest L_secondBest W_refusals ++ fr)) 0 [(0, .ref (aC B 24)), (1, .int p0)] [] (wdC B W_spillsNow W_drawn T_length T_at T_bytes D_cells D_clauses G_length G_code A_size A_chosen A_codes A_lengths A_stack Y_cells Y_clauses N_marbles N_chipped N_swallowed N_sweets N_day N_owners P_next P_kept P_hasImage P_image P_acts P_entries P_imageEntries S_fewest S_row S_strengths U_size U_found U_places U_kinds U_holds U_fitting U_tally L_letters L_firstCells L_secondCells L_firstBest L_secondBest W_refusals ++ fr) (f_Clues_countTold Y_cells N_marbles N_chipped N_owners S_strengths U_tally p0) := by
  unfold f_Clues_countTold
  refine h_iload_n hX dX0_countTold_0 rfl rfl ?_
  refine h_bipush hX dX0_countTold_1 kb_10 ?_
  refine h_idivc hX dX0_countTold_3 (by decide) ?_
  refine gH.leti (fun v2_1 => ?_)
  refine h_istore_n hX dX0_countTold_4 rfl (by decide) (lv' := [(0, .ref (aC B 24)), (1, .int p0), (2, .int v2_1)]) rfl ?_
  refine h_aload_n hX dX0_countTold_5 rfl rfl ?_
  refine get_RX0_32_C24 hX dX0_countTold_6 ?_
  refine h_iload_n hX dX0_countTold_9 rfl rfl ?_
  refine h_callVi hX dX0_countTold_10 (cv_RX0_62) rc_C16 (As := [.int v2_1]) (st := []) (fun _ h => c_Now_ownerOf h) rfl rfl (by decide) (Nat.le_of_ble_eq_true rfl) (fun a_2 => ?_)
  refine h_istore_n hX dX0_countTold_13 rfl (by decide) (lv' := [(0, .ref (aC B 24)), (1, .int p0), (2, .int v2_1), (3, .int a_2)]) rfl ?_
  refine h_iload_n hX dX0_countTold_14 rfl rfl ?_
  refine h_bipush hX dX0_countTold_15 kb_99 ?_
  refine h_icmp_eq hX dX0_countTold_17 (tgt := 24) (by decide) (fun _ => ?_) (fun _ => ?_)
  · refine h_iconst hX dX0_countTold_24 ki_0 ?_
    exact w_Clues_countTold_J25 hX
  · refine h_iconst hX dX0_countTold_20 ki_1 ?_
    refine h_goto hX dX0_countTold_21 (tgt := 25) (by decide) ?_
    exact w_Clues_countTold_J25 hX
theorem c_Clues_countTold {p0 : Int32} {r : ((Nat → Int32) × (Nat → Int32))} (h : f_Clues_countTold Y_cells N_marbles N_chipped N_owners S_strengths U_tally p0 = some r) : gMet B 5 yX0_countTold cX0_countTold 6 none [.ref (aC B 24), .int p0] (wdC B W_spillsNow W_drawn T_length T_at T_bytes D_cells D_clauses G_length G_code A_size A_chosen A_codes A_lengths A_stack Y_cells Y_clauses N_marbles N_chipped N_swallowed N_sweets N_day N_owners P_next P_kept P_hasImage P_image P_acts P_entries P_imageEntries S_fewest S_row S_strengths U_size U_found U_places U_kinds U_holds U_fitting U_tally L_letters L_firstCells L_secondCells L_firstBest L_secondBest W_refusals ++ fr) (none) (wdC B W_spillsNow W_drawn T_length T_at T_bytes D_cells D_clauses G_length G_code A_size A_chosen A_codes A_lengths A_stack Y_cells Y_clauses N_marbles N_chipped N_swallowed N_sweets N_day N_owners P_next P_kept P_hasImage P_image P_acts P_entries P_imageEntries S_fewest S_row r.1 U_size U_found U_places U_kinds U_holds U_fitting r.2 L_letters L_firstCells L_secondCells L_firstBest L_secondBest W_refusals ++ fr) :=
  gMet.of rfl (Nat.le_of_ble_eq_true rfl) (fun X hX hF => w_Clues_countTold hX r h hF)
set_option maxRecDepth 4000 in
theorem w_Clues_fittingAt {p0 : Int32} (hX : gOk B X RX0 cX0_fittingAt 2 0 (some .int)) : gH B X (fun r : Int32 => gFin X (some (.int r)) (wdC B W_spillsNow W_drawn T_length T_at T_bytes D_cells D_clauses G_length G_code A_size A_chosen A_codes A_lengths A_stack Y_cells Y_clauses N_marbles N_chipped N_swallowed N_sweets N_day N_owners P_next P_kept P_hasImage P_image P_acts P_entries P_imageEntries S_fewest S_row S_strengths U_size U_found U_places U_kinds U_holds U_fitting U_tally L_letters L_firstCells L_secondCells L_firstBest L_secondBest W_refusals ++ fr)) 0 [(0, .ref (aC B 24)), (1, .int p0)] [] (wdC B W_spillsNow W_drawn T_length T_at T_bytes D_cells D_clauses G_length G_code A_size A_chosen A_codes A_lengths A_stack Y_cells Y_clauses N_marbles N_chipped N_swallowed N_sweets N_day N_owners P_next P_kept P_hasImage P_image P_acts P_entries P_imageEntries S_fewest S_row S_strengths U_size U_found U_places U_kinds U_holds U_fitting U_tally L_letters L_firstCells L_secondCells L_firstBest L_secondBest W_refusals ++ fr) (f_Clues_fittingAt U_found U_fitting p0) := by
  unfold f_Clues_fittingAt
  refine h_iload_n hX dX0_fittingAt_0 rfl rfl ?_
  refine h_if_lt hX dX0_fittingAt_1 (tgt := 21) (by decide) (fun _ => ?_) (fun _ => ?_)
  · refine h_iconst hX dX0_fittingAt_21 ki_m1 ?_
    exact h_ret hX (rv := some (.int ((-1)))) dX0_fittingAt_22 trivial (fun h => h)
  · refine h_iload_n hX dX0_fittingAt_4 rfl rfl ?_
    refine h_aload_n hX dX0_fittingAt_5 rfl rfl ?_
    refine get_RX0_50_C24 hX dX0_fittingAt_6 ?_
    refine h_icmp_ge hX dX0_fittingAt_9 (tgt := 21) (by decide) (fun _ => ?_) (fun _ => ?_)
    · refine h_iconst hX dX0_fittingAt_21 ki_m1 ?_
      exact h_ret hX (rv := some (.int ((-1)))) dX0_fittingAt_22 trivial (fun h => h)
    · refine h_aload_n hX dX0_fittingAt_12 rfl rfl ?_
      refine get_RX0_22_C24 hX dX0_fittingAt_13 ?_
      refine h_iload_n hX dX0_fittingAt_16 rfl rfl ?_
      refine ald_C28 hX dX0_fittingAt_17 ?_
      refine h_goto hX dX0_fittingAt_18 (tgt := 22) (by decide) ?_
      exact h_ret hX (rv := some (.int (U_fitting p0.toNatClampNeg))) dX0_fittingAt_22 trivial (fun h => h)
theorem c_Clues_fittingAt {p0 : Int32} {r : Int32} (h : f_Clues_fittingAt U_found U_fitting p0 = some r) : gMet B 0 yX0_fittingAt cX0_fittingAt 2 (some .int) [.ref (aC B 24), .int p0] (wdC B W_spillsNow W_drawn T_length T_at T_bytes D_cells D_clauses G_length G_code A_size A_chosen A_codes A_lengths A_stack Y_cells Y_clauses N_marbles N_chipped N_swallowed N_sweets N_day N_owners P_next P_kept P_hasImage P_image P_acts P_entries P_imageEntries S_fewest S_row S_strengths U_size U_found U_places U_kinds U_holds U_fitting U_tally L_letters L_firstCells L_secondCells L_firstBest L_secondBest W_refusals ++ fr) (some (.int r)) (wdC B W_spillsNow W_drawn T_length T_at T_bytes D_cells D_clauses G_length G_code A_size A_chosen A_codes A_lengths A_stack Y_cells Y_clauses N_marbles N_chipped N_swallowed N_sweets N_day N_owners P_next P_kept P_hasImage P_image P_acts P_entries P_imageEntries S_fewest S_row S_strengths U_size U_found U_places U_kinds U_holds U_fitting U_tally L_letters L_firstCells L_secondCells L_firstBest L_secondBest W_refusals ++ fr) :=
  gMet.of rfl (Nat.le_of_ble_eq_true rfl) (fun X hX hF => w_Clues_fittingAt hX r h hF)
set_option maxRecDepth 4000 in
theorem w_Clues_forgetAll (hX : gOk B X RX0 cX0_forgetAll 1 0 none) : gH B X (fun r : Int32 => gFin X (none) (wdC B W_spillsNow W_drawn T_length T_at T_bytes D_cells D_clauses G_length G_code A_size A_chosen A_codes A_lengths A_stack Y_cells Y_clauses N_marbles N_chipped N_swallowed N_sweets N_day N_owners P_next P_kept P_hasImage P_image P_acts P_entries P_imageEntries S_fewest S_row S_strengths r U_found U_places U_kinds U_holds U_fitting U_tally L_letters L_firstCells L_secondCells L_firstBest L_secondBest W_refusals ++ fr)) 0 [(0, .ref (aC B 24))] [] (wdC B W_spillsNow W_drawn T_length T_at T_bytes D_cells D_clauses G_length G_code A_size A_chosen A_codes A_lengths A_stack Y_cells Y_clauses N_marbles N_chipped N_swallowed N_sweets N_day N_owners P_next P_kept P_hasImage P_image P_acts P_entries P_imageEntries S_fewest S_row S_strengths U_size U_found U_places U_kinds U_holds U_fitting U_tally L_letters L_firstCells L_secondCells L_firstBest L_secondBest W_refusals ++ fr) (f_Clues_forgetAll U_size) := by
  unfold f_Clues_forgetAll
  refine h_aload_n hX dX0_forgetAll_0 rfl rfl ?_
  refine h_iconst hX dX0_forgetAll_1 ki_0 ?_
  refine put_RX0_40_C24 hX dX0_forgetAll_2 ?_
  exact h_ret hX (rv := none) dX0_forgetAll_5 trivial (fun h => h)
theorem c_Clues_forgetAll {r : Int32} (h : f_Clues_forgetAll U_size = some r) : gMet B 0 yX0_forgetAll cX0_forgetAll 1 none [.ref (aC B 24)] (wdC B W_spillsNow W_drawn T_length T_at T_bytes D_cells D_clauses G_length G_code A_size A_chosen A_codes A_lengths A_stack Y_cells Y_clauses N_marbles N_chipped N_swallowed N_sweets N_day N_owners P_next P_kept P_hasImage P_image P_acts P_entries P_imageEntries S_fewest S_row S_strengths U_size U_found U_places U_kinds U_holds U_fitting U_tally L_letters L_firstCells L_secondCells L_firstBest L_secondBest W_refusals ++ fr) (none) (wdC B W_spillsNow W_drawn T_length T_at T_bytes D_cells D_clauses G_length G_code A_size A_chosen A_codes A_lengths A_stack Y_cells Y_clauses N_marbles N_chipped N_swallowed N_sweets N_day N_owners P_next P_kept P_hasImage P_image P_acts P_entries P_imageEntries S_fewest S_row S_strengths r U_found U_places U_kinds U_holds U_fitting U_tally L_letters L_firstCells L_secondCells L_firstBest L_secondBest W_refusals ++ fr) :=
  gMet.of rfl (Nat.le_of_ble_eq_true rfl) (fun X hX hF => w_Clues_forgetAll hX r h hF)
set_option maxRecDepth 4000 in
theorem w_Clues_keepIfSo {p0 : Int32} (hX : gOk B X RX0 cX0_keepIfSo 2 3 none) : gH B X (fun r : (Int32 × (Nat → Int32)) => gFin X (none) (wdC B W_spillsNow W_drawn T_length T_at T_bytes D_cells D_clauses G_length G_code A_size A_chosen A_codes A_lengths A_stack Y_cells Y_clauses N_marbles N_chipped N_swallowed N_sweets N_day N_owners P_next P_kept P_hasImage P_image P_acts P_entries P_imageEntries S_fewest S_row S_strengths U_size r.1 U_places U_kinds U_holds r.2 U_tally L_letters L_firstCells L_secondCells L_firstBest L_secondBest W_refusals ++ fr)) 0 [(0, .ref (aC B 24)), (1, .int p0)] [] (wdC B W_spillsNow W_drawn T_length T_at T_bytes D_cells D_clauses G_length G_code A_size A_chosen A_codes A_lengths A_stack Y_cells Y_clauses N_marbles N_chipped N_swallowed N_sweets N_day N_owners P_next P_kept P_hasImage P_image P_acts P_entries P_imageEntries S_fewest S_row S_strengths U_size U_found U_places U_kinds U_holds U_fitting U_tally L_letters L_firstCells L_secondCells L_firstBest L_secondBest W_refusals ++ fr) (f_Clues_keepIfSo S_strengths U_size U_found U_places U_kinds U_holds U_fitting p0) := by
  unfold f_Clues_keepIfSo
  refine h_aload_n hX dX0_keepIfSo_0 rfl rfl ?_
  refine get_RX0_50_C24 hX dX0_keepIfSo_1 ?_
  refine h_aload_n hX dX0_keepIfSo_4 rfl rfl ?_
  refine get_RX0_22_C24 hX dX0_keepIfSo_5 ?_
  refine alen_C28 hX dX0_keepIfSo_8 ?_
  refine h_icmp_ge hX dX0_keepIfSo_9 (tgt := 39) (by decide) (fun _ => ?_) (fun _ => ?_)
  · exact h_ret hX (rv := none) dX0_keepIfSo_39 trivial (fun h => h)
  · refine h_aload_n hX dX0_keepIfSo_12 rfl rfl ?_
    refine h_callVi hX dX0_keepIfSo_13 (cv_RX0_78) rc_C24 (As := []) (st := []) (fun _ h => c_Clues_areAllSo h) rfl rfl (by decide) (Nat.le_of_ble_eq_true rfl) (fun a_1 => ?_)
    refine h_if_eq hX dX0_keepIfSo_16 (tgt := 39) (by decide) (fun _ => ?_) (fun _ => ?_)
    · exact h_ret hX (rv := none) dX0_keepIfSo_39 trivial (fun h => h)
    · refine h_aload_n hX dX0_keepIfSo_19 rfl rfl ?_
      refine get_RX0_22_C24 hX dX0_keepIfSo_20 ?_
      refine h_aload_n hX dX0_keepIfSo_23 rfl rfl ?_
      refine get_RX0_50_C24 hX dX0_keepIfSo_24 ?_
      refine h_iload_n hX dX0_keepIfSo_27 rfl rfl ?_
      refine ast_C28 hX dX0_keepIfSo_28 ?_
      refine gH.letw (w := fun y => wdC B W_spillsNow W_drawn T_length T_at T_bytes D_cells D_clauses G_length G_code A_size A_chosen A_codes A_lengths A_stack Y_cells Y_clauses N_marbles N_chipped N_swallowed N_sweets N_day N_owners P_next P_kept P_hasImage P_image P_acts P_entries P_imageEntries S_fewest S_row S_strengths U_size U_found U_places U_kinds U_holds y U_tally L_letters L_firstCells L_secondCells L_firstBest L_secondBest W_refusals ++ fr) (fun U_fitting_2 => ?_)
      refine h_aload_n hX dX0_keepIfSo_29 rfl rfl ?_
      refine h_dup hX dX0_keepIfSo_30 rfl ?_
      refine get_RX0_50_C24 hX dX0_keepIfSo_31 ?_
      refine h_iconst hX dX0_keepIfSo_34 ki_1 ?_
      refine h_iadd hX dX0_keepIfSo_35 ?_
      refine put_RX0_50_C24 hX dX0_keepIfSo_36 ?_
      refine gH.letw (w := fun y => wdC B W_spillsNow W_drawn T_length T_at T_bytes D_cells D_clauses G_length G_code A_size A_chosen A_codes A_lengths A_stack Y_cells Y_clauses N_marbles N_chipped N_swallowed N_sweets N_day N_owners P_next P_kept P_hasImage P_image P_acts P_entries P_imageEntries S_fewest S_row S_strengths U_size y U_places U_kinds U_holds U_fitting_2 U_tally L_letters L_firstCells L_secondCells L_firstBest L_secondBest W_refusals ++ fr) (fun U_found_3 => ?_)
      exact h_ret hX (rv := none) dX0_keepIfSo_39 trivial (fun h => h)
theorem c_Clues_keepIfSo {p0 : Int32} {r : (Int32 × (Nat → Int32))} (h : f_Clues_keepIfSo S_strengths U_size U_found U_places U_kinds U_holds U_fitting p0 = some r) : gMet B 3 yX0_keepIfSo cX0_keepIfSo 2 none [.ref (aC B 24), .int p0] (wdC B W_spillsNow W_drawn T_length T_at T_bytes D_cells D_clauses G_length G_code A_size A_chosen A_codes A_lengths A_stack Y_cells Y_clauses N_marbles N_chipped N_swallowed N_sweets N_day N_owners P_next P_kept P_hasImage P_image P_acts P_entries P_imageEntries S_fewest S_row S_strengths U_size U_found U_places U_kinds U_holds U_fitting U_tally L_letters L_firstCells L_secondCells L_firstBest L_secondBest W_refusals ++ fr) (none) (wdC B W_spillsNow W_drawn T_length T_at T_bytes D_cells D_clauses G_length G_code A_size A_chosen A_codes A_lengths A_stack Y_cells Y_clauses N_marbles N_chipped N_swallowed N_sweets N_day N_owners P_next P_kept P_hasImage P_image P_acts P_entries P_imageEntries S_fewest S_row S_strengths U_size r.1 U_places U_kinds U_holds r.2 U_tally L_letters L_firstCells L_secondCells L_firstBest L_secondBest W_refusals ++ fr) :=
  gMet.of rfl (Nat.le_of_ble_eq_true rfl) (fun X hX hF => w_Clues_keepIfSo hX r h hF)
set_option maxRecDepth 4000 in
theorem w_Clues_mostTold_L4 {v1 : Int32} (hX : gOk B X RX0 cX0_mostTold 4 1 (some .int)) (s : (Int32 × Int32)) : gH B X (Sum.elim (fun s : (Int32 × Int32) => gG B X 4 [(0, .ref (aC B 24)), (1, .int v1), (2, .int s.1), (3, .int s.2)] [] (wdC B W_spillsNow W_drawn T_length T_at T_bytes D_cells D_clauses G_length G_code A_size A_chosen A_codes A_lengths A_stack Y_cells Y_clauses N_marbles N_chipped N_swallowed N_sweets N_day N_owners P_next P_kept P_hasImage P_image P_acts P_entries P_imageEntries S_fewest S_row S_strengths U_size U_found U_places U_kinds U_holds U_fitting U_tally L_letters L_firstCells L_secondCells L_firstBest L_secondBest W_refusals ++ fr)) (fun r : Int32 => gFin X (some (.int r)) (wdC B W_spillsNow W_drawn T_length T_at T_bytes D_cells D_clauses G_length G_code A_size A_chosen A_codes A_lengths A_stack Y_cells Y_clauses N_marbles N_chipped N_swallowed N_sweets N_day N_owners P_next P_kept P_hasImage P_image P_acts P_entries P_imageEntries S_fewest S_row S_strengths U_size U_found U_places U_kinds U_holds U_fitting U_tally L_letters L_firstCells L_secondCells L_firstBest L_secondBest W_refusals ++ fr))) 4 [(0, .ref (aC B 24)), (1, .int v1), (2, .int s.1), (3, .int s.2)] [] (wdC B W_spillsNow W_drawn T_length T_at T_bytes D_cells D_clauses G_length G_code A_size A_chosen A_codes A_lengths A_stack Y_cells Y_clauses N_marbles N_chipped N_swallowed N_sweets N_day N_owners P_next P_kept P_hasImage P_image P_acts P_entries P_imageEntries S_fewest S_row S_strengths U_size U_found U_places U_kinds U_holds U_fitting U_tally L_letters L_firstCells L_secondCells L_firstBest L_secondBest W_refusals ++ fr) (f_Clues_mostTold_L4 U_tally v1 s) := by
  unfold f_Clues_mostTold_L4
  refine h_iload_n hX dX0_mostTold_4 rfl rfl ?_
  refine h_bipush hX dX0_mostTold_5 kb_7 ?_
  refine h_icmp_ge hX dX0_mostTold_7 (tgt := 32) (by decide) (fun _ => ?_) (fun _ => ?_)
  · refine h_iload_n hX dX0_mostTold_32 rfl rfl ?_
    exact h_ret hX (rv := some (.int s.1)) dX0_mostTold_33 trivial (fun h => h)
  · refine h_iload_n hX dX0_mostTold_10 rfl rfl ?_
    refine h_aload_n hX dX0_mostTold_11 rfl rfl ?_
    refine get_RX0_25_C24 hX dX0_mostTold_12 ?_
    refine h_iload_n hX dX0_mostTold_15 rfl rfl ?_
    refine h_bipush hX dX0_mostTold_16 kb_7 ?_
    refine h_imul hX dX0_mostTold_18 ?_
    refine h_iload_n hX dX0_mostTold_19 rfl rfl ?_
    refine h_iadd hX dX0_mostTold_20 ?_
    refine ald_C29 hX dX0_mostTold_21 ?_
    refine h_jmax hX dX0_mostTold_22 cm_RX0_97 (by omega) (Nat.le_of_ble_eq_true rfl) ?_
    refine gH.leti (fun v2_1 => ?_)
    refine h_istore_n hX dX0_mostTold_25 rfl (by decide) (lv' := [(0, .ref (aC B 24)), (1, .int v1), (2, .int v2_1), (3, .int s.2)]) rfl ?_
    refine h_iincc hX dX0_mostTold_26 rfl ki_1 (by decide) (lv' := [(0, .ref (aC B 24)), (1, .int v1), (2, .int v2_1), (3, .int (s.2 + 1))]) rfl ?_
    refine h_goto hX dX0_mostTold_29 (tgt := 4) (by decide) ?_
    exact gH.some' (fun h => h)
set_option maxRecDepth 4000 in
theorem w_Clues_mostTold {p0 : Int32} (hX : gOk B X RX0 cX0_mostTold 4 1 (some .int)) : gH B X (fun r : Int32 => gFin X (some (.int r)) (wdC B W_spillsNow W_drawn T_length T_at T_bytes D_cells D_clauses G_length G_code A_size A_chosen A_codes A_lengths A_stack Y_cells Y_clauses N_marbles N_chipped N_swallowed N_sweets N_day N_owners P_next P_kept P_hasImage P_image P_acts P_entries P_imageEntries S_fewest S_row S_strengths U_size U_found U_places U_kinds U_holds U_fitting U_tally L_letters L_firstCells L_secondCells L_firstBest L_secondBest W_refusals ++ fr)) 0 [(0, .ref (aC B 24)), (1, .int p0)] [] (wdC B W_spillsNow W_drawn T_length T_at T_bytes D_cells D_clauses G_length G_code A_size A_chosen A_codes A_lengths A_stack Y_cells Y_clauses N_marbles N_chipped N_swallowed N_sweets N_day N_owners P_next P_kept P_hasImage P_image P_acts P_entries P_imageEntries S_fewest S_row S_strengths U_size U_found U_places U_kinds U_holds U_fitting U_tally L_letters L_firstCells L_secondCells L_firstBest L_secondBest W_refusals ++ fr) (f_Clues_mostTold U_tally p0) := by
  unfold f_Clues_mostTold
  refine h_iconst hX dX0_mostTold_0 ki_0 ?_
  refine h_istore_n hX dX0_mostTold_1 rfl (by decide) (lv' := [(0, .ref (aC B 24)), (1, .int p0), (2, .int 0)]) rfl ?_
  refine h_iconst hX dX0_mostTold_2 ki_0 ?_
  refine h_istore_n hX dX0_mostTold_3 rfl (by decide) (lv' := [(0, .ref (aC B 24)), (1, .int p0), (2, .int 0), (3, .int 0)]) rfl ?_
  exact gH.loop (lvf := fun z : (Int32 × Int32) => [(0, .ref (aC B 24)), (1, .int p0), (2, .int z.1), (3, .int z.2)]) (wf := fun z : (Int32 × Int32) => wdC B W_spillsNow W_drawn T_length T_at T_bytes D_cells D_clauses G_length G_code A_size A_chosen A_codes A_lengths A_stack Y_cells Y_clauses N_marbles N_chipped N_swallowed N_sweets N_day N_owners P_next P_kept P_hasImage P_image P_acts P_entries P_imageEntries S_fewest S_row S_strengths U_size U_found U_places U_kinds U_holds U_fitting U_tally L_letters L_firstCells L_secondCells L_firstBest L_secondBest W_refusals ++ fr) (fun z => w_Clues_mostTold_L4 hX z) (0, 0)
theorem c_Clues_mostTold {p0 : Int32} {r : Int32} (h : f_Clues_mostTold U_tally p0 = some r) : gMet B 1 yX0_mostTold cX0_mostTold 4 (some .int) [.ref (aC B 24), .int p0] (wdC B W_spillsNow W_drawn T_length T_at T_bytes D_cells D_clauses G_length G_code A_size A_chosen A_codes A_lengths A_stack Y_cells Y_clauses N_marbles N_chipped N_swallowed N_sweets N_day N_owners P_next P_kept P_hasImage P_image P_acts P_entries P_imageEntries S_fewest S_row S_strengths U_size U_found U_places U_kinds U_holds U_fitting U_tally L_letters L_firstCells L_secondCells L_firstBest L_secondBest W_refusals ++ fr) (some (.int r)) (wdC B W_spillsNow W_drawn T_length T_at T_bytes D_cells D_clauses G_length G_code A_size A_chosen A_codes A_lengths A_stack Y_cells Y_clauses N_marbles N_chipped N_swallowed N_sweets N_day N_owners P_next P_kept P_hasImage P_image P_acts P_entries P_imageEntries S_fewest S_row S_strengths U_size U_found U_places U_kinds U_holds U_fitting U_tally L_letters L_firstCells L_secondCells L_firstBest L_secondBest W_refusals ++ fr) :=
  gMet.of rfl (Nat.le_of_ble_eq_true rfl) (fun X hX hF => w_Clues_mostTold hX r h hF)
set_option maxRecDepth 4000 in
theorem w_Yard_marbles (hX : gOk B X RX8 cX8_marbles 1 0 (some .int)) : gH B X (fun r : Int32 => gFin X (some (.int r)) (wdC B W_spillsNow W_drawn T_length T_at T_bytes D_cells D_clauses G_length G_code A_size A_chosen A_codes A_lengths A_stack Y_cells Y_clauses N_marbles N_chipped N_swallowed N_sweets N_day N_owners P_next P_kept P_hasImage P_image P_acts P_entries P_imageEntries S_fewest S_row S_strengths U_size U_found U_places U_kinds U_holds U_fitting U_tally L_letters L_firstCells L_secondCells L_firstBest L_secondBest W_refusals ++ fr)) 0 [(0, .ref (aC B 13))] [] (wdC B W_spillsNow W_drawn T_length T_at T_bytes D_cells D_clauses G_length G_code A_size A_chosen A_codes A_lengths A_stack Y_cells Y_clauses N_marbles N_chipped N_swallowed N_sweets N_day N_owners P_next P_kept P_hasImage P_image P_acts P_entries P_imageEntries S_fewest S_row S_strengths U_size U_found U_places U_kinds U_holds U_fitting U_tally L_letters L_firstCells L_secondCells L_firstBest L_secondBest W_refusals ++ fr) (f_Yard_marbles Y_clauses) := by
  unfold f_Yard_marbles
  refine h_aload_n hX dX8_marbles_0 rfl rfl ?_
  refine get_RX8_18_C13 hX dX8_marbles_1 ?_
  refine h_iconst hX dX8_marbles_4 ki_2 ?_
  refine ald_C15 hX dX8_marbles_5 ?_
  exact h_ret hX (rv := some (.int (Y_clauses (2 : Int32).toNatClampNeg))) dX8_marbles_6 trivial (fun h => h)
theorem c_Yard_marbles {r : Int32} (h : f_Yard_marbles Y_clauses = some r) : gMet B 0 yX8_marbles cX8_marbles 1 (some .int) [.ref (aC B 13)] (wdC B W_spillsNow W_drawn T_length T_at T_bytes D_cells D_clauses G_length G_code A_size A_chosen A_codes A_lengths A_stack Y_cells Y_clauses N_marbles N_chipped N_swallowed N_sweets N_day N_owners P_next P_kept P_hasImage P_image P_acts P_entries P_imageEntries S_fewest S_row S_strengths U_size U_found U_places U_kinds U_holds U_fitting U_tally L_letters L_firstCells L_secondCells L_firstBest L_secondBest W_refusals ++ fr) (some (.int r)) (wdC B W_spillsNow W_drawn T_length T_at T_bytes D_cells D_clauses G_length G_code A_size A_chosen A_codes A_lengths A_stack Y_cells Y_clauses N_marbles N_chipped N_swallowed N_sweets N_day N_owners P_next P_kept P_hasImage P_image P_acts P_entries P_imageEntries S_fewest S_row S_strengths U_size U_found U_places U_kinds U_holds U_fitting U_tally L_letters L_firstCells L_secondCells L_firstBest L_secondBest W_refusals ++ fr) :=
  gMet.of rfl (Nat.le_of_ble_eq_true rfl) (fun X hX hF => w_Yard_marbles hX r h hF)
set_option maxRecDepth 4000 in
theorem w_Now_isDrained {p0 : Int32} (hX : gOk B X RX4 cX4_isDrained 2 1 (some .boolean)) : gH B X (fun r : Int32 => gFin X (some (.int r)) (wdC B W_spillsNow W_drawn T_length T_at T_bytes D_cells D_clauses G_length G_code A_size A_chosen A_codes A_lengths A_stack Y_cells Y_clauses N_marbles N_chipped N_swallowed N_sweets N_day N_owners P_next P_kept P_hasImage P_image P_acts P_entries P_imageEntries S_fewest S_row S_strengths U_size U_found U_places U_kinds U_holds U_fitting U_tally L_letters L_firstCells L_secondCells L_firstBest L_secondBest W_refusals ++ fr)) 0 [(0, .ref (aC B 16)), (1, .int p0)] [] (wdC B W_spillsNow W_drawn T_length T_at T_bytes D_cells D_clauses G_length G_code A_size A_chosen A_codes A_lengths A_stack Y_cells Y_clauses N_marbles N_chipped N_swallowed N_sweets N_day N_owners P_next P_kept P_hasImage P_image P_acts P_entries P_imageEntries S_fewest S_row S_strengths U_size U_found U_places U_kinds U_holds U_fitting U_tally L_letters L_firstCells L_secondCells L_firstBest L_secondBest W_refusals ++ fr) (f_Now_isDrained N_marbles N_owners p0) := by
  unfold f_Now_isDrained
  refine h_aload_n hX dX4_isDrained_0 rfl rfl ?_
  refine h_iload_n hX dX4_isDrained_1 rfl rfl ?_
  refine h_callVi hX dX4_isDrained_2 (cv_RX4_49) rc_C16 (As := [.int p0]) (st := []) (fun _ h => c_Now_ownerOf h) rfl rfl (by decide) (Nat.le_of_ble_eq_true rfl) (fun a_1 => ?_)
  refine h_iconst hX dX4_isDrained_5 ki_m1 ?_
  refine h_icmp_ne hX dX4_isDrained_6 (tgt := 13) (by decide) (fun _ => ?_) (fun _ => ?_)
  · refine h_iconst hX dX4_isDrained_13 ki_0 ?_
    exact h_ret hX (rv := some (.int 0)) dX4_isDrained_14 rfl (fun h => h)
  · refine h_iconst hX dX4_isDrained_9 ki_1 ?_
    refine h_goto hX dX4_isDrained_10 (tgt := 14) (by decide) ?_
    exact h_ret hX (rv := some (.int 1)) dX4_isDrained_14 rfl (fun h => h)
theorem c_Now_isDrained {p0 : Int32} {r : Int32} (h : f_Now_isDrained N_marbles N_owners p0 = some r) : gMet B 1 yX4_isDrained cX4_isDrained 2 (some .boolean) [.ref (aC B 16), .int p0] (wdC B W_spillsNow W_drawn T_length T_at T_bytes D_cells D_clauses G_length G_code A_size A_chosen A_codes A_lengths A_stack Y_cells Y_clauses N_marbles N_chipped N_swallowed N_sweets N_day N_owners P_next P_kept P_hasImage P_image P_acts P_entries P_imageEntries S_fewest S_row S_strengths U_size U_found U_places U_kinds U_holds U_fitting U_tally L_letters L_firstCells L_secondCells L_firstBest L_secondBest W_refusals ++ fr) (some (.int r)) (wdC B W_spillsNow W_drawn T_length T_at T_bytes D_cells D_clauses G_length G_code A_size A_chosen A_codes A_lengths A_stack Y_cells Y_clauses N_marbles N_chipped N_swallowed N_sweets N_day N_owners P_next P_kept P_hasImage P_image P_acts P_entries P_imageEntries S_fewest S_row S_strengths U_size U_found U_places U_kinds U_holds U_fitting U_tally L_letters L_firstCells L_secondCells L_firstBest L_secondBest W_refusals ++ fr) :=
  gMet.of rfl (Nat.le_of_ble_eq_true rfl) (fun X hX hF => w_Now_isDrained hX r h hF)
set_option maxRecDepth 4000 in
theorem w_Sky_measure_J65 {v1 : Int32} (hX : gOk B X RX6 cX6_measure 2 3 none) : gH B X (Sum.elim (fun s : (Int32 × (Nat → Int32)) => gG B X 10 [(0, .ref (aC B 22)), (1, .int s.1)] [] (wdC B W_spillsNow W_drawn T_length T_at T_bytes D_cells D_clauses G_length G_code A_size A_chosen A_codes A_lengths A_stack Y_cells Y_clauses N_marbles N_chipped N_swallowed N_sweets N_day N_owners P_next P_kept P_hasImage P_image P_acts P_entries P_imageEntries S_fewest S_row s.2 U_size U_found U_places U_kinds U_holds U_fitting U_tally L_letters L_firstCells L_secondCells L_firstBest L_secondBest W_refusals ++ fr)) (fun r : (Nat → Int32) => gFin X (none) (wdC B W_spillsNow W_drawn T_length T_at T_bytes D_cells D_clauses G_length G_code A_size A_chosen A_codes A_lengths A_stack Y_cells Y_clauses N_marbles N_chipped N_swallowed N_sweets N_day N_owners P_next P_kept P_hasImage P_image P_acts P_entries P_imageEntries S_fewest S_row r U_size U_found U_places U_kinds U_holds U_fitting U_tally L_letters L_firstCells L_secondCells L_firstBest L_secondBest W_refusals ++ fr))) 65 [(0, .ref (aC B 22)), (1, .int v1)] [] (wdC B W_spillsNow W_drawn T_length T_at T_bytes D_cells D_clauses G_length G_code A_size A_chosen A_codes A_lengths A_stack Y_cells Y_clauses N_marbles N_chipped N_swallowed N_sweets N_day N_owners P_next P_kept P_hasImage P_image P_acts P_entries P_imageEntries S_fewest S_row S_strengths U_size U_found U_places U_kinds U_holds U_fitting U_tally L_letters L_firstCells L_secondCells L_firstBest L_secondBest W_refusals ++ fr) (f_Sky_measure_J65 S_strengths v1) := by
  unfold f_Sky_measure_J65
  refine h_iincc hX dX6_measure_65 rfl ki_1 (by decide) (lv' := [(0, .ref (aC B 22)), (1, .int (v1 + 1))]) rfl ?_
  refine h_goto hX dX6_measure_68 (tgt := 10) (by decide) ?_
  exact gH.some' (fun h => h)
set_option maxRecDepth 4000 in
theorem w_Sky_measure_L10 (hX : gOk B X RX6 cX6_measure 2 3 none) (s : (Int32 × (Nat → Int32))) : gH B X (Sum.elim (fun s : (Int32 × (Nat → Int32)) => gG B X 10 [(0, .ref (aC B 22)), (1, .int s.1)] [] (wdC B W_spillsNow W_drawn T_length T_at T_bytes D_cells D_clauses G_length G_code A_size A_chosen A_codes A_lengths A_stack Y_cells Y_clauses N_marbles N_chipped N_swallowed N_sweets N_day N_owners P_next P_kept P_hasImage P_image P_acts P_entries P_imageEntries S_fewest S_row s.2 U_size U_found U_places U_kinds U_holds U_fitting U_tally L_letters L_firstCells L_secondCells L_firstBest L_secondBest W_refusals ++ fr)) (fun r : (Nat → Int32) => gFin X (none) (wdC B W_spillsNow W_drawn T_length T_at T_bytes D_cells D_clauses G_length G_code A_size A_chosen A_codes A_lengths A_stack Y_cells Y_clauses N_marbles N_chipped N_swallowed N_sweets N_day N_owners P_next P_kept P_hasImage P_image P_acts P_entries P_imageEntries S_fewest S_row r U_size U_found U_places U_kinds U_holds U_fitting U_tally L_letters L_firstCells L_secondCells L_firstBest L_secondBest W_refusals ++ fr))) 10 [(0, .ref (aC B 22)), (1, .int s.1)] [] (wdC B W_spillsNow W_drawn T_length T_at T_bytes D_cells D_clauses G_length G_code A_size A_chosen A_codes A_lengths A_stack Y_cells Y_clauses N_marbles N_chipped N_swallowed N_sweets N_day N_owners P_next P_kept P_hasImage P_image P_acts P_entries P_imageEntries S_fewest S_row s.2 U_size U_found U_places U_kinds U_holds U_fitting U_tally L_letters L_firstCells L_secondCells L_firstBest L_secondBest W_refusals ++ fr) (f_Sky_measure_L10 Y_cells Y_clauses N_marbles N_chipped N_owners s) := by
  unfold f_Sky_measure_L10
  refine h_iload_n hX dX6_measure_10 rfl rfl ?_
  refine h_aload_n hX dX6_measure_11 rfl rfl ?_
  refine get_RX6_15_C22 hX dX6_measure_12 ?_
  refine h_callVi hX dX6_measure_15 (cv_RX6_29) rc_C13 (As := []) (st := [.int s.1]) (fun _ h => c_Yard_marbles h) rfl rfl (by decide) (Nat.le_of_ble_eq_true rfl) (fun a_2 => ?_)
  refine h_icmp_ge hX dX6_measure_18 (tgt := 71) (by decide) (fun _ => ?_) (fun _ => ?_)
  · exact h_ret hX (rv := none) dX6_measure_71 trivial (fun h => h)
  · refine h_aload_n hX dX6_measure_21 rfl rfl ?_
    refine get_RX6_19_C22 hX dX6_measure_22 ?_
    refine h_iload_n hX dX6_measure_25 rfl rfl ?_
    refine h_callVi hX dX6_measure_26 (cv_RX6_35) rc_C16 (As := [.int s.1]) (st := []) (fun _ h => c_Now_isDrained h) rfl rfl (by decide) (Nat.le_of_ble_eq_true rfl) (fun a_3 => ?_)
    refine h_if_ne hX dX6_measure_29 (tgt := 65) (by decide) (fun _ => ?_) (fun _ => ?_)
    · exact w_Sky_measure_J65 hX
    · refine h_aload_n hX dX6_measure_32 rfl rfl ?_
      refine get_RX6_9_C22 hX dX6_measure_33 ?_
      refine h_aload_n hX dX6_measure_36 rfl rfl ?_
      refine h_aload_n hX dX6_measure_37 rfl rfl ?_
      refine get_RX6_19_C22 hX dX6_measure_38 ?_
      refine h_iload_n hX dX6_measure_41 rfl rfl ?_
      refine h_callVi hX dX6_measure_42 (cv_RX6_41) rc_C16 (As := [.int s.1]) (st := [.ref (aC B 22), .ref (aC B 23)]) (fun _ h => c_Now_ownerOf h) rfl rfl (by decide) (Nat.le_of_ble_eq_true rfl) (fun a_5 => ?_)
      refine h_iload_n hX dX6_measure_45 rfl rfl ?_
      refine h_callVi hX dX6_measure_46 (cv_RX6_45) rc_C22 (As := [.int a_5, .int s.1]) (st := [.ref (aC B 23)]) (fun _ h => c_Sky_indexOf h) rfl rfl (by decide) (Nat.le_of_ble_eq_true rfl) (fun a_6 => ?_)
      refine h_dup2 hX dX6_measure_49 rfl rfl ?_
      refine ald_C23 hX dX6_measure_50 ?_
      refine h_aload_n hX dX6_measure_51 rfl rfl ?_
      refine get_RX6_19_C22 hX dX6_measure_52 ?_
      refine h_aload_n hX dX6_measure_55 rfl rfl ?_
      refine get_RX6_15_C22 hX dX6_measure_56 ?_
      refine h_iload_n hX dX6_measure_59 rfl rfl ?_
      refine h_callVi hX dX6_measure_60 (cv_RX6_49) rc_C16 (As := [.ref (aC B 13), .int s.1]) (st := [.int (s.2 a_6.toNatClampNeg), .int a_6, .ref (aC B 23)]) (fun _ h => c_Now_soundSize_C13 h) rfl rfl (by decide) (Nat.le_of_ble_eq_true rfl) (fun a_7 => ?_)
      refine h_iadd hX dX6_measure_63 ?_
      refine ast_C23 hX dX6_measure_64 ?_
      refine gH.letw (w := fun y => wdC B W_spillsNow W_drawn T_length T_at T_bytes D_cells D_clauses G_length G_code A_size A_chosen A_codes A_lengths A_stack Y_cells Y_clauses N_marbles N_chipped N_swallowed N_sweets N_day N_owners P_next P_kept P_hasImage P_image P_acts P_entries P_imageEntries S_fewest S_row y U_size U_found U_places U_kinds U_holds U_fitting U_tally L_letters L_firstCells L_secondCells L_firstBest L_secondBest W_refusals ++ fr) (fun S_strengths_8 => ?_)
      exact w_Sky_measure_J65 hX
set_option maxRecDepth 4000 in
theorem w_Sky_measure (hX : gOk B X RX6 cX6_measure 2 3 none) : gH B X (fun r : (Nat → Int32) => gFin X (none) (wdC B W_spillsNow W_drawn T_length T_at T_bytes D_cells D_clauses G_length G_code A_size A_chosen A_codes A_lengths A_stack Y_cells Y_clauses N_marbles N_chipped N_swallowed N_sweets N_day N_owners P_next P_kept P_hasImage P_image P_acts P_entries P_imageEntries S_fewest S_row r U_size U_found U_places U_kinds U_holds U_fitting U_tally L_letters L_firstCells L_secondCells L_firstBest L_secondBest W_refusals ++ fr)) 0 [(0, .ref (aC B 22))] [] (wdC B W_spillsNow W_drawn T_length T_at T_bytes D_cells D_clauses G_length G_code A_size A_chosen A_codes A_lengths A_stack Y_cells Y_clauses N_marbles N_chipped N_swallowed N_sweets N_day N_owners P_next P_kept P_hasImage P_image P_acts P_entries P_imageEntries S_fewest S_row S_strengths U_size U_found U_places U_kinds U_holds U_fitting U_tally L_letters L_firstCells L_secondCells L_firstBest L_secondBest W_refusals ++ fr) (f_Sky_measure Y_cells Y_clauses N_marbles N_chipped N_owners S_strengths) := by
  unfold f_Sky_measure
  refine h_aload_n hX dX6_measure_0 rfl rfl ?_
  refine get_RX6_9_C22 hX dX6_measure_1 ?_
  refine h_iconst hX dX6_measure_4 ki_0 ?_
  refine h_callSv hX dX6_measure_5 (cs_RX6_23) (As := [.ref (aC B 23), .int 0]) (st := []) (fun _ h => c_J_fill_C23 h) rfl rfl (by decide) (Nat.le_of_ble_eq_true rfl) (fun a_1 => ?_)
  refine h_iconst hX dX6_measure_8 ki_0 ?_
  refine h_istore_n hX dX6_measure_9 rfl (by decide) (lv' := [(0, .ref (aC B 22)), (1, .int 0)]) rfl ?_
  exact gH.loop (lvf := fun z : (Int32 × (Nat → Int32)) => [(0, .ref (aC B 22)), (1, .int z.1)]) (wf := fun z : (Int32 × (Nat → Int32)) => wdC B W_spillsNow W_drawn T_length T_at T_bytes D_cells D_clauses G_length G_code A_size A_chosen A_codes A_lengths A_stack Y_cells Y_clauses N_marbles N_chipped N_swallowed N_sweets N_day N_owners P_next P_kept P_hasImage P_image P_acts P_entries P_imageEntries S_fewest S_row z.2 U_size U_found U_places U_kinds U_holds U_fitting U_tally L_letters L_firstCells L_secondCells L_firstBest L_secondBest W_refusals ++ fr) (fun z => w_Sky_measure_L10 hX z) (0, a_1)
theorem c_Sky_measure {r : (Nat → Int32)} (h : f_Sky_measure Y_cells Y_clauses N_marbles N_chipped N_owners S_strengths = some r) : gMet B 3 yX6_measure cX6_measure 2 none [.ref (aC B 22)] (wdC B W_spillsNow W_drawn T_length T_at T_bytes D_cells D_clauses G_length G_code A_size A_chosen A_codes A_lengths A_stack Y_cells Y_clauses N_marbles N_chipped N_swallowed N_sweets N_day N_owners P_next P_kept P_hasImage P_image P_acts P_entries P_imageEntries S_fewest S_row S_strengths U_size U_found U_places U_kinds U_holds U_fitting U_tally L_letters L_firstCells L_secondCells L_firstBest L_secondBest W_refusals ++ fr) (none) (wdC B W_spillsNow W_drawn T_length T_at T_bytes D_cells D_clauses G_length G_code A_size A_chosen A_codes A_lengths A_stack Y_cells Y_clauses N_marbles N_chipped N_swallowed N_sweets N_day N_owners P_next P_kept P_hasImage P_image P_acts P_entries P_imageEntries S_fewest S_row r U_size U_found U_places U_kinds U_holds U_fitting U_tally L_letters L_firstCells L_secondCells L_firstBest L_secondBest W_refusals ++ fr) :=
  gMet.of rfl (Nat.le_of_ble_eq_true rfl) (fun X hX hF => w_Sky_measure hX r h hF)
