variable {B : gB} {X : gX} {fr : va_W} {W_spillsNow : Int32} {W_drawn : Int64} {T_length : Int32} {T_at : Int32} {T_bytes : Nat → Int32} {D_cells : Nat → Int32} {D_clauses : Nat → Int32} {G_length : Int32} {G_code : Nat → Int32} {A_size : Int32} {A_chosen : Int32} {A_codes : Nat → Int32} {A_lengths : Nat → Int32} {A_stack : Nat → Int32} {Y_cells : Nat → Int32} {Y_clauses : Nat → Int32} {N_marbles : Int32} {N_chipped : Int32} {N_swallowed : Int32} {N_sweets : Int32} {N_day : Int32} {N_owners : Nat → Int32} {P_next : Int32} {P_kept : Int32} {P_hasImage : Int32} {P_image : Int64} {P_acts : Nat → Int64} {P_entries : Nat → Int32} {P_imageEntries : Nat → Int32} {S_fewest : Int32} {S_row : Int32} {S_strengths : Nat → Int32} {U_size : Int32} {U_found : Int32} {U_places : Nat → Int32} {U_kinds : Nat → Int32} {U_holds : Nat → Int32} {U_fitting : Nat → Int32} {U_tally : Nat → Int32} {L_letters : Nat → Int32} {L_firstCells : Nat → Int32} {L_secondCells : Nat → Int32} {L_firstBest : Nat → Int32} {L_secondBest : Nat → Int32} {W_refusals : Nat → Int32}
set_option maxRecDepth 4000 in
theorem w_Yard_boys (hX : gOk B X RX8 cX8_boys 1 0 (some .int)) : gH B X (fun r : Int32 => gFin X (some (.int r)) (wdC B W_spillsNow W_drawn T_length T_at T_bytes D_cells D_clauses G_length G_code A_size A_chosen A_codes A_lengths A_stack Y_cells Y_clauses N_marbles N_chipped N_swallowed N_sweets N_day N_owners P_next P_kept P_hasImage P_image P_acts P_entries P_imageEntries S_fewest S_row S_strengths U_size U_found U_places U_kinds U_holds U_fitting U_tally L_letters L_firstCells L_secondCells L_firstBest L_secondBest W_refusals ++ fr)) 0 [(0, .ref (aC B 13))] [] (wdC B W_spillsNow W_drawn T_length T_at T_bytes D_cells D_clauses G_length G_code A_size A_chosen A_codes A_lengths A_stack Y_cells Y_clauses N_marbles N_chipped N_swallowed N_sweets N_day N_owners P_next P_kept P_hasImage P_image P_acts P_entries P_imageEntries S_fewest S_row S_strengths U_size U_found U_places U_kinds U_holds U_fitting U_tally L_letters L_firstCells L_secondCells L_firstBest L_secondBest W_refusals ++ fr) (f_Yard_boys Y_clauses) := by
  unfold f_Yard_boys
  refine h_aload_n hX dX8_boys_0 rfl rfl ?_
  refine get_RX8_18_C13 hX dX8_boys_1 ?_
  refine h_iconst hX dX8_boys_4 ki_1 ?_
  refine ald_C15 hX dX8_boys_5 ?_
  exact h_ret hX (rv := some (.int (Y_clauses (1 : Int32).toNatClampNeg))) dX8_boys_6 trivial (fun h => h)
theorem c_Yard_boys {r : Int32} (h : f_Yard_boys Y_clauses = some r) : gMet B 0 yX8_boys cX8_boys 1 (some .int) [.ref (aC B 13)] (wdC B W_spillsNow W_drawn T_length T_at T_bytes D_cells D_clauses G_length G_code A_size A_chosen A_codes A_lengths A_stack Y_cells Y_clauses N_marbles N_chipped N_swallowed N_sweets N_day N_owners P_next P_kept P_hasImage P_image P_acts P_entries P_imageEntries S_fewest S_row S_strengths U_size U_found U_places U_kinds U_holds U_fitting U_tally L_letters L_firstCells L_secondCells L_firstBest L_secondBest W_refusals ++ fr) (some (.int r)) (wdC B W_spillsNow W_drawn T_length T_at T_bytes D_cells D_clauses G_length G_code A_size A_chosen A_codes A_lengths A_stack Y_cells Y_clauses N_marbles N_chipped N_swallowed N_sweets N_day N_owners P_next P_kept P_hasImage P_image P_acts P_entries P_imageEntries S_fewest S_row S_strengths U_size U_found U_places U_kinds U_holds U_fitting U_tally L_letters L_firstCells L_secondCells L_firstBest L_secondBest W_refusals ++ fr) :=
  gMet.of rfl (Nat.le_of_ble_eq_true rfl) (fun X hX hF => w_Yard_boys hX r h hF)
set_option maxRecDepth 4000 in
theorem w_Clues_search_J93 {v1 : Int32} (hX : gOk B X RX0 cX0_search 4 5 (some .int)) : gH B X (Sum.elim (fun s : (Int32 × (Nat → Int32) × Int32 × (Nat → Int32)) => gG B X 14 [(0, .ref (aC B 24)), (1, .int s.1)] [] (wdC B W_spillsNow W_drawn T_length T_at T_bytes D_cells D_clauses G_length G_code A_size A_chosen A_codes A_lengths A_stack Y_cells Y_clauses N_marbles N_chipped N_swallowed N_sweets N_day N_owners P_next P_kept P_hasImage P_image P_acts P_entries P_imageEntries S_fewest S_row s.2.1 U_size s.2.2.1 U_places U_kinds U_holds s.2.2.2 U_tally L_letters L_firstCells L_secondCells L_firstBest L_secondBest W_refusals ++ fr)) (fun r : (Int32 × (Nat → Int32) × Int32 × (Nat → Int32)) => gFin X (some (.int r.1)) (wdC B W_spillsNow W_drawn T_length T_at T_bytes D_cells D_clauses G_length G_code A_size A_chosen A_codes A_lengths A_stack Y_cells Y_clauses N_marbles N_chipped N_swallowed N_sweets N_day N_owners P_next P_kept P_hasImage P_image P_acts P_entries P_imageEntries S_fewest S_row r.2.1 U_size r.2.2.1 U_places U_kinds U_holds r.2.2.2 U_tally L_letters L_firstCells L_secondCells L_firstBest L_secondBest W_refusals ++ fr))) 93 [(0, .ref (aC B 24)), (1, .int v1)] [] (wdC B W_spillsNow W_drawn T_length T_at T_bytes D_cells D_clauses G_length G_code A_size A_chosen A_codes A_lengths A_stack Y_cells Y_clauses N_marbles N_chipped N_swallowed N_sweets N_day N_owners P_next P_kept P_hasImage P_image P_acts P_entries P_imageEntries S_fewest S_row S_strengths U_size U_found U_places U_kinds U_holds U_fitting U_tally L_letters L_firstCells L_secondCells L_firstBest L_secondBest W_refusals ++ fr) (f_Clues_search_J93 S_strengths U_found U_fitting v1) := by
  unfold f_Clues_search_J93
  refine h_iincc hX dX0_search_93 rfl ki_1 (by decide) (lv' := [(0, .ref (aC B 24)), (1, .int (v1 + 1))]) rfl ?_
  refine h_goto hX dX0_search_96 (tgt := 14) (by decide) ?_
  exact gH.some' (fun h => h)
set_option maxRecDepth 4000 in
theorem w_Clues_search_J87 {v1 : Int32} {v2 : Int32} {v3 : Int32} (hX : gOk B X RX0 cX0_search 4 5 (some .int)) : gH B X (Sum.elim (fun s : (Int32 × (Nat → Int32) × Int32 × (Nat → Int32)) => gG B X 36 [(0, .ref (aC B 24)), (1, .int v1), (2, .int v2), (3, .int s.1)] [] (wdC B W_spillsNow W_drawn T_length T_at T_bytes D_cells D_clauses G_length G_code A_size A_chosen A_codes A_lengths A_stack Y_cells Y_clauses N_marbles N_chipped N_swallowed N_sweets N_day N_owners P_next P_kept P_hasImage P_image P_acts P_entries P_imageEntries S_fewest S_row s.2.1 U_size s.2.2.1 U_places U_kinds U_holds s.2.2.2 U_tally L_letters L_firstCells L_secondCells L_firstBest L_secondBest W_refusals ++ fr)) (Sum.elim (fun s : (Int32 × (Nat → Int32) × Int32 × (Nat → Int32)) => gG B X 14 [(0, .ref (aC B 24)), (1, .int s.1)] [] (wdC B W_spillsNow W_drawn T_length T_at T_bytes D_cells D_clauses G_length G_code A_size A_chosen A_codes A_lengths A_stack Y_cells Y_clauses N_marbles N_chipped N_swallowed N_sweets N_day N_owners P_next P_kept P_hasImage P_image P_acts P_entries P_imageEntries S_fewest S_row s.2.1 U_size s.2.2.1 U_places U_kinds U_holds s.2.2.2 U_tally L_letters L_firstCells L_secondCells L_firstBest L_secondBest W_refusals ++ fr)) (fun r : (Int32 × (Nat → Int32) × Int32 × (Nat → Int32)) => gFin X (some (.int r.1)) (wdC B W_spillsNow W_drawn T_length T_at T_bytes D_cells D_clauses G_length G_code A_size A_chosen A_codes A_lengths A_stack Y_cells Y_clauses N_marbles N_chipped N_swallowed N_sweets N_day N_owners P_next P_kept P_hasImage P_image P_acts P_entries P_imageEntries S_fewest S_row r.2.1 U_size r.2.2.1 U_places U_kinds U_holds r.2.2.2 U_tally L_letters L_firstCells L_secondCells L_firstBest L_secondBest W_refusals ++ fr)))) 87 [(0, .ref (aC B 24)), (1, .int v1), (2, .int v2), (3, .int v3)] [] (wdC B W_spillsNow W_drawn T_length T_at T_bytes D_cells D_clauses G_length G_code A_size A_chosen A_codes A_lengths A_stack Y_cells Y_clauses N_marbles N_chipped N_swallowed N_sweets N_day N_owners P_next P_kept P_hasImage P_image P_acts P_entries P_imageEntries S_fewest S_row S_strengths U_size U_found U_places U_kinds U_holds U_fitting U_tally L_letters L_firstCells L_secondCells L_firstBest L_secondBest W_refusals ++ fr) (f_Clues_search_J87 S_strengths U_found U_fitting v3) := by
  unfold f_Clues_search_J87
  refine h_iincc hX dX0_search_87 rfl ki_1 (by decide) (lv' := [(0, .ref (aC B 24)), (1, .int v1), (2, .int v2), (3, .int (v3 + 1))]) rfl ?_
  refine h_goto hX dX0_search_90 (tgt := 36) (by decide) ?_
  exact gH.some' (fun h => h)
set_option maxRecDepth 4000 in
theorem w_Clues_search_L36 {v1 : Int32} {v2 : Int32} (hX : gOk B X RX0 cX0_search 4 5 (some .int)) (s : (Int32 × (Nat → Int32) × Int32 × (Nat → Int32))) : gH B X (Sum.elim (fun s : (Int32 × (Nat → Int32) × Int32 × (Nat → Int32)) => gG B X 36 [(0, .ref (aC B 24)), (1, .int v1), (2, .int v2), (3, .int s.1)] [] (wdC B W_spillsNow W_drawn T_length T_at T_bytes D_cells D_clauses G_length G_code A_size A_chosen A_codes A_lengths A_stack Y_cells Y_clauses N_marbles N_chipped N_swallowed N_sweets N_day N_owners P_next P_kept P_hasImage P_image P_acts P_entries P_imageEntries S_fewest S_row s.2.1 U_size s.2.2.1 U_places U_kinds U_holds s.2.2.2 U_tally L_letters L_firstCells L_secondCells L_firstBest L_secondBest W_refusals ++ fr)) (Sum.elim (fun s : (Int32 × (Nat → Int32) × Int32 × (Nat → Int32)) => gG B X 14 [(0, .ref (aC B 24)), (1, .int s.1)] [] (wdC B W_spillsNow W_drawn T_length T_at T_bytes D_cells D_clauses G_length G_code A_size A_chosen A_codes A_lengths A_stack Y_cells Y_clauses N_marbles N_chipped N_swallowed N_sweets N_day N_owners P_next P_kept P_hasImage P_image P_acts P_entries P_imageEntries S_fewest S_row s.2.1 U_size s.2.2.1 U_places U_kinds U_holds s.2.2.2 U_tally L_letters L_firstCells L_secondCells L_firstBest L_secondBest W_refusals ++ fr)) (fun r : (Int32 × (Nat → Int32) × Int32 × (Nat → Int32)) => gFin X (some (.int r.1)) (wdC B W_spillsNow W_drawn T_length T_at T_bytes D_cells D_clauses G_length G_code A_size A_chosen A_codes A_lengths A_stack Y_cells Y_clauses N_marbles N_chipped N_swallowed N_sweets N_day N_owners P_next P_kept P_hasImage P_image P_acts P_entries P_imageEntries S_fewest S_row r.2.1 U_size r.2.2.1 U_places U_kinds U_holds r.2.2.2 U_tally L_letters L_firstCells L_secondCells L_firstBest L_secondBest W_refusals ++ fr)))) 36 [(0, .ref (aC B 24)), (1, .int v1), (2, .int v2), (3, .int s.1)] [] (wdC B W_spillsNow W_drawn T_length T_at T_bytes D_cells D_clauses G_length G_code A_size A_chosen A_codes A_lengths A_stack Y_cells Y_clauses N_marbles N_chipped N_swallowed N_sweets N_day N_owners P_next P_kept P_hasImage P_image P_acts P_entries P_imageEntries S_fewest S_row s.2.1 U_size s.2.2.1 U_places U_kinds U_holds s.2.2.2 U_tally L_letters L_firstCells L_secondCells L_firstBest L_secondBest W_refusals ++ fr) (f_Clues_search_L36 Y_cells Y_clauses N_chipped U_size U_places U_kinds U_holds v1 v2 s) := by
  unfold f_Clues_search_L36
  refine h_iload_n hX dX0_search_36 rfl rfl ?_
  refine h_aload_n hX dX0_search_37 rfl rfl ?_
  refine get_RX0_28_C24 hX dX0_search_38 ?_
  refine h_callVi hX dX0_search_41 (cv_RX0_67) rc_C13 (As := []) (st := [.int s.1]) (fun _ h => c_Yard_boys h) rfl rfl (by decide) (Nat.le_of_ble_eq_true rfl) (fun a_5 => ?_)
  refine h_icmp_ge hX dX0_search_44 (tgt := 93) (by decide) (fun _ => ?_) (fun _ => ?_)
  · refine gH.inr ?_
    refine gH.dead [0, 1] rfl ?_
    exact w_Clues_search_J93 hX
  · refine h_iload_n hX dX0_search_47 rfl rfl ?_
    refine h_iconst hX dX0_search_48 ki_m1 ?_
    refine h_icmp_eq hX dX0_search_49 (tgt := 93) (by decide) (fun _ => ?_) (fun _ => ?_)
    · refine gH.inr ?_
      refine gH.dead [0, 1] rfl ?_
      exact w_Clues_search_J93 hX
    · refine h_iload_n hX dX0_search_52 rfl rfl ?_
      refine h_iload_n hX dX0_search_53 rfl rfl ?_
      refine h_icmp_eq hX dX0_search_54 (tgt := 87) (by decide) (fun _ => ?_) (fun _ => ?_)
      · exact w_Clues_search_J87 hX
      · refine h_aload_n hX dX0_search_57 rfl rfl ?_
        refine get_RX0_36_C24 hX dX0_search_58 ?_
        refine h_iload_n hX dX0_search_61 rfl rfl ?_
        refine h_iload_n hX dX0_search_62 rfl rfl ?_
        refine h_iload_n hX dX0_search_63 rfl rfl ?_
        refine h_callVv hX dX0_search_64 (cv_RX0_70) rc_C22 (As := [.int v1, .int v2, .int s.1]) (st := []) (fun _ h => c_Sky_move h) rfl rfl (by decide) (Nat.le_of_ble_eq_true rfl) (fun a_8 => ?_)
        refine h_aload_n hX dX0_search_67 rfl rfl ?_
        refine h_bipush hX dX0_search_68 kb_10 ?_
        refine h_iload_n hX dX0_search_70 rfl rfl ?_
        refine h_imul hX dX0_search_71 ?_
        refine h_iload_n hX dX0_search_72 rfl rfl ?_
        refine h_iadd hX dX0_search_73 ?_
        refine h_callVv hX dX0_search_74 (cv_RX0_74) rc_C24 (As := [.int ((10 * v1) + s.1)]) (st := []) (fun _ h => c_Clues_keepIfSo h) rfl rfl (by decide) (Nat.le_of_ble_eq_true rfl) (fun a_9 => ?_)
        refine h_aload_n hX dX0_search_77 rfl rfl ?_
        refine get_RX0_36_C24 hX dX0_search_78 ?_
        refine h_iload_n hX dX0_search_81 rfl rfl ?_
        refine h_iload_n hX dX0_search_82 rfl rfl ?_
        refine h_iload_n hX dX0_search_83 rfl rfl ?_
        refine h_callVv hX dX0_search_84 (cv_RX0_70) rc_C22 (As := [.int v1, .int s.1, .int v2]) (st := []) (fun _ h => c_Sky_move h) rfl rfl (by decide) (Nat.le_of_ble_eq_true rfl) (fun a_10 => ?_)
        exact w_Clues_search_J87 hX
set_option maxRecDepth 4000 in
theorem w_Clues_search_L14 (hX : gOk B X RX0 cX0_search 4 5 (some .int)) (s : (Int32 × (Nat → Int32) × Int32 × (Nat → Int32))) : gH B X (Sum.elim (fun s : (Int32 × (Nat → Int32) × Int32 × (Nat → Int32)) => gG B X 14 [(0, .ref (aC B 24)), (1, .int s.1)] [] (wdC B W_spillsNow W_drawn T_length T_at T_bytes D_cells D_clauses G_length G_code A_size A_chosen A_codes A_lengths A_stack Y_cells Y_clauses N_marbles N_chipped N_swallowed N_sweets N_day N_owners P_next P_kept P_hasImage P_image P_acts P_entries P_imageEntries S_fewest S_row s.2.1 U_size s.2.2.1 U_places U_kinds U_holds s.2.2.2 U_tally L_letters L_firstCells L_secondCells L_firstBest L_secondBest W_refusals ++ fr)) (fun r : (Int32 × (Nat → Int32) × Int32 × (Nat → Int32)) => gFin X (some (.int r.1)) (wdC B W_spillsNow W_drawn T_length T_at T_bytes D_cells D_clauses G_length G_code A_size A_chosen A_codes A_lengths A_stack Y_cells Y_clauses N_marbles N_chipped N_swallowed N_sweets N_day N_owners P_next P_kept P_hasImage P_image P_acts P_entries P_imageEntries S_fewest S_row r.2.1 U_size r.2.2.1 U_places U_kinds U_holds r.2.2.2 U_tally L_letters L_firstCells L_secondCells L_firstBest L_secondBest W_refusals ++ fr))) 14 [(0, .ref (aC B 24)), (1, .int s.1)] [] (wdC B W_spillsNow W_drawn T_length T_at T_bytes D_cells D_clauses G_length G_code A_size A_chosen A_codes A_lengths A_stack Y_cells Y_clauses N_marbles N_chipped N_swallowed N_sweets N_day N_owners P_next P_kept P_hasImage P_image P_acts P_entries P_imageEntries S_fewest S_row s.2.1 U_size s.2.2.1 U_places U_kinds U_holds s.2.2.2 U_tally L_letters L_firstCells L_secondCells L_firstBest L_secondBest W_refusals ++ fr) (f_Clues_search_L14 Y_cells Y_clauses N_marbles N_chipped N_owners U_size U_places U_kinds U_holds s) := by
  unfold f_Clues_search_L14
  refine h_iload_n hX dX0_search_14 rfl rfl ?_
  refine h_aload_n hX dX0_search_15 rfl rfl ?_
  refine get_RX0_28_C24 hX dX0_search_16 ?_
  refine h_callVi hX dX0_search_19 (cv_RX0_56) rc_C13 (As := []) (st := [.int s.1]) (fun _ h => c_Yard_marbles h) rfl rfl (by decide) (Nat.le_of_ble_eq_true rfl) (fun a_2 => ?_)
  refine h_icmp_ge hX dX0_search_22 (tgt := 99) (by decide) (fun _ => ?_) (fun _ => ?_)
  · refine gH.inr ?_
    refine h_aload_n hX dX0_search_99 rfl rfl ?_
    refine h_bipush hX dX0_search_100 kb_99 ?_
    refine h_callVv hX dX0_search_102 (cv_RX0_74) rc_C24 (As := [.int 99]) (st := []) (fun _ h => c_Clues_keepIfSo h) rfl rfl (by decide) (Nat.le_of_ble_eq_true rfl) (fun a_3 => ?_)
    refine h_aload_n hX dX0_search_105 rfl rfl ?_
    refine get_RX0_50_C24 hX dX0_search_106 ?_
    exact h_ret hX (rv := some (.int a_3.1)) dX0_search_109 trivial (fun h => h)
  · refine h_aload_n hX dX0_search_25 rfl rfl ?_
    refine get_RX0_32_C24 hX dX0_search_26 ?_
    refine h_iload_n hX dX0_search_29 rfl rfl ?_
    refine h_callVi hX dX0_search_30 (cv_RX0_62) rc_C16 (As := [.int s.1]) (st := []) (fun _ h => c_Now_ownerOf h) rfl rfl (by decide) (Nat.le_of_ble_eq_true rfl) (fun a_4 => ?_)
    refine h_istore_n hX dX0_search_33 rfl (by decide) (lv' := [(0, .ref (aC B 24)), (1, .int s.1), (2, .int a_4)]) rfl ?_
    refine h_iconst hX dX0_search_34 ki_0 ?_
    refine h_istore_n hX dX0_search_35 rfl (by decide) (lv' := [(0, .ref (aC B 24)), (1, .int s.1), (2, .int a_4), (3, .int 0)]) rfl ?_
    exact gH.loop (lvf := fun z : (Int32 × (Nat → Int32) × Int32 × (Nat → Int32)) => [(0, .ref (aC B 24)), (1, .int s.1), (2, .int a_4), (3, .int z.1)]) (wf := fun z : (Int32 × (Nat → Int32) × Int32 × (Nat → Int32)) => wdC B W_spillsNow W_drawn T_length T_at T_bytes D_cells D_clauses G_length G_code A_size A_chosen A_codes A_lengths A_stack Y_cells Y_clauses N_marbles N_chipped N_swallowed N_sweets N_day N_owners P_next P_kept P_hasImage P_image P_acts P_entries P_imageEntries S_fewest S_row z.2.1 U_size z.2.2.1 U_places U_kinds U_holds z.2.2.2 U_tally L_letters L_firstCells L_secondCells L_firstBest L_secondBest W_refusals ++ fr) (fun z => w_Clues_search_L36 hX z) (0, s.2.1, s.2.2.1, s.2.2.2)
set_option maxRecDepth 4000 in
theorem w_Clues_search (hX : gOk B X RX0 cX0_search 4 5 (some .int)) : gH B X (fun r : (Int32 × (Nat → Int32) × Int32 × (Nat → Int32)) => gFin X (some (.int r.1)) (wdC B W_spillsNow W_drawn T_length T_at T_bytes D_cells D_clauses G_length G_code A_size A_chosen A_codes A_lengths A_stack Y_cells Y_clauses N_marbles N_chipped N_swallowed N_sweets N_day N_owners P_next P_kept P_hasImage P_image P_acts P_entries P_imageEntries S_fewest S_row r.2.1 U_size r.2.2.1 U_places U_kinds U_holds r.2.2.2 U_tally L_letters L_firstCells L_secondCells L_firstBest L_secondBest W_refusals ++ fr)) 0 [(0, .ref (aC B 24))] [] (wdC B W_spillsNow W_drawn T_length T_at T_bytes D_cells D_clauses G_length G_code A_size A_chosen A_codes A_lengths A_stack Y_cells Y_clauses N_marbles N_chipped N_swallowed N_sweets N_day N_owners P_next P_kept P_hasImage P_image P_acts P_entries P_imageEntries S_fewest S_row S_strengths U_size U_found U_places U_kinds U_holds U_fitting U_tally L_letters L_firstCells L_secondCells L_firstBest L_secondBest W_refusals ++ fr) (f_Clues_search Y_cells Y_clauses N_marbles N_chipped N_owners S_strengths U_size U_found U_places U_kinds U_holds U_fitting) := by
  unfold f_Clues_search
  refine h_aload_n hX dX0_search_0 rfl rfl ?_
  refine h_iconst hX dX0_search_1 ki_0 ?_
  refine put_RX0_50_C24 hX dX0_search_2 ?_
  refine h_aload_n hX dX0_search_5 rfl rfl ?_
  refine get_RX0_36_C24 hX dX0_search_6 ?_
  refine h_callVv hX dX0_search_9 (cv_RX0_53) rc_C22 (As := []) (st := []) (fun _ h => c_Sky_measure h) rfl rfl (by decide) (Nat.le_of_ble_eq_true rfl) (fun a_1 => ?_)
  refine h_iconst hX dX0_search_12 ki_0 ?_
  refine h_istore_n hX dX0_search_13 rfl (by decide) (lv' := [(0, .ref (aC B 24)), (1, .int 0)]) rfl ?_
  exact gH.loop (lvf := fun z : (Int32 × (Nat → Int32) × Int32 × (Nat → Int32)) => [(0, .ref (aC B 24)), (1, .int z.1)]) (wf := fun z : (Int32 × (Nat → Int32) × Int32 × (Nat → Int32)) => wdC B W_spillsNow W_drawn T_length T_at T_bytes D_cells D_clauses G_length G_code A_size A_chosen A_codes A_lengths A_stack Y_cells Y_clauses N_marbles N_chipped N_swallowed N_sweets N_day N_owners P_next P_kept P_hasImage P_image P_acts P_entries P_imageEntries S_fewest S_row z.2.1 U_size z.2.2.1 U_places U_kinds U_holds z.2.2.2 U_tally L_letters L_firstCells L_secondCells L_firstBest L_secondBest W_refusals ++ fr) (fun z => w_Clues_search_L14 hX z) (0, a_1, 0, U_fitting)
theorem c_Clues_search {r : (Int32 × (Nat → Int32) × Int32 × (Nat → Int32))} (h : f_Clues_search Y_cells Y_clauses N_marbles N_chipped N_owners S_strengths U_size U_found U_places U_kinds U_holds U_fitting = some r) : gMet B 5 yX0_search cX0_search 4 (some .int) [.ref (aC B 24)] (wdC B W_spillsNow W_drawn T_length T_at T_bytes D_cells D_clauses G_length G_code A_size A_chosen A_codes A_lengths A_stack Y_cells Y_clauses N_marbles N_chipped N_swallowed N_sweets N_day N_owners P_next P_kept P_hasImage P_image P_acts P_entries P_imageEntries S_fewest S_row S_strengths U_size U_found U_places U_kinds U_holds U_fitting U_tally L_letters L_firstCells L_secondCells L_firstBest L_secondBest W_refusals ++ fr) (some (.int r.1)) (wdC B W_spillsNow W_drawn T_length T_at T_bytes D_cells D_clauses G_length G_code A_size A_chosen A_codes A_lengths A_stack Y_cells Y_clauses N_marbles N_chipped N_swallowed N_sweets N_day N_owners P_next P_kept P_hasImage P_image P_acts P_entries P_imageEntries S_fewest S_row r.2.1 U_size r.2.2.1 U_places U_kinds U_holds r.2.2.2 U_tally L_letters L_firstCells L_secondCells L_firstBest L_secondBest W_refusals ++ fr) :=
  gMet.of rfl (Nat.le_of_ble_eq_true rfl) (fun X hX hF => w_Clues_search hX r h hF)
set_option maxRecDepth 4000 in
theorem w_Clues_placeToLook_J68 {v1 : Int32} {v2 : Int32} (hX : gOk B X RX0 cX0_placeToLook 3 6 (some .int)) : gH B X (Sum.elim (fun s : (Int32 × Int32) => gG B X 47 [(0, .ref (aC B 24)), (1, .int s.1), (2, .int s.2)] [] (wdC B W_spillsNow W_drawn T_length T_at T_bytes D_cells D_clauses G_length G_code A_size A_chosen A_codes A_lengths A_stack Y_cells Y_clauses N_marbles N_chipped N_swallowed N_sweets N_day N_owners P_next P_kept P_hasImage P_image P_acts P_entries P_imageEntries S_fewest S_row S_strengths U_size U_found U_places U_kinds U_holds U_fitting U_tally L_letters L_firstCells L_secondCells L_firstBest L_secondBest W_refusals ++ fr)) (fun r : (Int32 × (Nat → Int32) × Int32 × (Nat → Int32) × (Nat → Int32)) => gFin X (some (.int r.1)) (wdC B W_spillsNow W_drawn T_length T_at T_bytes D_cells D_clauses G_length G_code A_size A_chosen A_codes A_lengths A_stack Y_cells Y_clauses N_marbles N_chipped N_swallowed N_sweets N_day N_owners P_next P_kept P_hasImage P_image P_acts P_entries P_imageEntries S_fewest S_row r.2.1 U_size r.2.2.1 U_places U_kinds U_holds r.2.2.2.1 r.2.2.2.2 L_letters L_firstCells L_secondCells L_firstBest L_secondBest W_refusals ++ fr))) 68 [(0, .ref (aC B 24)), (1, .int v1), (2, .int v2)] [] (wdC B W_spillsNow W_drawn T_length T_at T_bytes D_cells D_clauses G_length G_code A_size A_chosen A_codes A_lengths A_stack Y_cells Y_clauses N_marbles N_chipped N_swallowed N_sweets N_day N_owners P_next P_kept P_hasImage P_image P_acts P_entries P_imageEntries S_fewest S_row S_strengths U_size U_found U_places U_kinds U_holds U_fitting U_tally L_letters L_firstCells L_secondCells L_firstBest L_secondBest W_refusals ++ fr) (f_Clues_placeToLook_J68 v1 v2) := by
  unfold f_Clues_placeToLook_J68
  refine h_iincc hX dX0_placeToLook_68 rfl ki_1 (by decide) (lv' := [(0, .ref (aC B 24)), (1, .int v1), (2, .int (v2 + 1))]) rfl ?_
  refine h_goto hX dX0_placeToLook_71 (tgt := 47) (by decide) ?_
  exact gH.some' (fun h => h)
set_option maxRecDepth 4000 in
theorem w_Clues_placeToLook_L47 (hX : gOk B X RX0 cX0_placeToLook 3 6 (some .int)) (s : (Int32 × Int32)) : gH B X (Sum.elim (fun s : (Int32 × Int32) => gG B X 47 [(0, .ref (aC B 24)), (1, .int s.1), (2, .int s.2)] [] (wdC B W_spillsNow W_drawn T_length T_at T_bytes D_cells D_clauses G_length G_code A_size A_chosen A_codes A_lengths A_stack Y_cells Y_clauses N_marbles N_chipped N_swallowed N_sweets N_day N_owners P_next P_kept P_hasImage P_image P_acts P_entries P_imageEntries S_fewest S_row S_strengths U_size U_found U_places U_kinds U_holds U_fitting U_tally L_letters L_firstCells L_secondCells L_firstBest L_secondBest W_refusals ++ fr)) (fun r : (Int32 × (Nat → Int32) × Int32 × (Nat → Int32) × (Nat → Int32)) => gFin X (some (.int r.1)) (wdC B W_spillsNow W_drawn T_length T_at T_bytes D_cells D_clauses G_length G_code A_size A_chosen A_codes A_lengths A_stack Y_cells Y_clauses N_marbles N_chipped N_swallowed N_sweets N_day N_owners P_next P_kept P_hasImage P_image P_acts P_entries P_imageEntries S_fewest S_row r.2.1 U_size r.2.2.1 U_places U_kinds U_holds r.2.2.2.1 r.2.2.2.2 L_letters L_firstCells L_secondCells L_firstBest L_secondBest W_refusals ++ fr))) 47 [(0, .ref (aC B 24)), (1, .int s.1), (2, .int s.2)] [] (wdC B W_spillsNow W_drawn T_length T_at T_bytes D_cells D_clauses G_length G_code A_size A_chosen A_codes A_lengths A_stack Y_cells Y_clauses N_marbles N_chipped N_swallowed N_sweets N_day N_owners P_next P_kept P_hasImage P_image P_acts P_entries P_imageEntries S_fewest S_row S_strengths U_size U_found U_places U_kinds U_holds U_fitting U_tally L_letters L_firstCells L_secondCells L_firstBest L_secondBest W_refusals ++ fr) (f_Clues_placeToLook_L47 S_strengths U_found U_fitting U_tally s) := by
  unfold f_Clues_placeToLook_L47
  refine h_iload_n hX dX0_placeToLook_47 rfl rfl ?_
  refine h_bipush hX dX0_placeToLook_48 kb_10 ?_
  refine h_icmp_ge hX dX0_placeToLook_50 (tgt := 74) (by decide) (fun _ => ?_) (fun _ => ?_)
  · refine h_iload_n hX dX0_placeToLook_74 rfl rfl ?_
    exact h_ret hX (rv := some (.int s.1)) dX0_placeToLook_75 trivial (fun h => h)
  · refine h_aload_n hX dX0_placeToLook_53 rfl rfl ?_
    refine h_iload_n hX dX0_placeToLook_54 rfl rfl ?_
    refine h_callVi hX dX0_placeToLook_55 (cv_RX0_94) rc_C24 (As := [.int s.2]) (st := []) (fun _ h => c_Clues_mostTold h) rfl rfl (by decide) (Nat.le_of_ble_eq_true rfl) (fun a_3 => ?_)
    refine h_aload_n hX dX0_placeToLook_58 rfl rfl ?_
    refine h_iload_n hX dX0_placeToLook_59 rfl rfl ?_
    refine h_callVi hX dX0_placeToLook_60 (cv_RX0_94) rc_C24 (As := [.int s.1]) (st := [.int a_3]) (fun _ h => c_Clues_mostTold h) rfl rfl (by decide) (Nat.le_of_ble_eq_true rfl) (fun a_4 => ?_)
    refine h_icmp_ge hX dX0_placeToLook_63 (tgt := 68) (by decide) (fun _ => ?_) (fun _ => ?_)
    · exact w_Clues_placeToLook_J68 hX
    · refine h_iload_n hX dX0_placeToLook_66 rfl rfl ?_
      refine h_istore_n hX dX0_placeToLook_67 rfl (by decide) (lv' := [(0, .ref (aC B 24)), (1, .int s.2), (2, .int s.2)]) rfl ?_
      exact w_Clues_placeToLook_J68 hX
set_option maxRecDepth 4000 in
theorem w_Clues_placeToLook_L19 (hX : gOk B X RX0 cX0_placeToLook 3 6 (some .int)) (s : (Int32 × (Nat → Int32) × (Nat → Int32))) : gH B X (Sum.elim (fun s : (Int32 × (Nat → Int32) × (Nat → Int32)) => gG B X 19 [(0, .ref (aC B 24)), (1, .int s.1)] [] (wdC B W_spillsNow W_drawn T_length T_at T_bytes D_cells D_clauses G_length G_code A_size A_chosen A_codes A_lengths A_stack Y_cells Y_clauses N_marbles N_chipped N_swallowed N_sweets N_day N_owners P_next P_kept P_hasImage P_image P_acts P_entries P_imageEntries S_fewest S_row s.2.1 U_size U_found U_places U_kinds U_holds U_fitting s.2.2 L_letters L_firstCells L_secondCells L_firstBest L_secondBest W_refusals ++ fr)) (fun r : (Int32 × (Nat → Int32) × Int32 × (Nat → Int32) × (Nat → Int32)) => gFin X (some (.int r.1)) (wdC B W_spillsNow W_drawn T_length T_at T_bytes D_cells D_clauses G_length G_code A_size A_chosen A_codes A_lengths A_stack Y_cells Y_clauses N_marbles N_chipped N_swallowed N_sweets N_day N_owners P_next P_kept P_hasImage P_image P_acts P_entries P_imageEntries S_fewest S_row r.2.1 U_size r.2.2.1 U_places U_kinds U_holds r.2.2.2.1 r.2.2.2.2 L_letters L_firstCells L_secondCells L_firstBest L_secondBest W_refusals ++ fr))) 19 [(0, .ref (aC B 24)), (1, .int s.1)] [] (wdC B W_spillsNow W_drawn T_length T_at T_bytes D_cells D_clauses G_length G_code A_size A_chosen A_codes A_lengths A_stack Y_cells Y_clauses N_marbles N_chipped N_swallowed N_sweets N_day N_owners P_next P_kept P_hasImage P_image P_acts P_entries P_imageEntries S_fewest S_row s.2.1 U_size U_found U_places U_kinds U_holds U_fitting s.2.2 L_letters L_firstCells L_secondCells L_firstBest L_secondBest W_refusals ++ fr) (f_Clues_placeToLook_L19 Y_cells N_marbles N_chipped N_owners U_found U_fitting s) := by
  unfold f_Clues_placeToLook_L19
  refine h_iload_n hX dX0_placeToLook_19 rfl rfl ?_
  refine h_aload_n hX dX0_placeToLook_20 rfl rfl ?_
  refine get_RX0_50_C24 hX dX0_placeToLook_21 ?_
  refine h_icmp_ge hX dX0_placeToLook_24 (tgt := 43) (by decide) (fun _ => ?_) (fun _ => ?_)
  · refine gH.inr ?_
    refine h_iconst hX dX0_placeToLook_43 ki_0 ?_
    refine h_istore_n hX dX0_placeToLook_44 rfl (by decide) (lv' := [(0, .ref (aC B 24)), (1, .int 0)]) rfl ?_
    refine h_iconst hX dX0_placeToLook_45 ki_1 ?_
    refine h_istore_n hX dX0_placeToLook_46 rfl (by decide) (lv' := [(0, .ref (aC B 24)), (1, .int 0), (2, .int 1)]) rfl ?_
    exact gH.loop (lvf := fun z : (Int32 × Int32) => [(0, .ref (aC B 24)), (1, .int z.1), (2, .int z.2)]) (wf := fun z : (Int32 × Int32) => wdC B W_spillsNow W_drawn T_length T_at T_bytes D_cells D_clauses G_length G_code A_size A_chosen A_codes A_lengths A_stack Y_cells Y_clauses N_marbles N_chipped N_swallowed N_sweets N_day N_owners P_next P_kept P_hasImage P_image P_acts P_entries P_imageEntries S_fewest S_row s.2.1 U_size U_found U_places U_kinds U_holds U_fitting s.2.2 L_letters L_firstCells L_secondCells L_firstBest L_secondBest W_refusals ++ fr) (fun z => w_Clues_placeToLook_L47 hX z) (0, 1)
  · refine h_aload_n hX dX0_placeToLook_27 rfl rfl ?_
    refine h_aload_n hX dX0_placeToLook_28 rfl rfl ?_
    refine get_RX0_22_C24 hX dX0_placeToLook_29 ?_
    refine h_iload_n hX dX0_placeToLook_32 rfl rfl ?_
    refine ald_C28 hX dX0_placeToLook_33 ?_
    refine h_callVv hX dX0_placeToLook_34 (cv_RX0_91) rc_C24 (As := [.int (U_fitting s.1.toNatClampNeg)]) (st := []) (fun _ h => c_Clues_countTold h) rfl rfl (by decide) (Nat.le_of_ble_eq_true rfl) (fun a_6 => ?_)
    refine h_iincc hX dX0_placeToLook_37 rfl ki_1 (by decide) (lv' := [(0, .ref (aC B 24)), (1, .int (s.1 + 1))]) rfl ?_
    refine h_goto hX dX0_placeToLook_40 (tgt := 19) (by decide) ?_
    exact gH.some' (fun h => h)
set_option maxRecDepth 4000 in
theorem w_Clues_placeToLook (hX : gOk B X RX0 cX0_placeToLook 3 6 (some .int)) : gH B X (fun r : (Int32 × (Nat → Int32) × Int32 × (Nat → Int32) × (Nat → Int32)) => gFin X (some (.int r.1)) (wdC B W_spillsNow W_drawn T_length T_at T_bytes D_cells D_clauses G_length G_code A_size A_chosen A_codes A_lengths A_stack Y_cells Y_clauses N_marbles N_chipped N_swallowed N_sweets N_day N_owners P_next P_kept P_hasImage P_image P_acts P_entries P_imageEntries S_fewest S_row r.2.1 U_size r.2.2.1 U_places U_kinds U_holds r.2.2.2.1 r.2.2.2.2 L_letters L_firstCells L_secondCells L_firstBest L_secondBest W_refusals ++ fr)) 0 [(0, .ref (aC B 24))] [] (wdC B W_spillsNow W_drawn T_length T_at T_bytes D_cells D_clauses G_length G_code A_size A_chosen A_codes A_lengths A_stack Y_cells Y_clauses N_marbles N_chipped N_swallowed N_sweets N_day N_owners P_next P_kept P_hasImage P_image P_acts P_entries P_imageEntries S_fewest S_row S_strengths U_size U_found U_places U_kinds U_holds U_fitting U_tally L_letters L_firstCells L_secondCells L_firstBest L_secondBest W_refusals ++ fr) (f_Clues_placeToLook Y_cells Y_clauses N_marbles N_chipped N_owners S_strengths U_size U_found U_places U_kinds U_holds U_fitting U_tally) := by
  unfold f_Clues_placeToLook
  refine h_aload_n hX dX0_placeToLook_0 rfl rfl ?_
  refine h_callVi hX dX0_placeToLook_1 (cv_RX0_82) rc_C24 (As := []) (st := []) (fun _ h => c_Clues_search h) rfl rfl (by decide) (Nat.le_of_ble_eq_true rfl) (fun a_1 => ?_)
  refine h_if_ne hX dX0_placeToLook_4 (tgt := 9) (by decide) (fun _ => ?_) (fun _ => ?_)
  · refine h_aload_n hX dX0_placeToLook_9 rfl rfl ?_
    refine get_RX0_25_C24 hX dX0_placeToLook_10 ?_
    refine h_iconst hX dX0_placeToLook_13 ki_0 ?_
    refine h_callSv hX dX0_placeToLook_14 (cs_RX0_85) (As := [.ref (aC B 29), .int 0]) (st := []) (fun _ h => c_J_fill_C29 h) rfl rfl (by decide) (Nat.le_of_ble_eq_true rfl) (fun a_2 => ?_)
    refine h_iconst hX dX0_placeToLook_17 ki_0 ?_
    refine h_istore_n hX dX0_placeToLook_18 rfl (by decide) (lv' := [(0, .ref (aC B 24)), (1, .int 0)]) rfl ?_
    exact gH.loop (lvf := fun z : (Int32 × (Nat → Int32) × (Nat → Int32)) => [(0, .ref (aC B 24)), (1, .int z.1)]) (wf := fun z : (Int32 × (Nat → Int32) × (Nat → Int32)) => wdC B W_spillsNow W_drawn T_length T_at T_bytes D_cells D_clauses G_length G_code A_size A_chosen A_codes A_lengths A_stack Y_cells Y_clauses N_marbles N_chipped N_swallowed N_sweets N_day N_owners P_next P_kept P_hasImage P_image P_acts P_entries P_imageEntries S_fewest S_row z.2.1 U_size a_1.2.2.1 U_places U_kinds U_holds a_1.2.2.2 z.2.2 L_letters L_firstCells L_secondCells L_firstBest L_secondBest W_refusals ++ fr) (fun z => w_Clues_placeToLook_L19 hX z) (0, a_1.2.1, a_2)
  · refine h_iconst hX dX0_placeToLook_7 ki_m1 ?_
    exact h_ret hX (rv := some (.int ((-1)))) dX0_placeToLook_8 trivial (fun h => h)
theorem c_Clues_placeToLook {r : (Int32 × (Nat → Int32) × Int32 × (Nat → Int32) × (Nat → Int32))} (h : f_Clues_placeToLook Y_cells Y_clauses N_marbles N_chipped N_owners S_strengths U_size U_found U_places U_kinds U_holds U_fitting U_tally = some r) : gMet B 6 yX0_placeToLook cX0_placeToLook 3 (some .int) [.ref (aC B 24)] (wdC B W_spillsNow W_drawn T_length T_at T_bytes D_cells D_clauses G_length G_code A_size A_chosen A_codes A_lengths A_stack Y_cells Y_clauses N_marbles N_chipped N_swallowed N_sweets N_day N_owners P_next P_kept P_hasImage P_image P_acts P_entries P_imageEntries S_fewest S_row S_strengths U_size U_found U_places U_kinds U_holds U_fitting U_tally L_letters L_firstCells L_secondCells L_firstBest L_secondBest W_refusals ++ fr) (some (.int r.1)) (wdC B W_spillsNow W_drawn T_length T_at T_bytes D_cells D_clauses G_length G_code A_size A_chosen A_codes A_lengths A_stack Y_cells Y_clauses N_marbles N_chipped N_swallowed N_sweets N_day N_owners P_next P_kept P_hasImage P_image P_acts P_entries P_imageEntries S_fewest S_row r.2.1 U_size r.2.2.1 U_places U_kinds U_holds r.2.2.2.1 r.2.2.2.2 L_letters L_firstCells L_secondCells L_firstBest L_secondBest W_refusals ++ fr) :=
  gMet.of rfl (Nat.le_of_ble_eq_true rfl) (fun X hX hF => w_Clues_placeToLook hX r h hF)
set_option maxRecDepth 4000 in
theorem w_Clues_size (hX : gOk B X RX0 cX0_size 1 0 (some .int)) : gH B X (fun r : Int32 => gFin X (some (.int r)) (wdC B W_spillsNow W_drawn T_length T_at T_bytes D_cells D_clauses G_length G_code A_size A_chosen A_codes A_lengths A_stack Y_cells Y_clauses N_marbles N_chipped N_swallowed N_sweets N_day N_owners P_next P_kept P_hasImage P_image P_acts P_entries P_imageEntries S_fewest S_row S_strengths U_size U_found U_places U_kinds U_holds U_fitting U_tally L_letters L_firstCells L_secondCells L_firstBest L_secondBest W_refusals ++ fr)) 0 [(0, .ref (aC B 24))] [] (wdC B W_spillsNow W_drawn T_length T_at T_bytes D_cells D_clauses G_length G_code A_size A_chosen A_codes A_lengths A_stack Y_cells Y_clauses N_marbles N_chipped N_swallowed N_sweets N_day N_owners P_next P_kept P_hasImage P_image P_acts P_entries P_imageEntries S_fewest S_row S_strengths U_size U_found U_places U_kinds U_holds U_fitting U_tally L_letters L_firstCells L_secondCells L_firstBest L_secondBest W_refusals ++ fr) (f_Clues_size U_size) := by
  unfold f_Clues_size
  refine h_aload_n hX dX0_size_0 rfl rfl ?_
  refine get_RX0_40_C24 hX dX0_size_1 ?_
  exact h_ret hX (rv := some (.int U_size)) dX0_size_4 trivial (fun h => h)
theorem c_Clues_size {r : Int32} (h : f_Clues_size U_size = some r) : gMet B 0 yX0_size cX0_size 1 (some .int) [.ref (aC B 24)] (wdC B W_spillsNow W_drawn T_length T_at T_bytes D_cells D_clauses G_length G_code A_size A_chosen A_codes A_lengths A_stack Y_cells Y_clauses N_marbles N_chipped N_swallowed N_sweets N_day N_owners P_next P_kept P_hasImage P_image P_acts P_entries P_imageEntries S_fewest S_row S_strengths U_size U_found U_places U_kinds U_holds U_fitting U_tally L_letters L_firstCells L_secondCells L_firstBest L_secondBest W_refusals ++ fr) (some (.int r)) (wdC B W_spillsNow W_drawn T_length T_at T_bytes D_cells D_clauses G_length G_code A_size A_chosen A_codes A_lengths A_stack Y_cells Y_clauses N_marbles N_chipped N_swallowed N_sweets N_day N_owners P_next P_kept P_hasImage P_image P_acts P_entries P_imageEntries S_fewest S_row S_strengths U_size U_found U_places U_kinds U_holds U_fitting U_tally L_letters L_firstCells L_secondCells L_firstBest L_secondBest W_refusals ++ fr) :=
  gMet.of rfl (Nat.le_of_ble_eq_true rfl) (fun X hX hF => w_Clues_size hX r h hF)
set_option maxRecDepth 4000 in
theorem w_Yard_skill {p0 : Int32} (hX : gOk B X RX8 cX8_skill 2 1 (some .int)) : gH B X (fun r : Int32 => gFin X (some (.int r)) (wdC B W_spillsNow W_drawn T_length T_at T_bytes D_cells D_clauses G_length G_code A_size A_chosen A_codes A_lengths A_stack Y_cells Y_clauses N_marbles N_chipped N_swallowed N_sweets N_day N_owners P_next P_kept P_hasImage P_image P_acts P_entries P_imageEntries S_fewest S_row S_strengths U_size U_found U_places U_kinds U_holds U_fitting U_tally L_letters L_firstCells L_secondCells L_firstBest L_secondBest W_refusals ++ fr)) 0 [(0, .ref (aC B 13)), (1, .int p0)] [] (wdC B W_spillsNow W_drawn T_length T_at T_bytes D_cells D_clauses G_length G_code A_size A_chosen A_codes A_lengths A_stack Y_cells Y_clauses N_marbles N_chipped N_swallowed N_sweets N_day N_owners P_next P_kept P_hasImage P_image P_acts P_entries P_imageEntries S_fewest S_row S_strengths U_size U_found U_places U_kinds U_holds U_fitting U_tally L_letters L_firstCells L_secondCells L_firstBest L_secondBest W_refusals ++ fr) (f_Yard_skill Y_cells p0) := by
  unfold f_Yard_skill
  refine h_aload_n hX dX8_skill_0 rfl rfl ?_
  refine h_iconst hX dX8_skill_1 ki_1 ?_
  refine h_iload_n hX dX8_skill_2 rfl rfl ?_
  refine h_iconst hX dX8_skill_3 ki_0 ?_
  refine h_callVi hX dX8_skill_4 (cv_RX8_60) rc_C13 (As := [.int 1, .int p0, .int 0]) (st := []) (fun _ h => c_Yard_cell h) rfl rfl (by decide) (Nat.le_of_ble_eq_true rfl) (fun a_1 => ?_)
  exact h_ret hX (rv := some (.int a_1)) dX8_skill_7 trivial (fun h => h)
theorem c_Yard_skill {p0 : Int32} {r : Int32} (h : f_Yard_skill Y_cells p0 = some r) : gMet B 1 yX8_skill cX8_skill 2 (some .int) [.ref (aC B 13), .int p0] (wdC B W_spillsNow W_drawn T_length T_at T_bytes D_cells D_clauses G_length G_code A_size A_chosen A_codes A_lengths A_stack Y_cells Y_clauses N_marbles N_chipped N_swallowed N_sweets N_day N_owners P_next P_kept P_hasImage P_image P_acts P_entries P_imageEntries S_fewest S_row S_strengths U_size U_found U_places U_kinds U_holds U_fitting U_tally L_letters L_firstCells L_secondCells L_firstBest L_secondBest W_refusals ++ fr) (some (.int r)) (wdC B W_spillsNow W_drawn T_length T_at T_bytes D_cells D_clauses G_length G_code A_size A_chosen A_codes A_lengths A_stack Y_cells Y_clauses N_marbles N_chipped N_swallowed N_sweets N_day N_owners P_next P_kept P_hasImage P_image P_acts P_entries P_imageEntries S_fewest S_row S_strengths U_size U_found U_places U_kinds U_holds U_fitting U_tally L_letters L_firstCells L_secondCells L_firstBest L_secondBest W_refusals ++ fr) :=
  gMet.of rfl (Nat.le_of_ble_eq_true rfl) (fun X hX hF => w_Yard_skill hX r h hF)
set_option maxRecDepth 4000 in
theorem w_Laws_anyHolds (hX : gOk B X RX3 cX3_anyHolds 1 0 (some .boolean)) : gH B X (fun r : Int32 => gFin X (some (.int r)) (wdC B W_spillsNow W_drawn T_length T_at T_bytes D_cells D_clauses G_length G_code A_size A_chosen A_codes A_lengths A_stack Y_cells Y_clauses N_marbles N_chipped N_swallowed N_sweets N_day N_owners P_next P_kept P_hasImage P_image P_acts P_entries P_imageEntries S_fewest S_row S_strengths U_size U_found U_places U_kinds U_holds U_fitting U_tally L_letters L_firstCells L_secondCells L_firstBest L_secondBest W_refusals ++ fr)) 0 [(0, .ref (aC B 9))] [] (wdC B W_spillsNow W_drawn T_length T_at T_bytes D_cells D_clauses G_length G_code A_size A_chosen A_codes A_lengths A_stack Y_cells Y_clauses N_marbles N_chipped N_swallowed N_sweets N_day N_owners P_next P_kept P_hasImage P_image P_acts P_entries P_imageEntries S_fewest S_row S_strengths U_size U_found U_places U_kinds U_holds U_fitting U_tally L_letters L_firstCells L_secondCells L_firstBest L_secondBest W_refusals ++ fr) (f_Laws_anyHolds A_size A_chosen) := by
  unfold f_Laws_anyHolds
  refine h_aload_n hX dX3_anyHolds_0 rfl rfl ?_
  refine get_RX3_18_C9 hX dX3_anyHolds_1 ?_
  refine h_if_lt hX dX3_anyHolds_4 (tgt := 22) (by decide) (fun _ => ?_) (fun _ => ?_)
  · refine h_iconst hX dX3_anyHolds_22 ki_0 ?_
    exact h_ret hX (rv := some (.int 0)) dX3_anyHolds_23 rfl (fun h => h)
  · refine h_aload_n hX dX3_anyHolds_7 rfl rfl ?_
    refine get_RX3_18_C9 hX dX3_anyHolds_8 ?_
    refine h_aload_n hX dX3_anyHolds_11 rfl rfl ?_
    refine get_RX3_25_C9 hX dX3_anyHolds_12 ?_
    refine h_icmp_ge hX dX3_anyHolds_15 (tgt := 22) (by decide) (fun _ => ?_) (fun _ => ?_)
    · refine h_iconst hX dX3_anyHolds_22 ki_0 ?_
      exact h_ret hX (rv := some (.int 0)) dX3_anyHolds_23 rfl (fun h => h)
    · refine h_iconst hX dX3_anyHolds_18 ki_1 ?_
      refine h_goto hX dX3_anyHolds_19 (tgt := 23) (by decide) ?_
      exact h_ret hX (rv := some (.int 1)) dX3_anyHolds_23 rfl (fun h => h)
theorem c_Laws_anyHolds {r : Int32} (h : f_Laws_anyHolds A_size A_chosen = some r) : gMet B 0 yX3_anyHolds cX3_anyHolds 1 (some .boolean) [.ref (aC B 9)] (wdC B W_spillsNow W_drawn T_length T_at T_bytes D_cells D_clauses G_length G_code A_size A_chosen A_codes A_lengths A_stack Y_cells Y_clauses N_marbles N_chipped N_swallowed N_sweets N_day N_owners P_next P_kept P_hasImage P_image P_acts P_entries P_imageEntries S_fewest S_row S_strengths U_size U_found U_places U_kinds U_holds U_fitting U_tally L_letters L_firstCells L_secondCells L_firstBest L_secondBest W_refusals ++ fr) (some (.int r)) (wdC B W_spillsNow W_drawn T_length T_at T_bytes D_cells D_clauses G_length G_code A_size A_chosen A_codes A_lengths A_stack Y_cells Y_clauses N_marbles N_chipped N_swallowed N_sweets N_day N_owners P_next P_kept P_hasImage P_image P_acts P_entries P_imageEntries S_fewest S_row S_strengths U_size U_found U_places U_kinds U_holds U_fitting U_tally L_letters L_firstCells L_secondCells L_firstBest L_secondBest W_refusals ++ fr) :=
  gMet.of rfl (Nat.le_of_ble_eq_true rfl) (fun X hX hF => w_Laws_anyHolds hX r h hF)
set_option maxRecDepth 4000 in
theorem w_Now_handOf_J30 {v1 : Int32} {v3 : Int32} {k0 : Int32} {k1 : Int32} (hX : gOk B X RX4 cX4_handOf 4 0 (some .int)) : gH B X (Sum.elim (fun s : (Int32 × Int32) => gG B X 4 [(0, .ref (aC B 16)), (1, .int v1), (2, .int s.1), (3, .int s.2)] [] (wdC B W_spillsNow W_drawn T_length T_at T_bytes D_cells D_clauses G_length G_code A_size A_chosen A_codes A_lengths A_stack Y_cells Y_clauses N_marbles N_chipped N_swallowed N_sweets N_day N_owners P_next P_kept P_hasImage P_image P_acts P_entries P_imageEntries S_fewest S_row S_strengths U_size U_found U_places U_kinds U_holds U_fitting U_tally L_letters L_firstCells L_secondCells L_firstBest L_secondBest W_refusals ++ fr)) (fun r : Int32 => gFin X (some (.int r)) (wdC B W_spillsNow W_drawn T_length T_at T_bytes D_cells D_clauses G_length G_code A_size A_chosen A_codes A_lengths A_stack Y_cells Y_clauses N_marbles N_chipped N_swallowed N_sweets N_day N_owners P_next P_kept P_hasImage P_image P_acts P_entries P_imageEntries S_fewest S_row S_strengths U_size U_found U_places U_kinds U_holds U_fitting U_tally L_letters L_firstCells L_secondCells L_firstBest L_secondBest W_refusals ++ fr))) 30 [(0, .ref (aC B 16)), (1, .int v1), (3, .int v3)] [.int k1, .int k0] (wdC B W_spillsNow W_drawn T_length T_at T_bytes D_cells D_clauses G_length G_code A_size A_chosen A_codes A_lengths A_stack Y_cells Y_clauses N_marbles N_chipped N_swallowed N_sweets N_day N_owners P_next P_kept P_hasImage P_image P_acts P_entries P_imageEntries S_fewest S_row S_strengths U_size U_found U_places U_kinds U_holds U_fitting U_tally L_letters L_firstCells L_secondCells L_firstBest L_secondBest W_refusals ++ fr) (f_Now_handOf_J30 v3 k0 k1) := by
  unfold f_Now_handOf_J30
  refine h_ior hX dX4_handOf_30 ?_
  refine gH.leti (fun v2_1 => ?_)
  refine h_istore_n hX dX4_handOf_31 rfl (by decide) (lv' := [(0, .ref (aC B 16)), (1, .int v1), (2, .int v2_1), (3, .int v3)]) rfl ?_
  refine h_iincc hX dX4_handOf_32 rfl ki_1 (by decide) (lv' := [(0, .ref (aC B 16)), (1, .int v1), (2, .int v2_1), (3, .int (v3 + 1))]) rfl ?_
  refine h_goto hX dX4_handOf_35 (tgt := 4) (by decide) ?_
  exact gH.some' (fun h => h)
set_option maxRecDepth 4000 in
theorem w_Now_handOf_L4 {v1 : Int32} (hX : gOk B X RX4 cX4_handOf 4 0 (some .int)) (s : (Int32 × Int32)) : gH B X (Sum.elim (fun s : (Int32 × Int32) => gG B X 4 [(0, .ref (aC B 16)), (1, .int v1), (2, .int s.1), (3, .int s.2)] [] (wdC B W_spillsNow W_drawn T_length T_at T_bytes D_cells D_clauses G_length G_code A_size A_chosen A_codes A_lengths A_stack Y_cells Y_clauses N_marbles N_chipped N_swallowed N_sweets N_day N_owners P_next P_kept P_hasImage P_image P_acts P_entries P_imageEntries S_fewest S_row S_strengths U_size U_found U_places U_kinds U_holds U_fitting U_tally L_letters L_firstCells L_secondCells L_firstBest L_secondBest W_refusals ++ fr)) (fun r : Int32 => gFin X (some (.int r)) (wdC B W_spillsNow W_drawn T_length T_at T_bytes D_cells D_clauses G_length G_code A_size A_chosen A_codes A_lengths A_stack Y_cells Y_clauses N_marbles N_chipped N_swallowed N_sweets N_day N_owners P_next P_kept P_hasImage P_image P_acts P_entries P_imageEntries S_fewest S_row S_strengths U_size U_found U_places U_kinds U_holds U_fitting U_tally L_letters L_firstCells L_secondCells L_firstBest L_secondBest W_refusals ++ fr))) 4 [(0, .ref (aC B 16)), (1, .int v1), (2, .int s.1), (3, .int s.2)] [] (wdC B W_spillsNow W_drawn T_length T_at T_bytes D_cells D_clauses G_length G_code A_size A_chosen A_codes A_lengths A_stack Y_cells Y_clauses N_marbles N_chipped N_swallowed N_sweets N_day N_owners P_next P_kept P_hasImage P_image P_acts P_entries P_imageEntries S_fewest S_row S_strengths U_size U_found U_places U_kinds U_holds U_fitting U_tally L_letters L_firstCells L_secondCells L_firstBest L_secondBest W_refusals ++ fr) (f_Now_handOf_L4 N_marbles N_owners v1 s) := by
  unfold f_Now_handOf_L4
  refine h_iload_n hX dX4_handOf_4 rfl rfl ?_
  refine h_aload_n hX dX4_handOf_5 rfl rfl ?_
  refine get_RX4_27_C16 hX dX4_handOf_6 ?_
  refine h_icmp_ge hX dX4_handOf_9 (tgt := 38) (by decide) (fun _ => ?_) (fun _ => ?_)
  · refine h_iload_n hX dX4_handOf_38 rfl rfl ?_
    exact h_ret hX (rv := some (.int s.1)) dX4_handOf_39 trivial (fun h => h)
  · refine h_iload_n hX dX4_handOf_12 rfl rfl ?_
    refine h_aload_n hX dX4_handOf_13 rfl rfl ?_
    refine get_RX4_9_C16 hX dX4_handOf_14 ?_
    refine h_iload_n hX dX4_handOf_17 rfl rfl ?_
    refine ald_C17 hX dX4_handOf_18 ?_
    refine h_iload_n hX dX4_handOf_19 rfl rfl ?_
    refine h_icmp_ne hX dX4_handOf_20 (tgt := 29) (by decide) (fun _ => ?_) (fun _ => ?_)
    · refine h_iconst hX dX4_handOf_29 ki_0 ?_
      refine gH.dead [0, 1, 3] rfl ?_
      exact w_Now_handOf_J30 hX
    · refine h_iconst hX dX4_handOf_23 ki_1 ?_
      refine h_iload_n hX dX4_handOf_24 rfl rfl ?_
      refine h_ishl hX dX4_handOf_25 ?_
      refine h_goto hX dX4_handOf_26 (tgt := 30) (by decide) ?_
      refine gH.dead [0, 1, 3] rfl ?_
      exact w_Now_handOf_J30 hX
set_option maxRecDepth 4000 in
theorem w_Now_handOf {p0 : Int32} (hX : gOk B X RX4 cX4_handOf 4 0 (some .int)) : gH B X (fun r : Int32 => gFin X (some (.int r)) (wdC B W_spillsNow W_drawn T_length T_at T_bytes D_cells D_clauses G_length G_code A_size A_chosen A_codes A_lengths A_stack Y_cells Y_clauses N_marbles N_chipped N_swallowed N_sweets N_day N_owners P_next P_kept P_hasImage P_image P_acts P_entries P_imageEntries S_fewest S_row S_strengths U_size U_found U_places U_kinds U_holds U_fitting U_tally L_letters L_firstCells L_secondCells L_firstBest L_secondBest W_refusals ++ fr)) 0 [(0, .ref (aC B 16)), (1, .int p0)] [] (wdC B W_spillsNow W_drawn T_length T_at T_bytes D_cells D_clauses G_length G_code A_size A_chosen A_codes A_lengths A_stack Y_cells Y_clauses N_marbles N_chipped N_swallowed N_sweets N_day N_owners P_next P_kept P_hasImage P_image P_acts P_entries P_imageEntries S_fewest S_row S_strengths U_size U_found U_places U_kinds U_holds U_fitting U_tally L_letters L_firstCells L_secondCells L_firstBest L_secondBest W_refusals ++ fr) (f_Now_handOf N_marbles N_owners p0) := by
  unfold f_Now_handOf
  refine h_iconst hX dX4_handOf_0 ki_0 ?_
  refine h_istore_n hX dX4_handOf_1 rfl (by decide) (lv' := [(0, .ref (aC B 16)), (1, .int p0), (2, .int 0)]) rfl ?_
  refine h_iconst hX dX4_handOf_2 ki_0 ?_
  refine h_istore_n hX dX4_handOf_3 rfl (by decide) (lv' := [(0, .ref (aC B 16)), (1, .int p0), (2, .int 0), (3, .int 0)]) rfl ?_
  exact gH.loop (lvf := fun z : (Int32 × Int32) => [(0, .ref (aC B 16)), (1, .int p0), (2, .int z.1), (3, .int z.2)]) (wf := fun z : (Int32 × Int32) => wdC B W_spillsNow W_drawn T_length T_at T_bytes D_cells D_clauses G_length G_code A_size A_chosen A_codes A_lengths A_stack Y_cells Y_clauses N_marbles N_chipped N_swallowed N_sweets N_day N_owners P_next P_kept P_hasImage P_image P_acts P_entries P_imageEntries S_fewest S_row S_strengths U_size U_found U_places U_kinds U_holds U_fitting U_tally L_letters L_firstCells L_secondCells L_firstBest L_secondBest W_refusals ++ fr) (fun z => w_Now_handOf_L4 hX z) (0, 0)
theorem c_Now_handOf {p0 : Int32} {r : Int32} (h : f_Now_handOf N_marbles N_owners p0 = some r) : gMet B 0 yX4_handOf cX4_handOf 4 (some .int) [.ref (aC B 16), .int p0] (wdC B W_spillsNow W_drawn T_length T_at T_bytes D_cells D_clauses G_length G_code A_size A_chosen A_codes A_lengths A_stack Y_cells Y_clauses N_marbles N_chipped N_swallowed N_sweets N_day N_owners P_next P_kept P_hasImage P_image P_acts P_entries P_imageEntries S_fewest S_row S_strengths U_size U_found U_places U_kinds U_holds U_fitting U_tally L_letters L_firstCells L_secondCells L_firstBest L_secondBest W_refusals ++ fr) (some (.int r)) (wdC B W_spillsNow W_drawn T_length T_at T_bytes D_cells D_clauses G_length G_code A_size A_chosen A_codes A_lengths A_stack Y_cells Y_clauses N_marbles N_chipped N_swallowed N_sweets N_day N_owners P_next P_kept P_hasImage P_image P_acts P_entries P_imageEntries S_fewest S_row S_strengths U_size U_found U_places U_kinds U_holds U_fitting U_tally L_letters L_firstCells L_secondCells L_firstBest L_secondBest W_refusals ++ fr) :=
  gMet.of rfl (Nat.le_of_ble_eq_true rfl) (fun X hX hF => w_Now_handOf hX r h hF)
set_option maxRecDepth 4000 in
theorem w_Laws_letterOf_C31 {p0 : Int32} (hX : gOk B X RX3 cX3_letterOf 2 0 (some .int)) : gH B X (fun r : Int32 => gFin X (some (.int r)) (wdC B W_spillsNow W_drawn T_length T_at T_bytes D_cells D_clauses G_length G_code A_size A_chosen A_codes A_lengths A_stack Y_cells Y_clauses N_marbles N_chipped N_swallowed N_sweets N_day N_owners P_next P_kept P_hasImage P_image P_acts P_entries P_imageEntries S_fewest S_row S_strengths U_size U_found U_places U_kinds U_holds U_fitting U_tally L_letters L_firstCells L_secondCells L_firstBest L_secondBest W_refusals ++ fr)) 0 [(0, .ref (aC B 31)), (1, .int p0)] [] (wdC B W_spillsNow W_drawn T_length T_at T_bytes D_cells D_clauses G_length G_code A_size A_chosen A_codes A_lengths A_stack Y_cells Y_clauses N_marbles N_chipped N_swallowed N_sweets N_day N_owners P_next P_kept P_hasImage P_image P_acts P_entries P_imageEntries S_fewest S_row S_strengths U_size U_found U_places U_kinds U_holds U_fitting U_tally L_letters L_firstCells L_secondCells L_firstBest L_secondBest W_refusals ++ fr) (f_Laws_letterOf_C31 L_letters p0) := by
  unfold f_Laws_letterOf_C31
  refine h_iload_n hX dX3_letterOf_0 rfl rfl ?_
  refine h_if_lt hX dX3_letterOf_1 (tgt := 16) (by decide) (fun _ => ?_) (fun _ => ?_)
  · refine h_iconst hX dX3_letterOf_16 ki_0 ?_
    exact h_ret hX (rv := some (.int 0)) dX3_letterOf_17 trivial (fun h => h)
  · refine h_iload_n hX dX3_letterOf_4 rfl rfl ?_
    refine h_aload_n hX dX3_letterOf_5 rfl rfl ?_
    refine alen_C31 hX dX3_letterOf_6 ?_
    refine h_icmp_ge hX dX3_letterOf_7 (tgt := 16) (by decide) (fun _ => ?_) (fun _ => ?_)
    · refine h_iconst hX dX3_letterOf_16 ki_0 ?_
      exact h_ret hX (rv := some (.int 0)) dX3_letterOf_17 trivial (fun h => h)
    · refine h_aload_n hX dX3_letterOf_10 rfl rfl ?_
      refine h_iload_n hX dX3_letterOf_11 rfl rfl ?_
      refine ald_C31 hX dX3_letterOf_12 ?_
      refine h_goto hX dX3_letterOf_13 (tgt := 17) (by decide) ?_
      exact h_ret hX (rv := some (.int (L_letters p0.toNatClampNeg))) dX3_letterOf_17 trivial (fun h => h)
theorem c_Laws_letterOf_C31 {p0 : Int32} {r : Int32} (h : f_Laws_letterOf_C31 L_letters p0 = some r) : gMet B 0 yX3_letterOf cX3_letterOf 2 (some .int) [.ref (aC B 31), .int p0] (wdC B W_spillsNow W_drawn T_length T_at T_bytes D_cells D_clauses G_length G_code A_size A_chosen A_codes A_lengths A_stack Y_cells Y_clauses N_marbles N_chipped N_swallowed N_sweets N_day N_owners P_next P_kept P_hasImage P_image P_acts P_entries P_imageEntries S_fewest S_row S_strengths U_size U_found U_places U_kinds U_holds U_fitting U_tally L_letters L_firstCells L_secondCells L_firstBest L_secondBest W_refusals ++ fr) (some (.int r)) (wdC B W_spillsNow W_drawn T_length T_at T_bytes D_cells D_clauses G_length G_code A_size A_chosen A_codes A_lengths A_stack Y_cells Y_clauses N_marbles N_chipped N_swallowed N_sweets N_day N_owners P_next P_kept P_hasImage P_image P_acts P_entries P_imageEntries S_fewest S_row S_strengths U_size U_found U_places U_kinds U_holds U_fitting U_tally L_letters L_firstCells L_secondCells L_firstBest L_secondBest W_refusals ++ fr) :=
  gMet.of rfl (Nat.le_of_ble_eq_true rfl) (fun X hX hF => w_Laws_letterOf_C31 hX r h hF)
set_option maxRecDepth 4000 in
theorem w_Laws_worth_C31_J251 {v2 : Int32} {v3 : Int32} {v4 : Int32} {v5 : Int32} {v6 : Int32} (hX : gOk B X RX3 cX3_worth 8 3 (some .int)) : gH B X (Sum.elim (fun s : (Int32 × Int32 × Int32 × (Nat → Int32)) => gG B X 39 [(0, .ref (aC B 9)), (1, .ref (aC B 31)), (2, .int v2), (3, .int v3), (4, .int s.1), (5, .int s.2.1), (6, .int s.2.2.1)] [] (wdC B W_spillsNow W_drawn T_length T_at T_bytes D_cells D_clauses G_length G_code A_size A_chosen A_codes A_lengths s.2.2.2 Y_cells Y_clauses N_marbles N_chipped N_swallowed N_sweets N_day N_owners P_next P_kept P_hasImage P_image P_acts P_entries P_imageEntries S_fewest S_row S_strengths U_size U_found U_places U_kinds U_holds U_fitting U_tally L_letters L_firstCells L_secondCells L_firstBest L_secondBest W_refusals ++ fr)) (fun r : (Int32 × (Nat → Int32)) => gFin X (some (.int r.1)) (wdC B W_spillsNow W_drawn T_length T_at T_bytes D_cells D_clauses G_length G_code A_size A_chosen A_codes A_lengths r.2 Y_cells Y_clauses N_marbles N_chipped N_swallowed N_sweets N_day N_owners P_next P_kept P_hasImage P_image P_acts P_entries P_imageEntries S_fewest S_row S_strengths U_size U_found U_places U_kinds U_holds U_fitting U_tally L_letters L_firstCells L_secondCells L_firstBest L_secondBest W_refusals ++ fr))) 251 [(0, .ref (aC B 9)), (1, .ref (aC B 31)), (2, .int v2), (3, .int v3), (4, .int v4), (5, .int v5), (6, .int v6)] [] (wdC B W_spillsNow W_drawn T_length T_at T_bytes D_cells D_clauses G_length G_code A_size A_chosen A_codes A_lengths A_stack Y_cells Y_clauses N_marbles N_chipped N_swallowed N_sweets N_day N_owners P_next P_kept P_hasImage P_image P_acts P_entries P_imageEntries S_fewest S_row S_strengths U_size U_found U_places U_kinds U_holds U_fitting U_tally L_letters L_firstCells L_secondCells L_firstBest L_secondBest W_refusals ++ fr) (f_Laws_worth_C31_J251 A_stack v4 v5 v6) := by
  unfold f_Laws_worth_C31_J251
  refine h_iincc hX dX3_worth_251 rfl ki_1 (by decide) (lv' := [(0, .ref (aC B 9)), (1, .ref (aC B 31)), (2, .int v2), (3, .int v3), (4, .int v4), (5, .int v5), (6, .int (v6 + 1))]) rfl ?_
  refine h_goto hX dX3_worth_254 (tgt := 39) (by decide) ?_
  exact gH.some' (fun h => h)
set_option maxRecDepth 4000 in
theorem w_Laws_worth_C31_J172 {v2 : Int32} {v3 : Int32} {v4 : Int32} {v6 : Int32} {k0 : Int32} (hX : gOk B X RX3 cX3_worth 8 3 (some .int)) : gH B X (Sum.elim (fun s : (Int32 × Int32 × Int32 × (Nat → Int32)) => gG B X 39 [(0, .ref (aC B 9)), (1, .ref (aC B 31)), (2, .int v2), (3, .int v3), (4, .int s.1), (5, .int s.2.1), (6, .int s.2.2.1)] [] (wdC B W_spillsNow W_drawn T_length T_at T_bytes D_cells D_clauses G_length G_code A_size A_chosen A_codes A_lengths s.2.2.2 Y_cells Y_clauses N_marbles N_chipped N_swallowed N_sweets N_day N_owners P_next P_kept P_hasImage P_image P_acts P_entries P_imageEntries S_fewest S_row S_strengths U_size U_found U_places U_kinds U_holds U_fitting U_tally L_letters L_firstCells L_secondCells L_firstBest L_secondBest W_refusals ++ fr)) (fun r : (Int32 × (Nat → Int32)) => gFin X (some (.int r.1)) (wdC B W_spillsNow W_drawn T_length T_at T_bytes D_cells D_clauses G_length G_code A_size A_chosen A_codes A_lengths r.2 Y_cells Y_clauses N_marbles N_chipped N_swallowed N_sweets N_day N_owners P_next P_kept P_hasImage P_image P_acts P_entries P_imageEntries S_fewest S_row S_strengths U_size U_found U_places U_kinds U_holds U_fitting U_tally L_letters L_firstCells L_secondCells L_firstBest L_secondBest W_refusals ++ fr))) 172 [(0, .ref (aC B 9)), (1, .ref (aC B 31)), (2, .int v2), (3, .int v3), (4, .int v4), (6, .int v6)] [.int k0] (wdC B W_spillsNow W_drawn T_length T_at T_bytes D_cells D_clauses G_length G_code A_size A_chosen A_codes A_lengths A_stack Y_cells Y_clauses N_marbles N_chipped N_swallowed N_sweets N_day N_owners P_next P_kept P_hasImage P_image P_acts P_entries P_imageEntries S_fewest S_row S_strengths U_size U_found U_places U_kinds U_holds U_fitting U_tally L_letters L_firstCells L_secondCells L_firstBest L_secondBest W_refusals ++ fr) (f_Laws_worth_C31_J172 A_stack v4 v6 k0) := by
  unfold f_Laws_worth_C31_J172
  refine h_istore hX dX3_worth_172 (by decide) (lv' := [(0, .ref (aC B 9)), (1, .ref (aC B 31)), (2, .int v2), (3, .int v3), (4, .int v4), (5, .int k0), (6, .int v6)]) rfl ?_
  refine h_goto hX dX3_worth_174 (tgt := 251) (by decide) ?_
  exact w_Laws_worth_C31_J251 hX
set_option maxRecDepth 4000 in
theorem w_Laws_worth_C31_J110 {v2 : Int32} {v3 : Int32} {v4 : Int32} {v5 : Int32} {v6 : Int32} {k1 : Int32} {k2 : Int32} (hX : gOk B X RX3 cX3_worth 8 3 (some .int)) : gH B X (Sum.elim (fun s : (Int32 × Int32 × Int32 × (Nat → Int32)) => gG B X 39 [(0, .ref (aC B 9)), (1, .ref (aC B 31)), (2, .int v2), (3, .int v3), (4, .int s.1), (5, .int s.2.1), (6, .int s.2.2.1)] [] (wdC B W_spillsNow W_drawn T_length T_at T_bytes D_cells D_clauses G_length G_code A_size A_chosen A_codes A_lengths s.2.2.2 Y_cells Y_clauses N_marbles N_chipped N_swallowed N_sweets N_day N_owners P_next P_kept P_hasImage P_image P_acts P_entries P_imageEntries S_fewest S_row S_strengths U_size U_found U_places U_kinds U_holds U_fitting U_tally L_letters L_firstCells L_secondCells L_firstBest L_secondBest W_refusals ++ fr)) (fun r : (Int32 × (Nat → Int32)) => gFin X (some (.int r.1)) (wdC B W_spillsNow W_drawn T_length T_at T_bytes D_cells D_clauses G_length G_code A_size A_chosen A_codes A_lengths r.2 Y_cells Y_clauses N_marbles N_chipped N_swallowed N_sweets N_day N_owners P_next P_kept P_hasImage P_image P_acts P_entries P_imageEntries S_fewest S_row S_strengths U_size U_found U_places U_kinds U_holds U_fitting U_tally L_letters L_firstCells L_secondCells L_firstBest L_secondBest W_refusals ++ fr))) 110 [(0, .ref (aC B 9)), (1, .ref (aC B 31)), (2, .int v2), (3, .int v3), (4, .int v4), (5, .int v5), (6, .int v6)] [.int k2, .int k1, .ref (aC B 12)] (wdC B W_spillsNow W_drawn T_length T_at T_bytes D_cells D_clauses G_length G_code A_size A_chosen A_codes A_lengths A_stack Y_cells Y_clauses N_marbles N_chipped N_swallowed N_sweets N_day N_owners P_next P_kept P_hasImage P_image P_acts P_entries P_imageEntries S_fewest S_row S_strengths U_size U_found U_places U_kinds U_holds U_fitting U_tally L_letters L_firstCells L_secondCells L_firstBest L_secondBest W_refusals ++ fr) (f_Laws_worth_C31_J110 A_stack v4 v5 v6 k1 k2) := by
  unfold f_Laws_worth_C31_J110
  refine ast_C12 hX dX3_worth_110 ?_
  refine gH.letw (w := fun y => wdC B W_spillsNow W_drawn T_length T_at T_bytes D_cells D_clauses G_length G_code A_size A_chosen A_codes A_lengths y Y_cells Y_clauses N_marbles N_chipped N_swallowed N_sweets N_day N_owners P_next P_kept P_hasImage P_image P_acts P_entries P_imageEntries S_fewest S_row S_strengths U_size U_found U_places U_kinds U_holds U_fitting U_tally L_letters L_firstCells L_secondCells L_firstBest L_secondBest W_refusals ++ fr) (fun A_stack_12 => ?_)
  refine h_iincc hX dX3_worth_111 rfl ki_1 (by decide) (lv' := [(0, .ref (aC B 9)), (1, .ref (aC B 31)), (2, .int v2), (3, .int v3), (4, .int (v4 + 1)), (5, .int v5), (6, .int v6)]) rfl ?_
  refine h_goto hX dX3_worth_114 (tgt := 251) (by decide) ?_
  exact w_Laws_worth_C31_J251 hX
set_option maxRecDepth 4000 in
theorem w_Laws_worth_C31_L39 {v2 : Int32} {v3 : Int32} (hX : gOk B X RX3 cX3_worth 8 3 (some .int)) (s : (Int32 × Int32 × Int32 × (Nat → Int32))) : gH B X (Sum.elim (fun s : (Int32 × Int32 × Int32 × (Nat → Int32)) => gG B X 39 [(0, .ref (aC B 9)), (1, .ref (aC B 31)), (2, .int v2), (3, .int v3), (4, .int s.1), (5, .int s.2.1), (6, .int s.2.2.1)] [] (wdC B W_spillsNow W_drawn T_length T_at T_bytes D_cells D_clauses G_length G_code A_size A_chosen A_codes A_lengths s.2.2.2 Y_cells Y_clauses N_marbles N_chipped N_swallowed N_sweets N_day N_owners P_next P_kept P_hasImage P_image P_acts P_entries P_imageEntries S_fewest S_row S_strengths U_size U_found U_places U_kinds U_holds U_fitting U_tally L_letters L_firstCells L_secondCells L_firstBest L_secondBest W_refusals ++ fr)) (fun r : (Int32 × (Nat → Int32)) => gFin X (some (.int r.1)) (wdC B W_spillsNow W_drawn T_length T_at T_bytes D_cells D_clauses G_length G_code A_size A_chosen A_codes A_lengths r.2 Y_cells Y_clauses N_marbles N_chipped N_swallowed N_sweets N_day N_owners P_next P_kept P_hasImage P_image P_acts P_entries P_imageEntries S_fewest S_row S_strengths U_size U_found U_places U_kinds U_holds U_fitting U_tally L_letters L_firstCells L_secondCells L_firstBest L_secondBest W_refusals ++ fr))) 39 [(0, .ref (aC B 9)), (1, .ref (aC B 31)), (2, .int v2), (3, .int v3), (4, .int s.1), (5, .int s.2.1), (6, .int s.2.2.1)] [] (wdC B W_spillsNow W_drawn T_length T_at T_bytes D_cells D_clauses G_length G_code A_size A_chosen A_codes A_lengths s.2.2.2 Y_cells Y_clauses N_marbles N_chipped N_swallowed N_sweets N_day N_owners P_next P_kept P_hasImage P_image P_acts P_entries P_imageEntries S_fewest S_row S_strengths U_size U_found U_places U_kinds U_holds U_fitting U_tally L_letters L_firstCells L_secondCells L_firstBest L_secondBest W_refusals ++ fr) (f_Laws_worth_C31_L39 A_codes L_letters v2 v3 s) := by
  unfold f_Laws_worth_C31_L39
  refine h_iload hX dX3_worth_39 rfl ?_
  refine h_iload_n hX dX3_worth_41 rfl rfl ?_
  refine h_icmp_ge hX dX3_worth_42 (tgt := 257) (by decide) (fun _ => ?_) (fun _ => ?_)
  · refine h_iconst hX dX3_worth_257 ki_0 ?_
    exact h_ret hX (rv := some (.int 0)) dX3_worth_258 trivial (fun h => h)
  · refine h_iload hX dX3_worth_45 rfl ?_
    refine h_iload_n hX dX3_worth_47 rfl rfl ?_
    refine h_icmp_ge hX dX3_worth_48 (tgt := 257) (by decide) (fun _ => ?_) (fun _ => ?_)
    · refine h_iconst hX dX3_worth_257 ki_0 ?_
      exact h_ret hX (rv := some (.int 0)) dX3_worth_258 trivial (fun h => h)
    · refine h_iload hX dX3_worth_51 rfl ?_
      refine h_sipush hX dX3_worth_53 ks_240 ?_
      refine h_icmp_ge hX dX3_worth_56 (tgt := 257) (by decide) (fun _ => ?_) (fun _ => ?_)
      · refine h_iconst hX dX3_worth_257 ki_0 ?_
        exact h_ret hX (rv := some (.int 0)) dX3_worth_258 trivial (fun h => h)
      · refine h_aload_n hX dX3_worth_59 rfl rfl ?_
        refine get_RX3_9_C9 hX dX3_worth_60 ?_
        refine h_iload_n hX dX3_worth_63 rfl rfl ?_
        refine h_iload hX dX3_worth_64 rfl ?_
        refine h_iadd hX dX3_worth_66 ?_
        refine ald_C10 hX dX3_worth_67 ?_
        refine gH.leti (fun v7_3 => ?_)
        refine h_istore hX dX3_worth_68 (by decide) (lv' := [(0, .ref (aC B 9)), (1, .ref (aC B 31)), (2, .int v2), (3, .int v3), (4, .int s.1), (5, .int s.2.1), (6, .int s.2.2.1), (7, .int v7_3)]) rfl ?_
        refine h_iincc hX dX3_worth_70 rfl ki_1 (by decide) (lv' := [(0, .ref (aC B 9)), (1, .ref (aC B 31)), (2, .int v2), (3, .int v3), (4, .int s.1), (5, .int (s.2.1 + 1)), (6, .int s.2.2.1), (7, .int v7_3)]) rfl ?_
        refine h_iload hX dX3_worth_73 rfl ?_
        refine h_sipush hX dX3_worth_75 ks_20000 ?_
        refine h_icmp_ge hX dX3_worth_78 (tgt := 117) (by decide) (fun _ => ?_) (fun _ => ?_)
        · refine h_iload hX dX3_worth_117 rfl ?_
          refine h_if_ne hX dX3_worth_119 (tgt := 124) (by decide) (fun _ => ?_) (fun _ => ?_)
          · refine h_iload hX dX3_worth_124 rfl ?_
            refine h_sipush hX dX3_worth_126 ks_30000 ?_
            refine h_icmp_ne hX dX3_worth_129 (tgt := 142) (by decide) (fun _ => ?_) (fun _ => ?_)
            · refine h_iload hX dX3_worth_142 rfl ?_
              refine h_ldc hX dX3_worth_144 cst_RX3_41 ?_
              refine h_icmp_lt hX dX3_worth_146 (tgt := 177) (by decide) (fun _ => ?_) (fun _ => ?_)
              · refine h_iload hX dX3_worth_177 rfl ?_
                refine h_sipush hX dX3_worth_179 ks_20033 ?_
                refine h_icmp_ne hX dX3_worth_182 (tgt := 208) (by decide) (fun _ => ?_) (fun _ => ?_)
                · refine h_iload hX dX3_worth_208 rfl ?_
                  refine h_iconst hX dX3_worth_210 ki_2 ?_
                  refine h_icmp_lt hX dX3_worth_211 (tgt := 251) (by decide) (fun _ => ?_) (fun _ => ?_)
                  · refine gH.dead [0, 1, 2, 3, 4, 5, 6] rfl ?_
                    exact w_Laws_worth_C31_J251 hX
                  · refine h_iincc hX dX3_worth_214 rfl ki_m1 (by decide) (lv' := [(0, .ref (aC B 9)), (1, .ref (aC B 31)), (2, .int v2), (3, .int v3), (4, .int (s.1 + (-1))), (5, .int (s.2.1 + 1)), (6, .int s.2.2.1), (7, .int v7_3)]) rfl ?_
                    refine h_aload_n hX dX3_worth_217 rfl rfl ?_
                    refine get_RX3_22_C9 hX dX3_worth_218 ?_
                    refine h_iload hX dX3_worth_221 rfl ?_
                    refine h_iconst hX dX3_worth_223 ki_1 ?_
                    refine h_isub hX dX3_worth_224 ?_
                    refine h_iload hX dX3_worth_225 rfl ?_
                    refine h_sipush hX dX3_worth_227 ks_20000 ?_
                    refine h_isub hX dX3_worth_230 ?_
                    refine h_aload_n hX dX3_worth_231 rfl rfl ?_
                    refine get_RX3_22_C9 hX dX3_worth_232 ?_
                    refine h_iload hX dX3_worth_235 rfl ?_
                    refine h_iconst hX dX3_worth_237 ki_1 ?_
                    refine h_isub hX dX3_worth_238 ?_
                    refine ald_C12 hX dX3_worth_239 ?_
                    refine h_aload_n hX dX3_worth_240 rfl rfl ?_
                    refine get_RX3_22_C9 hX dX3_worth_241 ?_
                    refine h_iload hX dX3_worth_244 rfl ?_
                    refine ald_C12 hX dX3_worth_246 ?_
                    refine h_callSi hX dX3_worth_247 (cs_RX3_42) (As := [.int (v7_3 - 20000), .int (s.2.2.2 ((s.1 + (-1)) - 1 : Int32).toNatClampNeg), .int (s.2.2.2 (s.1 + (-1) : Int32).toNatClampNeg)]) (st := [.int ((s.1 + (-1)) - 1), .ref (aC B 12)]) (fun _ h => c_Laws_joined h) rfl rfl (by decide) (Nat.le_of_ble_eq_true rfl) (fun a_7 => ?_)
                    refine ast_C12 hX dX3_worth_250 ?_
                    refine gH.letw (w := fun y => wdC B W_spillsNow W_drawn T_length T_at T_bytes D_cells D_clauses G_length G_code A_size A_chosen A_codes A_lengths y Y_cells Y_clauses N_marbles N_chipped N_swallowed N_sweets N_day N_owners P_next P_kept P_hasImage P_image P_acts P_entries P_imageEntries S_fewest S_row S_strengths U_size U_found U_places U_kinds U_holds U_fitting U_tally L_letters L_firstCells L_secondCells L_firstBest L_secondBest W_refusals ++ fr) (fun A_stack_8 => ?_)
                    refine gH.dead [0, 1, 2, 3, 4, 5, 6] rfl ?_
                    exact w_Laws_worth_C31_J251 hX
                · refine h_aload_n hX dX3_worth_185 rfl rfl ?_
                  refine get_RX3_22_C9 hX dX3_worth_186 ?_
                  refine h_iload hX dX3_worth_189 rfl ?_
                  refine h_iconst hX dX3_worth_191 ki_1 ?_
                  refine h_isub hX dX3_worth_192 ?_
                  refine h_iconst hX dX3_worth_193 ki_1 ?_
                  refine h_aload_n hX dX3_worth_194 rfl rfl ?_
                  refine get_RX3_22_C9 hX dX3_worth_195 ?_
                  refine h_iload hX dX3_worth_198 rfl ?_
                  refine h_iconst hX dX3_worth_200 ki_1 ?_
                  refine h_isub hX dX3_worth_201 ?_
                  refine ald_C12 hX dX3_worth_202 ?_
                  refine h_isub hX dX3_worth_203 ?_
                  refine ast_C12 hX dX3_worth_204 ?_
                  refine gH.letw (w := fun y => wdC B W_spillsNow W_drawn T_length T_at T_bytes D_cells D_clauses G_length G_code A_size A_chosen A_codes A_lengths y Y_cells Y_clauses N_marbles N_chipped N_swallowed N_sweets N_day N_owners P_next P_kept P_hasImage P_image P_acts P_entries P_imageEntries S_fewest S_row S_strengths U_size U_found U_places U_kinds U_holds U_fitting U_tally L_letters L_firstCells L_secondCells L_firstBest L_secondBest W_refusals ++ fr) (fun A_stack_9 => ?_)
                  refine h_goto hX dX3_worth_205 (tgt := 251) (by decide) ?_
                  refine gH.dead [0, 1, 2, 3, 4, 5, 6] rfl ?_
                  exact w_Laws_worth_C31_J251 hX
              · refine h_iincc hX dX3_worth_149 rfl ki_m1 (by decide) (lv' := [(0, .ref (aC B 9)), (1, .ref (aC B 31)), (2, .int v2), (3, .int v3), (4, .int (s.1 + (-1))), (5, .int (s.2.1 + 1)), (6, .int s.2.2.1), (7, .int v7_3)]) rfl ?_
                refine h_aload_n hX dX3_worth_152 rfl rfl ?_
                refine get_RX3_22_C9 hX dX3_worth_153 ?_
                refine h_iload hX dX3_worth_156 rfl ?_
                refine ald_C12 hX dX3_worth_158 ?_
                refine h_if_ne hX dX3_worth_159 (tgt := 170) (by decide) (fun _ => ?_) (fun _ => ?_)
                · refine h_iload hX dX3_worth_170 rfl ?_
                  refine gH.dead [0, 1, 2, 3, 4, 6] rfl ?_
                  exact w_Laws_worth_C31_J172 hX
                · refine h_iload hX dX3_worth_162 rfl ?_
                  refine h_ldc hX dX3_worth_164 cst_RX3_41 ?_
                  refine h_isub hX dX3_worth_166 ?_
                  refine h_goto hX dX3_worth_167 (tgt := 172) (by decide) ?_
                  refine gH.dead [0, 1, 2, 3, 4, 6] rfl ?_
                  exact w_Laws_worth_C31_J172 hX
            · refine gH.inr ?_
              refine h_aload_n hX dX3_worth_132 rfl rfl ?_
              refine get_RX3_22_C9 hX dX3_worth_133 ?_
              refine h_iload hX dX3_worth_136 rfl ?_
              refine h_iconst hX dX3_worth_138 ki_1 ?_
              refine h_isub hX dX3_worth_139 ?_
              refine ald_C12 hX dX3_worth_140 ?_
              exact h_ret hX (rv := some (.int (s.2.2.2 (s.1 - 1 : Int32).toNatClampNeg))) dX3_worth_141 trivial (fun h => h)
          · refine h_iconst hX dX3_worth_122 ki_0 ?_
            exact h_ret hX (rv := some (.int 0)) dX3_worth_123 trivial (fun h => h)
        · refine h_aload_n hX dX3_worth_81 rfl rfl ?_
          refine get_RX3_22_C9 hX dX3_worth_82 ?_
          refine h_iload hX dX3_worth_85 rfl ?_
          refine h_iload hX dX3_worth_87 rfl ?_
          refine h_sipush hX dX3_worth_89 ks_10000 ?_
          refine h_icmp_ge hX dX3_worth_92 (tgt := 100) (by decide) (fun _ => ?_) (fun _ => ?_)
          · refine h_aload_n hX dX3_worth_100 rfl rfl ?_
            refine h_iload hX dX3_worth_101 rfl ?_
            refine h_sipush hX dX3_worth_103 ks_10000 ?_
            refine h_isub hX dX3_worth_106 ?_
            refine h_callSi hX dX3_worth_107 (cs_RX3_38) (As := [.ref (aC B 31), .int (v7_3 - 10000)]) (st := [.int s.1, .ref (aC B 12)]) (fun _ h => c_Laws_letterOf_C31 h) rfl rfl (by decide) (Nat.le_of_ble_eq_true rfl) (fun a_11 => ?_)
            refine gH.dead [0, 1, 2, 3, 4, 5, 6] rfl ?_
            exact w_Laws_worth_C31_J110 hX
          · refine h_iload hX dX3_worth_95 rfl ?_
            refine h_goto hX dX3_worth_97 (tgt := 110) (by decide) ?_
            refine gH.dead [0, 1, 2, 3, 4, 5, 6] rfl ?_
            exact w_Laws_worth_C31_J110 hX
set_option maxRecDepth 4000 in
theorem w_Laws_worth_C31_J20 {k0 : Int32} (hX : gOk B X RX3 cX3_worth 8 3 (some .int)) : gH B X (fun r : (Int32 × (Nat → Int32)) => gFin X (some (.int r.1)) (wdC B W_spillsNow W_drawn T_length T_at T_bytes D_cells D_clauses G_length G_code A_size A_chosen A_codes A_lengths r.2 Y_cells Y_clauses N_marbles N_chipped N_swallowed N_sweets N_day N_owners P_next P_kept P_hasImage P_image P_acts P_entries P_imageEntries S_fewest S_row S_strengths U_size U_found U_places U_kinds U_holds U_fitting U_tally L_letters L_firstCells L_secondCells L_firstBest L_secondBest W_refusals ++ fr)) 20 [(0, .ref (aC B 9)), (1, .ref (aC B 31))] [.int k0] (wdC B W_spillsNow W_drawn T_length T_at T_bytes D_cells D_clauses G_length G_code A_size A_chosen A_codes A_lengths A_stack Y_cells Y_clauses N_marbles N_chipped N_swallowed N_sweets N_day N_owners P_next P_kept P_hasImage P_image P_acts P_entries P_imageEntries S_fewest S_row S_strengths U_size U_found U_places U_kinds U_holds U_fitting U_tally L_letters L_firstCells L_secondCells L_firstBest L_secondBest W_refusals ++ fr) (f_Laws_worth_C31_J20 A_chosen A_codes A_stack L_letters k0) := by
  unfold f_Laws_worth_C31_J20
  refine h_istore_n hX dX3_worth_20 rfl (by decide) (lv' := [(0, .ref (aC B 9)), (1, .ref (aC B 31)), (2, .int k0)]) rfl ?_
  refine h_aload_n hX dX3_worth_21 rfl rfl ?_
  refine get_RX3_18_C9 hX dX3_worth_22 ?_
  refine h_sipush hX dX3_worth_25 ks_240 ?_
  refine h_imul hX dX3_worth_28 ?_
  refine gH.leti (fun v3_2 => ?_)
  refine h_istore_n hX dX3_worth_29 rfl (by decide) (lv' := [(0, .ref (aC B 9)), (1, .ref (aC B 31)), (2, .int k0), (3, .int v3_2)]) rfl ?_
  refine h_iconst hX dX3_worth_30 ki_0 ?_
  refine h_istore hX dX3_worth_31 (by decide) (lv' := [(0, .ref (aC B 9)), (1, .ref (aC B 31)), (2, .int k0), (3, .int v3_2), (4, .int 0)]) rfl ?_
  refine h_iconst hX dX3_worth_33 ki_0 ?_
  refine h_istore hX dX3_worth_34 (by decide) (lv' := [(0, .ref (aC B 9)), (1, .ref (aC B 31)), (2, .int k0), (3, .int v3_2), (4, .int 0), (5, .int 0)]) rfl ?_
  refine h_iconst hX dX3_worth_36 ki_0 ?_
  refine h_istore hX dX3_worth_37 (by decide) (lv' := [(0, .ref (aC B 9)), (1, .ref (aC B 31)), (2, .int k0), (3, .int v3_2), (4, .int 0), (5, .int 0), (6, .int 0)]) rfl ?_
  exact gH.loop (lvf := fun z : (Int32 × Int32 × Int32 × (Nat → Int32)) => [(0, .ref (aC B 9)), (1, .ref (aC B 31)), (2, .int k0), (3, .int v3_2), (4, .int z.1), (5, .int z.2.1), (6, .int z.2.2.1)]) (wf := fun z : (Int32 × Int32 × Int32 × (Nat → Int32)) => wdC B W_spillsNow W_drawn T_length T_at T_bytes D_cells D_clauses G_length G_code A_size A_chosen A_codes A_lengths z.2.2.2 Y_cells Y_clauses N_marbles N_chipped N_swallowed N_sweets N_day N_owners P_next P_kept P_hasImage P_image P_acts P_entries P_imageEntries S_fewest S_row S_strengths U_size U_found U_places U_kinds U_holds U_fitting U_tally L_letters L_firstCells L_secondCells L_firstBest L_secondBest W_refusals ++ fr) (fun z => w_Laws_worth_C31_L39 hX z) (0, 0, 0, A_stack)
set_option maxRecDepth 4000 in
theorem w_Laws_worth_C31 (hX : gOk B X RX3 cX3_worth 8 3 (some .int)) : gH B X (fun r : (Int32 × (Nat → Int32)) => gFin X (some (.int r.1)) (wdC B W_spillsNow W_drawn T_length T_at T_bytes D_cells D_clauses G_length G_code A_size A_chosen A_codes A_lengths r.2 Y_cells Y_clauses N_marbles N_chipped N_swallowed N_sweets N_day N_owners P_next P_kept P_hasImage P_image P_acts P_entries P_imageEntries S_fewest S_row S_strengths U_size U_found U_places U_kinds U_holds U_fitting U_tally L_letters L_firstCells L_secondCells L_firstBest L_secondBest W_refusals ++ fr)) 0 [(0, .ref (aC B 9)), (1, .ref (aC B 31))] [] (wdC B W_spillsNow W_drawn T_length T_at T_bytes D_cells D_clauses G_length G_code A_size A_chosen A_codes A_lengths A_stack Y_cells Y_clauses N_marbles N_chipped N_swallowed N_sweets N_day N_owners P_next P_kept P_hasImage P_image P_acts P_entries P_imageEntries S_fewest S_row S_strengths U_size U_found U_places U_kinds U_holds U_fitting U_tally L_letters L_firstCells L_secondCells L_firstBest L_secondBest W_refusals ++ fr) (f_Laws_worth_C31 A_size A_chosen A_codes A_lengths A_stack L_letters) := by
  unfold f_Laws_worth_C31
  refine h_aload_n hX dX3_worth_0 rfl rfl ?_
  refine h_callVi hX dX3_worth_1 (cv_RX3_34) rc_C9 (As := []) (st := []) (fun _ h => c_Laws_anyHolds h) rfl rfl (by decide) (Nat.le_of_ble_eq_true rfl) (fun a_1 => ?_)
  refine h_if_eq hX dX3_worth_4 (tgt := 19) (by decide) (fun _ => ?_) (fun _ => ?_)
  · refine h_iconst hX dX3_worth_19 ki_0 ?_
    exact w_Laws_worth_C31_J20 hX
  · refine h_aload_n hX dX3_worth_7 rfl rfl ?_
    refine get_RX3_15_C9 hX dX3_worth_8 ?_
    refine h_aload_n hX dX3_worth_11 rfl rfl ?_
    refine get_RX3_18_C9 hX dX3_worth_12 ?_
    refine ald_C11 hX dX3_worth_15 ?_
    refine h_goto hX dX3_worth_16 (tgt := 20) (by decide) ?_
    exact w_Laws_worth_C31_J20 hX
theorem c_Laws_worth_C31 {r : (Int32 × (Nat → Int32))} (h : f_Laws_worth_C31 A_size A_chosen A_codes A_lengths A_stack L_letters = some r) : gMet B 3 yX3_worth cX3_worth 8 (some .int) [.ref (aC B 9), .ref (aC B 31)] (wdC B W_spillsNow W_drawn T_length T_at T_bytes D_cells D_clauses G_length G_code A_size A_chosen A_codes A_lengths A_stack Y_cells Y_clauses N_marbles N_chipped N_swallowed N_sweets N_day N_owners P_next P_kept P_hasImage P_image P_acts P_entries P_imageEntries S_fewest S_row S_strengths U_size U_found U_places U_kinds U_holds U_fitting U_tally L_letters L_firstCells L_secondCells L_firstBest L_secondBest W_refusals ++ fr) (some (.int r.1)) (wdC B W_spillsNow W_drawn T_length T_at T_bytes D_cells D_clauses G_length G_code A_size A_chosen A_codes A_lengths r.2 Y_cells Y_clauses N_marbles N_chipped N_swallowed N_sweets N_day N_owners P_next P_kept P_hasImage P_image P_acts P_entries P_imageEntries S_fewest S_row S_strengths U_size U_found U_places U_kinds U_holds U_fitting U_tally L_letters L_firstCells L_secondCells L_firstBest L_secondBest W_refusals ++ fr) :=
  gMet.of rfl (Nat.le_of_ble_eq_true rfl) (fun X hX hF => w_Laws_worth_C31 hX r h hF)
set_option maxRecDepth 4000 in
theorem w_Lane_flick_J137 {v4 : Int32} (hX : gOk B X RX1 cX1_flick 5 4 (some .int)) : gH B X (fun r : (Int32 × (Nat → Int32) × (Nat → Int32)) => gFin X (some (.int r.1)) (wdC B W_spillsNow W_drawn T_length T_at T_bytes D_cells D_clauses G_length G_code A_size A_chosen A_codes A_lengths r.2.1 Y_cells Y_clauses N_marbles N_chipped N_swallowed N_sweets N_day N_owners P_next P_kept P_hasImage P_image P_acts P_entries P_imageEntries S_fewest S_row S_strengths U_size U_found U_places U_kinds U_holds U_fitting U_tally r.2.2 L_firstCells L_secondCells L_firstBest L_secondBest W_refusals ++ fr)) 137 [(4, .int v4)] [] (wdC B W_spillsNow W_drawn T_length T_at T_bytes D_cells D_clauses G_length G_code A_size A_chosen A_codes A_lengths A_stack Y_cells Y_clauses N_marbles N_chipped N_swallowed N_sweets N_day N_owners P_next P_kept P_hasImage P_image P_acts P_entries P_imageEntries S_fewest S_row S_strengths U_size U_found U_places U_kinds U_holds U_fitting U_tally L_letters L_firstCells L_secondCells L_firstBest L_secondBest W_refusals ++ fr) (f_Lane_flick_J137 A_stack L_letters v4) := by
  unfold f_Lane_flick_J137
  refine h_iconst hX dX1_flick_137 ki_0 ?_
  refine h_bipush hX dX1_flick_138 kb_60 ?_
  refine h_iload hX dX1_flick_140 rfl ?_
  refine h_jmin hX dX1_flick_142 cm_RX1_91 (by omega) (Nat.le_of_ble_eq_true rfl) ?_
  refine h_jmax hX dX1_flick_145 cm_RX1_97 (by omega) (Nat.le_of_ble_eq_true rfl) ?_
  exact h_ret hX (rv := some (.int (jmax 0 (jmin 60 v4)))) dX1_flick_148 trivial (fun h => h)
set_option maxRecDepth 4000 in
theorem w_Lane_flick_J93 {v1 : Int32} {k1 : Int32} {k2 : Int32} (hX : gOk B X RX1 cX1_flick 5 4 (some .int)) : gH B X (fun r : (Int32 × (Nat → Int32) × (Nat → Int32)) => gFin X (some (.int r.1)) (wdC B W_spillsNow W_drawn T_length T_at T_bytes D_cells D_clauses G_length G_code A_size A_chosen A_codes A_lengths r.2.1 Y_cells Y_clauses N_marbles N_chipped N_swallowed N_sweets N_day N_owners P_next P_kept P_hasImage P_image P_acts P_entries P_imageEntries S_fewest S_row S_strengths U_size U_found U_places U_kinds U_holds U_fitting U_tally r.2.2 L_firstCells L_secondCells L_firstBest L_secondBest W_refusals ++ fr)) 93 [(0, .ref (aC B 30)), (1, .int v1)] [.int k2, .int k1, .ref (aC B 31)] (wdC B W_spillsNow W_drawn T_length T_at T_bytes D_cells D_clauses G_length G_code A_size A_chosen A_codes A_lengths A_stack Y_cells Y_clauses N_marbles N_chipped N_swallowed N_sweets N_day N_owners P_next P_kept P_hasImage P_image P_acts P_entries P_imageEntries S_fewest S_row S_strengths U_size U_found U_places U_kinds U_holds U_fitting U_tally L_letters L_firstCells L_secondCells L_firstBest L_secondBest W_refusals ++ fr) (f_Lane_flick_J93 A_size A_chosen A_codes A_lengths A_stack N_marbles N_day N_owners L_letters v1 k1 k2) := by
  unfold f_Lane_flick_J93
  refine ast_C31 hX dX1_flick_93 ?_
  refine gH.letw (w := fun y => wdC B W_spillsNow W_drawn T_length T_at T_bytes D_cells D_clauses G_length G_code A_size A_chosen A_codes A_lengths A_stack Y_cells Y_clauses N_marbles N_chipped N_swallowed N_sweets N_day N_owners P_next P_kept P_hasImage P_image P_acts P_entries P_imageEntries S_fewest S_row S_strengths U_size U_found U_places U_kinds U_holds U_fitting U_tally y L_firstCells L_secondCells L_firstBest L_secondBest W_refusals ++ fr) (fun L_letters_11 => ?_)
  refine h_aload_n hX dX1_flick_94 rfl rfl ?_
  refine get_RX1_13_C30 hX dX1_flick_95 ?_
  refine h_iconst hX dX1_flick_98 ki_4 ?_
  refine h_aload_n hX dX1_flick_99 rfl rfl ?_
  refine get_RX1_34_C30 hX dX1_flick_100 ?_
  refine h_iload_n hX dX1_flick_103 rfl rfl ?_
  refine h_callVi hX dX1_flick_104 (cv_RX1_75) rc_C16 (As := [.int v1]) (st := [.int 4, .ref (aC B 31)]) (fun _ h => c_Now_handOf h) rfl rfl (by decide) (Nat.le_of_ble_eq_true rfl) (fun a_12 => ?_)
  refine h_callSi hX dX1_flick_107 (cs_RX1_78) (As := [.int a_12]) (st := [.int 4, .ref (aC B 31)]) (fun _ h => c_J_bitCount h) rfl rfl (by decide) (Nat.le_of_ble_eq_true rfl) (fun a_13 => ?_)
  refine ast_C31 hX dX1_flick_110 ?_
  refine gH.letw (w := fun y => wdC B W_spillsNow W_drawn T_length T_at T_bytes D_cells D_clauses G_length G_code A_size A_chosen A_codes A_lengths A_stack Y_cells Y_clauses N_marbles N_chipped N_swallowed N_sweets N_day N_owners P_next P_kept P_hasImage P_image P_acts P_entries P_imageEntries S_fewest S_row S_strengths U_size U_found U_places U_kinds U_holds U_fitting U_tally y L_firstCells L_secondCells L_firstBest L_secondBest W_refusals ++ fr) (fun L_letters_14 => ?_)
  refine h_aload_n hX dX1_flick_111 rfl rfl ?_
  refine get_RX1_13_C30 hX dX1_flick_112 ?_
  refine h_iconst hX dX1_flick_115 ki_5 ?_
  refine h_aload_n hX dX1_flick_116 rfl rfl ?_
  refine get_RX1_34_C30 hX dX1_flick_117 ?_
  refine get_RX1_83_C16 hX dX1_flick_120 ?_
  refine ast_C31 hX dX1_flick_123 ?_
  refine gH.letw (w := fun y => wdC B W_spillsNow W_drawn T_length T_at T_bytes D_cells D_clauses G_length G_code A_size A_chosen A_codes A_lengths A_stack Y_cells Y_clauses N_marbles N_chipped N_swallowed N_sweets N_day N_owners P_next P_kept P_hasImage P_image P_acts P_entries P_imageEntries S_fewest S_row S_strengths U_size U_found U_places U_kinds U_holds U_fitting U_tally y L_firstCells L_secondCells L_firstBest L_secondBest W_refusals ++ fr) (fun L_letters_15 => ?_)
  refine h_aload_n hX dX1_flick_124 rfl rfl ?_
  refine get_RX1_38_C30 hX dX1_flick_125 ?_
  refine h_aload_n hX dX1_flick_128 rfl rfl ?_
  refine get_RX1_13_C30 hX dX1_flick_129 ?_
  refine h_callVi hX dX1_flick_132 (cv_RX1_87) rc_C9 (As := [.ref (aC B 31)]) (st := []) (fun _ h => c_Laws_worth_C31 h) rfl rfl (by decide) (Nat.le_of_ble_eq_true rfl) (fun a_16 => ?_)
  refine h_istore hX dX1_flick_135 (by decide) (lv' := [(0, .ref (aC B 30)), (1, .int v1), (4, .int a_16.1)]) rfl ?_
  refine gH.dead [2] rfl ?_
  exact w_Lane_flick_J137 hX
set_option maxRecDepth 4000 in
theorem w_Lane_flick {p0 : Int32} {p1 : Int32} {p2 : Int32} (hX : gOk B X RX1 cX1_flick 5 4 (some .int)) : gH B X (fun r : (Int32 × (Nat → Int32) × (Nat → Int32)) => gFin X (some (.int r.1)) (wdC B W_spillsNow W_drawn T_length T_at T_bytes D_cells D_clauses G_length G_code A_size A_chosen A_codes A_lengths r.2.1 Y_cells Y_clauses N_marbles N_chipped N_swallowed N_sweets N_day N_owners P_next P_kept P_hasImage P_image P_acts P_entries P_imageEntries S_fewest S_row S_strengths U_size U_found U_places U_kinds U_holds U_fitting U_tally r.2.2 L_firstCells L_secondCells L_firstBest L_secondBest W_refusals ++ fr)) 0 [(0, .ref (aC B 30)), (1, .int p0), (2, .int p1), (3, .int p2)] [] (wdC B W_spillsNow W_drawn T_length T_at T_bytes D_cells D_clauses G_length G_code A_size A_chosen A_codes A_lengths A_stack Y_cells Y_clauses N_marbles N_chipped N_swallowed N_sweets N_day N_owners P_next P_kept P_hasImage P_image P_acts P_entries P_imageEntries S_fewest S_row S_strengths U_size U_found U_places U_kinds U_holds U_fitting U_tally L_letters L_firstCells L_secondCells L_firstBest L_secondBest W_refusals ++ fr) (f_Lane_flick A_size A_chosen A_codes A_lengths A_stack Y_cells N_marbles N_chipped N_day N_owners L_letters p0 p1 p2) := by
  unfold f_Lane_flick
  refine h_iconst hX dX1_flick_0 ki_2 ?_
  refine h_iload_n hX dX1_flick_1 rfl rfl ?_
  refine h_imul hX dX1_flick_2 ?_
  refine h_aload_n hX dX1_flick_3 rfl rfl ?_
  refine get_RX1_30_C30 hX dX1_flick_4 ?_
  refine h_iload_n hX dX1_flick_7 rfl rfl ?_
  refine h_callVi hX dX1_flick_8 (cv_RX1_60) rc_C13 (As := [.int p0]) (st := [.int (2 * p2)]) (fun _ h => c_Yard_skill h) rfl rfl (by decide) (Nat.le_of_ble_eq_true rfl) (fun a_1 => ?_)
  refine h_iconst hX dX1_flick_11 ki_2 ?_
  refine h_idivc hX dX1_flick_12 (by decide) ?_
  refine h_iadd hX dX1_flick_13 ?_
  refine h_aload_n hX dX1_flick_14 rfl rfl ?_
  refine get_RX1_30_C30 hX dX1_flick_15 ?_
  refine h_iload_n hX dX1_flick_18 rfl rfl ?_
  refine h_callVi hX dX1_flick_19 (cv_RX1_63) rc_C13 (As := [.int p1]) (st := [.int ((2 * p2) + (a_1 / 2))]) (fun _ h => c_Yard_size h) rfl rfl (by decide) (Nat.le_of_ble_eq_true rfl) (fun a_2 => ?_)
  refine h_iconst hX dX1_flick_22 ki_3 ?_
  refine h_idivc hX dX1_flick_23 (by decide) ?_
  refine h_isub hX dX1_flick_24 ?_
  refine gH.leti (fun v4_3 => ?_)
  refine h_istore hX dX1_flick_25 (by decide) (lv' := [(0, .ref (aC B 30)), (1, .int p0), (2, .int p1), (3, .int p2), (4, .int v4_3)]) rfl ?_
  refine h_aload_n hX dX1_flick_27 rfl rfl ?_
  refine get_RX1_38_C30 hX dX1_flick_28 ?_
  refine h_callVi hX dX1_flick_31 (cv_RX1_66) rc_C9 (As := []) (st := []) (fun _ h => c_Laws_anyHolds h) rfl rfl (by decide) (Nat.le_of_ble_eq_true rfl) (fun a_4 => ?_)
  refine h_if_eq hX dX1_flick_34 (tgt := 137) (by decide) (fun _ => ?_) (fun _ => ?_)
  · refine gH.dead [4] rfl ?_
    exact w_Lane_flick_J137 hX
  · refine h_aload_n hX dX1_flick_37 rfl rfl ?_
    refine get_RX1_13_C30 hX dX1_flick_38 ?_
    refine h_iconst hX dX1_flick_41 ki_0 ?_
    refine h_iload_n hX dX1_flick_42 rfl rfl ?_
    refine ast_C31 hX dX1_flick_43 ?_
    refine gH.letw (w := fun y => wdC B W_spillsNow W_drawn T_length T_at T_bytes D_cells D_clauses G_length G_code A_size A_chosen A_codes A_lengths A_stack Y_cells Y_clauses N_marbles N_chipped N_swallowed N_sweets N_day N_owners P_next P_kept P_hasImage P_image P_acts P_entries P_imageEntries S_fewest S_row S_strengths U_size U_found U_places U_kinds U_holds U_fitting U_tally y L_firstCells L_secondCells L_firstBest L_secondBest W_refusals ++ fr) (fun L_letters_5 => ?_)
    refine h_aload_n hX dX1_flick_44 rfl rfl ?_
    refine get_RX1_13_C30 hX dX1_flick_45 ?_
    refine h_iconst hX dX1_flick_48 ki_1 ?_
    refine h_aload_n hX dX1_flick_49 rfl rfl ?_
    refine get_RX1_30_C30 hX dX1_flick_50 ?_
    refine h_iload_n hX dX1_flick_53 rfl rfl ?_
    refine h_callVi hX dX1_flick_54 (cv_RX1_60) rc_C13 (As := [.int p0]) (st := [.int 1, .ref (aC B 31)]) (fun _ h => c_Yard_skill h) rfl rfl (by decide) (Nat.le_of_ble_eq_true rfl) (fun a_6 => ?_)
    refine ast_C31 hX dX1_flick_57 ?_
    refine gH.letw (w := fun y => wdC B W_spillsNow W_drawn T_length T_at T_bytes D_cells D_clauses G_length G_code A_size A_chosen A_codes A_lengths A_stack Y_cells Y_clauses N_marbles N_chipped N_swallowed N_sweets N_day N_owners P_next P_kept P_hasImage P_image P_acts P_entries P_imageEntries S_fewest S_row S_strengths U_size U_found U_places U_kinds U_holds U_fitting U_tally y L_firstCells L_secondCells L_firstBest L_secondBest W_refusals ++ fr) (fun L_letters_7 => ?_)
    refine h_aload_n hX dX1_flick_58 rfl rfl ?_
    refine get_RX1_13_C30 hX dX1_flick_59 ?_
    refine h_iconst hX dX1_flick_62 ki_2 ?_
    refine h_aload_n hX dX1_flick_63 rfl rfl ?_
    refine get_RX1_30_C30 hX dX1_flick_64 ?_
    refine h_iload_n hX dX1_flick_67 rfl rfl ?_
    refine h_callVi hX dX1_flick_68 (cv_RX1_63) rc_C13 (As := [.int p1]) (st := [.int 2, .ref (aC B 31)]) (fun _ h => c_Yard_size h) rfl rfl (by decide) (Nat.le_of_ble_eq_true rfl) (fun a_8 => ?_)
    refine ast_C31 hX dX1_flick_71 ?_
    refine gH.letw (w := fun y => wdC B W_spillsNow W_drawn T_length T_at T_bytes D_cells D_clauses G_length G_code A_size A_chosen A_codes A_lengths A_stack Y_cells Y_clauses N_marbles N_chipped N_swallowed N_sweets N_day N_owners P_next P_kept P_hasImage P_image P_acts P_entries P_imageEntries S_fewest S_row S_strengths U_size U_found U_places U_kinds U_holds U_fitting U_tally y L_firstCells L_secondCells L_firstBest L_secondBest W_refusals ++ fr) (fun L_letters_9 => ?_)
    refine h_aload_n hX dX1_flick_72 rfl rfl ?_
    refine get_RX1_13_C30 hX dX1_flick_73 ?_
    refine h_iconst hX dX1_flick_76 ki_3 ?_
    refine h_aload_n hX dX1_flick_77 rfl rfl ?_
    refine get_RX1_34_C30 hX dX1_flick_78 ?_
    refine h_iload_n hX dX1_flick_81 rfl rfl ?_
    refine h_callVi hX dX1_flick_82 (cv_RX1_72) rc_C16 (As := [.int p1]) (st := [.int 3, .ref (aC B 31)]) (fun _ h => c_Now_isChipped h) rfl rfl (by decide) (Nat.le_of_ble_eq_true rfl) (fun a_10 => ?_)
    refine h_if_eq hX dX1_flick_85 (tgt := 92) (by decide) (fun _ => ?_) (fun _ => ?_)
    · refine h_iconst hX dX1_flick_92 ki_0 ?_
      refine gH.dead [0, 1] rfl ?_
      exact w_Lane_flick_J93 hX
    · refine h_iconst hX dX1_flick_88 ki_1 ?_
      refine h_goto hX dX1_flick_89 (tgt := 93) (by decide) ?_
      refine gH.dead [0, 1] rfl ?_
      exact w_Lane_flick_J93 hX
theorem c_Lane_flick {p0 : Int32} {p1 : Int32} {p2 : Int32} {r : (Int32 × (Nat → Int32) × (Nat → Int32))} (h : f_Lane_flick A_size A_chosen A_codes A_lengths A_stack Y_cells N_marbles N_chipped N_day N_owners L_letters p0 p1 p2 = some r) : gMet B 4 yX1_flick cX1_flick 5 (some .int) [.ref (aC B 30), .int p0, .int p1, .int p2] (wdC B W_spillsNow W_drawn T_length T_at T_bytes D_cells D_clauses G_length G_code A_size A_chosen A_codes A_lengths A_stack Y_cells Y_clauses N_marbles N_chipped N_swallowed N_sweets N_day N_owners P_next P_kept P_hasImage P_image P_acts P_entries P_imageEntries S_fewest S_row S_strengths U_size U_found U_places U_kinds U_holds U_fitting U_tally L_letters L_firstCells L_secondCells L_firstBest L_secondBest W_refusals ++ fr) (some (.int r.1)) (wdC B W_spillsNow W_drawn T_length T_at T_bytes D_cells D_clauses G_length G_code A_size A_chosen A_codes A_lengths r.2.1 Y_cells Y_clauses N_marbles N_chipped N_swallowed N_sweets N_day N_owners P_next P_kept P_hasImage P_image P_acts P_entries P_imageEntries S_fewest S_row S_strengths U_size U_found U_places U_kinds U_holds U_fitting U_tally r.2.2 L_firstCells L_secondCells L_firstBest L_secondBest W_refusals ++ fr) :=
  gMet.of rfl (Nat.le_of_ble_eq_true rfl) (fun X hX hF => w_Lane_flick hX r h hF)
set_option maxRecDepth 4000 in
theorem w_Yard_hole (hX : gOk B X RX8 cX8_hole 1 1 (some .int)) : gH B X (fun r : Int32 => gFin X (some (.int r)) (wdC B W_spillsNow W_drawn T_length T_at T_bytes D_cells D_clauses G_length G_code A_size A_chosen A_codes A_lengths A_stack Y_cells Y_clauses N_marbles N_chipped N_swallowed N_sweets N_day N_owners P_next P_kept P_hasImage P_image P_acts P_entries P_imageEntries S_fewest S_row S_strengths U_size U_found U_places U_kinds U_holds U_fitting U_tally L_letters L_firstCells L_secondCells L_firstBest L_secondBest W_refusals ++ fr)) 0 [(0, .ref (aC B 13))] [] (wdC B W_spillsNow W_drawn T_length T_at T_bytes D_cells D_clauses G_length G_code A_size A_chosen A_codes A_lengths A_stack Y_cells Y_clauses N_marbles N_chipped N_swallowed N_sweets N_day N_owners P_next P_kept P_hasImage P_image P_acts P_entries P_imageEntries S_fewest S_row S_strengths U_size U_found U_places U_kinds U_holds U_fitting U_tally L_letters L_firstCells L_secondCells L_firstBest L_secondBest W_refusals ++ fr) (f_Yard_hole Y_cells) := by
  unfold f_Yard_hole
  refine h_aload_n hX dX8_hole_0 rfl rfl ?_
  refine h_iconst hX dX8_hole_1 ki_0 ?_
  refine h_iconst hX dX8_hole_2 ki_0 ?_
  refine h_iconst hX dX8_hole_3 ki_0 ?_
  refine h_callVi hX dX8_hole_4 (cv_RX8_60) rc_C13 (As := [.int 0, .int 0, .int 0]) (st := []) (fun _ h => c_Yard_cell h) rfl rfl (by decide) (Nat.le_of_ble_eq_true rfl) (fun a_1 => ?_)
  exact h_ret hX (rv := some (.int a_1)) dX8_hole_7 trivial (fun h => h)
theorem c_Yard_hole {r : Int32} (h : f_Yard_hole Y_cells = some r) : gMet B 1 yX8_hole cX8_hole 1 (some .int) [.ref (aC B 13)] (wdC B W_spillsNow W_drawn T_length T_at T_bytes D_cells D_clauses G_length G_code A_size A_chosen A_codes A_lengths A_stack Y_cells Y_clauses N_marbles N_chipped N_swallowed N_sweets N_day N_owners P_next P_kept P_hasImage P_image P_acts P_entries P_imageEntries S_fewest S_row S_strengths U_size U_found U_places U_kinds U_holds U_fitting U_tally L_letters L_firstCells L_secondCells L_firstBest L_secondBest W_refusals ++ fr) (some (.int r)) (wdC B W_spillsNow W_drawn T_length T_at T_bytes D_cells D_clauses G_length G_code A_size A_chosen A_codes A_lengths A_stack Y_cells Y_clauses N_marbles N_chipped N_swallowed N_sweets N_day N_owners P_next P_kept P_hasImage P_image P_acts P_entries P_imageEntries S_fewest S_row S_strengths U_size U_found U_places U_kinds U_holds U_fitting U_tally L_letters L_firstCells L_secondCells L_firstBest L_secondBest W_refusals ++ fr) :=
  gMet.of rfl (Nat.le_of_ble_eq_true rfl) (fun X hX hF => w_Yard_hole hX r h hF)
set_option maxRecDepth 4000 in
theorem w_Yard_behind (hX : gOk B X RX8 cX8_behind 1 1 (some .int)) : gH B X (fun r : Int32 => gFin X (some (.int r)) (wdC B W_spillsNow W_drawn T_length T_at T_bytes D_cells D_clauses G_length G_code A_size A_chosen A_codes A_lengths A_stack Y_cells Y_clauses N_marbles N_chipped N_swallowed N_sweets N_day N_owners P_next P_kept P_hasImage P_image P_acts P_entries P_imageEntries S_fewest S_row S_strengths U_size U_found U_places U_kinds U_holds U_fitting U_tally L_letters L_firstCells L_secondCells L_firstBest L_secondBest W_refusals ++ fr)) 0 [(0, .ref (aC B 13))] [] (wdC B W_spillsNow W_drawn T_length T_at T_bytes D_cells D_clauses G_length G_code A_size A_chosen A_codes A_lengths A_stack Y_cells Y_clauses N_marbles N_chipped N_swallowed N_sweets N_day N_owners P_next P_kept P_hasImage P_image P_acts P_entries P_imageEntries S_fewest S_row S_strengths U_size U_found U_places U_kinds U_holds U_fitting U_tally L_letters L_firstCells L_secondCells L_firstBest L_secondBest W_refusals ++ fr) (f_Yard_behind Y_cells) := by
  unfold f_Yard_behind
  refine h_aload_n hX dX8_behind_0 rfl rfl ?_
  refine h_iconst hX dX8_behind_1 ki_0 ?_
  refine h_iconst hX dX8_behind_2 ki_0 ?_
  refine h_iconst hX dX8_behind_3 ki_1 ?_
  refine h_callVi hX dX8_behind_4 (cv_RX8_60) rc_C13 (As := [.int 0, .int 0, .int 1]) (st := []) (fun _ h => c_Yard_cell h) rfl rfl (by decide) (Nat.le_of_ble_eq_true rfl) (fun a_1 => ?_)
  exact h_ret hX (rv := some (.int a_1)) dX8_behind_7 trivial (fun h => h)
theorem c_Yard_behind {r : Int32} (h : f_Yard_behind Y_cells = some r) : gMet B 1 yX8_behind cX8_behind 1 (some .int) [.ref (aC B 13)] (wdC B W_spillsNow W_drawn T_length T_at T_bytes D_cells D_clauses G_length G_code A_size A_chosen A_codes A_lengths A_stack Y_cells Y_clauses N_marbles N_chipped N_swallowed N_sweets N_day N_owners P_next P_kept P_hasImage P_image P_acts P_entries P_imageEntries S_fewest S_row S_strengths U_size U_found U_places U_kinds U_holds U_fitting U_tally L_letters L_firstCells L_secondCells L_firstBest L_secondBest W_refusals ++ fr) (some (.int r)) (wdC B W_spillsNow W_drawn T_length T_at T_bytes D_cells D_clauses G_length G_code A_size A_chosen A_codes A_lengths A_stack Y_cells Y_clauses N_marbles N_chipped N_swallowed N_sweets N_day N_owners P_next P_kept P_hasImage P_image P_acts P_entries P_imageEntries S_fewest S_row S_strengths U_size U_found U_places U_kinds U_holds U_fitting U_tally L_letters L_firstCells L_secondCells L_firstBest L_secondBest W_refusals ++ fr) :=
  gMet.of rfl (Nat.le_of_ble_eq_true rfl) (fun X hX hF => w_Yard_behind hX r h hF)
set_option maxRecDepth 4000 in
theorem w_Lane_isDrain {p0 : Int32} (hX : gOk B X RX1 cX1_isDrain 2 2 (some .boolean)) : gH B X (fun r : Int32 => gFin X (some (.int r)) (wdC B W_spillsNow W_drawn T_length T_at T_bytes D_cells D_clauses G_length G_code A_size A_chosen A_codes A_lengths A_stack Y_cells Y_clauses N_marbles N_chipped N_swallowed N_sweets N_day N_owners P_next P_kept P_hasImage P_image P_acts P_entries P_imageEntries S_fewest S_row S_strengths U_size U_found U_places U_kinds U_holds U_fitting U_tally L_letters L_firstCells L_secondCells L_firstBest L_secondBest W_refusals ++ fr)) 0 [(0, .ref (aC B 30)), (1, .int p0)] [] (wdC B W_spillsNow W_drawn T_length T_at T_bytes D_cells D_clauses G_length G_code A_size A_chosen A_codes A_lengths A_stack Y_cells Y_clauses N_marbles N_chipped N_swallowed N_sweets N_day N_owners P_next P_kept P_hasImage P_image P_acts P_entries P_imageEntries S_fewest S_row S_strengths U_size U_found U_places U_kinds U_holds U_fitting U_tally L_letters L_firstCells L_secondCells L_firstBest L_secondBest W_refusals ++ fr) (f_Lane_isDrain Y_cells p0) := by
  unfold f_Lane_isDrain
  refine h_iload_n hX dX1_isDrain_0 rfl rfl ?_
  refine h_aload_n hX dX1_isDrain_1 rfl rfl ?_
  refine get_RX1_30_C30 hX dX1_isDrain_2 ?_
  refine h_callVi hX dX1_isDrain_5 (cv_RX1_100) rc_C13 (As := []) (st := [.int p0]) (fun _ h => c_Yard_hole h) rfl rfl (by decide) (Nat.le_of_ble_eq_true rfl) (fun a_1 => ?_)
  refine h_aload_n hX dX1_isDrain_8 rfl rfl ?_
  refine get_RX1_30_C30 hX dX1_isDrain_9 ?_
  refine h_callVi hX dX1_isDrain_12 (cv_RX1_104) rc_C13 (As := []) (st := [.int a_1, .int p0]) (fun _ h => c_Yard_behind h) rfl rfl (by decide) (Nat.le_of_ble_eq_true rfl) (fun a_2 => ?_)
  refine h_iadd hX dX1_isDrain_15 ?_
  refine h_icmp_lt hX dX1_isDrain_16 (tgt := 23) (by decide) (fun _ => ?_) (fun _ => ?_)
  · refine h_iconst hX dX1_isDrain_23 ki_0 ?_
    exact h_ret hX (rv := some (.int 0)) dX1_isDrain_24 rfl (fun h => h)
  · refine h_iconst hX dX1_isDrain_19 ki_1 ?_
    refine h_goto hX dX1_isDrain_20 (tgt := 24) (by decide) ?_
    exact h_ret hX (rv := some (.int 1)) dX1_isDrain_24 rfl (fun h => h)
theorem c_Lane_isDrain {p0 : Int32} {r : Int32} (h : f_Lane_isDrain Y_cells p0 = some r) : gMet B 2 yX1_isDrain cX1_isDrain 2 (some .boolean) [.ref (aC B 30), .int p0] (wdC B W_spillsNow W_drawn T_length T_at T_bytes D_cells D_clauses G_length G_code A_size A_chosen A_codes A_lengths A_stack Y_cells Y_clauses N_marbles N_chipped N_swallowed N_sweets N_day N_owners P_next P_kept P_hasImage P_image P_acts P_entries P_imageEntries S_fewest S_row S_strengths U_size U_found U_places U_kinds U_holds U_fitting U_tally L_letters L_firstCells L_secondCells L_firstBest L_secondBest W_refusals ++ fr) (some (.int r)) (wdC B W_spillsNow W_drawn T_length T_at T_bytes D_cells D_clauses G_length G_code A_size A_chosen A_codes A_lengths A_stack Y_cells Y_clauses N_marbles N_chipped N_swallowed N_sweets N_day N_owners P_next P_kept P_hasImage P_image P_acts P_entries P_imageEntries S_fewest S_row S_strengths U_size U_found U_places U_kinds U_holds U_fitting U_tally L_letters L_firstCells L_secondCells L_firstBest L_secondBest W_refusals ++ fr) :=
  gMet.of rfl (Nat.le_of_ble_eq_true rfl) (fun X hX hF => w_Lane_isDrain hX r h hF)
set_option maxRecDepth 4000 in
theorem w_Lane_distance {p0 : Int32} (hX : gOk B X RX1 cX1_distance 2 2 (some .int)) : gH B X (fun r : Int32 => gFin X (some (.int r)) (wdC B W_spillsNow W_drawn T_length T_at T_bytes D_cells D_clauses G_length G_code A_size A_chosen A_codes A_lengths A_stack Y_cells Y_clauses N_marbles N_chipped N_swallowed N_sweets N_day N_owners P_next P_kept P_hasImage P_image P_acts P_entries P_imageEntries S_fewest S_row S_strengths U_size U_found U_places U_kinds U_holds U_fitting U_tally L_letters L_firstCells L_secondCells L_firstBest L_secondBest W_refusals ++ fr)) 0 [(0, .ref (aC B 30)), (1, .int p0)] [] (wdC B W_spillsNow W_drawn T_length T_at T_bytes D_cells D_clauses G_length G_code A_size A_chosen A_codes A_lengths A_stack Y_cells Y_clauses N_marbles N_chipped N_swallowed N_sweets N_day N_owners P_next P_kept P_hasImage P_image P_acts P_entries P_imageEntries S_fewest S_row S_strengths U_size U_found U_places U_kinds U_holds U_fitting U_tally L_letters L_firstCells L_secondCells L_firstBest L_secondBest W_refusals ++ fr) (f_Lane_distance Y_cells p0) := by
  unfold f_Lane_distance
  refine h_iload_n hX dX1_distance_0 rfl rfl ?_
  refine h_aload_n hX dX1_distance_1 rfl rfl ?_
  refine get_RX1_30_C30 hX dX1_distance_2 ?_
  refine h_callVi hX dX1_distance_5 (cv_RX1_100) rc_C13 (As := []) (st := [.int p0]) (fun _ h => c_Yard_hole h) rfl rfl (by decide) (Nat.le_of_ble_eq_true rfl) (fun a_1 => ?_)
  refine h_isub hX dX1_distance_8 ?_
  refine h_jabs hX dX1_distance_9 cm_RX1_107 (by omega) (Nat.le_of_ble_eq_true rfl) ?_
  exact h_ret hX (rv := some (.int (jabs (p0 - a_1)))) dX1_distance_12 trivial (fun h => h)
theorem c_Lane_distance {p0 : Int32} {r : Int32} (h : f_Lane_distance Y_cells p0 = some r) : gMet B 2 yX1_distance cX1_distance 2 (some .int) [.ref (aC B 30), .int p0] (wdC B W_spillsNow W_drawn T_length T_at T_bytes D_cells D_clauses G_length G_code A_size A_chosen A_codes A_lengths A_stack Y_cells Y_clauses N_marbles N_chipped N_swallowed N_sweets N_day N_owners P_next P_kept P_hasImage P_image P_acts P_entries P_imageEntries S_fewest S_row S_strengths U_size U_found U_places U_kinds U_holds U_fitting U_tally L_letters L_firstCells L_secondCells L_firstBest L_secondBest W_refusals ++ fr) (some (.int r)) (wdC B W_spillsNow W_drawn T_length T_at T_bytes D_cells D_clauses G_length G_code A_size A_chosen A_codes A_lengths A_stack Y_cells Y_clauses N_marbles N_chipped N_swallowed N_sweets N_day N_owners P_next P_kept P_hasImage P_image P_acts P_entries P_imageEntries S_fewest S_row S_strengths U_size U_found U_places U_kinds U_holds U_fitting U_tally L_letters L_firstCells L_secondCells L_firstBest L_secondBest W_refusals ++ fr) :=
  gMet.of rfl (Nat.le_of_ble_eq_true rfl) (fun X hX hF => w_Lane_distance hX r h hF)
set_option maxRecDepth 4000 in
theorem w_Lane_nearerOf {p0 : Int32} {p1 : Int32} (hX : gOk B X RX1 cX1_nearerOf 3 3 (some .int)) : gH B X (fun r : Int32 => gFin X (some (.int r)) (wdC B W_spillsNow W_drawn T_length T_at T_bytes D_cells D_clauses G_length G_code A_size A_chosen A_codes A_lengths A_stack Y_cells Y_clauses N_marbles N_chipped N_swallowed N_sweets N_day N_owners P_next P_kept P_hasImage P_image P_acts P_entries P_imageEntries S_fewest S_row S_strengths U_size U_found U_places U_kinds U_holds U_fitting U_tally L_letters L_firstCells L_secondCells L_firstBest L_secondBest W_refusals ++ fr)) 0 [(0, .ref (aC B 30)), (1, .int p0), (2, .int p1)] [] (wdC B W_spillsNow W_drawn T_length T_at T_bytes D_cells D_clauses G_length G_code A_size A_chosen A_codes A_lengths A_stack Y_cells Y_clauses N_marbles N_chipped N_swallowed N_sweets N_day N_owners P_next P_kept P_hasImage P_image P_acts P_entries P_imageEntries S_fewest S_row S_strengths U_size U_found U_places U_kinds U_holds U_fitting U_tally L_letters L_firstCells L_secondCells L_firstBest L_secondBest W_refusals ++ fr) (f_Lane_nearerOf Y_cells p0 p1) := by
  unfold f_Lane_nearerOf
  refine h_aload_n hX dX1_nearerOf_0 rfl rfl ?_
  refine h_iload_n hX dX1_nearerOf_1 rfl rfl ?_
  refine h_callVi hX dX1_nearerOf_2 (cv_RX1_110) rc_C30 (As := [.int p0]) (st := []) (fun _ h => c_Lane_isDrain h) rfl rfl (by decide) (Nat.le_of_ble_eq_true rfl) (fun a_1 => ?_)
  refine h_if_ne hX dX1_nearerOf_5 (tgt := 29) (by decide) (fun _ => ?_) (fun _ => ?_)
  · refine h_iconst hX dX1_nearerOf_29 ki_0 ?_
    exact h_ret hX (rv := some (.int 0)) dX1_nearerOf_30 trivial (fun h => h)
  · refine h_aload_n hX dX1_nearerOf_8 rfl rfl ?_
    refine h_iload_n hX dX1_nearerOf_9 rfl rfl ?_
    refine h_callVi hX dX1_nearerOf_10 (cv_RX1_110) rc_C30 (As := [.int p1]) (st := []) (fun _ h => c_Lane_isDrain h) rfl rfl (by decide) (Nat.le_of_ble_eq_true rfl) (fun a_2 => ?_)
    refine h_if_ne hX dX1_nearerOf_13 (tgt := 29) (by decide) (fun _ => ?_) (fun _ => ?_)
    · refine h_iconst hX dX1_nearerOf_29 ki_0 ?_
      exact h_ret hX (rv := some (.int 0)) dX1_nearerOf_30 trivial (fun h => h)
    · refine h_aload_n hX dX1_nearerOf_16 rfl rfl ?_
      refine h_iload_n hX dX1_nearerOf_17 rfl rfl ?_
      refine h_callVi hX dX1_nearerOf_18 (cv_RX1_113) rc_C30 (As := [.int p0]) (st := []) (fun _ h => c_Lane_distance h) rfl rfl (by decide) (Nat.le_of_ble_eq_true rfl) (fun a_3 => ?_)
      refine h_aload_n hX dX1_nearerOf_21 rfl rfl ?_
      refine h_iload_n hX dX1_nearerOf_22 rfl rfl ?_
      refine h_callVi hX dX1_nearerOf_23 (cv_RX1_113) rc_C30 (As := [.int p1]) (st := [.int a_3]) (fun _ h => c_Lane_distance h) rfl rfl (by decide) (Nat.le_of_ble_eq_true rfl) (fun a_4 => ?_)
      refine h_icmp_ne hX dX1_nearerOf_26 (tgt := 31) (by decide) (fun _ => ?_) (fun _ => ?_)
      · refine h_aload_n hX dX1_nearerOf_31 rfl rfl ?_
        refine h_iload_n hX dX1_nearerOf_32 rfl rfl ?_
        refine h_callVi hX dX1_nearerOf_33 (cv_RX1_113) rc_C30 (As := [.int p0]) (st := []) (fun _ h => c_Lane_distance h) rfl rfl (by decide) (Nat.le_of_ble_eq_true rfl) (fun a_5 => ?_)
        refine h_aload_n hX dX1_nearerOf_36 rfl rfl ?_
        refine h_iload_n hX dX1_nearerOf_37 rfl rfl ?_
        refine h_callVi hX dX1_nearerOf_38 (cv_RX1_113) rc_C30 (As := [.int p1]) (st := [.int a_5]) (fun _ h => c_Lane_distance h) rfl rfl (by decide) (Nat.le_of_ble_eq_true rfl) (fun a_6 => ?_)
        refine h_icmp_ge hX dX1_nearerOf_41 (tgt := 48) (by decide) (fun _ => ?_) (fun _ => ?_)
        · refine h_iconst hX dX1_nearerOf_48 ki_2 ?_
          exact h_ret hX (rv := some (.int 2)) dX1_nearerOf_49 trivial (fun h => h)
        · refine h_iconst hX dX1_nearerOf_44 ki_1 ?_
          refine h_goto hX dX1_nearerOf_45 (tgt := 49) (by decide) ?_
          exact h_ret hX (rv := some (.int 1)) dX1_nearerOf_49 trivial (fun h => h)
      · refine h_iconst hX dX1_nearerOf_29 ki_0 ?_
        exact h_ret hX (rv := some (.int 0)) dX1_nearerOf_30 trivial (fun h => h)
theorem c_Lane_nearerOf {p0 : Int32} {p1 : Int32} {r : Int32} (h : f_Lane_nearerOf Y_cells p0 p1 = some r) : gMet B 3 yX1_nearerOf cX1_nearerOf 3 (some .int) [.ref (aC B 30), .int p0, .int p1] (wdC B W_spillsNow W_drawn T_length T_at T_bytes D_cells D_clauses G_length G_code A_size A_chosen A_codes A_lengths A_stack Y_cells Y_clauses N_marbles N_chipped N_swallowed N_sweets N_day N_owners P_next P_kept P_hasImage P_image P_acts P_entries P_imageEntries S_fewest S_row S_strengths U_size U_found U_places U_kinds U_holds U_fitting U_tally L_letters L_firstCells L_secondCells L_firstBest L_secondBest W_refusals ++ fr) (some (.int r)) (wdC B W_spillsNow W_drawn T_length T_at T_bytes D_cells D_clauses G_length G_code A_size A_chosen A_codes A_lengths A_stack Y_cells Y_clauses N_marbles N_chipped N_swallowed N_sweets N_day N_owners P_next P_kept P_hasImage P_image P_acts P_entries P_imageEntries S_fewest S_row S_strengths U_size U_found U_places U_kinds U_holds U_fitting U_tally L_letters L_firstCells L_secondCells L_firstBest L_secondBest W_refusals ++ fr) :=
  gMet.of rfl (Nat.le_of_ble_eq_true rfl) (fun X hX hF => w_Lane_nearerOf hX r h hF)
set_option maxRecDepth 4000 in
theorem w_Now_hand {p0 : Int32} {p1 : Int32} (hX : gOk B X RX4 cX4_hand 3 0 none) : gH B X (fun r : (Nat → Int32) => gFin X (none) (wdC B W_spillsNow W_drawn T_length T_at T_bytes D_cells D_clauses G_length G_code A_size A_chosen A_codes A_lengths A_stack Y_cells Y_clauses N_marbles N_chipped N_swallowed N_sweets N_day r P_next P_kept P_hasImage P_image P_acts P_entries P_imageEntries S_fewest S_row S_strengths U_size U_found U_places U_kinds U_holds U_fitting U_tally L_letters L_firstCells L_secondCells L_firstBest L_secondBest W_refusals ++ fr)) 0 [(0, .ref (aC B 16)), (1, .int p0), (2, .int p1)] [] (wdC B W_spillsNow W_drawn T_length T_at T_bytes D_cells D_clauses G_length G_code A_size A_chosen A_codes A_lengths A_stack Y_cells Y_clauses N_marbles N_chipped N_swallowed N_sweets N_day N_owners P_next P_kept P_hasImage P_image P_acts P_entries P_imageEntries S_fewest S_row S_strengths U_size U_found U_places U_kinds U_holds U_fitting U_tally L_letters L_firstCells L_secondCells L_firstBest L_secondBest W_refusals ++ fr) (f_Now_hand N_marbles N_owners p0 p1) := by
  unfold f_Now_hand
  refine h_iload_n hX dX4_hand_0 rfl rfl ?_
  refine h_if_lt hX dX4_hand_1 (tgt := 19) (by decide) (fun _ => ?_) (fun _ => ?_)
  · exact h_ret hX (rv := none) dX4_hand_19 trivial (fun h => h)
  · refine h_iload_n hX dX4_hand_4 rfl rfl ?_
    refine h_aload_n hX dX4_hand_5 rfl rfl ?_
    refine get_RX4_27_C16 hX dX4_hand_6 ?_
    refine h_icmp_ge hX dX4_hand_9 (tgt := 19) (by decide) (fun _ => ?_) (fun _ => ?_)
    · exact h_ret hX (rv := none) dX4_hand_19 trivial (fun h => h)
    · refine h_aload_n hX dX4_hand_12 rfl rfl ?_
      refine get_RX4_9_C16 hX dX4_hand_13 ?_
      refine h_iload_n hX dX4_hand_16 rfl rfl ?_
      refine h_iload_n hX dX4_hand_17 rfl rfl ?_
      refine ast_C17 hX dX4_hand_18 ?_
      refine gH.letw (w := fun y => wdC B W_spillsNow W_drawn T_length T_at T_bytes D_cells D_clauses G_length G_code A_size A_chosen A_codes A_lengths A_stack Y_cells Y_clauses N_marbles N_chipped N_swallowed N_sweets N_day y P_next P_kept P_hasImage P_image P_acts P_entries P_imageEntries S_fewest S_row S_strengths U_size U_found U_places U_kinds U_holds U_fitting U_tally L_letters L_firstCells L_secondCells L_firstBest L_secondBest W_refusals ++ fr) (fun N_owners_1 => ?_)
      exact h_ret hX (rv := none) dX4_hand_19 trivial (fun h => h)
theorem c_Now_hand {p0 : Int32} {p1 : Int32} {r : (Nat → Int32)} (h : f_Now_hand N_marbles N_owners p0 p1 = some r) : gMet B 0 yX4_hand cX4_hand 3 none [.ref (aC B 16), .int p0, .int p1] (wdC B W_spillsNow W_drawn T_length T_at T_bytes D_cells D_clauses G_length G_code A_size A_chosen A_codes A_lengths A_stack Y_cells Y_clauses N_marbles N_chipped N_swallowed N_sweets N_day N_owners P_next P_kept P_hasImage P_image P_acts P_entries P_imageEntries S_fewest S_row S_strengths U_size U_found U_places U_kinds U_holds U_fitting U_tally L_letters L_firstCells L_secondCells L_firstBest L_secondBest W_refusals ++ fr) (none) (wdC B W_spillsNow W_drawn T_length T_at T_bytes D_cells D_clauses G_length G_code A_size A_chosen A_codes A_lengths A_stack Y_cells Y_clauses N_marbles N_chipped N_swallowed N_sweets N_day r P_next P_kept P_hasImage P_image P_acts P_entries P_imageEntries S_fewest S_row S_strengths U_size U_found U_places U_kinds U_holds U_fitting U_tally L_letters L_firstCells L_secondCells L_firstBest L_secondBest W_refusals ++ fr) :=
  gMet.of rfl (Nat.le_of_ble_eq_true rfl) (fun X hX hF => w_Now_hand hX r h hF)
set_option maxRecDepth 4000 in
theorem w_Lane_carryOut_J87 {v1 : Int32} {v3 : Int32} {v5 : Int32} {v6 : Int32} {v9 : Int32} (hX : gOk B X RX1 cX1_carryOut 10 5 (some .int)) : gH B X (fun r : (Int32 × (Nat → Int32) × (Nat → Int32) × (Nat → Int32)) => gFin X (some (.int r.1)) (wdC B W_spillsNow W_drawn T_length T_at T_bytes D_cells D_clauses G_length G_code A_size A_chosen A_codes A_lengths r.2.1 Y_cells Y_clauses N_marbles N_chipped N_swallowed N_sweets N_day r.2.2.1 P_next P_kept P_hasImage P_image P_acts P_entries P_imageEntries S_fewest S_row S_strengths U_size U_found U_places U_kinds U_holds U_fitting U_tally r.2.2.2 L_firstCells L_secondCells L_firstBest L_secondBest W_refusals ++ fr)) 87 [(0, .ref (aC B 30)), (1, .int v1), (3, .int v3), (5, .int v5), (6, .int v6), (9, .int v9)] [] (wdC B W_spillsNow W_drawn T_length T_at T_bytes D_cells D_clauses G_length G_code A_size A_chosen A_codes A_lengths A_stack Y_cells Y_clauses N_marbles N_chipped N_swallowed N_sweets N_day N_owners P_next P_kept P_hasImage P_image P_acts P_entries P_imageEntries S_fewest S_row S_strengths U_size U_found U_places U_kinds U_holds U_fitting U_tally L_letters L_firstCells L_secondCells L_firstBest L_secondBest W_refusals ++ fr) (f_Lane_carryOut_J87 A_stack N_marbles N_owners L_letters v1 v3 v5 v6 v9) := by
  unfold f_Lane_carryOut_J87
  refine h_iload hX dX1_carryOut_87 rfl ?_
  refine h_iconst hX dX1_carryOut_89 ki_1 ?_
  refine h_icmp_ne hX dX1_carryOut_90 (tgt := 106) (by decide) (fun _ => ?_) (fun _ => ?_)
  · refine h_iload hX dX1_carryOut_106 rfl ?_
    refine h_iconst hX dX1_carryOut_108 ki_2 ?_
    refine h_icmp_ne hX dX1_carryOut_109 (tgt := 122) (by decide) (fun _ => ?_) (fun _ => ?_)
    · refine h_iload hX dX1_carryOut_122 rfl ?_
      exact h_ret hX (rv := some (.int v9)) dX1_carryOut_124 trivial (fun h => h)
    · refine h_aload_n hX dX1_carryOut_112 rfl rfl ?_
      refine get_RX1_34_C30 hX dX1_carryOut_113 ?_
      refine h_iload_n hX dX1_carryOut_116 rfl rfl ?_
      refine h_iload hX dX1_carryOut_117 rfl ?_
      refine h_callVv hX dX1_carryOut_119 (cv_RX1_123) rc_C16 (As := [.int v1, .int v6]) (st := []) (fun _ h => c_Now_hand h) rfl rfl (by decide) (Nat.le_of_ble_eq_true rfl) (fun a_8 => ?_)
      refine h_iload hX dX1_carryOut_122 rfl ?_
      exact h_ret hX (rv := some (.int v9)) dX1_carryOut_124 trivial (fun h => h)
  · refine h_aload_n hX dX1_carryOut_93 rfl rfl ?_
    refine get_RX1_34_C30 hX dX1_carryOut_94 ?_
    refine h_iload_n hX dX1_carryOut_97 rfl rfl ?_
    refine h_iload hX dX1_carryOut_98 rfl ?_
    refine h_callVv hX dX1_carryOut_100 (cv_RX1_123) rc_C16 (As := [.int v3, .int v5]) (st := []) (fun _ h => c_Now_hand h) rfl rfl (by decide) (Nat.le_of_ble_eq_true rfl) (fun a_9 => ?_)
    refine h_goto hX dX1_carryOut_103 (tgt := 122) (by decide) ?_
    refine h_iload hX dX1_carryOut_122 rfl ?_
    exact h_ret hX (rv := some (.int v9)) dX1_carryOut_124 trivial (fun h => h)
set_option maxRecDepth 4000 in
theorem w_Lane_carryOut_J69 {v1 : Int32} {v3 : Int32} {v5 : Int32} {v6 : Int32} {v8 : Int32} {v9 : Int32} (hX : gOk B X RX1 cX1_carryOut 10 5 (some .int)) : gH B X (fun r : (Int32 × (Nat → Int32) × (Nat → Int32) × (Nat → Int32)) => gFin X (some (.int r.1)) (wdC B W_spillsNow W_drawn T_length T_at T_bytes D_cells D_clauses G_length G_code A_size A_chosen A_codes A_lengths r.2.1 Y_cells Y_clauses N_marbles N_chipped N_swallowed N_sweets N_day r.2.2.1 P_next P_kept P_hasImage P_image P_acts P_entries P_imageEntries S_fewest S_row S_strengths U_size U_found U_places U_kinds U_holds U_fitting U_tally r.2.2.2 L_firstCells L_secondCells L_firstBest L_secondBest W_refusals ++ fr)) 69 [(0, .ref (aC B 30)), (1, .int v1), (3, .int v3), (5, .int v5), (6, .int v6), (8, .int v8), (9, .int v9)] [] (wdC B W_spillsNow W_drawn T_length T_at T_bytes D_cells D_clauses G_length G_code A_size A_chosen A_codes A_lengths A_stack Y_cells Y_clauses N_marbles N_chipped N_swallowed N_sweets N_day N_owners P_next P_kept P_hasImage P_image P_acts P_entries P_imageEntries S_fewest S_row S_strengths U_size U_found U_places U_kinds U_holds U_fitting U_tally L_letters L_firstCells L_secondCells L_firstBest L_secondBest W_refusals ++ fr) (f_Lane_carryOut_J69 A_stack Y_cells N_marbles N_owners L_letters v1 v3 v5 v6 v8 v9) := by
  unfold f_Lane_carryOut_J69
  refine h_aload_n hX dX1_carryOut_69 rfl rfl ?_
  refine h_iload hX dX1_carryOut_70 rfl ?_
  refine h_callVi hX dX1_carryOut_72 (cv_RX1_110) rc_C30 (As := [.int v8]) (st := []) (fun _ h => c_Lane_isDrain h) rfl rfl (by decide) (Nat.le_of_ble_eq_true rfl) (fun a_7 => ?_)
  refine h_if_eq hX dX1_carryOut_75 (tgt := 87) (by decide) (fun _ => ?_) (fun _ => ?_)
  · refine gH.dead [0, 1, 2, 3, 4, 6] rfl ?_
    exact w_Lane_carryOut_J87 hX
  · refine h_aload_n hX dX1_carryOut_78 rfl rfl ?_
    refine get_RX1_34_C30 hX dX1_carryOut_79 ?_
    refine h_iload_n hX dX1_carryOut_82 rfl rfl ?_
    refine h_iconst hX dX1_carryOut_83 ki_m1 ?_
    refine h_callVv hX dX1_carryOut_84 (cv_RX1_123) rc_C16 (As := [.int v3, .int ((-1))]) (st := []) (fun _ h => c_Now_hand h) rfl rfl (by decide) (Nat.le_of_ble_eq_true rfl) (fun a_10 => ?_)
    refine gH.dead [0, 1, 2, 3, 4, 6] rfl ?_
    exact w_Lane_carryOut_J87 hX
set_option maxRecDepth 4000 in
theorem w_Lane_carryOut {p0 : Int32} {p1 : Int32} {p2 : Int32} {p3 : Int32} (hX : gOk B X RX1 cX1_carryOut 10 5 (some .int)) : gH B X (fun r : (Int32 × (Nat → Int32) × (Nat → Int32) × (Nat → Int32)) => gFin X (some (.int r.1)) (wdC B W_spillsNow W_drawn T_length T_at T_bytes D_cells D_clauses G_length G_code A_size A_chosen A_codes A_lengths r.2.1 Y_cells Y_clauses N_marbles N_chipped N_swallowed N_sweets N_day r.2.2.1 P_next P_kept P_hasImage P_image P_acts P_entries P_imageEntries S_fewest S_row S_strengths U_size U_found U_places U_kinds U_holds U_fitting U_tally r.2.2.2 L_firstCells L_secondCells L_firstBest L_secondBest W_refusals ++ fr)) 0 [(0, .ref (aC B 30)), (1, .int p0), (2, .int p1), (3, .int p2), (4, .int p3)] [] (wdC B W_spillsNow W_drawn T_length T_at T_bytes D_cells D_clauses G_length G_code A_size A_chosen A_codes A_lengths A_stack Y_cells Y_clauses N_marbles N_chipped N_swallowed N_sweets N_day N_owners P_next P_kept P_hasImage P_image P_acts P_entries P_imageEntries S_fewest S_row S_strengths U_size U_found U_places U_kinds U_holds U_fitting U_tally L_letters L_firstCells L_secondCells L_firstBest L_secondBest W_refusals ++ fr) (f_Lane_carryOut A_size A_chosen A_codes A_lengths A_stack Y_cells N_marbles N_chipped N_day N_owners L_letters p0 p1 p2 p3) := by
  unfold f_Lane_carryOut
  refine h_aload_n hX dX1_carryOut_0 rfl rfl ?_
  refine get_RX1_34_C30 hX dX1_carryOut_1 ?_
  refine h_iload_n hX dX1_carryOut_4 rfl rfl ?_
  refine h_callVi hX dX1_carryOut_5 (cv_RX1_56) rc_C16 (As := [.int p0]) (st := []) (fun _ h => c_Now_ownerOf h) rfl rfl (by decide) (Nat.le_of_ble_eq_true rfl) (fun a_1 => ?_)
  refine h_istore hX dX1_carryOut_8 (by decide) (lv' := [(0, .ref (aC B 30)), (1, .int p0), (2, .int p1), (3, .int p2), (4, .int p3), (5, .int a_1)]) rfl ?_
  refine h_aload_n hX dX1_carryOut_10 rfl rfl ?_
  refine get_RX1_34_C30 hX dX1_carryOut_11 ?_
  refine h_iload_n hX dX1_carryOut_14 rfl rfl ?_
  refine h_callVi hX dX1_carryOut_15 (cv_RX1_56) rc_C16 (As := [.int p2]) (st := []) (fun _ h => c_Now_ownerOf h) rfl rfl (by decide) (Nat.le_of_ble_eq_true rfl) (fun a_2 => ?_)
  refine h_istore hX dX1_carryOut_18 (by decide) (lv' := [(0, .ref (aC B 30)), (1, .int p0), (2, .int p1), (3, .int p2), (4, .int p3), (5, .int a_1), (6, .int a_2)]) rfl ?_
  refine h_aload_n hX dX1_carryOut_20 rfl rfl ?_
  refine h_iload hX dX1_carryOut_21 rfl ?_
  refine h_iload_n hX dX1_carryOut_23 rfl rfl ?_
  refine h_iload_n hX dX1_carryOut_24 rfl rfl ?_
  refine h_callVi hX dX1_carryOut_25 (cv_RX1_116) rc_C30 (As := [.int a_1, .int p0, .int p1]) (st := []) (fun _ h => c_Lane_flick h) rfl rfl (by decide) (Nat.le_of_ble_eq_true rfl) (fun a_3 => ?_)
  refine h_istore hX dX1_carryOut_28 (by decide) (lv' := [(0, .ref (aC B 30)), (1, .int p0), (2, .int p1), (3, .int p2), (4, .int p3), (5, .int a_1), (6, .int a_2), (7, .int a_3.1)]) rfl ?_
  refine h_aload_n hX dX1_carryOut_30 rfl rfl ?_
  refine h_iload hX dX1_carryOut_31 rfl ?_
  refine h_iload_n hX dX1_carryOut_33 rfl rfl ?_
  refine h_iload hX dX1_carryOut_34 rfl ?_
  refine h_callVi hX dX1_carryOut_36 (cv_RX1_116) rc_C30 (As := [.int a_2, .int p2, .int p3]) (st := []) (fun _ h => c_Lane_flick h) rfl rfl (by decide) (Nat.le_of_ble_eq_true rfl) (fun a_4 => ?_)
  refine h_istore hX dX1_carryOut_39 (by decide) (lv' := [(0, .ref (aC B 30)), (1, .int p0), (2, .int p1), (3, .int p2), (4, .int p3), (5, .int a_1), (6, .int a_2), (7, .int a_3.1), (8, .int a_4.1)]) rfl ?_
  refine h_aload_n hX dX1_carryOut_41 rfl rfl ?_
  refine h_iload hX dX1_carryOut_42 rfl ?_
  refine h_iload hX dX1_carryOut_44 rfl ?_
  refine h_callVi hX dX1_carryOut_46 (cv_RX1_120) rc_C30 (As := [.int a_3.1, .int a_4.1]) (st := []) (fun _ h => c_Lane_nearerOf h) rfl rfl (by decide) (Nat.le_of_ble_eq_true rfl) (fun a_5 => ?_)
  refine h_istore hX dX1_carryOut_49 (by decide) (lv' := [(0, .ref (aC B 30)), (1, .int p0), (2, .int p1), (3, .int p2), (4, .int p3), (5, .int a_1), (6, .int a_2), (7, .int a_3.1), (8, .int a_4.1), (9, .int a_5)]) rfl ?_
  refine h_aload_n hX dX1_carryOut_51 rfl rfl ?_
  refine h_iload hX dX1_carryOut_52 rfl ?_
  refine h_callVi hX dX1_carryOut_54 (cv_RX1_110) rc_C30 (As := [.int a_3.1]) (st := []) (fun _ h => c_Lane_isDrain h) rfl rfl (by decide) (Nat.le_of_ble_eq_true rfl) (fun a_6 => ?_)
  refine h_if_eq hX dX1_carryOut_57 (tgt := 69) (by decide) (fun _ => ?_) (fun _ => ?_)
  · refine gH.dead [0, 1, 3, 5, 6, 8, 9] rfl ?_
    exact w_Lane_carryOut_J69 hX
  · refine h_aload_n hX dX1_carryOut_60 rfl rfl ?_
    refine get_RX1_34_C30 hX dX1_carryOut_61 ?_
    refine h_iload_n hX dX1_carryOut_64 rfl rfl ?_
    refine h_iconst hX dX1_carryOut_65 ki_m1 ?_
    refine h_callVv hX dX1_carryOut_66 (cv_RX1_123) rc_C16 (As := [.int p0, .int ((-1))]) (st := []) (fun _ h => c_Now_hand h) rfl rfl (by decide) (Nat.le_of_ble_eq_true rfl) (fun a_11 => ?_)
    refine gH.dead [0, 1, 3, 5, 6, 8, 9] rfl ?_
    exact w_Lane_carryOut_J69 hX
theorem c_Lane_carryOut {p0 : Int32} {p1 : Int32} {p2 : Int32} {p3 : Int32} {r : (Int32 × (Nat → Int32) × (Nat → Int32) × (Nat → Int32))} (h : f_Lane_carryOut A_size A_chosen A_codes A_lengths A_stack Y_cells N_marbles N_chipped N_day N_owners L_letters p0 p1 p2 p3 = some r) : gMet B 5 yX1_carryOut cX1_carryOut 10 (some .int) [.ref (aC B 30), .int p0, .int p1, .int p2, .int p3] (wdC B W_spillsNow W_drawn T_length T_at T_bytes D_cells D_clauses G_length G_code A_size A_chosen A_codes A_lengths A_stack Y_cells Y_clauses N_marbles N_chipped N_swallowed N_sweets N_day N_owners P_next P_kept P_hasImage P_image P_acts P_entries P_imageEntries S_fewest S_row S_strengths U_size U_found U_places U_kinds U_holds U_fitting U_tally L_letters L_firstCells L_secondCells L_firstBest L_secondBest W_refusals ++ fr) (some (.int r.1)) (wdC B W_spillsNow W_drawn T_length T_at T_bytes D_cells D_clauses G_length G_code A_size A_chosen A_codes A_lengths r.2.1 Y_cells Y_clauses N_marbles N_chipped N_swallowed N_sweets N_day r.2.2.1 P_next P_kept P_hasImage P_image P_acts P_entries P_imageEntries S_fewest S_row S_strengths U_size U_found U_places U_kinds U_holds U_fitting U_tally r.2.2.2 L_firstCells L_secondCells L_firstBest L_secondBest W_refusals ++ fr) :=
  gMet.of rfl (Nat.le_of_ble_eq_true rfl) (fun X hX hF => w_Lane_carryOut hX r h hF)
