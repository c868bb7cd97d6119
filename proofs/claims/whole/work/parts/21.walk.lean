variable {B : gB} {X : gX} {fr : va_W} {W_spillsNow : Int32} {W_drawn : Int64} {T_length : Int32} {T_at : Int32} {T_bytes : Nat → Int32} {D_cells : Nat → Int32} {D_clauses : Nat → Int32} {G_length : Int32} {G_code : Nat → Int32} {A_size : Int32} {A_chosen : Int32} {A_codes : Nat → Int32} {A_lengths : Nat → Int32} {A_stack : Nat → Int32} {Y_cells : Nat → Int32} {Y_clauses : Nat → Int32} {N_marbles : Int32} {N_chipped : Int32} {N_swallowed : Int32} {N_sweets : Int32} {N_day : Int32} {N_owners : Nat → Int32} {P_next : Int32} {P_kept : Int32} {P_hasImage : Int32} {P_image : Int64} {P_acts : Nat → Int64} {P_entries : Nat → Int32} {P_imageEntries : Nat → Int32} {S_fewest : Int32} {S_row : Int32} {S_strengths : Nat → Int32} {U_size : Int32} {U_found : Int32} {U_places : Nat → Int32} {U_kinds : Nat → Int32} {U_holds : Nat → Int32} {U_fitting : Nat → Int32} {U_tally : Nat → Int32} {L_letters : Nat → Int32} {L_firstCells : Nat → Int32} {L_secondCells : Nat → Int32} {L_firstBest : Nat → Int32} {L_secondBest : Nat → Int32} {W_refusals : Nat → Int32}
set_option maxRecDepth 4000 in
theorem w_Tape_append_J49 {v1 : Int32} {v2 : Int32} (hX : gOk B X RX7 cX7_append 4 0 none) : gH B X (Sum.elim (fun s : (Int32 × Int32 × (Nat → Int32)) => gG B X 3 [(0, .ref (aC B 1)), (1, .int v1), (2, .int s.1)] [] (wdC B W_spillsNow W_drawn s.2.1 T_at s.2.2 D_cells D_clauses G_length G_code A_size A_chosen A_codes A_lengths A_stack Y_cells Y_clauses N_marbles N_chipped N_swallowed N_sweets N_day N_owners P_next P_kept P_hasImage P_image P_acts P_entries P_imageEntries S_fewest S_row S_strengths U_size U_found U_places U_kinds U_holds U_fitting U_tally L_letters L_firstCells L_secondCells L_firstBest L_secondBest W_refusals ++ fr)) (fun r : (Int32 × (Nat → Int32)) => gFin X (none) (wdC B W_spillsNow W_drawn r.1 T_at r.2 D_cells D_clauses G_length G_code A_size A_chosen A_codes A_lengths A_stack Y_cells Y_clauses N_marbles N_chipped N_swallowed N_sweets N_day N_owners P_next P_kept P_hasImage P_image P_acts P_entries P_imageEntries S_fewest S_row S_strengths U_size U_found U_places U_kinds U_holds U_fitting U_tally L_letters L_firstCells L_secondCells L_firstBest L_secondBest W_refusals ++ fr))) 49 [(0, .ref (aC B 1)), (1, .int v1), (2, .int v2)] [] (wdC B W_spillsNow W_drawn T_length T_at T_bytes D_cells D_clauses G_length G_code A_size A_chosen A_codes A_lengths A_stack Y_cells Y_clauses N_marbles N_chipped N_swallowed N_sweets N_day N_owners P_next P_kept P_hasImage P_image P_acts P_entries P_imageEntries S_fewest S_row S_strengths U_size U_found U_places U_kinds U_holds U_fitting U_tally L_letters L_firstCells L_secondCells L_firstBest L_secondBest W_refusals ++ fr) (f_Tape_append_J49 T_length T_bytes v2) := by
  unfold f_Tape_append_J49
  refine h_iincc hX dX7_append_49 rfl ki_m8 (by decide) (lv' := [(0, .ref (aC B 1)), (1, .int v1), (2, .int (v2 + (-8)))]) rfl ?_
  refine h_goto hX dX7_append_52 (tgt := 3) (by decide) ?_
  exact gH.some' (fun h => h)
set_option maxRecDepth 4000 in
theorem w_Tape_append_L3 {v1 : Int32} (hX : gOk B X RX7 cX7_append 4 0 none) (s : (Int32 × Int32 × (Nat → Int32))) : gH B X (Sum.elim (fun s : (Int32 × Int32 × (Nat → Int32)) => gG B X 3 [(0, .ref (aC B 1)), (1, .int v1), (2, .int s.1)] [] (wdC B W_spillsNow W_drawn s.2.1 T_at s.2.2 D_cells D_clauses G_length G_code A_size A_chosen A_codes A_lengths A_stack Y_cells Y_clauses N_marbles N_chipped N_swallowed N_sweets N_day N_owners P_next P_kept P_hasImage P_image P_acts P_entries P_imageEntries S_fewest S_row S_strengths U_size U_found U_places U_kinds U_holds U_fitting U_tally L_letters L_firstCells L_secondCells L_firstBest L_secondBest W_refusals ++ fr)) (fun r : (Int32 × (Nat → Int32)) => gFin X (none) (wdC B W_spillsNow W_drawn r.1 T_at r.2 D_cells D_clauses G_length G_code A_size A_chosen A_codes A_lengths A_stack Y_cells Y_clauses N_marbles N_chipped N_swallowed N_sweets N_day N_owners P_next P_kept P_hasImage P_image P_acts P_entries P_imageEntries S_fewest S_row S_strengths U_size U_found U_places U_kinds U_holds U_fitting U_tally L_letters L_firstCells L_secondCells L_firstBest L_secondBest W_refusals ++ fr))) 3 [(0, .ref (aC B 1)), (1, .int v1), (2, .int s.1)] [] (wdC B W_spillsNow W_drawn s.2.1 T_at s.2.2 D_cells D_clauses G_length G_code A_size A_chosen A_codes A_lengths A_stack Y_cells Y_clauses N_marbles N_chipped N_swallowed N_sweets N_day N_owners P_next P_kept P_hasImage P_image P_acts P_entries P_imageEntries S_fewest S_row S_strengths U_size U_found U_places U_kinds U_holds U_fitting U_tally L_letters L_firstCells L_secondCells L_firstBest L_secondBest W_refusals ++ fr) (f_Tape_append_L3 v1 s) := by
  unfold f_Tape_append_L3
  refine h_iload_n hX dX7_append_3 rfl rfl ?_
  refine h_if_lt hX dX7_append_4 (tgt := 55) (by decide) (fun _ => ?_) (fun _ => ?_)
  · exact h_ret hX (rv := none) dX7_append_55 trivial (fun h => h)
  · refine h_iload_n hX dX7_append_7 rfl rfl ?_
    refine h_iload_n hX dX7_append_8 rfl rfl ?_
    refine h_iushr hX dX7_append_9 ?_
    refine h_sipush hX dX7_append_10 ks_255 ?_
    refine h_iand hX dX7_append_13 ?_
    refine gH.leti (fun v3_1 => ?_)
    refine h_istore_n hX dX7_append_14 rfl (by decide) (lv' := [(0, .ref (aC B 1)), (1, .int v1), (2, .int s.1), (3, .int v3_1)]) rfl ?_
    refine h_iload_n hX dX7_append_15 rfl rfl ?_
    refine h_if_eq hX dX7_append_16 (tgt := 49) (by decide) (fun _ => ?_) (fun _ => ?_)
    · refine gH.dead [0, 1, 2] rfl ?_
      exact w_Tape_append_J49 hX
    · refine h_aload_n hX dX7_append_19 rfl rfl ?_
      refine get_RX7_15_C1 hX dX7_append_20 ?_
      refine h_sipush hX dX7_append_23 ks_240 ?_
      refine h_icmp_ge hX dX7_append_26 (tgt := 49) (by decide) (fun _ => ?_) (fun _ => ?_)
      · refine gH.dead [0, 1, 2] rfl ?_
        exact w_Tape_append_J49 hX
      · refine h_aload_n hX dX7_append_29 rfl rfl ?_
        refine get_RX7_9_C1 hX dX7_append_30 ?_
        refine h_aload_n hX dX7_append_33 rfl rfl ?_
        refine get_RX7_15_C1 hX dX7_append_34 ?_
        refine h_iload_n hX dX7_append_37 rfl rfl ?_
        refine ast_C2 hX dX7_append_38 ?_
        refine gH.letw (w := fun y => wdC B W_spillsNow W_drawn s.2.1 T_at y D_cells D_clauses G_length G_code A_size A_chosen A_codes A_lengths A_stack Y_cells Y_clauses N_marbles N_chipped N_swallowed N_sweets N_day N_owners P_next P_kept P_hasImage P_image P_acts P_entries P_imageEntries S_fewest S_row S_strengths U_size U_found U_places U_kinds U_holds U_fitting U_tally L_letters L_firstCells L_secondCells L_firstBest L_secondBest W_refusals ++ fr) (fun T_bytes_3 => ?_)
        refine h_aload_n hX dX7_append_39 rfl rfl ?_
        refine h_dup hX dX7_append_40 rfl ?_
        refine get_RX7_15_C1 hX dX7_append_41 ?_
        refine h_iconst hX dX7_append_44 ki_1 ?_
        refine h_iadd hX dX7_append_45 ?_
        refine put_RX7_15_C1 hX dX7_append_46 ?_
        refine gH.letw (w := fun y => wdC B W_spillsNow W_drawn y T_at T_bytes_3 D_cells D_clauses G_length G_code A_size A_chosen A_codes A_lengths A_stack Y_cells Y_clauses N_marbles N_chipped N_swallowed N_sweets N_day N_owners P_next P_kept P_hasImage P_image P_acts P_entries P_imageEntries S_fewest S_row S_strengths U_size U_found U_places U_kinds U_holds U_fitting U_tally L_letters L_firstCells L_secondCells L_firstBest L_secondBest W_refusals ++ fr) (fun T_length_4 => ?_)
        refine gH.dead [0, 1, 2] rfl ?_
        exact w_Tape_append_J49 hX
set_option maxRecDepth 4000 in
theorem w_Tape_append {p0 : Int32} (hX : gOk B X RX7 cX7_append 4 0 none) : gH B X (fun r : (Int32 × (Nat → Int32)) => gFin X (none) (wdC B W_spillsNow W_drawn r.1 T_at r.2 D_cells D_clauses G_length G_code A_size A_chosen A_codes A_lengths A_stack Y_cells Y_clauses N_marbles N_chipped N_swallowed N_sweets N_day N_owners P_next P_kept P_hasImage P_image P_acts P_entries P_imageEntries S_fewest S_row S_strengths U_size U_found U_places U_kinds U_holds U_fitting U_tally L_letters L_firstCells L_secondCells L_firstBest L_secondBest W_refusals ++ fr)) 0 [(0, .ref (aC B 1)), (1, .int p0)] [] (wdC B W_spillsNow W_drawn T_length T_at T_bytes D_cells D_clauses G_length G_code A_size A_chosen A_codes A_lengths A_stack Y_cells Y_clauses N_marbles N_chipped N_swallowed N_sweets N_day N_owners P_next P_kept P_hasImage P_image P_acts P_entries P_imageEntries S_fewest S_row S_strengths U_size U_found U_places U_kinds U_holds U_fitting U_tally L_letters L_firstCells L_secondCells L_firstBest L_secondBest W_refusals ++ fr) (f_Tape_append T_length T_bytes p0) := by
  unfold f_Tape_append
  refine h_bipush hX dX7_append_0 kb_24 ?_
  refine h_istore_n hX dX7_append_2 rfl (by decide) (lv' := [(0, .ref (aC B 1)), (1, .int p0), (2, .int 24)]) rfl ?_
  exact gH.loop (lvf := fun s : (Int32 × Int32 × (Nat → Int32)) => [(0, .ref (aC B 1)), (1, .int p0), (2, .int s.1)]) (wf := fun s : (Int32 × Int32 × (Nat → Int32)) => wdC B W_spillsNow W_drawn s.2.1 T_at s.2.2 D_cells D_clauses G_length G_code A_size A_chosen A_codes A_lengths A_stack Y_cells Y_clauses N_marbles N_chipped N_swallowed N_sweets N_day N_owners P_next P_kept P_hasImage P_image P_acts P_entries P_imageEntries S_fewest S_row S_strengths U_size U_found U_places U_kinds U_holds U_fitting U_tally L_letters L_firstCells L_secondCells L_firstBest L_secondBest W_refusals ++ fr) (fun s => w_Tape_append_L3 hX s) (24, T_length, T_bytes)
theorem c_Tape_append {p0 : Int32} {r : (Int32 × (Nat → Int32))} (h : f_Tape_append T_length T_bytes p0 = some r) : gMet B 0 yX7_append cX7_append 4 none [.ref (aC B 1), .int p0] (wdC B W_spillsNow W_drawn T_length T_at T_bytes D_cells D_clauses G_length G_code A_size A_chosen A_codes A_lengths A_stack Y_cells Y_clauses N_marbles N_chipped N_swallowed N_sweets N_day N_owners P_next P_kept P_hasImage P_image P_acts P_entries P_imageEntries S_fewest S_row S_strengths U_size U_found U_places U_kinds U_holds U_fitting U_tally L_letters L_firstCells L_secondCells L_firstBest L_secondBest W_refusals ++ fr) (none) (wdC B W_spillsNow W_drawn r.1 T_at r.2 D_cells D_clauses G_length G_code A_size A_chosen A_codes A_lengths A_stack Y_cells Y_clauses N_marbles N_chipped N_swallowed N_sweets N_day N_owners P_next P_kept P_hasImage P_image P_acts P_entries P_imageEntries S_fewest S_row S_strengths U_size U_found U_places U_kinds U_holds U_fitting U_tally L_letters L_firstCells L_secondCells L_firstBest L_secondBest W_refusals ++ fr) :=
  gMet.of rfl (Nat.le_of_ble_eq_true rfl) (fun X hX hF => w_Tape_append hX r h hF)
set_option maxRecDepth 4000 in
theorem w_Tape_cutTo {p0 : Int32} (hX : gOk B X RX7 cX7_cutTo 2 0 none) : gH B X (fun r : Int32 => gFin X (none) (wdC B W_spillsNow W_drawn r T_at T_bytes D_cells D_clauses G_length G_code A_size A_chosen A_codes A_lengths A_stack Y_cells Y_clauses N_marbles N_chipped N_swallowed N_sweets N_day N_owners P_next P_kept P_hasImage P_image P_acts P_entries P_imageEntries S_fewest S_row S_strengths U_size U_found U_places U_kinds U_holds U_fitting U_tally L_letters L_firstCells L_secondCells L_firstBest L_secondBest W_refusals ++ fr)) 0 [(0, .ref (aC B 1)), (1, .int p0)] [] (wdC B W_spillsNow W_drawn T_length T_at T_bytes D_cells D_clauses G_length G_code A_size A_chosen A_codes A_lengths A_stack Y_cells Y_clauses N_marbles N_chipped N_swallowed N_sweets N_day N_owners P_next P_kept P_hasImage P_image P_acts P_entries P_imageEntries S_fewest S_row S_strengths U_size U_found U_places U_kinds U_holds U_fitting U_tally L_letters L_firstCells L_secondCells L_firstBest L_secondBest W_refusals ++ fr) (f_Tape_cutTo T_length p0) := by
  unfold f_Tape_cutTo
  refine h_aload_n hX dX7_cutTo_0 rfl rfl ?_
  refine h_iload_n hX dX7_cutTo_1 rfl rfl ?_
  refine put_RX7_15_C1 hX dX7_cutTo_2 ?_
  exact h_ret hX (rv := none) dX7_cutTo_5 trivial (fun h => h)
theorem c_Tape_cutTo {p0 : Int32} {r : Int32} (h : f_Tape_cutTo T_length p0 = some r) : gMet B 0 yX7_cutTo cX7_cutTo 2 none [.ref (aC B 1), .int p0] (wdC B W_spillsNow W_drawn T_length T_at T_bytes D_cells D_clauses G_length G_code A_size A_chosen A_codes A_lengths A_stack Y_cells Y_clauses N_marbles N_chipped N_swallowed N_sweets N_day N_owners P_next P_kept P_hasImage P_image P_acts P_entries P_imageEntries S_fewest S_row S_strengths U_size U_found U_places U_kinds U_holds U_fitting U_tally L_letters L_firstCells L_secondCells L_firstBest L_secondBest W_refusals ++ fr) (none) (wdC B W_spillsNow W_drawn r T_at T_bytes D_cells D_clauses G_length G_code A_size A_chosen A_codes A_lengths A_stack Y_cells Y_clauses N_marbles N_chipped N_swallowed N_sweets N_day N_owners P_next P_kept P_hasImage P_image P_acts P_entries P_imageEntries S_fewest S_row S_strengths U_size U_found U_places U_kinds U_holds U_fitting U_tally L_letters L_firstCells L_secondCells L_firstBest L_secondBest W_refusals ++ fr) :=
  gMet.of rfl (Nat.le_of_ble_eq_true rfl) (fun X hX hF => w_Tape_cutTo hX r h hF)
set_option maxRecDepth 4000 in
theorem w_Tape_isAtDigit (hX : gOk B X RX7 cX7_isAtDigit 1 0 (some .boolean)) : gH B X (fun r : Int32 => gFin X (some (.int r)) (wdC B W_spillsNow W_drawn T_length T_at T_bytes D_cells D_clauses G_length G_code A_size A_chosen A_codes A_lengths A_stack Y_cells Y_clauses N_marbles N_chipped N_swallowed N_sweets N_day N_owners P_next P_kept P_hasImage P_image P_acts P_entries P_imageEntries S_fewest S_row S_strengths U_size U_found U_places U_kinds U_holds U_fitting U_tally L_letters L_firstCells L_secondCells L_firstBest L_secondBest W_refusals ++ fr)) 0 [(0, .ref (aC B 1))] [] (wdC B W_spillsNow W_drawn T_length T_at T_bytes D_cells D_clauses G_length G_code A_size A_chosen A_codes A_lengths A_stack Y_cells Y_clauses N_marbles N_chipped N_swallowed N_sweets N_day N_owners P_next P_kept P_hasImage P_image P_acts P_entries P_imageEntries S_fewest S_row S_strengths U_size U_found U_places U_kinds U_holds U_fitting U_tally L_letters L_firstCells L_secondCells L_firstBest L_secondBest W_refusals ++ fr) (f_Tape_isAtDigit T_length T_at T_bytes) := by
  unfold f_Tape_isAtDigit
  refine h_aload_n hX dX7_isAtDigit_0 rfl rfl ?_
  refine get_RX7_19_C1 hX dX7_isAtDigit_1 ?_
  refine h_aload_n hX dX7_isAtDigit_4 rfl rfl ?_
  refine get_RX7_15_C1 hX dX7_isAtDigit_5 ?_
  refine h_icmp_ge hX dX7_isAtDigit_8 (tgt := 43) (by decide) (fun _ => ?_) (fun _ => ?_)
  · refine h_iconst hX dX7_isAtDigit_43 ki_0 ?_
    exact h_ret hX (rv := some (.int 0)) dX7_isAtDigit_44 rfl (fun h => h)
  · refine h_aload_n hX dX7_isAtDigit_11 rfl rfl ?_
    refine get_RX7_9_C1 hX dX7_isAtDigit_12 ?_
    refine h_aload_n hX dX7_isAtDigit_15 rfl rfl ?_
    refine get_RX7_19_C1 hX dX7_isAtDigit_16 ?_
    refine ald_C2 hX dX7_isAtDigit_19 ?_
    refine h_bipush hX dX7_isAtDigit_20 kb_48 ?_
    refine h_icmp_lt hX dX7_isAtDigit_22 (tgt := 43) (by decide) (fun _ => ?_) (fun _ => ?_)
    · refine h_iconst hX dX7_isAtDigit_43 ki_0 ?_
      exact h_ret hX (rv := some (.int 0)) dX7_isAtDigit_44 rfl (fun h => h)
    · refine h_aload_n hX dX7_isAtDigit_25 rfl rfl ?_
      refine get_RX7_9_C1 hX dX7_isAtDigit_26 ?_
      refine h_aload_n hX dX7_isAtDigit_29 rfl rfl ?_
      refine get_RX7_19_C1 hX dX7_isAtDigit_30 ?_
      refine ald_C2 hX dX7_isAtDigit_33 ?_
      refine h_bipush hX dX7_isAtDigit_34 kb_57 ?_
      refine h_icmp_gt hX dX7_isAtDigit_36 (tgt := 43) (by decide) (fun _ => ?_) (fun _ => ?_)
      · refine h_iconst hX dX7_isAtDigit_43 ki_0 ?_
        exact h_ret hX (rv := some (.int 0)) dX7_isAtDigit_44 rfl (fun h => h)
      · refine h_iconst hX dX7_isAtDigit_39 ki_1 ?_
        refine h_goto hX dX7_isAtDigit_40 (tgt := 44) (by decide) ?_
        exact h_ret hX (rv := some (.int 1)) dX7_isAtDigit_44 rfl (fun h => h)
theorem c_Tape_isAtDigit {r : Int32} (h : f_Tape_isAtDigit T_length T_at T_bytes = some r) : gMet B 0 yX7_isAtDigit cX7_isAtDigit 1 (some .boolean) [.ref (aC B 1)] (wdC B W_spillsNow W_drawn T_length T_at T_bytes D_cells D_clauses G_length G_code A_size A_chosen A_codes A_lengths A_stack Y_cells Y_clauses N_marbles N_chipped N_swallowed N_sweets N_day N_owners P_next P_kept P_hasImage P_image P_acts P_entries P_imageEntries S_fewest S_row S_strengths U_size U_found U_places U_kinds U_holds U_fitting U_tally L_letters L_firstCells L_secondCells L_firstBest L_secondBest W_refusals ++ fr) (some (.int r)) (wdC B W_spillsNow W_drawn T_length T_at T_bytes D_cells D_clauses G_length G_code A_size A_chosen A_codes A_lengths A_stack Y_cells Y_clauses N_marbles N_chipped N_swallowed N_sweets N_day N_owners P_next P_kept P_hasImage P_image P_acts P_entries P_imageEntries S_fewest S_row S_strengths U_size U_found U_places U_kinds U_holds U_fitting U_tally L_letters L_firstCells L_secondCells L_firstBest L_secondBest W_refusals ++ fr) :=
  gMet.of rfl (Nat.le_of_ble_eq_true rfl) (fun X hX hF => w_Tape_isAtDigit hX r h hF)
set_option maxRecDepth 4000 in
theorem w_Tape_sign_J38 (hX : gOk B X RX7 cX7_sign 1 0 (some .int)) : gH B X (fun r : (Int32 × Int32) => gFin X (some (.int r.1)) (wdC B W_spillsNow W_drawn T_length r.2 T_bytes D_cells D_clauses G_length G_code A_size A_chosen A_codes A_lengths A_stack Y_cells Y_clauses N_marbles N_chipped N_swallowed N_sweets N_day N_owners P_next P_kept P_hasImage P_image P_acts P_entries P_imageEntries S_fewest S_row S_strengths U_size U_found U_places U_kinds U_holds U_fitting U_tally L_letters L_firstCells L_secondCells L_firstBest L_secondBest W_refusals ++ fr)) 38 [(0, .ref (aC B 1))] [] (wdC B W_spillsNow W_drawn T_length T_at T_bytes D_cells D_clauses G_length G_code A_size A_chosen A_codes A_lengths A_stack Y_cells Y_clauses N_marbles N_chipped N_swallowed N_sweets N_day N_owners P_next P_kept P_hasImage P_image P_acts P_entries P_imageEntries S_fewest S_row S_strengths U_size U_found U_places U_kinds U_holds U_fitting U_tally L_letters L_firstCells L_secondCells L_firstBest L_secondBest W_refusals ++ fr) (f_Tape_sign_J38 T_length T_at T_bytes) := by
  unfold f_Tape_sign_J38
  refine h_aload_n hX dX7_sign_38 rfl rfl ?_
  refine get_RX7_19_C1 hX dX7_sign_39 ?_
  refine h_aload_n hX dX7_sign_42 rfl rfl ?_
  refine get_RX7_15_C1 hX dX7_sign_43 ?_
  refine h_icmp_ge hX dX7_sign_46 (tgt := 61) (by decide) (fun _ => ?_) (fun _ => ?_)
  · refine h_iconst hX dX7_sign_61 ki_m1 ?_
    exact h_ret hX (rv := some (.int ((-1)))) dX7_sign_62 trivial (fun h => h)
  · refine h_aload_n hX dX7_sign_49 rfl rfl ?_
    refine get_RX7_9_C1 hX dX7_sign_50 ?_
    refine h_aload_n hX dX7_sign_53 rfl rfl ?_
    refine get_RX7_19_C1 hX dX7_sign_54 ?_
    refine ald_C2 hX dX7_sign_57 ?_
    refine h_goto hX dX7_sign_58 (tgt := 62) (by decide) ?_
    exact h_ret hX (rv := some (.int (T_bytes T_at.toNatClampNeg))) dX7_sign_62 trivial (fun h => h)
set_option maxRecDepth 4000 in
theorem w_Tape_sign_L0 (hX : gOk B X RX7 cX7_sign 1 0 (some .int)) (s : Int32) : gH B X (Sum.elim (fun s : Int32 => gG B X 0 [(0, .ref (aC B 1))] [] (wdC B W_spillsNow W_drawn T_length s T_bytes D_cells D_clauses G_length G_code A_size A_chosen A_codes A_lengths A_stack Y_cells Y_clauses N_marbles N_chipped N_swallowed N_sweets N_day N_owners P_next P_kept P_hasImage P_image P_acts P_entries P_imageEntries S_fewest S_row S_strengths U_size U_found U_places U_kinds U_holds U_fitting U_tally L_letters L_firstCells L_secondCells L_firstBest L_secondBest W_refusals ++ fr)) (fun r : (Int32 × Int32) => gFin X (some (.int r.1)) (wdC B W_spillsNow W_drawn T_length r.2 T_bytes D_cells D_clauses G_length G_code A_size A_chosen A_codes A_lengths A_stack Y_cells Y_clauses N_marbles N_chipped N_swallowed N_sweets N_day N_owners P_next P_kept P_hasImage P_image P_acts P_entries P_imageEntries S_fewest S_row S_strengths U_size U_found U_places U_kinds U_holds U_fitting U_tally L_letters L_firstCells L_secondCells L_firstBest L_secondBest W_refusals ++ fr))) 0 [(0, .ref (aC B 1))] [] (wdC B W_spillsNow W_drawn T_length s T_bytes D_cells D_clauses G_length G_code A_size A_chosen A_codes A_lengths A_stack Y_cells Y_clauses N_marbles N_chipped N_swallowed N_sweets N_day N_owners P_next P_kept P_hasImage P_image P_acts P_entries P_imageEntries S_fewest S_row S_strengths U_size U_found U_places U_kinds U_holds U_fitting U_tally L_letters L_firstCells L_secondCells L_firstBest L_secondBest W_refusals ++ fr) (f_Tape_sign_L0 T_length T_bytes s) := by
  unfold f_Tape_sign_L0
  refine h_aload_n hX dX7_sign_0 rfl rfl ?_
  refine get_RX7_19_C1 hX dX7_sign_1 ?_
  refine h_aload_n hX dX7_sign_4 rfl rfl ?_
  refine get_RX7_15_C1 hX dX7_sign_5 ?_
  refine h_icmp_ge hX dX7_sign_8 (tgt := 38) (by decide) (fun _ => ?_) (fun _ => ?_)
  · refine gH.inr ?_
    exact w_Tape_sign_J38 hX
  · refine h_aload_n hX dX7_sign_11 rfl rfl ?_
    refine get_RX7_9_C1 hX dX7_sign_12 ?_
    refine h_aload_n hX dX7_sign_15 rfl rfl ?_
    refine get_RX7_19_C1 hX dX7_sign_16 ?_
    refine ald_C2 hX dX7_sign_19 ?_
    refine h_bipush hX dX7_sign_20 kb_32 ?_
    refine h_icmp_ne hX dX7_sign_22 (tgt := 38) (by decide) (fun _ => ?_) (fun _ => ?_)
    · refine gH.inr ?_
      exact w_Tape_sign_J38 hX
    · refine h_aload_n hX dX7_sign_25 rfl rfl ?_
      refine h_dup hX dX7_sign_26 rfl ?_
      refine get_RX7_19_C1 hX dX7_sign_27 ?_
      refine h_iconst hX dX7_sign_30 ki_1 ?_
      refine h_iadd hX dX7_sign_31 ?_
      refine put_RX7_19_C1 hX dX7_sign_32 ?_
      refine gH.letw (w := fun y => wdC B W_spillsNow W_drawn T_length y T_bytes D_cells D_clauses G_length G_code A_size A_chosen A_codes A_lengths A_stack Y_cells Y_clauses N_marbles N_chipped N_swallowed N_sweets N_day N_owners P_next P_kept P_hasImage P_image P_acts P_entries P_imageEntries S_fewest S_row S_strengths U_size U_found U_places U_kinds U_holds U_fitting U_tally L_letters L_firstCells L_secondCells L_firstBest L_secondBest W_refusals ++ fr) (fun T_at_1 => ?_)
      refine h_goto hX dX7_sign_35 (tgt := 0) (by decide) ?_
      exact gH.some' (fun h => h)
set_option maxRecDepth 4000 in
theorem w_Tape_sign (hX : gOk B X RX7 cX7_sign 1 0 (some .int)) : gH B X (fun r : (Int32 × Int32) => gFin X (some (.int r.1)) (wdC B W_spillsNow W_drawn T_length r.2 T_bytes D_cells D_clauses G_length G_code A_size A_chosen A_codes A_lengths A_stack Y_cells Y_clauses N_marbles N_chipped N_swallowed N_sweets N_day N_owners P_next P_kept P_hasImage P_image P_acts P_entries P_imageEntries S_fewest S_row S_strengths U_size U_found U_places U_kinds U_holds U_fitting U_tally L_letters L_firstCells L_secondCells L_firstBest L_secondBest W_refusals ++ fr)) 0 [(0, .ref (aC B 1))] [] (wdC B W_spillsNow W_drawn T_length T_at T_bytes D_cells D_clauses G_length G_code A_size A_chosen A_codes A_lengths A_stack Y_cells Y_clauses N_marbles N_chipped N_swallowed N_sweets N_day N_owners P_next P_kept P_hasImage P_image P_acts P_entries P_imageEntries S_fewest S_row S_strengths U_size U_found U_places U_kinds U_holds U_fitting U_tally L_letters L_firstCells L_secondCells L_firstBest L_secondBest W_refusals ++ fr) (f_Tape_sign T_length T_at T_bytes) := by
  unfold f_Tape_sign
  exact gH.loop (lvf := fun s : Int32 => [(0, .ref (aC B 1))]) (wf := fun s : Int32 => wdC B W_spillsNow W_drawn T_length s T_bytes D_cells D_clauses G_length G_code A_size A_chosen A_codes A_lengths A_stack Y_cells Y_clauses N_marbles N_chipped N_swallowed N_sweets N_day N_owners P_next P_kept P_hasImage P_image P_acts P_entries P_imageEntries S_fewest S_row S_strengths U_size U_found U_places U_kinds U_holds U_fitting U_tally L_letters L_firstCells L_secondCells L_firstBest L_secondBest W_refusals ++ fr) (fun s => w_Tape_sign_L0 hX s) T_at
theorem c_Tape_sign {r : (Int32 × Int32)} (h : f_Tape_sign T_length T_at T_bytes = some r) : gMet B 0 yX7_sign cX7_sign 1 (some .int) [.ref (aC B 1)] (wdC B W_spillsNow W_drawn T_length T_at T_bytes D_cells D_clauses G_length G_code A_size A_chosen A_codes A_lengths A_stack Y_cells Y_clauses N_marbles N_chipped N_swallowed N_sweets N_day N_owners P_next P_kept P_hasImage P_image P_acts P_entries P_imageEntries S_fewest S_row S_strengths U_size U_found U_places U_kinds U_holds U_fitting U_tally L_letters L_firstCells L_secondCells L_firstBest L_secondBest W_refusals ++ fr) (some (.int r.1)) (wdC B W_spillsNow W_drawn T_length r.2 T_bytes D_cells D_clauses G_length G_code A_size A_chosen A_codes A_lengths A_stack Y_cells Y_clauses N_marbles N_chipped N_swallowed N_sweets N_day N_owners P_next P_kept P_hasImage P_image P_acts P_entries P_imageEntries S_fewest S_row S_strengths U_size U_found U_places U_kinds U_holds U_fitting U_tally L_letters L_firstCells L_secondCells L_firstBest L_secondBest W_refusals ++ fr) :=
  gMet.of rfl (Nat.le_of_ble_eq_true rfl) (fun X hX hF => w_Tape_sign hX r h hF)
set_option maxRecDepth 4000 in
theorem w_Tape_number_J64 {v2 : Int32} (hX : gOk B X RX7 cX7_number 4 1 (some .int)) : gH B X (fun r : (Int32 × Int32) => gFin X (some (.int r.1)) (wdC B W_spillsNow W_drawn T_length r.2 T_bytes D_cells D_clauses G_length G_code A_size A_chosen A_codes A_lengths A_stack Y_cells Y_clauses N_marbles N_chipped N_swallowed N_sweets N_day N_owners P_next P_kept P_hasImage P_image P_acts P_entries P_imageEntries S_fewest S_row S_strengths U_size U_found U_places U_kinds U_holds U_fitting U_tally L_letters L_firstCells L_secondCells L_firstBest L_secondBest W_refusals ++ fr)) 64 [(0, .ref (aC B 1)), (2, .int v2)] [] (wdC B W_spillsNow W_drawn T_length T_at T_bytes D_cells D_clauses G_length G_code A_size A_chosen A_codes A_lengths A_stack Y_cells Y_clauses N_marbles N_chipped N_swallowed N_sweets N_day N_owners P_next P_kept P_hasImage P_image P_acts P_entries P_imageEntries S_fewest S_row S_strengths U_size U_found U_places U_kinds U_holds U_fitting U_tally L_letters L_firstCells L_secondCells L_firstBest L_secondBest W_refusals ++ fr) (f_Tape_number_J64 T_length T_at T_bytes v2) := by
  unfold f_Tape_number_J64
  refine h_aload_n hX dX7_number_64 rfl rfl ?_
  refine h_callVi hX dX7_number_65 (cv_RX7_26) rc_C1 (As := []) (st := []) (fun _ h => c_Tape_isAtDigit h) rfl rfl (by decide) (Nat.le_of_ble_eq_true rfl) (fun a_3 => ?_)
  refine h_if_eq hX dX7_number_68 (tgt := 75) (by decide) (fun _ => ?_) (fun _ => ?_)
  · refine h_iload_n hX dX7_number_75 rfl rfl ?_
    exact h_ret hX (rv := some (.int v2)) dX7_number_76 trivial (fun h => h)
  · refine h_iconst hX dX7_number_71 ki_m1 ?_
    refine h_goto hX dX7_number_72 (tgt := 76) (by decide) ?_
    exact h_ret hX (rv := some (.int ((-1)))) dX7_number_76 trivial (fun h => h)
set_option maxRecDepth 4000 in
theorem w_Tape_number_L18 {v1 : Int32} (hX : gOk B X RX7 cX7_number 4 1 (some .int)) (s : (Int32 × Int32 × Int32)) : gH B X (Sum.elim (fun s : (Int32 × Int32 × Int32) => gG B X 18 [(0, .ref (aC B 1)), (1, .int v1), (2, .int s.1), (3, .int s.2.1)] [] (wdC B W_spillsNow W_drawn T_length s.2.2 T_bytes D_cells D_clauses G_length G_code A_size A_chosen A_codes A_lengths A_stack Y_cells Y_clauses N_marbles N_chipped N_swallowed N_sweets N_day N_owners P_next P_kept P_hasImage P_image P_acts P_entries P_imageEntries S_fewest S_row S_strengths U_size U_found U_places U_kinds U_holds U_fitting U_tally L_letters L_firstCells L_secondCells L_firstBest L_secondBest W_refusals ++ fr)) (fun r : (Int32 × Int32) => gFin X (some (.int r.1)) (wdC B W_spillsNow W_drawn T_length r.2 T_bytes D_cells D_clauses G_length G_code A_size A_chosen A_codes A_lengths A_stack Y_cells Y_clauses N_marbles N_chipped N_swallowed N_sweets N_day N_owners P_next P_kept P_hasImage P_image P_acts P_entries P_imageEntries S_fewest S_row S_strengths U_size U_found U_places U_kinds U_holds U_fitting U_tally L_letters L_firstCells L_secondCells L_firstBest L_secondBest W_refusals ++ fr))) 18 [(0, .ref (aC B 1)), (1, .int v1), (2, .int s.1), (3, .int s.2.1)] [] (wdC B W_spillsNow W_drawn T_length s.2.2 T_bytes D_cells D_clauses G_length G_code A_size A_chosen A_codes A_lengths A_stack Y_cells Y_clauses N_marbles N_chipped N_swallowed N_sweets N_day N_owners P_next P_kept P_hasImage P_image P_acts P_entries P_imageEntries S_fewest S_row S_strengths U_size U_found U_places U_kinds U_holds U_fitting U_tally L_letters L_firstCells L_secondCells L_firstBest L_secondBest W_refusals ++ fr) (f_Tape_number_L18 T_length T_bytes v1 s) := by
  unfold f_Tape_number_L18
  refine h_iload_n hX dX7_number_18 rfl rfl ?_
  refine h_iload_n hX dX7_number_19 rfl rfl ?_
  refine h_icmp_ge hX dX7_number_20 (tgt := 64) (by decide) (fun _ => ?_) (fun _ => ?_)
  · refine gH.inr ?_
    refine gH.dead [0, 2] rfl ?_
    exact w_Tape_number_J64 hX
  · refine h_aload_n hX dX7_number_23 rfl rfl ?_
    refine h_callVi hX dX7_number_24 (cv_RX7_26) rc_C1 (As := []) (st := []) (fun _ h => c_Tape_isAtDigit h) rfl rfl (by decide) (Nat.le_of_ble_eq_true rfl) (fun a_4 => ?_)
    refine h_if_eq hX dX7_number_27 (tgt := 64) (by decide) (fun _ => ?_) (fun _ => ?_)
    · refine gH.inr ?_
      refine gH.dead [0, 2] rfl ?_
      exact w_Tape_number_J64 hX
    · refine h_iload_n hX dX7_number_30 rfl rfl ?_
      refine h_bipush hX dX7_number_31 kb_10 ?_
      refine h_imul hX dX7_number_33 ?_
      refine h_aload_n hX dX7_number_34 rfl rfl ?_
      refine get_RX7_9_C1 hX dX7_number_35 ?_
      refine h_aload_n hX dX7_number_38 rfl rfl ?_
      refine get_RX7_19_C1 hX dX7_number_39 ?_
      refine ald_C2 hX dX7_number_42 ?_
      refine h_iadd hX dX7_number_43 ?_
      refine h_bipush hX dX7_number_44 kb_48 ?_
      refine h_isub hX dX7_number_46 ?_
      refine gH.leti (fun v2_5 => ?_)
      refine h_istore_n hX dX7_number_47 rfl (by decide) (lv' := [(0, .ref (aC B 1)), (1, .int v1), (2, .int v2_5), (3, .int s.2.1)]) rfl ?_
      refine h_aload_n hX dX7_number_48 rfl rfl ?_
      refine h_dup hX dX7_number_49 rfl ?_
      refine get_RX7_19_C1 hX dX7_number_50 ?_
      refine h_iconst hX dX7_number_53 ki_1 ?_
      refine h_iadd hX dX7_number_54 ?_
      refine put_RX7_19_C1 hX dX7_number_55 ?_
      refine gH.letw (w := fun y => wdC B W_spillsNow W_drawn T_length y T_bytes D_cells D_clauses G_length G_code A_size A_chosen A_codes A_lengths A_stack Y_cells Y_clauses N_marbles N_chipped N_swallowed N_sweets N_day N_owners P_next P_kept P_hasImage P_image P_acts P_entries P_imageEntries S_fewest S_row S_strengths U_size U_found U_places U_kinds U_holds U_fitting U_tally L_letters L_firstCells L_secondCells L_firstBest L_secondBest W_refusals ++ fr) (fun T_at_6 => ?_)
      refine h_iincc hX dX7_number_58 rfl ki_1 (by decide) (lv' := [(0, .ref (aC B 1)), (1, .int v1), (2, .int v2_5), (3, .int (s.2.1 + 1))]) rfl ?_
      refine h_goto hX dX7_number_61 (tgt := 18) (by decide) ?_
      exact gH.some' (fun h => h)
set_option maxRecDepth 4000 in
theorem w_Tape_number {p0 : Int32} (hX : gOk B X RX7 cX7_number 4 1 (some .int)) : gH B X (fun r : (Int32 × Int32) => gFin X (some (.int r.1)) (wdC B W_spillsNow W_drawn T_length r.2 T_bytes D_cells D_clauses G_length G_code A_size A_chosen A_codes A_lengths A_stack Y_cells Y_clauses N_marbles N_chipped N_swallowed N_sweets N_day N_owners P_next P_kept P_hasImage P_image P_acts P_entries P_imageEntries S_fewest S_row S_strengths U_size U_found U_places U_kinds U_holds U_fitting U_tally L_letters L_firstCells L_secondCells L_firstBest L_secondBest W_refusals ++ fr)) 0 [(0, .ref (aC B 1)), (1, .int p0)] [] (wdC B W_spillsNow W_drawn T_length T_at T_bytes D_cells D_clauses G_length G_code A_size A_chosen A_codes A_lengths A_stack Y_cells Y_clauses N_marbles N_chipped N_swallowed N_sweets N_day N_owners P_next P_kept P_hasImage P_image P_acts P_entries P_imageEntries S_fewest S_row S_strengths U_size U_found U_places U_kinds U_holds U_fitting U_tally L_letters L_firstCells L_secondCells L_firstBest L_secondBest W_refusals ++ fr) (f_Tape_number T_length T_at T_bytes p0) := by
  unfold f_Tape_number
  refine h_aload_n hX dX7_number_0 rfl rfl ?_
  refine h_callVi hX dX7_number_1 (cv_RX7_22) rc_C1 (As := []) (st := []) (fun _ h => c_Tape_sign h) rfl rfl (by decide) (Nat.le_of_ble_eq_true rfl) (fun a_1 => ?_)
  refine h_pop hX dX7_number_4 rfl ?_
  refine h_aload_n hX dX7_number_5 rfl rfl ?_
  refine h_callVi hX dX7_number_6 (cv_RX7_26) rc_C1 (As := []) (st := []) (fun _ h => c_Tape_isAtDigit h) rfl rfl (by decide) (Nat.le_of_ble_eq_true rfl) (fun a_2 => ?_)
  refine h_if_ne hX dX7_number_9 (tgt := 14) (by decide) (fun _ => ?_) (fun _ => ?_)
  · refine h_iconst hX dX7_number_14 ki_0 ?_
    refine h_istore_n hX dX7_number_15 rfl (by decide) (lv' := [(0, .ref (aC B 1)), (1, .int p0), (2, .int 0)]) rfl ?_
    refine h_iconst hX dX7_number_16 ki_0 ?_
    refine h_istore_n hX dX7_number_17 rfl (by decide) (lv' := [(0, .ref (aC B 1)), (1, .int p0), (2, .int 0), (3, .int 0)]) rfl ?_
    exact gH.loop (lvf := fun s : (Int32 × Int32 × Int32) => [(0, .ref (aC B 1)), (1, .int p0), (2, .int s.1), (3, .int s.2.1)]) (wf := fun s : (Int32 × Int32 × Int32) => wdC B W_spillsNow W_drawn T_length s.2.2 T_bytes D_cells D_clauses G_length G_code A_size A_chosen A_codes A_lengths A_stack Y_cells Y_clauses N_marbles N_chipped N_swallowed N_sweets N_day N_owners P_next P_kept P_hasImage P_image P_acts P_entries P_imageEntries S_fewest S_row S_strengths U_size U_found U_places U_kinds U_holds U_fitting U_tally L_letters L_firstCells L_secondCells L_firstBest L_secondBest W_refusals ++ fr) (fun s => w_Tape_number_L18 hX s) (0, 0, a_1.2)
  · refine h_iconst hX dX7_number_12 ki_m1 ?_
    exact h_ret hX (rv := some (.int ((-1)))) dX7_number_13 trivial (fun h => h)
theorem c_Tape_number {p0 : Int32} {r : (Int32 × Int32)} (h : f_Tape_number T_length T_at T_bytes p0 = some r) : gMet B 1 yX7_number cX7_number 4 (some .int) [.ref (aC B 1), .int p0] (wdC B W_spillsNow W_drawn T_length T_at T_bytes D_cells D_clauses G_length G_code A_size A_chosen A_codes A_lengths A_stack Y_cells Y_clauses N_marbles N_chipped N_swallowed N_sweets N_day N_owners P_next P_kept P_hasImage P_image P_acts P_entries P_imageEntries S_fewest S_row S_strengths U_size U_found U_places U_kinds U_holds U_fitting U_tally L_letters L_firstCells L_secondCells L_firstBest L_secondBest W_refusals ++ fr) (some (.int r.1)) (wdC B W_spillsNow W_drawn T_length r.2 T_bytes D_cells D_clauses G_length G_code A_size A_chosen A_codes A_lengths A_stack Y_cells Y_clauses N_marbles N_chipped N_swallowed N_sweets N_day N_owners P_next P_kept P_hasImage P_image P_acts P_entries P_imageEntries S_fewest S_row S_strengths U_size U_found U_places U_kinds U_holds U_fitting U_tally L_letters L_firstCells L_secondCells L_firstBest L_secondBest W_refusals ++ fr) :=
  gMet.of rfl (Nat.le_of_ble_eq_true rfl) (fun X hX hF => w_Tape_number hX r h hF)
set_option maxRecDepth 4000 in
theorem w_Tape_position (hX : gOk B X RX7 cX7_position 1 0 (some .int)) : gH B X (fun r : Int32 => gFin X (some (.int r)) (wdC B W_spillsNow W_drawn T_length T_at T_bytes D_cells D_clauses G_length G_code A_size A_chosen A_codes A_lengths A_stack Y_cells Y_clauses N_marbles N_chipped N_swallowed N_sweets N_day N_owners P_next P_kept P_hasImage P_image P_acts P_entries P_imageEntries S_fewest S_row S_strengths U_size U_found U_places U_kinds U_holds U_fitting U_tally L_letters L_firstCells L_secondCells L_firstBest L_secondBest W_refusals ++ fr)) 0 [(0, .ref (aC B 1))] [] (wdC B W_spillsNow W_drawn T_length T_at T_bytes D_cells D_clauses G_length G_code A_size A_chosen A_codes A_lengths A_stack Y_cells Y_clauses N_marbles N_chipped N_swallowed N_sweets N_day N_owners P_next P_kept P_hasImage P_image P_acts P_entries P_imageEntries S_fewest S_row S_strengths U_size U_found U_places U_kinds U_holds U_fitting U_tally L_letters L_firstCells L_secondCells L_firstBest L_secondBest W_refusals ++ fr) (f_Tape_position T_at) := by
  unfold f_Tape_position
  refine h_aload_n hX dX7_position_0 rfl rfl ?_
  refine get_RX7_19_C1 hX dX7_position_1 ?_
  exact h_ret hX (rv := some (.int T_at)) dX7_position_4 trivial (fun h => h)
theorem c_Tape_position {r : Int32} (h : f_Tape_position T_at = some r) : gMet B 0 yX7_position cX7_position 1 (some .int) [.ref (aC B 1)] (wdC B W_spillsNow W_drawn T_length T_at T_bytes D_cells D_clauses G_length G_code A_size A_chosen A_codes A_lengths A_stack Y_cells Y_clauses N_marbles N_chipped N_swallowed N_sweets N_day N_owners P_next P_kept P_hasImage P_image P_acts P_entries P_imageEntries S_fewest S_row S_strengths U_size U_found U_places U_kinds U_holds U_fitting U_tally L_letters L_firstCells L_secondCells L_firstBest L_secondBest W_refusals ++ fr) (some (.int r)) (wdC B W_spillsNow W_drawn T_length T_at T_bytes D_cells D_clauses G_length G_code A_size A_chosen A_codes A_lengths A_stack Y_cells Y_clauses N_marbles N_chipped N_swallowed N_sweets N_day N_owners P_next P_kept P_hasImage P_image P_acts P_entries P_imageEntries S_fewest S_row S_strengths U_size U_found U_places U_kinds U_holds U_fitting U_tally L_letters L_firstCells L_secondCells L_firstBest L_secondBest W_refusals ++ fr) :=
  gMet.of rfl (Nat.le_of_ble_eq_true rfl) (fun X hX hF => w_Tape_position hX r h hF)
set_option maxRecDepth 4000 in
theorem w_Tape_rewind (hX : gOk B X RX7 cX7_rewind 1 0 none) : gH B X (fun r : Int32 => gFin X (none) (wdC B W_spillsNow W_drawn T_length r T_bytes D_cells D_clauses G_length G_code A_size A_chosen A_codes A_lengths A_stack Y_cells Y_clauses N_marbles N_chipped N_swallowed N_sweets N_day N_owners P_next P_kept P_hasImage P_image P_acts P_entries P_imageEntries S_fewest S_row S_strengths U_size U_found U_places U_kinds U_holds U_fitting U_tally L_letters L_firstCells L_secondCells L_firstBest L_secondBest W_refusals ++ fr)) 0 [(0, .ref (aC B 1))] [] (wdC B W_spillsNow W_drawn T_length T_at T_bytes D_cells D_clauses G_length G_code A_size A_chosen A_codes A_lengths A_stack Y_cells Y_clauses N_marbles N_chipped N_swallowed N_sweets N_day N_owners P_next P_kept P_hasImage P_image P_acts P_entries P_imageEntries S_fewest S_row S_strengths U_size U_found U_places U_kinds U_holds U_fitting U_tally L_letters L_firstCells L_secondCells L_firstBest L_secondBest W_refusals ++ fr) (f_Tape_rewind T_at) := by
  unfold f_Tape_rewind
  refine h_aload_n hX dX7_rewind_0 rfl rfl ?_
  refine h_iconst hX dX7_rewind_1 ki_0 ?_
  refine put_RX7_19_C1 hX dX7_rewind_2 ?_
  exact h_ret hX (rv := none) dX7_rewind_5 trivial (fun h => h)
theorem c_Tape_rewind {r : Int32} (h : f_Tape_rewind T_at = some r) : gMet B 0 yX7_rewind cX7_rewind 1 none [.ref (aC B 1)] (wdC B W_spillsNow W_drawn T_length T_at T_bytes D_cells D_clauses G_length G_code A_size A_chosen A_codes A_lengths A_stack Y_cells Y_clauses N_marbles N_chipped N_swallowed N_sweets N_day N_owners P_next P_kept P_hasImage P_image P_acts P_entries P_imageEntries S_fewest S_row S_strengths U_size U_found U_places U_kinds U_holds U_fitting U_tally L_letters L_firstCells L_secondCells L_firstBest L_secondBest W_refusals ++ fr) (none) (wdC B W_spillsNow W_drawn T_length r T_bytes D_cells D_clauses G_length G_code A_size A_chosen A_codes A_lengths A_stack Y_cells Y_clauses N_marbles N_chipped N_swallowed N_sweets N_day N_owners P_next P_kept P_hasImage P_image P_acts P_entries P_imageEntries S_fewest S_row S_strengths U_size U_found U_places U_kinds U_holds U_fitting U_tally L_letters L_firstCells L_secondCells L_firstBest L_secondBest W_refusals ++ fr) :=
  gMet.of rfl (Nat.le_of_ble_eq_true rfl) (fun X hX hF => w_Tape_rewind hX r h hF)
set_option maxRecDepth 4000 in
theorem w_Tape_size (hX : gOk B X RX7 cX7_size 1 0 (some .int)) : gH B X (fun r : Int32 => gFin X (some (.int r)) (wdC B W_spillsNow W_drawn T_length T_at T_bytes D_cells D_clauses G_length G_code A_size A_chosen A_codes A_lengths A_stack Y_cells Y_clauses N_marbles N_chipped N_swallowed N_sweets N_day N_owners P_next P_kept P_hasImage P_image P_acts P_entries P_imageEntries S_fewest S_row S_strengths U_size U_found U_places U_kinds U_holds U_fitting U_tally L_letters L_firstCells L_secondCells L_firstBest L_secondBest W_refusals ++ fr)) 0 [(0, .ref (aC B 1))] [] (wdC B W_spillsNow W_drawn T_length T_at T_bytes D_cells D_clauses G_length G_code A_size A_chosen A_codes A_lengths A_stack Y_cells Y_clauses N_marbles N_chipped N_swallowed N_sweets N_day N_owners P_next P_kept P_hasImage P_image P_acts P_entries P_imageEntries S_fewest S_row S_strengths U_size U_found U_places U_kinds U_holds U_fitting U_tally L_letters L_firstCells L_secondCells L_firstBest L_secondBest W_refusals ++ fr) (f_Tape_size T_length) := by
  unfold f_Tape_size
  refine h_aload_n hX dX7_size_0 rfl rfl ?_
  refine get_RX7_15_C1 hX dX7_size_1 ?_
  exact h_ret hX (rv := some (.int T_length)) dX7_size_4 trivial (fun h => h)
theorem c_Tape_size {r : Int32} (h : f_Tape_size T_length = some r) : gMet B 0 yX7_size cX7_size 1 (some .int) [.ref (aC B 1)] (wdC B W_spillsNow W_drawn T_length T_at T_bytes D_cells D_clauses G_length G_code A_size A_chosen A_codes A_lengths A_stack Y_cells Y_clauses N_marbles N_chipped N_swallowed N_sweets N_day N_owners P_next P_kept P_hasImage P_image P_acts P_entries P_imageEntries S_fewest S_row S_strengths U_size U_found U_places U_kinds U_holds U_fitting U_tally L_letters L_firstCells L_secondCells L_firstBest L_secondBest W_refusals ++ fr) (some (.int r)) (wdC B W_spillsNow W_drawn T_length T_at T_bytes D_cells D_clauses G_length G_code A_size A_chosen A_codes A_lengths A_stack Y_cells Y_clauses N_marbles N_chipped N_swallowed N_sweets N_day N_owners P_next P_kept P_hasImage P_image P_acts P_entries P_imageEntries S_fewest S_row S_strengths U_size U_found U_places U_kinds U_holds U_fitting U_tally L_letters L_firstCells L_secondCells L_firstBest L_secondBest W_refusals ++ fr) :=
  gMet.of rfl (Nat.le_of_ble_eq_true rfl) (fun X hX hF => w_Tape_size hX r h hF)
set_option maxRecDepth 4000 in
theorem w_Tape_step (hX : gOk B X RX7 cX7_step 1 0 none) : gH B X (fun r : Int32 => gFin X (none) (wdC B W_spillsNow W_drawn T_length r T_bytes D_cells D_clauses G_length G_code A_size A_chosen A_codes A_lengths A_stack Y_cells Y_clauses N_marbles N_chipped N_swallowed N_sweets N_day N_owners P_next P_kept P_hasImage P_image P_acts P_entries P_imageEntries S_fewest S_row S_strengths U_size U_found U_places U_kinds U_holds U_fitting U_tally L_letters L_firstCells L_secondCells L_firstBest L_secondBest W_refusals ++ fr)) 0 [(0, .ref (aC B 1))] [] (wdC B W_spillsNow W_drawn T_length T_at T_bytes D_cells D_clauses G_length G_code A_size A_chosen A_codes A_lengths A_stack Y_cells Y_clauses N_marbles N_chipped N_swallowed N_sweets N_day N_owners P_next P_kept P_hasImage P_image P_acts P_entries P_imageEntries S_fewest S_row S_strengths U_size U_found U_places U_kinds U_holds U_fitting U_tally L_letters L_firstCells L_secondCells L_firstBest L_secondBest W_refusals ++ fr) (f_Tape_step T_at) := by
  unfold f_Tape_step
  refine h_aload_n hX dX7_step_0 rfl rfl ?_
  refine h_dup hX dX7_step_1 rfl ?_
  refine get_RX7_19_C1 hX dX7_step_2 ?_
  refine h_iconst hX dX7_step_5 ki_1 ?_
  refine h_iadd hX dX7_step_6 ?_
  refine put_RX7_19_C1 hX dX7_step_7 ?_
  refine gH.letw (w := fun y => wdC B W_spillsNow W_drawn T_length y T_bytes D_cells D_clauses G_length G_code A_size A_chosen A_codes A_lengths A_stack Y_cells Y_clauses N_marbles N_chipped N_swallowed N_sweets N_day N_owners P_next P_kept P_hasImage P_image P_acts P_entries P_imageEntries S_fewest S_row S_strengths U_size U_found U_places U_kinds U_holds U_fitting U_tally L_letters L_firstCells L_secondCells L_firstBest L_secondBest W_refusals ++ fr) (fun T_at_1 => ?_)
  exact h_ret hX (rv := none) dX7_step_10 trivial (fun h => h)
theorem c_Tape_step {r : Int32} (h : f_Tape_step T_at = some r) : gMet B 0 yX7_step cX7_step 1 none [.ref (aC B 1)] (wdC B W_spillsNow W_drawn T_length T_at T_bytes D_cells D_clauses G_length G_code A_size A_chosen A_codes A_lengths A_stack Y_cells Y_clauses N_marbles N_chipped N_swallowed N_sweets N_day N_owners P_next P_kept P_hasImage P_image P_acts P_entries P_imageEntries S_fewest S_row S_strengths U_size U_found U_places U_kinds U_holds U_fitting U_tally L_letters L_firstCells L_secondCells L_firstBest L_secondBest W_refusals ++ fr) (none) (wdC B W_spillsNow W_drawn T_length r T_bytes D_cells D_clauses G_length G_code A_size A_chosen A_codes A_lengths A_stack Y_cells Y_clauses N_marbles N_chipped N_swallowed N_sweets N_day N_owners P_next P_kept P_hasImage P_image P_acts P_entries P_imageEntries S_fewest S_row S_strengths U_size U_found U_places U_kinds U_holds U_fitting U_tally L_letters L_firstCells L_secondCells L_firstBest L_secondBest W_refusals ++ fr) :=
  gMet.of rfl (Nat.le_of_ble_eq_true rfl) (fun X hX hF => w_Tape_step hX r h hF)
set_option maxRecDepth 4000 in
theorem w_Tape_stepBack (hX : gOk B X RX7 cX7_stepBack 1 0 none) : gH B X (fun r : Int32 => gFin X (none) (wdC B W_spillsNow W_drawn T_length r T_bytes D_cells D_clauses G_length G_code A_size A_chosen A_codes A_lengths A_stack Y_cells Y_clauses N_marbles N_chipped N_swallowed N_sweets N_day N_owners P_next P_kept P_hasImage P_image P_acts P_entries P_imageEntries S_fewest S_row S_strengths U_size U_found U_places U_kinds U_holds U_fitting U_tally L_letters L_firstCells L_secondCells L_firstBest L_secondBest W_refusals ++ fr)) 0 [(0, .ref (aC B 1))] [] (wdC B W_spillsNow W_drawn T_length T_at T_bytes D_cells D_clauses G_length G_code A_size A_chosen A_codes A_lengths A_stack Y_cells Y_clauses N_marbles N_chipped N_swallowed N_sweets N_day N_owners P_next P_kept P_hasImage P_image P_acts P_entries P_imageEntries S_fewest S_row S_strengths U_size U_found U_places U_kinds U_holds U_fitting U_tally L_letters L_firstCells L_secondCells L_firstBest L_secondBest W_refusals ++ fr) (f_Tape_stepBack T_at) := by
  unfold f_Tape_stepBack
  refine h_aload_n hX dX7_stepBack_0 rfl rfl ?_
  refine h_dup hX dX7_stepBack_1 rfl ?_
  refine get_RX7_19_C1 hX dX7_stepBack_2 ?_
  refine h_iconst hX dX7_stepBack_5 ki_1 ?_
  refine h_isub hX dX7_stepBack_6 ?_
  refine put_RX7_19_C1 hX dX7_stepBack_7 ?_
  refine gH.letw (w := fun y => wdC B W_spillsNow W_drawn T_length y T_bytes D_cells D_clauses G_length G_code A_size A_chosen A_codes A_lengths A_stack Y_cells Y_clauses N_marbles N_chipped N_swallowed N_sweets N_day N_owners P_next P_kept P_hasImage P_image P_acts P_entries P_imageEntries S_fewest S_row S_strengths U_size U_found U_places U_kinds U_holds U_fitting U_tally L_letters L_firstCells L_secondCells L_firstBest L_secondBest W_refusals ++ fr) (fun T_at_1 => ?_)
  exact h_ret hX (rv := none) dX7_stepBack_10 trivial (fun h => h)
theorem c_Tape_stepBack {r : Int32} (h : f_Tape_stepBack T_at = some r) : gMet B 0 yX7_stepBack cX7_stepBack 1 none [.ref (aC B 1)] (wdC B W_spillsNow W_drawn T_length T_at T_bytes D_cells D_clauses G_length G_code A_size A_chosen A_codes A_lengths A_stack Y_cells Y_clauses N_marbles N_chipped N_swallowed N_sweets N_day N_owners P_next P_kept P_hasImage P_image P_acts P_entries P_imageEntries S_fewest S_row S_strengths U_size U_found U_places U_kinds U_holds U_fitting U_tally L_letters L_firstCells L_secondCells L_firstBest L_secondBest W_refusals ++ fr) (none) (wdC B W_spillsNow W_drawn T_length r T_bytes D_cells D_clauses G_length G_code A_size A_chosen A_codes A_lengths A_stack Y_cells Y_clauses N_marbles N_chipped N_swallowed N_sweets N_day N_owners P_next P_kept P_hasImage P_image P_acts P_entries P_imageEntries S_fewest S_row S_strengths U_size U_found U_places U_kinds U_holds U_fitting U_tally L_letters L_firstCells L_secondCells L_firstBest L_secondBest W_refusals ++ fr) :=
  gMet.of rfl (Nat.le_of_ble_eq_true rfl) (fun X hX hF => w_Tape_stepBack hX r h hF)
set_option maxRecDepth 4000 in
theorem w_Tape_takes {p0 : Int32} (hX : gOk B X RX7 cX7_takes 2 1 (some .boolean)) : gH B X (fun r : (Int32 × Int32) => gFin X (some (.int r.1)) (wdC B W_spillsNow W_drawn T_length r.2 T_bytes D_cells D_clauses G_length G_code A_size A_chosen A_codes A_lengths A_stack Y_cells Y_clauses N_marbles N_chipped N_swallowed N_sweets N_day N_owners P_next P_kept P_hasImage P_image P_acts P_entries P_imageEntries S_fewest S_row S_strengths U_size U_found U_places U_kinds U_holds U_fitting U_tally L_letters L_firstCells L_secondCells L_firstBest L_secondBest W_refusals ++ fr)) 0 [(0, .ref (aC B 1)), (1, .int p0)] [] (wdC B W_spillsNow W_drawn T_length T_at T_bytes D_cells D_clauses G_length G_code A_size A_chosen A_codes A_lengths A_stack Y_cells Y_clauses N_marbles N_chipped N_swallowed N_sweets N_day N_owners P_next P_kept P_hasImage P_image P_acts P_entries P_imageEntries S_fewest S_row S_strengths U_size U_found U_places U_kinds U_holds U_fitting U_tally L_letters L_firstCells L_secondCells L_firstBest L_secondBest W_refusals ++ fr) (f_Tape_takes T_length T_at T_bytes p0) := by
  unfold f_Tape_takes
  refine h_aload_n hX dX7_takes_0 rfl rfl ?_
  refine h_callVi hX dX7_takes_1 (cv_RX7_22) rc_C1 (As := []) (st := []) (fun _ h => c_Tape_sign h) rfl rfl (by decide) (Nat.le_of_ble_eq_true rfl) (fun a_1 => ?_)
  refine h_iload_n hX dX7_takes_4 rfl rfl ?_
  refine h_icmp_eq hX dX7_takes_5 (tgt := 10) (by decide) (fun _ => ?_) (fun _ => ?_)
  · refine h_aload_n hX dX7_takes_10 rfl rfl ?_
    refine h_dup hX dX7_takes_11 rfl ?_
    refine get_RX7_19_C1 hX dX7_takes_12 ?_
    refine h_iconst hX dX7_takes_15 ki_1 ?_
    refine h_iadd hX dX7_takes_16 ?_
    refine put_RX7_19_C1 hX dX7_takes_17 ?_
    refine gH.letw (w := fun y => wdC B W_spillsNow W_drawn T_length y T_bytes D_cells D_clauses G_length G_code A_size A_chosen A_codes A_lengths A_stack Y_cells Y_clauses N_marbles N_chipped N_swallowed N_sweets N_day N_owners P_next P_kept P_hasImage P_image P_acts P_entries P_imageEntries S_fewest S_row S_strengths U_size U_found U_places U_kinds U_holds U_fitting U_tally L_letters L_firstCells L_secondCells L_firstBest L_secondBest W_refusals ++ fr) (fun T_at_2 => ?_)
    refine h_iconst hX dX7_takes_20 ki_1 ?_
    exact h_ret hX (rv := some (.int 1)) dX7_takes_21 rfl (fun h => h)
  · refine h_iconst hX dX7_takes_8 ki_0 ?_
    exact h_ret hX (rv := some (.int 0)) dX7_takes_9 rfl (fun h => h)
theorem c_Tape_takes {p0 : Int32} {r : (Int32 × Int32)} (h : f_Tape_takes T_length T_at T_bytes p0 = some r) : gMet B 1 yX7_takes cX7_takes 2 (some .boolean) [.ref (aC B 1), .int p0] (wdC B W_spillsNow W_drawn T_length T_at T_bytes D_cells D_clauses G_length G_code A_size A_chosen A_codes A_lengths A_stack Y_cells Y_clauses N_marbles N_chipped N_swallowed N_sweets N_day N_owners P_next P_kept P_hasImage P_image P_acts P_entries P_imageEntries S_fewest S_row S_strengths U_size U_found U_places U_kinds U_holds U_fitting U_tally L_letters L_firstCells L_secondCells L_firstBest L_secondBest W_refusals ++ fr) (some (.int r.1)) (wdC B W_spillsNow W_drawn T_length r.2 T_bytes D_cells D_clauses G_length G_code A_size A_chosen A_codes A_lengths A_stack Y_cells Y_clauses N_marbles N_chipped N_swallowed N_sweets N_day N_owners P_next P_kept P_hasImage P_image P_acts P_entries P_imageEntries S_fewest S_row S_strengths U_size U_found U_places U_kinds U_holds U_fitting U_tally L_letters L_firstCells L_secondCells L_firstBest L_secondBest W_refusals ++ fr) :=
  gMet.of rfl (Nat.le_of_ble_eq_true rfl) (fun X hX hF => w_Tape_takes hX r h hF)
