variable {B : gB} {X : gX} {fr : va_W} {W_spillsNow : Int32} {W_drawn : Int64} {T_length : Int32} {T_at : Int32} {T_bytes : Nat → Int32} {D_cells : Nat → Int32} {D_clauses : Nat → Int32} {G_length : Int32} {G_code : Nat → Int32} {A_size : Int32} {A_chosen : Int32} {A_codes : Nat → Int32} {A_lengths : Nat → Int32} {A_stack : Nat → Int32} {Y_cells : Nat → Int32} {Y_clauses : Nat → Int32} {N_marbles : Int32} {N_chipped : Int32} {N_swallowed : Int32} {N_sweets : Int32} {N_day : Int32} {N_owners : Nat → Int32} {P_next : Int32} {P_kept : Int32} {P_hasImage : Int32} {P_image : Int64} {P_acts : Nat → Int64} {P_entries : Nat → Int32} {P_imageEntries : Nat → Int32} {S_fewest : Int32} {S_row : Int32} {S_strengths : Nat → Int32} {U_size : Int32} {U_found : Int32} {U_places : Nat → Int32} {U_kinds : Nat → Int32} {U_holds : Nat → Int32} {U_fitting : Nat → Int32} {U_tally : Nat → Int32} {L_letters : Nat → Int32} {L_firstCells : Nat → Int32} {L_secondCells : Nat → Int32} {L_firstBest : Nat → Int32} {L_secondBest : Nat → Int32} {W_refusals : Nat → Int32}
set_option maxRecDepth 4000 in
theorem w_Main_spillByDraws (hX : gOk B X RX10 cX10_spillByDraws 2 2 none) : gH B X (fun r : (Int64 × Int32) => gFin X (none) (wdC B W_spillsNow r.1 T_length T_at T_bytes D_cells D_clauses G_length G_code A_size A_chosen A_codes A_lengths A_stack Y_cells Y_clauses N_marbles r.2 N_swallowed N_sweets N_day N_owners P_next P_kept P_hasImage P_image P_acts P_entries P_imageEntries S_fewest S_row S_strengths U_size U_found U_places U_kinds U_holds U_fitting U_tally L_letters L_firstCells L_secondCells L_firstBest L_secondBest W_refusals ++ fr)) 0 [(0, .ref (aC B 0))] [] (wdC B W_spillsNow W_drawn T_length T_at T_bytes D_cells D_clauses G_length G_code A_size A_chosen A_codes A_lengths A_stack Y_cells Y_clauses N_marbles N_chipped N_swallowed N_sweets N_day N_owners P_next P_kept P_hasImage P_image P_acts P_entries P_imageEntries S_fewest S_row S_strengths U_size U_found U_places U_kinds U_holds U_fitting U_tally L_letters L_firstCells L_secondCells L_firstBest L_secondBest W_refusals ++ fr) (f_Main_spillByDraws W_spillsNow W_drawn Y_clauses N_marbles N_chipped N_owners) := by
  unfold f_Main_spillByDraws
  refine h_aload_n hX dX10_spillByDraws_0 rfl rfl ?_
  refine h_bipush hX dX10_spillByDraws_1 kb_10 ?_
  refine h_callVi hX dX10_spillByDraws_3 (cv_RX10_388) rc_C0 (As := [.int 10]) (st := []) (fun _ h => c_Main_draw h) rfl rfl (by decide) (Nat.le_of_ble_eq_true rfl) (fun a_1 => ?_)
  refine h_aload_n hX dX10_spillByDraws_6 rfl rfl ?_
  refine get_RX10_248_C0 hX dX10_spillByDraws_7 ?_
  refine h_icmp_lt hX dX10_spillByDraws_10 (tgt := 14) (by decide) (fun _ => ?_) (fun _ => ?_)
  · refine h_aload_n hX dX10_spillByDraws_14 rfl rfl ?_
    refine h_aload_n hX dX10_spillByDraws_15 rfl rfl ?_
    refine get_RX10_42_C0 hX dX10_spillByDraws_16 ?_
    refine h_callVi hX dX10_spillByDraws_19 (cv_RX10_131) rc_C13 (As := []) (st := [.ref (aC B 0)]) (fun _ h => c_Yard_marbles h) rfl rfl (by decide) (Nat.le_of_ble_eq_true rfl) (fun a_2 => ?_)
    refine h_callVi hX dX10_spillByDraws_22 (cv_RX10_388) rc_C0 (As := [.int a_2]) (st := []) (fun _ h => c_Main_draw h) rfl rfl (by decide) (Nat.le_of_ble_eq_true rfl) (fun a_3 => ?_)
    refine h_istore_n hX dX10_spillByDraws_25 rfl (by decide) (lv' := [(0, .ref (aC B 0)), (1, .int a_3.1)]) rfl ?_
    refine h_aload_n hX dX10_spillByDraws_26 rfl rfl ?_
    refine get_RX10_49_C0 hX dX10_spillByDraws_27 ?_
    refine h_iload_n hX dX10_spillByDraws_30 rfl rfl ?_
    refine h_callVi hX dX10_spillByDraws_31 (cv_RX10_233) rc_C16 (As := [.int a_3.1]) (st := []) (fun _ h => c_Now_isDrained h) rfl rfl (by decide) (Nat.le_of_ble_eq_true rfl) (fun a_4 => ?_)
    refine h_if_ne hX dX10_spillByDraws_34 (tgt := 52) (by decide) (fun _ => ?_) (fun _ => ?_)
    · exact h_ret hX (rv := none) dX10_spillByDraws_52 trivial (fun h => h)
    · refine h_aload_n hX dX10_spillByDraws_37 rfl rfl ?_
      refine get_RX10_49_C0 hX dX10_spillByDraws_38 ?_
      refine h_dup hX dX10_spillByDraws_41 rfl ?_
      refine get_RX10_236_C16 hX dX10_spillByDraws_42 ?_
      refine h_iconst hX dX10_spillByDraws_45 ki_1 ?_
      refine h_iload_n hX dX10_spillByDraws_46 rfl rfl ?_
      refine h_ishl hX dX10_spillByDraws_47 ?_
      refine h_ior hX dX10_spillByDraws_48 ?_
      refine put_RX10_236_C16 hX dX10_spillByDraws_49 ?_
      refine gH.letw (w := fun y => wdC B W_spillsNow a_3.2 T_length T_at T_bytes D_cells D_clauses G_length G_code A_size A_chosen A_codes A_lengths A_stack Y_cells Y_clauses N_marbles y N_swallowed N_sweets N_day N_owners P_next P_kept P_hasImage P_image P_acts P_entries P_imageEntries S_fewest S_row S_strengths U_size U_found U_places U_kinds U_holds U_fitting U_tally L_letters L_firstCells L_secondCells L_firstBest L_secondBest W_refusals ++ fr) (fun N_chipped_5 => ?_)
      exact h_ret hX (rv := none) dX10_spillByDraws_52 trivial (fun h => h)
  · exact h_ret hX (rv := none) dX10_spillByDraws_13 trivial (fun h => h)
theorem c_Main_spillByDraws {r : (Int64 × Int32)} (h : f_Main_spillByDraws W_spillsNow W_drawn Y_clauses N_marbles N_chipped N_owners = some r) : gMet B 2 yX10_spillByDraws cX10_spillByDraws 2 none [.ref (aC B 0)] (wdC B W_spillsNow W_drawn T_length T_at T_bytes D_cells D_clauses G_length G_code A_size A_chosen A_codes A_lengths A_stack Y_cells Y_clauses N_marbles N_chipped N_swallowed N_sweets N_day N_owners P_next P_kept P_hasImage P_image P_acts P_entries P_imageEntries S_fewest S_row S_strengths U_size U_found U_places U_kinds U_holds U_fitting U_tally L_letters L_firstCells L_secondCells L_firstBest L_secondBest W_refusals ++ fr) (none) (wdC B W_spillsNow r.1 T_length T_at T_bytes D_cells D_clauses G_length G_code A_size A_chosen A_codes A_lengths A_stack Y_cells Y_clauses N_marbles r.2 N_swallowed N_sweets N_day N_owners P_next P_kept P_hasImage P_image P_acts P_entries P_imageEntries S_fewest S_row S_strengths U_size U_found U_places U_kinds U_holds U_fitting U_tally L_letters L_firstCells L_secondCells L_firstBest L_secondBest W_refusals ++ fr) :=
  gMet.of rfl (Nat.le_of_ble_eq_true rfl) (fun X hX hF => w_Main_spillByDraws hX r h hF)
set_option maxRecDepth 4000 in
theorem w_Main_spills {p0 : Int32} (hX : gOk B X RX10 cX10_spills 2 0 (some .boolean)) : gH B X (fun r : (Int32 × Int32) => gFin X (some (.int r.1)) (wdC B r.2 W_drawn T_length T_at T_bytes D_cells D_clauses G_length G_code A_size A_chosen A_codes A_lengths A_stack Y_cells Y_clauses N_marbles N_chipped N_swallowed N_sweets N_day N_owners P_next P_kept P_hasImage P_image P_acts P_entries P_imageEntries S_fewest S_row S_strengths U_size U_found U_places U_kinds U_holds U_fitting U_tally L_letters L_firstCells L_secondCells L_firstBest L_secondBest W_refusals ++ fr)) 0 [(0, .ref (aC B 0)), (1, .int p0)] [] (wdC B W_spillsNow W_drawn T_length T_at T_bytes D_cells D_clauses G_length G_code A_size A_chosen A_codes A_lengths A_stack Y_cells Y_clauses N_marbles N_chipped N_swallowed N_sweets N_day N_owners P_next P_kept P_hasImage P_image P_acts P_entries P_imageEntries S_fewest S_row S_strengths U_size U_found U_places U_kinds U_holds U_fitting U_tally L_letters L_firstCells L_secondCells L_firstBest L_secondBest W_refusals ++ fr) (f_Main_spills W_spillsNow p0) := by
  unfold f_Main_spills
  refine h_iload_n hX dX10_spills_0 rfl rfl ?_
  refine h_if_lt hX dX10_spills_1 (tgt := 18) (by decide) (fun _ => ?_) (fun _ => ?_)
  · refine h_iconst hX dX10_spills_18 ki_0 ?_
    exact h_ret hX (rv := some (.int 0)) dX10_spills_19 rfl (fun h => h)
  · refine h_iload_n hX dX10_spills_4 rfl rfl ?_
    refine h_bipush hX dX10_spills_5 kb_9 ?_
    refine h_icmp_gt hX dX10_spills_7 (tgt := 18) (by decide) (fun _ => ?_) (fun _ => ?_)
    · refine h_iconst hX dX10_spills_18 ki_0 ?_
      exact h_ret hX (rv := some (.int 0)) dX10_spills_19 rfl (fun h => h)
    · refine h_iload_n hX dX10_spills_10 rfl rfl ?_
      refine h_aload_n hX dX10_spills_11 rfl rfl ?_
      refine get_RX10_248_C0 hX dX10_spills_12 ?_
      refine h_icmp_ne hX dX10_spills_15 (tgt := 20) (by decide) (fun _ => ?_) (fun _ => ?_)
      · refine h_aload_n hX dX10_spills_20 rfl rfl ?_
        refine h_iload_n hX dX10_spills_21 rfl rfl ?_
        refine put_RX10_248_C0 hX dX10_spills_22 ?_
        refine h_iconst hX dX10_spills_25 ki_1 ?_
        exact h_ret hX (rv := some (.int 1)) dX10_spills_26 rfl (fun h => h)
      · refine h_iconst hX dX10_spills_18 ki_0 ?_
        exact h_ret hX (rv := some (.int 0)) dX10_spills_19 rfl (fun h => h)
theorem c_Main_spills {p0 : Int32} {r : (Int32 × Int32)} (h : f_Main_spills W_spillsNow p0 = some r) : gMet B 0 yX10_spills cX10_spills 2 (some .boolean) [.ref (aC B 0), .int p0] (wdC B W_spillsNow W_drawn T_length T_at T_bytes D_cells D_clauses G_length G_code A_size A_chosen A_codes A_lengths A_stack Y_cells Y_clauses N_marbles N_chipped N_swallowed N_sweets N_day N_owners P_next P_kept P_hasImage P_image P_acts P_entries P_imageEntries S_fewest S_row S_strengths U_size U_found U_places U_kinds U_holds U_fitting U_tally L_letters L_firstCells L_secondCells L_firstBest L_secondBest W_refusals ++ fr) (some (.int r.1)) (wdC B r.2 W_drawn T_length T_at T_bytes D_cells D_clauses G_length G_code A_size A_chosen A_codes A_lengths A_stack Y_cells Y_clauses N_marbles N_chipped N_swallowed N_sweets N_day N_owners P_next P_kept P_hasImage P_image P_acts P_entries P_imageEntries S_fewest S_row S_strengths U_size U_found U_places U_kinds U_holds U_fitting U_tally L_letters L_firstCells L_secondCells L_firstBest L_secondBest W_refusals ++ fr) :=
  gMet.of rfl (Nat.le_of_ble_eq_true rfl) (fun X hX hF => w_Main_spills hX r h hF)
set_option maxRecDepth 4000 in
theorem w_Main_status {p0 : Int32} (hX : gOk B X RX10 cX10_status 2 0 (some .int)) : gH B X (fun r : Int32 => gFin X (some (.int r)) (wdC B W_spillsNow W_drawn T_length T_at T_bytes D_cells D_clauses G_length G_code A_size A_chosen A_codes A_lengths A_stack Y_cells Y_clauses N_marbles N_chipped N_swallowed N_sweets N_day N_owners P_next P_kept P_hasImage P_image P_acts P_entries P_imageEntries S_fewest S_row S_strengths U_size U_found U_places U_kinds U_holds U_fitting U_tally L_letters L_firstCells L_secondCells L_firstBest L_secondBest W_refusals ++ fr)) 0 [(0, .ref (aC B 0)), (1, .int p0)] [] (wdC B W_spillsNow W_drawn T_length T_at T_bytes D_cells D_clauses G_length G_code A_size A_chosen A_codes A_lengths A_stack Y_cells Y_clauses N_marbles N_chipped N_swallowed N_sweets N_day N_owners P_next P_kept P_hasImage P_image P_acts P_entries P_imageEntries S_fewest S_row S_strengths U_size U_found U_places U_kinds U_holds U_fitting U_tally L_letters L_firstCells L_secondCells L_firstBest L_secondBest W_refusals ++ fr) (f_Main_status W_refusals p0) := by
  unfold f_Main_status
  refine h_iload_n hX dX10_status_0 rfl rfl ?_
  refine h_if_lt hX dX10_status_1 (tgt := 18) (by decide) (fun _ => ?_) (fun _ => ?_)
  · refine h_iconst hX dX10_status_18 ki_m1 ?_
    exact h_ret hX (rv := some (.int ((-1)))) dX10_status_19 trivial (fun h => h)
  · refine h_iload_n hX dX10_status_4 rfl rfl ?_
    refine h_iconst hX dX10_status_5 ki_5 ?_
    refine h_icmp_ge hX dX10_status_6 (tgt := 18) (by decide) (fun _ => ?_) (fun _ => ?_)
    · refine h_iconst hX dX10_status_18 ki_m1 ?_
      exact h_ret hX (rv := some (.int ((-1)))) dX10_status_19 trivial (fun h => h)
    · refine h_aload_n hX dX10_status_9 rfl rfl ?_
      refine get_RX10_89_C0 hX dX10_status_10 ?_
      refine h_iload_n hX dX10_status_13 rfl rfl ?_
      refine ald_C36 hX dX10_status_14 ?_
      refine h_goto hX dX10_status_15 (tgt := 19) (by decide) ?_
      exact h_ret hX (rv := some (.int (W_refusals p0.toNatClampNeg))) dX10_status_19 trivial (fun h => h)
theorem c_Main_status {p0 : Int32} {r : Int32} (h : f_Main_status W_refusals p0 = some r) : gMet B 0 yX10_status cX10_status 2 (some .int) [.ref (aC B 0), .int p0] (wdC B W_spillsNow W_drawn T_length T_at T_bytes D_cells D_clauses G_length G_code A_size A_chosen A_codes A_lengths A_stack Y_cells Y_clauses N_marbles N_chipped N_swallowed N_sweets N_day N_owners P_next P_kept P_hasImage P_image P_acts P_entries P_imageEntries S_fewest S_row S_strengths U_size U_found U_places U_kinds U_holds U_fitting U_tally L_letters L_firstCells L_secondCells L_firstBest L_secondBest W_refusals ++ fr) (some (.int r)) (wdC B W_spillsNow W_drawn T_length T_at T_bytes D_cells D_clauses G_length G_code A_size A_chosen A_codes A_lengths A_stack Y_cells Y_clauses N_marbles N_chipped N_swallowed N_sweets N_day N_owners P_next P_kept P_hasImage P_image P_acts P_entries P_imageEntries S_fewest S_row S_strengths U_size U_found U_places U_kinds U_holds U_fitting U_tally L_letters L_firstCells L_secondCells L_firstBest L_secondBest W_refusals ++ fr) :=
  gMet.of rfl (Nat.le_of_ble_eq_true rfl) (fun X hX hF => w_Main_status hX r h hF)
set_option maxRecDepth 4000 in
theorem w_Main_swallow_J39 (hX : gOk B X RX10 cX10_swallow 2 2 (some .int)) : gH B X (fun r : (Int32 × Int32 × Int32 × Int32 × (Nat → Int64) × (Nat → Int32)) => gFin X (some (.int r.1)) (wdC B W_spillsNow W_drawn T_length T_at T_bytes D_cells D_clauses G_length G_code A_size A_chosen A_codes A_lengths A_stack Y_cells Y_clauses N_marbles N_chipped r.2.1 N_sweets N_day N_owners r.2.2.1 r.2.2.2.1 P_hasImage P_image r.2.2.2.2.1 P_entries P_imageEntries S_fewest S_row S_strengths U_size U_found U_places U_kinds U_holds U_fitting U_tally L_letters L_firstCells L_secondCells L_firstBest L_secondBest r.2.2.2.2.2 ++ fr)) 39 [(0, .ref (aC B 0))] [] (wdC B W_spillsNow W_drawn T_length T_at T_bytes D_cells D_clauses G_length G_code A_size A_chosen A_codes A_lengths A_stack Y_cells Y_clauses N_marbles N_chipped N_swallowed N_sweets N_day N_owners P_next P_kept P_hasImage P_image P_acts P_entries P_imageEntries S_fewest S_row S_strengths U_size U_found U_places U_kinds U_holds U_fitting U_tally L_letters L_firstCells L_secondCells L_firstBest L_secondBest W_refusals ++ fr) (f_Main_swallow_J39 N_swallowed P_next P_kept P_acts W_refusals) := by
  unfold f_Main_swallow_J39
  refine h_aload_n hX dX10_swallow_39 rfl rfl ?_
  refine h_iconst hX dX10_swallow_40 ki_2 ?_
  refine h_callVi hX dX10_swallow_41 (cv_RX10_217) rc_C0 (As := [.int 2]) (st := []) (fun _ h => c_Main_refuse h) rfl rfl (by decide) (Nat.le_of_ble_eq_true rfl) (fun a_3 => ?_)
  exact h_ret hX (rv := some (.int a_3.1)) dX10_swallow_44 trivial (fun h => h)
set_option maxRecDepth 4000 in
theorem w_Main_swallow {p0 : Int32} (hX : gOk B X RX10 cX10_swallow 2 2 (some .int)) : gH B X (fun r : (Int32 × Int32 × Int32 × Int32 × (Nat → Int64) × (Nat → Int32)) => gFin X (some (.int r.1)) (wdC B W_spillsNow W_drawn T_length T_at T_bytes D_cells D_clauses G_length G_code A_size A_chosen A_codes A_lengths A_stack Y_cells Y_clauses N_marbles N_chipped r.2.1 N_sweets N_day N_owners r.2.2.1 r.2.2.2.1 P_hasImage P_image r.2.2.2.2.1 P_entries P_imageEntries S_fewest S_row S_strengths U_size U_found U_places U_kinds U_holds U_fitting U_tally L_letters L_firstCells L_secondCells L_firstBest L_secondBest r.2.2.2.2.2 ++ fr)) 0 [(0, .ref (aC B 0)), (1, .int p0)] [] (wdC B W_spillsNow W_drawn T_length T_at T_bytes D_cells D_clauses G_length G_code A_size A_chosen A_codes A_lengths A_stack Y_cells Y_clauses N_marbles N_chipped N_swallowed N_sweets N_day N_owners P_next P_kept P_hasImage P_image P_acts P_entries P_imageEntries S_fewest S_row S_strengths U_size U_found U_places U_kinds U_holds U_fitting U_tally L_letters L_firstCells L_secondCells L_firstBest L_secondBest W_refusals ++ fr) (f_Main_swallow Y_clauses N_marbles N_chipped N_swallowed N_sweets N_day N_owners P_next P_kept P_acts W_refusals p0) := by
  unfold f_Main_swallow
  refine h_aload_n hX dX10_swallow_0 rfl rfl ?_
  refine get_RX10_42_C0 hX dX10_swallow_1 ?_
  refine h_iload_n hX dX10_swallow_4 rfl rfl ?_
  refine h_callVi hX dX10_swallow_5 (cv_RX10_177) rc_C13 (As := [.int p0]) (st := []) (fun _ h => c_Yard_hasMarble h) rfl rfl (by decide) (Nat.le_of_ble_eq_true rfl) (fun a_1 => ?_)
  refine h_if_ne hX dX10_swallow_8 (tgt := 17) (by decide) (fun _ => ?_) (fun _ => ?_)
  · refine h_aload_n hX dX10_swallow_17 rfl rfl ?_
    refine get_RX10_49_C0 hX dX10_swallow_18 ?_
    refine h_iload_n hX dX10_swallow_21 rfl rfl ?_
    refine h_callVi hX dX10_swallow_22 (cv_RX10_192) rc_C16 (As := [.int p0]) (st := []) (fun _ h => c_Now_isSwallowed h) rfl rfl (by decide) (Nat.le_of_ble_eq_true rfl) (fun a_2 => ?_)
    refine h_if_ne hX dX10_swallow_25 (tgt := 39) (by decide) (fun _ => ?_) (fun _ => ?_)
    · refine gH.dead [0] rfl ?_
      exact w_Main_swallow_J39 hX
    · refine h_aload_n hX dX10_swallow_28 rfl rfl ?_
      refine get_RX10_49_C0 hX dX10_swallow_29 ?_
      refine h_iload_n hX dX10_swallow_32 rfl rfl ?_
      refine h_callVi hX dX10_swallow_33 (cv_RX10_233) rc_C16 (As := [.int p0]) (st := []) (fun _ h => c_Now_isDrained h) rfl rfl (by decide) (Nat.le_of_ble_eq_true rfl) (fun a_4 => ?_)
      refine h_if_eq hX dX10_swallow_36 (tgt := 45) (by decide) (fun _ => ?_) (fun _ => ?_)
      · refine h_aload_n hX dX10_swallow_45 rfl rfl ?_
        refine get_RX10_58_C0 hX dX10_swallow_46 ?_
        refine h_callVv hX dX10_swallow_49 (cv_RX10_220) rc_C18 (As := []) (st := []) (fun _ h => c_Past_remember h) rfl rfl (by decide) (Nat.le_of_ble_eq_true rfl) (fun a_5 => ?_)
        refine h_aload_n hX dX10_swallow_52 rfl rfl ?_
        refine get_RX10_49_C0 hX dX10_swallow_53 ?_
        refine h_dup hX dX10_swallow_56 rfl ?_
        refine get_RX10_239_C16 hX dX10_swallow_57 ?_
        refine h_iconst hX dX10_swallow_60 ki_1 ?_
        refine h_iload_n hX dX10_swallow_61 rfl rfl ?_
        refine h_ishl hX dX10_swallow_62 ?_
        refine h_ior hX dX10_swallow_63 ?_
        refine put_RX10_239_C16 hX dX10_swallow_64 ?_
        refine gH.letw (w := fun y => wdC B W_spillsNow W_drawn T_length T_at T_bytes D_cells D_clauses G_length G_code A_size A_chosen A_codes A_lengths A_stack Y_cells Y_clauses N_marbles N_chipped y N_sweets N_day N_owners a_5.1 a_5.2.1 P_hasImage P_image a_5.2.2 P_entries P_imageEntries S_fewest S_row S_strengths U_size U_found U_places U_kinds U_holds U_fitting U_tally L_letters L_firstCells L_secondCells L_firstBest L_secondBest W_refusals ++ fr) (fun N_swallowed_6 => ?_)
        refine h_aload_n hX dX10_swallow_67 rfl rfl ?_
        refine get_RX10_49_C0 hX dX10_swallow_68 ?_
        refine get_RX10_239_C16 hX dX10_swallow_71 ?_
        refine h_callSi hX dX10_swallow_74 (cs_RX10_172) (As := [.int N_swallowed_6]) (st := []) (fun _ h => c_J_bitCount h) rfl rfl (by decide) (Nat.le_of_ble_eq_true rfl) (fun a_7 => ?_)
        exact h_ret hX (rv := some (.int a_7)) dX10_swallow_77 trivial (fun h => h)
      · refine gH.dead [0] rfl ?_
        exact w_Main_swallow_J39 hX
  · refine h_aload_n hX dX10_swallow_11 rfl rfl ?_
    refine h_iconst hX dX10_swallow_12 ki_0 ?_
    refine h_callVi hX dX10_swallow_13 (cv_RX10_217) rc_C0 (As := [.int 0]) (st := []) (fun _ h => c_Main_refuse h) rfl rfl (by decide) (Nat.le_of_ble_eq_true rfl) (fun a_8 => ?_)
    exact h_ret hX (rv := some (.int a_8.1)) dX10_swallow_16 trivial (fun h => h)
theorem c_Main_swallow {p0 : Int32} {r : (Int32 × Int32 × Int32 × Int32 × (Nat → Int64) × (Nat → Int32))} (h : f_Main_swallow Y_clauses N_marbles N_chipped N_swallowed N_sweets N_day N_owners P_next P_kept P_acts W_refusals p0 = some r) : gMet B 2 yX10_swallow cX10_swallow 2 (some .int) [.ref (aC B 0), .int p0] (wdC B W_spillsNow W_drawn T_length T_at T_bytes D_cells D_clauses G_length G_code A_size A_chosen A_codes A_lengths A_stack Y_cells Y_clauses N_marbles N_chipped N_swallowed N_sweets N_day N_owners P_next P_kept P_hasImage P_image P_acts P_entries P_imageEntries S_fewest S_row S_strengths U_size U_found U_places U_kinds U_holds U_fitting U_tally L_letters L_firstCells L_secondCells L_firstBest L_secondBest W_refusals ++ fr) (some (.int r.1)) (wdC B W_spillsNow W_drawn T_length T_at T_bytes D_cells D_clauses G_length G_code A_size A_chosen A_codes A_lengths A_stack Y_cells Y_clauses N_marbles N_chipped r.2.1 N_sweets N_day N_owners r.2.2.1 r.2.2.2.1 P_hasImage P_image r.2.2.2.2.1 P_entries P_imageEntries S_fewest S_row S_strengths U_size U_found U_places U_kinds U_holds U_fitting U_tally L_letters L_firstCells L_secondCells L_firstBest L_secondBest r.2.2.2.2.2 ++ fr) :=
  gMet.of rfl (Nat.le_of_ble_eq_true rfl) (fun X hX hF => w_Main_swallow hX r h hF)
set_option maxRecDepth 4000 in
theorem w_Main_swap {p0 : Int32} {p1 : Int32} (hX : gOk B X RX10 cX10_swap 5 4 (some .int)) : gH B X (fun r : (Int32 × (Nat → Int32) × Int32 × Int32 × (Nat → Int64) × (Nat → Int32)) => gFin X (some (.int r.1)) (wdC B W_spillsNow W_drawn T_length T_at T_bytes D_cells D_clauses G_length G_code A_size A_chosen A_codes A_lengths A_stack Y_cells Y_clauses N_marbles N_chipped N_swallowed N_sweets N_day r.2.1 r.2.2.1 r.2.2.2.1 P_hasImage P_image r.2.2.2.2.1 P_entries P_imageEntries S_fewest S_row S_strengths U_size U_found U_places U_kinds U_holds U_fitting U_tally L_letters L_firstCells L_secondCells L_firstBest L_secondBest r.2.2.2.2.2 ++ fr)) 0 [(0, .ref (aC B 0)), (1, .int p0), (2, .int p1)] [] (wdC B W_spillsNow W_drawn T_length T_at T_bytes D_cells D_clauses G_length G_code A_size A_chosen A_codes A_lengths A_stack Y_cells Y_clauses N_marbles N_chipped N_swallowed N_sweets N_day N_owners P_next P_kept P_hasImage P_image P_acts P_entries P_imageEntries S_fewest S_row S_strengths U_size U_found U_places U_kinds U_holds U_fitting U_tally L_letters L_firstCells L_secondCells L_firstBest L_secondBest W_refusals ++ fr) (f_Main_swap Y_clauses N_marbles N_chipped N_swallowed N_sweets N_day N_owners P_next P_kept P_acts W_refusals p0 p1) := by
  unfold f_Main_swap
  refine h_aload_n hX dX10_swap_0 rfl rfl ?_
  refine get_RX10_85_C0 hX dX10_swap_1 ?_
  refine h_iload_n hX dX10_swap_4 rfl rfl ?_
  refine h_iconst hX dX10_swap_5 ki_1 ?_
  refine h_iload_n hX dX10_swap_6 rfl rfl ?_
  refine h_iconst hX dX10_swap_7 ki_1 ?_
  refine h_callVi hX dX10_swap_8 (cv_RX10_213) rc_C30 (As := [.int p0, .int 1, .int p1, .int 1]) (st := []) (fun _ h => c_Lane_refusalOf h) rfl rfl (by decide) (Nat.le_of_ble_eq_true rfl) (fun a_1 => ?_)
  refine h_istore_n hX dX10_swap_11 rfl (by decide) (lv' := [(0, .ref (aC B 0)), (1, .int p0), (2, .int p1), (3, .int a_1)]) rfl ?_
  refine h_iload_n hX dX10_swap_12 rfl rfl ?_
  refine h_iconst hX dX10_swap_13 ki_m1 ?_
  refine h_icmp_eq hX dX10_swap_14 (tgt := 23) (by decide) (fun _ => ?_) (fun _ => ?_)
  · refine h_aload_n hX dX10_swap_23 rfl rfl ?_
    refine get_RX10_58_C0 hX dX10_swap_24 ?_
    refine h_callVv hX dX10_swap_27 (cv_RX10_220) rc_C18 (As := []) (st := []) (fun _ h => c_Past_remember h) rfl rfl (by decide) (Nat.le_of_ble_eq_true rfl) (fun a_2 => ?_)
    refine h_aload_n hX dX10_swap_30 rfl rfl ?_
    refine get_RX10_49_C0 hX dX10_swap_31 ?_
    refine h_iload_n hX dX10_swap_34 rfl rfl ?_
    refine h_callVi hX dX10_swap_35 (cv_RX10_181) rc_C16 (As := [.int p0]) (st := []) (fun _ h => c_Now_ownerOf h) rfl rfl (by decide) (Nat.le_of_ble_eq_true rfl) (fun a_3 => ?_)
    refine h_istore hX dX10_swap_38 (by decide) (lv' := [(0, .ref (aC B 0)), (1, .int p0), (2, .int p1), (3, .int a_1), (4, .int a_3)]) rfl ?_
    refine h_aload_n hX dX10_swap_40 rfl rfl ?_
    refine get_RX10_49_C0 hX dX10_swap_41 ?_
    refine h_iload_n hX dX10_swap_44 rfl rfl ?_
    refine h_aload_n hX dX10_swap_45 rfl rfl ?_
    refine get_RX10_49_C0 hX dX10_swap_46 ?_
    refine h_iload_n hX dX10_swap_49 rfl rfl ?_
    refine h_callVi hX dX10_swap_50 (cv_RX10_181) rc_C16 (As := [.int p1]) (st := [.int p0, .ref (aC B 16)]) (fun _ h => c_Now_ownerOf h) rfl rfl (by decide) (Nat.le_of_ble_eq_true rfl) (fun a_4 => ?_)
    refine h_callVv hX dX10_swap_53 (cv_RX10_226) rc_C16 (As := [.int p0, .int a_4]) (st := []) (fun _ h => c_Now_hand h) rfl rfl (by decide) (Nat.le_of_ble_eq_true rfl) (fun a_5 => ?_)
    refine h_aload_n hX dX10_swap_56 rfl rfl ?_
    refine get_RX10_49_C0 hX dX10_swap_57 ?_
    refine h_iload_n hX dX10_swap_60 rfl rfl ?_
    refine h_iload hX dX10_swap_61 rfl ?_
    refine h_callVv hX dX10_swap_63 (cv_RX10_226) rc_C16 (As := [.int p1, .int a_3]) (st := []) (fun _ h => c_Now_hand h) rfl rfl (by decide) (Nat.le_of_ble_eq_true rfl) (fun a_6 => ?_)
    refine h_aload_n hX dX10_swap_66 rfl rfl ?_
    refine get_RX10_49_C0 hX dX10_swap_67 ?_
    refine h_iload_n hX dX10_swap_70 rfl rfl ?_
    refine h_callVi hX dX10_swap_71 (cv_RX10_181) rc_C16 (As := [.int p0]) (st := []) (fun _ h => c_Now_ownerOf h) rfl rfl (by decide) (Nat.le_of_ble_eq_true rfl) (fun a_7 => ?_)
    exact h_ret hX (rv := some (.int a_7)) dX10_swap_74 trivial (fun h => h)
  · refine h_aload_n hX dX10_swap_17 rfl rfl ?_
    refine h_iload_n hX dX10_swap_18 rfl rfl ?_
    refine h_callVi hX dX10_swap_19 (cv_RX10_217) rc_C0 (As := [.int a_1]) (st := []) (fun _ h => c_Main_refuse h) rfl rfl (by decide) (Nat.le_of_ble_eq_true rfl) (fun a_8 => ?_)
    exact h_ret hX (rv := some (.int a_8.1)) dX10_swap_22 trivial (fun h => h)
theorem c_Main_swap {p0 : Int32} {p1 : Int32} {r : (Int32 × (Nat → Int32) × Int32 × Int32 × (Nat → Int64) × (Nat → Int32))} (h : f_Main_swap Y_clauses N_marbles N_chipped N_swallowed N_sweets N_day N_owners P_next P_kept P_acts W_refusals p0 p1 = some r) : gMet B 4 yX10_swap cX10_swap 5 (some .int) [.ref (aC B 0), .int p0, .int p1] (wdC B W_spillsNow W_drawn T_length T_at T_bytes D_cells D_clauses G_length G_code A_size A_chosen A_codes A_lengths A_stack Y_cells Y_clauses N_marbles N_chipped N_swallowed N_sweets N_day N_owners P_next P_kept P_hasImage P_image P_acts P_entries P_imageEntries S_fewest S_row S_strengths U_size U_found U_places U_kinds U_holds U_fitting U_tally L_letters L_firstCells L_secondCells L_firstBest L_secondBest W_refusals ++ fr) (some (.int r.1)) (wdC B W_spillsNow W_drawn T_length T_at T_bytes D_cells D_clauses G_length G_code A_size A_chosen A_codes A_lengths A_stack Y_cells Y_clauses N_marbles N_chipped N_swallowed N_sweets N_day r.2.1 r.2.2.1 r.2.2.2.1 P_hasImage P_image r.2.2.2.2.1 P_entries P_imageEntries S_fewest S_row S_strengths U_size U_found U_places U_kinds U_holds U_fitting U_tally L_letters L_firstCells L_secondCells L_firstBest L_secondBest r.2.2.2.2.2 ++ fr) :=
  gMet.of rfl (Nat.le_of_ble_eq_true rfl) (fun X hX hF => w_Main_swap hX r h hF)
set_option maxRecDepth 4000 in
theorem w_YardR_draft (hX : gOk B X RX9 cX9_draft 1 0 (some (.object "WeatherMarbles$Yard"))) : gH B X (fun r : Unit => gFin X (some (.ref (aC B 4))) (wdC B W_spillsNow W_drawn T_length T_at T_bytes D_cells D_clauses G_length G_code A_size A_chosen A_codes A_lengths A_stack Y_cells Y_clauses N_marbles N_chipped N_swallowed N_sweets N_day N_owners P_next P_kept P_hasImage P_image P_acts P_entries P_imageEntries S_fewest S_row S_strengths U_size U_found U_places U_kinds U_holds U_fitting U_tally L_letters L_firstCells L_secondCells L_firstBest L_secondBest W_refusals ++ fr)) 0 [(0, .ref (aC B 3))] [] (wdC B W_spillsNow W_drawn T_length T_at T_bytes D_cells D_clauses G_length G_code A_size A_chosen A_codes A_lengths A_stack Y_cells Y_clauses N_marbles N_chipped N_swallowed N_sweets N_day N_owners P_next P_kept P_hasImage P_image P_acts P_entries P_imageEntries S_fewest S_row S_strengths U_size U_found U_places U_kinds U_holds U_fitting U_tally L_letters L_firstCells L_secondCells L_firstBest L_secondBest W_refusals ++ fr) (f_YardR_draft) := by
  unfold f_YardR_draft
  refine h_aload_n hX dX9_draft_0 rfl rfl ?_
  refine get_RX9_12_C3 hX dX9_draft_1 ?_
  exact h_ret hX (rv := some (.ref (aC B 4))) dX9_draft_4 trivial (fun h => h)
theorem c_YardR_draft {r : Unit} (h : f_YardR_draft = some r) : gMet B 0 yX9_draft cX9_draft 1 (some (.object "WeatherMarbles$Yard")) [.ref (aC B 3)] (wdC B W_spillsNow W_drawn T_length T_at T_bytes D_cells D_clauses G_length G_code A_size A_chosen A_codes A_lengths A_stack Y_cells Y_clauses N_marbles N_chipped N_swallowed N_sweets N_day N_owners P_next P_kept P_hasImage P_image P_acts P_entries P_imageEntries S_fewest S_row S_strengths U_size U_found U_places U_kinds U_holds U_fitting U_tally L_letters L_firstCells L_secondCells L_firstBest L_secondBest W_refusals ++ fr) (some (.ref (aC B 4))) (wdC B W_spillsNow W_drawn T_length T_at T_bytes D_cells D_clauses G_length G_code A_size A_chosen A_codes A_lengths A_stack Y_cells Y_clauses N_marbles N_chipped N_swallowed N_sweets N_day N_owners P_next P_kept P_hasImage P_image P_acts P_entries P_imageEntries S_fewest S_row S_strengths U_size U_found U_places U_kinds U_holds U_fitting U_tally L_letters L_firstCells L_secondCells L_firstBest L_secondBest W_refusals ++ fr) :=
  gMet.of rfl (Nat.le_of_ble_eq_true rfl) (fun X hX hF => w_YardR_draft hX r h hF)
set_option maxRecDepth 4000 in
theorem w_Yard_takeOver_C4 (hX : gOk B X RX8 cX8_takeOver 2 1 none) : gH B X (fun r : ((Nat → Int32) × (Nat → Int32)) => gFin X (none) (wdC B W_spillsNow W_drawn T_length T_at T_bytes D_cells D_clauses G_length G_code A_size A_chosen A_codes A_lengths A_stack r.1 r.2 N_marbles N_chipped N_swallowed N_sweets N_day N_owners P_next P_kept P_hasImage P_image P_acts P_entries P_imageEntries S_fewest S_row S_strengths U_size U_found U_places U_kinds U_holds U_fitting U_tally L_letters L_firstCells L_secondCells L_firstBest L_secondBest W_refusals ++ fr)) 0 [(0, .ref (aC B 13)), (1, .ref (aC B 4))] [] (wdC B W_spillsNow W_drawn T_length T_at T_bytes D_cells D_clauses G_length G_code A_size A_chosen A_codes A_lengths A_stack Y_cells Y_clauses N_marbles N_chipped N_swallowed N_sweets N_day N_owners P_next P_kept P_hasImage P_image P_acts P_entries P_imageEntries S_fewest S_row S_strengths U_size U_found U_places U_kinds U_holds U_fitting U_tally L_letters L_firstCells L_secondCells L_firstBest L_secondBest W_refusals ++ fr) (f_Yard_takeOver_C4 D_cells D_clauses Y_cells Y_clauses) := by
  unfold f_Yard_takeOver_C4
  refine h_aload_n hX dX8_takeOver_0 rfl rfl ?_
  refine get_RX8_9_C4 hX dX8_takeOver_1 ?_
  refine h_iconst hX dX8_takeOver_4 ki_0 ?_
  refine h_aload_n hX dX8_takeOver_5 rfl rfl ?_
  refine get_RX8_9_C13 hX dX8_takeOver_6 ?_
  refine h_iconst hX dX8_takeOver_9 ki_0 ?_
  refine h_aload_n hX dX8_takeOver_10 rfl rfl ?_
  refine get_RX8_9_C13 hX dX8_takeOver_11 ?_
  refine alen_C14 hX dX8_takeOver_14 ?_
  refine cpy_RX8_31_C5_C14 hX dX8_takeOver_15 ?_
  refine gH.letw (w := fun y => wdC B W_spillsNow W_drawn T_length T_at T_bytes D_cells D_clauses G_length G_code A_size A_chosen A_codes A_lengths A_stack y Y_clauses N_marbles N_chipped N_swallowed N_sweets N_day N_owners P_next P_kept P_hasImage P_image P_acts P_entries P_imageEntries S_fewest S_row S_strengths U_size U_found U_places U_kinds U_holds U_fitting U_tally L_letters L_firstCells L_secondCells L_firstBest L_secondBest W_refusals ++ fr) (fun Y_cells_1 => ?_)
  refine h_aload_n hX dX8_takeOver_18 rfl rfl ?_
  refine get_RX8_18_C4 hX dX8_takeOver_19 ?_
  refine h_iconst hX dX8_takeOver_22 ki_0 ?_
  refine h_aload_n hX dX8_takeOver_23 rfl rfl ?_
  refine get_RX8_18_C13 hX dX8_takeOver_24 ?_
  refine h_iconst hX dX8_takeOver_27 ki_0 ?_
  refine h_aload_n hX dX8_takeOver_28 rfl rfl ?_
  refine get_RX8_18_C13 hX dX8_takeOver_29 ?_
  refine alen_C15 hX dX8_takeOver_32 ?_
  refine cpy_RX8_31_C6_C15 hX dX8_takeOver_33 ?_
  refine gH.letw (w := fun y => wdC B W_spillsNow W_drawn T_length T_at T_bytes D_cells D_clauses G_length G_code A_size A_chosen A_codes A_lengths A_stack Y_cells_1 y N_marbles N_chipped N_swallowed N_sweets N_day N_owners P_next P_kept P_hasImage P_image P_acts P_entries P_imageEntries S_fewest S_row S_strengths U_size U_found U_places U_kinds U_holds U_fitting U_tally L_letters L_firstCells L_secondCells L_firstBest L_secondBest W_refusals ++ fr) (fun Y_clauses_2 => ?_)
  exact h_ret hX (rv := none) dX8_takeOver_36 trivial (fun h => h)
theorem c_Yard_takeOver_C4 {r : ((Nat → Int32) × (Nat → Int32))} (h : f_Yard_takeOver_C4 D_cells D_clauses Y_cells Y_clauses = some r) : gMet B 1 yX8_takeOver cX8_takeOver 2 none [.ref (aC B 13), .ref (aC B 4)] (wdC B W_spillsNow W_drawn T_length T_at T_bytes D_cells D_clauses G_length G_code A_size A_chosen A_codes A_lengths A_stack Y_cells Y_clauses N_marbles N_chipped N_swallowed N_sweets N_day N_owners P_next P_kept P_hasImage P_image P_acts P_entries P_imageEntries S_fewest S_row S_strengths U_size U_found U_places U_kinds U_holds U_fitting U_tally L_letters L_firstCells L_secondCells L_firstBest L_secondBest W_refusals ++ fr) (none) (wdC B W_spillsNow W_drawn T_length T_at T_bytes D_cells D_clauses G_length G_code A_size A_chosen A_codes A_lengths A_stack r.1 r.2 N_marbles N_chipped N_swallowed N_sweets N_day N_owners P_next P_kept P_hasImage P_image P_acts P_entries P_imageEntries S_fewest S_row S_strengths U_size U_found U_places U_kinds U_holds U_fitting U_tally L_letters L_firstCells L_secondCells L_firstBest L_secondBest W_refusals ++ fr) :=
  gMet.of rfl (Nat.le_of_ble_eq_true rfl) (fun X hX hF => w_Yard_takeOver_C4 hX r h hF)
set_option maxRecDepth 4000 in
theorem w_Yard_firstOwner {p0 : Int32} (hX : gOk B X RX8 cX8_firstOwner 2 1 (some .int)) : gH B X (fun r : Int32 => gFin X (some (.int r)) (wdC B W_spillsNow W_drawn T_length T_at T_bytes D_cells D_clauses G_length G_code A_size A_chosen A_codes A_lengths A_stack Y_cells Y_clauses N_marbles N_chipped N_swallowed N_sweets N_day N_owners P_next P_kept P_hasImage P_image P_acts P_entries P_imageEntries S_fewest S_row S_strengths U_size U_found U_places U_kinds U_holds U_fitting U_tally L_letters L_firstCells L_secondCells L_firstBest L_secondBest W_refusals ++ fr)) 0 [(0, .ref (aC B 13)), (1, .int p0)] [] (wdC B W_spillsNow W_drawn T_length T_at T_bytes D_cells D_clauses G_length G_code A_size A_chosen A_codes A_lengths A_stack Y_cells Y_clauses N_marbles N_chipped N_swallowed N_sweets N_day N_owners P_next P_kept P_hasImage P_image P_acts P_entries P_imageEntries S_fewest S_row S_strengths U_size U_found U_places U_kinds U_holds U_fitting U_tally L_letters L_firstCells L_secondCells L_firstBest L_secondBest W_refusals ++ fr) (f_Yard_firstOwner Y_cells p0) := by
  unfold f_Yard_firstOwner
  refine h_aload_n hX dX8_firstOwner_0 rfl rfl ?_
  refine h_iconst hX dX8_firstOwner_1 ki_2 ?_
  refine h_iload_n hX dX8_firstOwner_2 rfl rfl ?_
  refine h_iconst hX dX8_firstOwner_3 ki_0 ?_
  refine h_callVi hX dX8_firstOwner_4 (cv_RX8_60) rc_C13 (As := [.int 2, .int p0, .int 0]) (st := []) (fun _ h => c_Yard_cell h) rfl rfl (by decide) (Nat.le_of_ble_eq_true rfl) (fun a_1 => ?_)
  exact h_ret hX (rv := some (.int a_1)) dX8_firstOwner_7 trivial (fun h => h)
theorem c_Yard_firstOwner {p0 : Int32} {r : Int32} (h : f_Yard_firstOwner Y_cells p0 = some r) : gMet B 1 yX8_firstOwner cX8_firstOwner 2 (some .int) [.ref (aC B 13), .int p0] (wdC B W_spillsNow W_drawn T_length T_at T_bytes D_cells D_clauses G_length G_code A_size A_chosen A_codes A_lengths A_stack Y_cells Y_clauses N_marbles N_chipped N_swallowed N_sweets N_day N_owners P_next P_kept P_hasImage P_image P_acts P_entries P_imageEntries S_fewest S_row S_strengths U_size U_found U_places U_kinds U_holds U_fitting U_tally L_letters L_firstCells L_secondCells L_firstBest L_secondBest W_refusals ++ fr) (some (.int r)) (wdC B W_spillsNow W_drawn T_length T_at T_bytes D_cells D_clauses G_length G_code A_size A_chosen A_codes A_lengths A_stack Y_cells Y_clauses N_marbles N_chipped N_swallowed N_sweets N_day N_owners P_next P_kept P_hasImage P_image P_acts P_entries P_imageEntries S_fewest S_row S_strengths U_size U_found U_places U_kinds U_holds U_fitting U_tally L_letters L_firstCells L_secondCells L_firstBest L_secondBest W_refusals ++ fr) :=
  gMet.of rfl (Nat.le_of_ble_eq_true rfl) (fun X hX hF => w_Yard_firstOwner hX r h hF)
set_option maxRecDepth 4000 in
theorem w_Yard_firstSweets (hX : gOk B X RX8 cX8_firstSweets 1 1 (some .int)) : gH B X (fun r : Int32 => gFin X (some (.int r)) (wdC B W_spillsNow W_drawn T_length T_at T_bytes D_cells D_clauses G_length G_code A_size A_chosen A_codes A_lengths A_stack Y_cells Y_clauses N_marbles N_chipped N_swallowed N_sweets N_day N_owners P_next P_kept P_hasImage P_image P_acts P_entries P_imageEntries S_fewest S_row S_strengths U_size U_found U_places U_kinds U_holds U_fitting U_tally L_letters L_firstCells L_secondCells L_firstBest L_secondBest W_refusals ++ fr)) 0 [(0, .ref (aC B 13))] [] (wdC B W_spillsNow W_drawn T_length T_at T_bytes D_cells D_clauses G_length G_code A_size A_chosen A_codes A_lengths A_stack Y_cells Y_clauses N_marbles N_chipped N_swallowed N_sweets N_day N_owners P_next P_kept P_hasImage P_image P_acts P_entries P_imageEntries S_fewest S_row S_strengths U_size U_found U_places U_kinds U_holds U_fitting U_tally L_letters L_firstCells L_secondCells L_firstBest L_secondBest W_refusals ++ fr) (f_Yard_firstSweets Y_cells) := by
  unfold f_Yard_firstSweets
  refine h_aload_n hX dX8_firstSweets_0 rfl rfl ?_
  refine h_iconst hX dX8_firstSweets_1 ki_0 ?_
  refine h_iconst hX dX8_firstSweets_2 ki_0 ?_
  refine h_iconst hX dX8_firstSweets_3 ki_2 ?_
  refine h_callVi hX dX8_firstSweets_4 (cv_RX8_60) rc_C13 (As := [.int 0, .int 0, .int 2]) (st := []) (fun _ h => c_Yard_cell h) rfl rfl (by decide) (Nat.le_of_ble_eq_true rfl) (fun a_1 => ?_)
  exact h_ret hX (rv := some (.int a_1)) dX8_firstSweets_7 trivial (fun h => h)
theorem c_Yard_firstSweets {r : Int32} (h : f_Yard_firstSweets Y_cells = some r) : gMet B 1 yX8_firstSweets cX8_firstSweets 1 (some .int) [.ref (aC B 13)] (wdC B W_spillsNow W_drawn T_length T_at T_bytes D_cells D_clauses G_length G_code A_size A_chosen A_codes A_lengths A_stack Y_cells Y_clauses N_marbles N_chipped N_swallowed N_sweets N_day N_owners P_next P_kept P_hasImage P_image P_acts P_entries P_imageEntries S_fewest S_row S_strengths U_size U_found U_places U_kinds U_holds U_fitting U_tally L_letters L_firstCells L_secondCells L_firstBest L_secondBest W_refusals ++ fr) (some (.int r)) (wdC B W_spillsNow W_drawn T_length T_at T_bytes D_cells D_clauses G_length G_code A_size A_chosen A_codes A_lengths A_stack Y_cells Y_clauses N_marbles N_chipped N_swallowed N_sweets N_day N_owners P_next P_kept P_hasImage P_image P_acts P_entries P_imageEntries S_fewest S_row S_strengths U_size U_found U_places U_kinds U_holds U_fitting U_tally L_letters L_firstCells L_secondCells L_firstBest L_secondBest W_refusals ++ fr) :=
  gMet.of rfl (Nat.le_of_ble_eq_true rfl) (fun X hX hF => w_Yard_firstSweets hX r h hF)
set_option maxRecDepth 4000 in
theorem w_Now_begin_C13_L15 (hX : gOk B X RX4 cX4_begin 3 2 none) (s : (Int32 × (Nat → Int32))) : gH B X (Sum.elim (fun s : (Int32 × (Nat → Int32)) => gG B X 15 [(0, .ref (aC B 16)), (1, .ref (aC B 13)), (2, .int s.1)] [] (wdC B W_spillsNow W_drawn T_length T_at T_bytes D_cells D_clauses G_length G_code A_size A_chosen A_codes A_lengths A_stack Y_cells Y_clauses N_marbles N_chipped N_swallowed N_sweets N_day s.2 P_next P_kept P_hasImage P_image P_acts P_entries P_imageEntries S_fewest S_row S_strengths U_size U_found U_places U_kinds U_holds U_fitting U_tally L_letters L_firstCells L_secondCells L_firstBest L_secondBest W_refusals ++ fr)) (fun r : (Int32 × Int32 × Int32 × Int32 × Int32 × (Nat → Int32)) => gFin X (none) (wdC B W_spillsNow W_drawn T_length T_at T_bytes D_cells D_clauses G_length G_code A_size A_chosen A_codes A_lengths A_stack Y_cells Y_clauses r.1 r.2.1 r.2.2.1 r.2.2.2.1 r.2.2.2.2.1 r.2.2.2.2.2 P_next P_kept P_hasImage P_image P_acts P_entries P_imageEntries S_fewest S_row S_strengths U_size U_found U_places U_kinds U_holds U_fitting U_tally L_letters L_firstCells L_secondCells L_firstBest L_secondBest W_refusals ++ fr))) 15 [(0, .ref (aC B 16)), (1, .ref (aC B 13)), (2, .int s.1)] [] (wdC B W_spillsNow W_drawn T_length T_at T_bytes D_cells D_clauses G_length G_code A_size A_chosen A_codes A_lengths A_stack Y_cells Y_clauses N_marbles N_chipped N_swallowed N_sweets N_day s.2 P_next P_kept P_hasImage P_image P_acts P_entries P_imageEntries S_fewest S_row S_strengths U_size U_found U_places U_kinds U_holds U_fitting U_tally L_letters L_firstCells L_secondCells L_firstBest L_secondBest W_refusals ++ fr) (f_Now_begin_C13_L15 Y_cells N_marbles s) := by
  unfold f_Now_begin_C13_L15
  refine h_iload_n hX dX4_begin_15 rfl rfl ?_
  refine h_aload_n hX dX4_begin_16 rfl rfl ?_
  refine get_RX4_27_C16 hX dX4_begin_17 ?_
  refine h_icmp_ge hX dX4_begin_20 (tgt := 40) (by decide) (fun _ => ?_) (fun _ => ?_)
  · refine gH.inr ?_
    refine h_aload_n hX dX4_begin_40 rfl rfl ?_
    refine h_iconst hX dX4_begin_41 ki_0 ?_
    refine put_RX4_34_C16 hX dX4_begin_42 ?_
    refine h_aload_n hX dX4_begin_45 rfl rfl ?_
    refine h_iconst hX dX4_begin_46 ki_0 ?_
    refine put_RX4_37_C16 hX dX4_begin_47 ?_
    refine h_aload_n hX dX4_begin_50 rfl rfl ?_
    refine h_aload_n hX dX4_begin_51 rfl rfl ?_
    refine h_callVi hX dX4_begin_52 (cv_RX4_40) rc_C13 (As := []) (st := [.ref (aC B 16)]) (fun _ h => c_Yard_firstSweets h) rfl rfl (by decide) (Nat.le_of_ble_eq_true rfl) (fun a_3 => ?_)
    refine put_RX4_43_C16 hX dX4_begin_55 ?_
    refine h_aload_n hX dX4_begin_58 rfl rfl ?_
    refine h_iconst hX dX4_begin_59 ki_0 ?_
    refine put_RX4_46_C16 hX dX4_begin_60 ?_
    exact h_ret hX (rv := none) dX4_begin_63 trivial (fun h => h)
  · refine h_aload_n hX dX4_begin_23 rfl rfl ?_
    refine get_RX4_9_C16 hX dX4_begin_24 ?_
    refine h_iload_n hX dX4_begin_27 rfl rfl ?_
    refine h_aload_n hX dX4_begin_28 rfl rfl ?_
    refine h_iload_n hX dX4_begin_29 rfl rfl ?_
    refine h_callVi hX dX4_begin_30 (cv_RX4_30) rc_C13 (As := [.int s.1]) (st := [.int s.1, .ref (aC B 17)]) (fun _ h => c_Yard_firstOwner h) rfl rfl (by decide) (Nat.le_of_ble_eq_true rfl) (fun a_4 => ?_)
    refine ast_C17 hX dX4_begin_33 ?_
    refine gH.letw (w := fun y => wdC B W_spillsNow W_drawn T_length T_at T_bytes D_cells D_clauses G_length G_code A_size A_chosen A_codes A_lengths A_stack Y_cells Y_clauses N_marbles N_chipped N_swallowed N_sweets N_day y P_next P_kept P_hasImage P_image P_acts P_entries P_imageEntries S_fewest S_row S_strengths U_size U_found U_places U_kinds U_holds U_fitting U_tally L_letters L_firstCells L_secondCells L_firstBest L_secondBest W_refusals ++ fr) (fun N_owners_5 => ?_)
    refine h_iincc hX dX4_begin_34 rfl ki_1 (by decide) (lv' := [(0, .ref (aC B 16)), (1, .ref (aC B 13)), (2, .int (s.1 + 1))]) rfl ?_
    refine h_goto hX dX4_begin_37 (tgt := 15) (by decide) ?_
    exact gH.some' (fun h => h)
set_option maxRecDepth 4000 in
theorem w_Now_begin_C13 (hX : gOk B X RX4 cX4_begin 3 2 none) : gH B X (fun r : (Int32 × Int32 × Int32 × Int32 × Int32 × (Nat → Int32)) => gFin X (none) (wdC B W_spillsNow W_drawn T_length T_at T_bytes D_cells D_clauses G_length G_code A_size A_chosen A_codes A_lengths A_stack Y_cells Y_clauses r.1 r.2.1 r.2.2.1 r.2.2.2.1 r.2.2.2.2.1 r.2.2.2.2.2 P_next P_kept P_hasImage P_image P_acts P_entries P_imageEntries S_fewest S_row S_strengths U_size U_found U_places U_kinds U_holds U_fitting U_tally L_letters L_firstCells L_secondCells L_firstBest L_secondBest W_refusals ++ fr)) 0 [(0, .ref (aC B 16)), (1, .ref (aC B 13))] [] (wdC B W_spillsNow W_drawn T_length T_at T_bytes D_cells D_clauses G_length G_code A_size A_chosen A_codes A_lengths A_stack Y_cells Y_clauses N_marbles N_chipped N_swallowed N_sweets N_day N_owners P_next P_kept P_hasImage P_image P_acts P_entries P_imageEntries S_fewest S_row S_strengths U_size U_found U_places U_kinds U_holds U_fitting U_tally L_letters L_firstCells L_secondCells L_firstBest L_secondBest W_refusals ++ fr) (f_Now_begin_C13 Y_cells Y_clauses N_marbles N_chipped N_swallowed N_sweets N_day N_owners) := by
  unfold f_Now_begin_C13
  refine h_aload_n hX dX4_begin_0 rfl rfl ?_
  refine h_aload_n hX dX4_begin_1 rfl rfl ?_
  refine h_callVi hX dX4_begin_2 (cv_RX4_15) rc_C13 (As := []) (st := [.ref (aC B 16)]) (fun _ h => c_Yard_marbles h) rfl rfl (by decide) (Nat.le_of_ble_eq_true rfl) (fun a_1 => ?_)
  refine h_bipush hX dX4_begin_5 kb_6 ?_
  refine h_jmin hX dX4_begin_7 cm_RX4_21 (by omega) (Nat.le_of_ble_eq_true rfl) ?_
  refine put_RX4_27_C16 hX dX4_begin_10 ?_
  refine gH.letw (w := fun y => wdC B W_spillsNow W_drawn T_length T_at T_bytes D_cells D_clauses G_length G_code A_size A_chosen A_codes A_lengths A_stack Y_cells Y_clauses y N_chipped N_swallowed N_sweets N_day N_owners P_next P_kept P_hasImage P_image P_acts P_entries P_imageEntries S_fewest S_row S_strengths U_size U_found U_places U_kinds U_holds U_fitting U_tally L_letters L_firstCells L_secondCells L_firstBest L_secondBest W_refusals ++ fr) (fun N_marbles_2 => ?_)
  refine h_iconst hX dX4_begin_13 ki_0 ?_
  refine h_istore_n hX dX4_begin_14 rfl (by decide) (lv' := [(0, .ref (aC B 16)), (1, .ref (aC B 13)), (2, .int 0)]) rfl ?_
  exact gH.loop (lvf := fun z : (Int32 × (Nat → Int32)) => [(0, .ref (aC B 16)), (1, .ref (aC B 13)), (2, .int z.1)]) (wf := fun z : (Int32 × (Nat → Int32)) => wdC B W_spillsNow W_drawn T_length T_at T_bytes D_cells D_clauses G_length G_code A_size A_chosen A_codes A_lengths A_stack Y_cells Y_clauses N_marbles_2 N_chipped N_swallowed N_sweets N_day z.2 P_next P_kept P_hasImage P_image P_acts P_entries P_imageEntries S_fewest S_row S_strengths U_size U_found U_places U_kinds U_holds U_fitting U_tally L_letters L_firstCells L_secondCells L_firstBest L_secondBest W_refusals ++ fr) (fun z => w_Now_begin_C13_L15 hX z) (0, N_owners)
theorem c_Now_begin_C13 {r : (Int32 × Int32 × Int32 × Int32 × Int32 × (Nat → Int32))} (h : f_Now_begin_C13 Y_cells Y_clauses N_marbles N_chipped N_swallowed N_sweets N_day N_owners = some r) : gMet B 2 yX4_begin cX4_begin 3 none [.ref (aC B 16), .ref (aC B 13)] (wdC B W_spillsNow W_drawn T_length T_at T_bytes D_cells D_clauses G_length G_code A_size A_chosen A_codes A_lengths A_stack Y_cells Y_clauses N_marbles N_chipped N_swallowed N_sweets N_day N_owners P_next P_kept P_hasImage P_image P_acts P_entries P_imageEntries S_fewest S_row S_strengths U_size U_found U_places U_kinds U_holds U_fitting U_tally L_letters L_firstCells L_secondCells L_firstBest L_secondBest W_refusals ++ fr) (none) (wdC B W_spillsNow W_drawn T_length T_at T_bytes D_cells D_clauses G_length G_code A_size A_chosen A_codes A_lengths A_stack Y_cells Y_clauses r.1 r.2.1 r.2.2.1 r.2.2.2.1 r.2.2.2.2.1 r.2.2.2.2.2 P_next P_kept P_hasImage P_image P_acts P_entries P_imageEntries S_fewest S_row S_strengths U_size U_found U_places U_kinds U_holds U_fitting U_tally L_letters L_firstCells L_secondCells L_firstBest L_secondBest W_refusals ++ fr) :=
  gMet.of rfl (Nat.le_of_ble_eq_true rfl) (fun X hX hF => w_Now_begin_C13 hX r h hF)
set_option maxRecDepth 4000 in
theorem w_Past_forgetAll (hX : gOk B X RX5 cX5_forgetAll 1 0 none) : gH B X (fun r : (Int32 × Int32) => gFin X (none) (wdC B W_spillsNow W_drawn T_length T_at T_bytes D_cells D_clauses G_length G_code A_size A_chosen A_codes A_lengths A_stack Y_cells Y_clauses N_marbles N_chipped N_swallowed N_sweets N_day N_owners P_next r.1 r.2 P_image P_acts P_entries P_imageEntries S_fewest S_row S_strengths U_size U_found U_places U_kinds U_holds U_fitting U_tally L_letters L_firstCells L_secondCells L_firstBest L_secondBest W_refusals ++ fr)) 0 [(0, .ref (aC B 18))] [] (wdC B W_spillsNow W_drawn T_length T_at T_bytes D_cells D_clauses G_length G_code A_size A_chosen A_codes A_lengths A_stack Y_cells Y_clauses N_marbles N_chipped N_swallowed N_sweets N_day N_owners P_next P_kept P_hasImage P_image P_acts P_entries P_imageEntries S_fewest S_row S_strengths U_size U_found U_places U_kinds U_holds U_fitting U_tally L_letters L_firstCells L_secondCells L_firstBest L_secondBest W_refusals ++ fr) (f_Past_forgetAll P_kept P_hasImage) := by
  unfold f_Past_forgetAll
  refine h_aload_n hX dX5_forgetAll_0 rfl rfl ?_
  refine h_iconst hX dX5_forgetAll_1 ki_0 ?_
  refine put_RX5_26_C18 hX dX5_forgetAll_2 ?_
  refine h_aload_n hX dX5_forgetAll_5 rfl rfl ?_
  refine h_iconst hX dX5_forgetAll_6 ki_0 ?_
  refine put_RX5_30_C18 hX dX5_forgetAll_7 rfl rfl ?_
  exact h_ret hX (rv := none) dX5_forgetAll_10 trivial (fun h => h)
theorem c_Past_forgetAll {r : (Int32 × Int32)} (h : f_Past_forgetAll P_kept P_hasImage = some r) : gMet B 0 yX5_forgetAll cX5_forgetAll 1 none [.ref (aC B 18)] (wdC B W_spillsNow W_drawn T_length T_at T_bytes D_cells D_clauses G_length G_code A_size A_chosen A_codes A_lengths A_stack Y_cells Y_clauses N_marbles N_chipped N_swallowed N_sweets N_day N_owners P_next P_kept P_hasImage P_image P_acts P_entries P_imageEntries S_fewest S_row S_strengths U_size U_found U_places U_kinds U_holds U_fitting U_tally L_letters L_firstCells L_secondCells L_firstBest L_secondBest W_refusals ++ fr) (none) (wdC B W_spillsNow W_drawn T_length T_at T_bytes D_cells D_clauses G_length G_code A_size A_chosen A_codes A_lengths A_stack Y_cells Y_clauses N_marbles N_chipped N_swallowed N_sweets N_day N_owners P_next r.1 r.2 P_image P_acts P_entries P_imageEntries S_fewest S_row S_strengths U_size U_found U_places U_kinds U_holds U_fitting U_tally L_letters L_firstCells L_secondCells L_firstBest L_secondBest W_refusals ++ fr) :=
  gMet.of rfl (Nat.le_of_ble_eq_true rfl) (fun X hX hF => w_Past_forgetAll hX r h hF)
set_option maxRecDepth 4000 in
theorem w_LawR_copyCode_C10_L2 {v2 : Int32} (hX : gOk B X RX2 cX2_copyCode 4 0 (some .int)) (s : (Int32 × (Nat → Int32))) : gH B X (Sum.elim (fun s : (Int32 × (Nat → Int32)) => gG B X 2 [(0, .ref (aC B 7)), (1, .ref (aC B 10)), (2, .int v2), (3, .int s.1)] [] (wdC B W_spillsNow W_drawn T_length T_at T_bytes D_cells D_clauses G_length G_code A_size A_chosen s.2 A_lengths A_stack Y_cells Y_clauses N_marbles N_chipped N_swallowed N_sweets N_day N_owners P_next P_kept P_hasImage P_image P_acts P_entries P_imageEntries S_fewest S_row S_strengths U_size U_found U_places U_kinds U_holds U_fitting U_tally L_letters L_firstCells L_secondCells L_firstBest L_secondBest W_refusals ++ fr)) (fun r : (Int32 × (Nat → Int32)) => gFin X (some (.int r.1)) (wdC B W_spillsNow W_drawn T_length T_at T_bytes D_cells D_clauses G_length G_code A_size A_chosen r.2 A_lengths A_stack Y_cells Y_clauses N_marbles N_chipped N_swallowed N_sweets N_day N_owners P_next P_kept P_hasImage P_image P_acts P_entries P_imageEntries S_fewest S_row S_strengths U_size U_found U_places U_kinds U_holds U_fitting U_tally L_letters L_firstCells L_secondCells L_firstBest L_secondBest W_refusals ++ fr))) 2 [(0, .ref (aC B 7)), (1, .ref (aC B 10)), (2, .int v2), (3, .int s.1)] [] (wdC B W_spillsNow W_drawn T_length T_at T_bytes D_cells D_clauses G_length G_code A_size A_chosen s.2 A_lengths A_stack Y_cells Y_clauses N_marbles N_chipped N_swallowed N_sweets N_day N_owners P_next P_kept P_hasImage P_image P_acts P_entries P_imageEntries S_fewest S_row S_strengths U_size U_found U_places U_kinds U_holds U_fitting U_tally L_letters L_firstCells L_secondCells L_firstBest L_secondBest W_refusals ++ fr) (f_LawR_copyCode_C10_L2 G_length G_code v2 s) := by
  unfold f_LawR_copyCode_C10_L2
  refine h_iload_n hX dX2_copyCode_2 rfl rfl ?_
  refine h_aload_n hX dX2_copyCode_3 rfl rfl ?_
  refine get_RX2_19_C7 hX dX2_copyCode_4 ?_
  refine h_icmp_ge hX dX2_copyCode_7 (tgt := 35) (by decide) (fun _ => ?_) (fun _ => ?_)
  · refine h_aload_n hX dX2_copyCode_35 rfl rfl ?_
    refine get_RX2_19_C7 hX dX2_copyCode_36 ?_
    exact h_ret hX (rv := some (.int G_length)) dX2_copyCode_39 trivial (fun h => h)
  · refine h_iload_n hX dX2_copyCode_10 rfl rfl ?_
    refine h_iload_n hX dX2_copyCode_11 rfl rfl ?_
    refine h_iadd hX dX2_copyCode_12 ?_
    refine h_aload_n hX dX2_copyCode_13 rfl rfl ?_
    refine alen_C10 hX dX2_copyCode_14 ?_
    refine h_icmp_ge hX dX2_copyCode_15 (tgt := 35) (by decide) (fun _ => ?_) (fun _ => ?_)
    · refine h_aload_n hX dX2_copyCode_35 rfl rfl ?_
      refine get_RX2_19_C7 hX dX2_copyCode_36 ?_
      exact h_ret hX (rv := some (.int G_length)) dX2_copyCode_39 trivial (fun h => h)
    · refine h_aload_n hX dX2_copyCode_18 rfl rfl ?_
      refine h_iload_n hX dX2_copyCode_19 rfl rfl ?_
      refine h_iload_n hX dX2_copyCode_20 rfl rfl ?_
      refine h_iadd hX dX2_copyCode_21 ?_
      refine h_aload_n hX dX2_copyCode_22 rfl rfl ?_
      refine get_RX2_9_C7 hX dX2_copyCode_23 ?_
      refine h_iload_n hX dX2_copyCode_26 rfl rfl ?_
      refine ald_C8 hX dX2_copyCode_27 ?_
      refine ast_C10 hX dX2_copyCode_28 ?_
      refine gH.letw (w := fun y => wdC B W_spillsNow W_drawn T_length T_at T_bytes D_cells D_clauses G_length G_code A_size A_chosen y A_lengths A_stack Y_cells Y_clauses N_marbles N_chipped N_swallowed N_sweets N_day N_owners P_next P_kept P_hasImage P_image P_acts P_entries P_imageEntries S_fewest S_row S_strengths U_size U_found U_places U_kinds U_holds U_fitting U_tally L_letters L_firstCells L_secondCells L_firstBest L_secondBest W_refusals ++ fr) (fun A_codes_1 => ?_)
      refine h_iincc hX dX2_copyCode_29 rfl ki_1 (by decide) (lv' := [(0, .ref (aC B 7)), (1, .ref (aC B 10)), (2, .int v2), (3, .int (s.1 + 1))]) rfl ?_
      refine h_goto hX dX2_copyCode_32 (tgt := 2) (by decide) ?_
      exact gH.some' (fun h => h)
set_option maxRecDepth 4000 in
theorem w_LawR_copyCode_C10 {p0 : Int32} (hX : gOk B X RX2 cX2_copyCode 4 0 (some .int)) : gH B X (fun r : (Int32 × (Nat → Int32)) => gFin X (some (.int r.1)) (wdC B W_spillsNow W_drawn T_length T_at T_bytes D_cells D_clauses G_length G_code A_size A_chosen r.2 A_lengths A_stack Y_cells Y_clauses N_marbles N_chipped N_swallowed N_sweets N_day N_owners P_next P_kept P_hasImage P_image P_acts P_entries P_imageEntries S_fewest S_row S_strengths U_size U_found U_places U_kinds U_holds U_fitting U_tally L_letters L_firstCells L_secondCells L_firstBest L_secondBest W_refusals ++ fr)) 0 [(0, .ref (aC B 7)), (1, .ref (aC B 10)), (2, .int p0)] [] (wdC B W_spillsNow W_drawn T_length T_at T_bytes D_cells D_clauses G_length G_code A_size A_chosen A_codes A_lengths A_stack Y_cells Y_clauses N_marbles N_chipped N_swallowed N_sweets N_day N_owners P_next P_kept P_hasImage P_image P_acts P_entries P_imageEntries S_fewest S_row S_strengths U_size U_found U_places U_kinds U_holds U_fitting U_tally L_letters L_firstCells L_secondCells L_firstBest L_secondBest W_refusals ++ fr) (f_LawR_copyCode_C10 G_length G_code A_codes p0) := by
  unfold f_LawR_copyCode_C10
  refine h_iconst hX dX2_copyCode_0 ki_0 ?_
  refine h_istore_n hX dX2_copyCode_1 rfl (by decide) (lv' := [(0, .ref (aC B 7)), (1, .ref (aC B 10)), (2, .int p0), (3, .int 0)]) rfl ?_
  exact gH.loop (lvf := fun z : (Int32 × (Nat → Int32)) => [(0, .ref (aC B 7)), (1, .ref (aC B 10)), (2, .int p0), (3, .int z.1)]) (wf := fun z : (Int32 × (Nat → Int32)) => wdC B W_spillsNow W_drawn T_length T_at T_bytes D_cells D_clauses G_length G_code A_size A_chosen z.2 A_lengths A_stack Y_cells Y_clauses N_marbles N_chipped N_swallowed N_sweets N_day N_owners P_next P_kept P_hasImage P_image P_acts P_entries P_imageEntries S_fewest S_row S_strengths U_size U_found U_places U_kinds U_holds U_fitting U_tally L_letters L_firstCells L_secondCells L_firstBest L_secondBest W_refusals ++ fr) (fun z => w_LawR_copyCode_C10_L2 hX z) (0, A_codes)
theorem c_LawR_copyCode_C10 {p0 : Int32} {r : (Int32 × (Nat → Int32))} (h : f_LawR_copyCode_C10 G_length G_code A_codes p0 = some r) : gMet B 0 yX2_copyCode cX2_copyCode 4 (some .int) [.ref (aC B 7), .ref (aC B 10), .int p0] (wdC B W_spillsNow W_drawn T_length T_at T_bytes D_cells D_clauses G_length G_code A_size A_chosen A_codes A_lengths A_stack Y_cells Y_clauses N_marbles N_chipped N_swallowed N_sweets N_day N_owners P_next P_kept P_hasImage P_image P_acts P_entries P_imageEntries S_fewest S_row S_strengths U_size U_found U_places U_kinds U_holds U_fitting U_tally L_letters L_firstCells L_secondCells L_firstBest L_secondBest W_refusals ++ fr) (some (.int r.1)) (wdC B W_spillsNow W_drawn T_length T_at T_bytes D_cells D_clauses G_length G_code A_size A_chosen r.2 A_lengths A_stack Y_cells Y_clauses N_marbles N_chipped N_swallowed N_sweets N_day N_owners P_next P_kept P_hasImage P_image P_acts P_entries P_imageEntries S_fewest S_row S_strengths U_size U_found U_places U_kinds U_holds U_fitting U_tally L_letters L_firstCells L_secondCells L_firstBest L_secondBest W_refusals ++ fr) :=
  gMet.of rfl (Nat.le_of_ble_eq_true rfl) (fun X hX hF => w_LawR_copyCode_C10 hX r h hF)
set_option maxRecDepth 4000 in
theorem w_Laws_add_C7 (hX : gOk B X RX3 cX3_add 2 1 none) : gH B X (fun r : (Int32 × (Nat → Int32) × (Nat → Int32)) => gFin X (none) (wdC B W_spillsNow W_drawn T_length T_at T_bytes D_cells D_clauses G_length G_code r.1 A_chosen r.2.1 r.2.2 A_stack Y_cells Y_clauses N_marbles N_chipped N_swallowed N_sweets N_day N_owners P_next P_kept P_hasImage P_image P_acts P_entries P_imageEntries S_fewest S_row S_strengths U_size U_found U_places U_kinds U_holds U_fitting U_tally L_letters L_firstCells L_secondCells L_firstBest L_secondBest W_refusals ++ fr)) 0 [(0, .ref (aC B 9)), (1, .ref (aC B 7))] [] (wdC B W_spillsNow W_drawn T_length T_at T_bytes D_cells D_clauses G_length G_code A_size A_chosen A_codes A_lengths A_stack Y_cells Y_clauses N_marbles N_chipped N_swallowed N_sweets N_day N_owners P_next P_kept P_hasImage P_image P_acts P_entries P_imageEntries S_fewest S_row S_strengths U_size U_found U_places U_kinds U_holds U_fitting U_tally L_letters L_firstCells L_secondCells L_firstBest L_secondBest W_refusals ++ fr) (f_Laws_add_C7 G_length G_code A_size A_codes A_lengths) := by
  unfold f_Laws_add_C7
  refine h_aload_n hX dX3_add_0 rfl rfl ?_
  refine get_RX3_25_C9 hX dX3_add_1 ?_
  refine h_iconst hX dX3_add_4 ki_4 ?_
  refine h_icmp_ge hX dX3_add_5 (tgt := 43) (by decide) (fun _ => ?_) (fun _ => ?_)
  · exact h_ret hX (rv := none) dX3_add_43 trivial (fun h => h)
  · refine h_aload_n hX dX3_add_8 rfl rfl ?_
    refine get_RX3_15_C9 hX dX3_add_9 ?_
    refine h_aload_n hX dX3_add_12 rfl rfl ?_
    refine get_RX3_25_C9 hX dX3_add_13 ?_
    refine h_aload_n hX dX3_add_16 rfl rfl ?_
    refine h_aload_n hX dX3_add_17 rfl rfl ?_
    refine get_RX3_9_C9 hX dX3_add_18 ?_
    refine h_aload_n hX dX3_add_21 rfl rfl ?_
    refine get_RX3_25_C9 hX dX3_add_22 ?_
    refine h_sipush hX dX3_add_25 ks_240 ?_
    refine h_imul hX dX3_add_28 ?_
    refine h_callVi hX dX3_add_29 (cv_RX3_28) rc_C7 (As := [.ref (aC B 10), .int (A_size * 240)]) (st := [.int A_size, .ref (aC B 11)]) (fun _ h => c_LawR_copyCode_C10 h) rfl rfl (by decide) (Nat.le_of_ble_eq_true rfl) (fun a_1 => ?_)
    refine ast_C11 hX dX3_add_32 ?_
    refine gH.letw (w := fun y => wdC B W_spillsNow W_drawn T_length T_at T_bytes D_cells D_clauses G_length G_code A_size A_chosen a_1.2 y A_stack Y_cells Y_clauses N_marbles N_chipped N_swallowed N_sweets N_day N_owners P_next P_kept P_hasImage P_image P_acts P_entries P_imageEntries S_fewest S_row S_strengths U_size U_found U_places U_kinds U_holds U_fitting U_tally L_letters L_firstCells L_secondCells L_firstBest L_secondBest W_refusals ++ fr) (fun A_lengths_2 => ?_)
    refine h_aload_n hX dX3_add_33 rfl rfl ?_
    refine h_dup hX dX3_add_34 rfl ?_
    refine get_RX3_25_C9 hX dX3_add_35 ?_
    refine h_iconst hX dX3_add_38 ki_1 ?_
    refine h_iadd hX dX3_add_39 ?_
    refine put_RX3_25_C9 hX dX3_add_40 ?_
    refine gH.letw (w := fun y => wdC B W_spillsNow W_drawn T_length T_at T_bytes D_cells D_clauses G_length G_code y A_chosen a_1.2 A_lengths_2 A_stack Y_cells Y_clauses N_marbles N_chipped N_swallowed N_sweets N_day N_owners P_next P_kept P_hasImage P_image P_acts P_entries P_imageEntries S_fewest S_row S_strengths U_size U_found U_places U_kinds U_holds U_fitting U_tally L_letters L_firstCells L_secondCells L_firstBest L_secondBest W_refusals ++ fr) (fun A_size_3 => ?_)
    exact h_ret hX (rv := none) dX3_add_43 trivial (fun h => h)
theorem c_Laws_add_C7 {r : (Int32 × (Nat → Int32) × (Nat → Int32))} (h : f_Laws_add_C7 G_length G_code A_size A_codes A_lengths = some r) : gMet B 1 yX3_add cX3_add 2 none [.ref (aC B 9), .ref (aC B 7)] (wdC B W_spillsNow W_drawn T_length T_at T_bytes D_cells D_clauses G_length G_code A_size A_chosen A_codes A_lengths A_stack Y_cells Y_clauses N_marbles N_chipped N_swallowed N_sweets N_day N_owners P_next P_kept P_hasImage P_image P_acts P_entries P_imageEntries S_fewest S_row S_strengths U_size U_found U_places U_kinds U_holds U_fitting U_tally L_letters L_firstCells L_secondCells L_firstBest L_secondBest W_refusals ++ fr) (none) (wdC B W_spillsNow W_drawn T_length T_at T_bytes D_cells D_clauses G_length G_code r.1 A_chosen r.2.1 r.2.2 A_stack Y_cells Y_clauses N_marbles N_chipped N_swallowed N_sweets N_day N_owners P_next P_kept P_hasImage P_image P_acts P_entries P_imageEntries S_fewest S_row S_strengths U_size U_found U_places U_kinds U_holds U_fitting U_tally L_letters L_firstCells L_secondCells L_firstBest L_secondBest W_refusals ++ fr) :=
  gMet.of rfl (Nat.le_of_ble_eq_true rfl) (fun X hX hF => w_Laws_add_C7 hX r h hF)
set_option maxRecDepth 4000 in
theorem w_Main_text_J69 {v1 : Int32} (hX : gOk B X RX10 cX10_text 2 326 (some .int)) : gH B X (fun r : (Int32 × Int32 × Int32 × (Nat → Int32) × (Nat → Int32) × Int32 × (Nat → Int32) × Int32 × (Nat → Int32) × (Nat → Int32) × (Nat → Int32) × (Nat → Int32) × Int32 × Int32 × Int32 × Int32 × Int32 × (Nat → Int32) × Int32 × Int32 × Int32) => gFin X (some (.int r.1)) (wdC B W_spillsNow W_drawn r.2.1 r.2.2.1 T_bytes r.2.2.2.1 r.2.2.2.2.1 r.2.2.2.2.2.1 r.2.2.2.2.2.2.1 r.2.2.2.2.2.2.2.1 A_chosen r.2.2.2.2.2.2.2.2.1 r.2.2.2.2.2.2.2.2.2.1 A_stack r.2.2.2.2.2.2.2.2.2.2.1 r.2.2.2.2.2.2.2.2.2.2.2.1 r.2.2.2.2.2.2.2.2.2.2.2.2.1 r.2.2.2.2.2.2.2.2.2.2.2.2.2.1 r.2.2.2.2.2.2.2.2.2.2.2.2.2.2.1 r.2.2.2.2.2.2.2.2.2.2.2.2.2.2.2.1 r.2.2.2.2.2.2.2.2.2.2.2.2.2.2.2.2.1 r.2.2.2.2.2.2.2.2.2.2.2.2.2.2.2.2.2.1 P_next r.2.2.2.2.2.2.2.2.2.2.2.2.2.2.2.2.2.2.1 r.2.2.2.2.2.2.2.2.2.2.2.2.2.2.2.2.2.2.2.1 P_image P_acts P_entries P_imageEntries S_fewest S_row S_strengths r.2.2.2.2.2.2.2.2.2.2.2.2.2.2.2.2.2.2.2.2 U_found U_places U_kinds U_holds U_fitting U_tally L_letters L_firstCells L_secondCells L_firstBest L_secondBest W_refusals ++ fr)) 69 [(0, .ref (aC B 0)), (1, .int v1)] [] (wdC B W_spillsNow W_drawn T_length T_at T_bytes D_cells D_clauses G_length G_code A_size A_chosen A_codes A_lengths A_stack Y_cells Y_clauses N_marbles N_chipped N_swallowed N_sweets N_day N_owners P_next P_kept P_hasImage P_image P_acts P_entries P_imageEntries S_fewest S_row S_strengths U_size U_found U_places U_kinds U_holds U_fitting U_tally L_letters L_firstCells L_secondCells L_firstBest L_secondBest W_refusals ++ fr) (f_Main_text_J69 T_length T_at T_bytes D_cells D_clauses G_length G_code A_size A_codes A_lengths Y_cells Y_clauses N_marbles N_chipped N_swallowed N_sweets N_day N_owners P_kept P_hasImage U_size v1) := by
  unfold f_Main_text_J69
  refine h_iload_n hX dX10_text_69 rfl rfl ?_
  refine h_iconst hX dX10_text_70 ki_1 ?_
  refine h_icmp_ne hX dX10_text_71 (tgt := 124) (by decide) (fun _ => ?_) (fun _ => ?_)
  · refine h_iconst hX dX10_text_124 ki_m1 ?_
    exact h_ret hX (rv := some (.int ((-1)))) dX10_text_125 trivial (fun h => h)
  · refine h_aload_n hX dX10_text_74 rfl rfl ?_
    refine get_RX10_35_C0 hX dX10_text_75 ?_
    refine h_callVi hX dX10_text_78 (cv_RX10_134) rc_C9 (As := []) (st := []) (fun _ h => c_Laws_size h) rfl rfl (by decide) (Nat.le_of_ble_eq_true rfl) (fun a_1 => ?_)
    refine h_iconst hX dX10_text_81 ki_4 ?_
    refine h_icmp_ge hX dX10_text_82 (tgt := 124) (by decide) (fun _ => ?_) (fun _ => ?_)
    · refine h_iconst hX dX10_text_124 ki_m1 ?_
      exact h_ret hX (rv := some (.int ((-1)))) dX10_text_125 trivial (fun h => h)
    · refine h_aload_n hX dX10_text_85 rfl rfl ?_
      refine get_RX10_28_C0 hX dX10_text_86 ?_
      refine h_callVi hX dX10_text_89 (cv_RX10_115) rc_C7 (As := []) (st := []) (fun _ h => c_LawR_reads h) rfl rfl (by decide) (Nat.le_of_ble_eq_true rfl) (fun a_2 => ?_)
      refine h_if_eq hX dX10_text_92 (tgt := 124) (by decide) (fun _ => ?_) (fun _ => ?_)
      · refine h_iconst hX dX10_text_124 ki_m1 ?_
        exact h_ret hX (rv := some (.int ((-1)))) dX10_text_125 trivial (fun h => h)
      · refine h_aload_n hX dX10_text_95 rfl rfl ?_
        refine get_RX10_35_C0 hX dX10_text_96 ?_
        refine h_aload_n hX dX10_text_99 rfl rfl ?_
        refine get_RX10_28_C0 hX dX10_text_100 ?_
        refine h_callVv hX dX10_text_103 (cv_RX10_135) rc_C9 (As := [.ref (aC B 7)]) (st := []) (fun _ h => c_Laws_add_C7 h) rfl rfl (by decide) (Nat.le_of_ble_eq_true rfl) (fun a_3 => ?_)
        refine h_aload_n hX dX10_text_106 rfl rfl ?_
        refine get_RX10_10_C0 hX dX10_text_107 ?_
        refine h_iconst hX dX10_text_110 ki_0 ?_
        refine h_callVv hX dX10_text_111 (cv_RX10_105) rc_C1 (As := [.int 0]) (st := []) (fun _ h => c_Tape_cutTo h) rfl rfl (by decide) (Nat.le_of_ble_eq_true rfl) (fun a_4 => ?_)
        refine h_aload_n hX dX10_text_114 rfl rfl ?_
        refine get_RX10_35_C0 hX dX10_text_115 ?_
        refine h_callVi hX dX10_text_118 (cv_RX10_134) rc_C9 (As := []) (st := []) (fun _ h => c_Laws_size h) rfl rfl (by decide) (Nat.le_of_ble_eq_true rfl) (fun a_5 => ?_)
        refine h_iconst hX dX10_text_121 ki_1 ?_
        refine h_isub hX dX10_text_122 ?_
        exact h_ret hX (rv := some (.int (a_5 - 1))) dX10_text_123 trivial (fun h => h)
set_option maxRecDepth 4000 in
theorem w_Main_text {p0 : Int32} (hX : gOk B X RX10 cX10_text 2 326 (some .int)) : gH B X (fun r : (Int32 × Int32 × Int32 × (Nat → Int32) × (Nat → Int32) × Int32 × (Nat → Int32) × Int32 × (Nat → Int32) × (Nat → Int32) × (Nat → Int32) × (Nat → Int32) × Int32 × Int32 × Int32 × Int32 × Int32 × (Nat → Int32) × Int32 × Int32 × Int32) => gFin X (some (.int r.1)) (wdC B W_spillsNow W_drawn r.2.1 r.2.2.1 T_bytes r.2.2.2.1 r.2.2.2.2.1 r.2.2.2.2.2.1 r.2.2.2.2.2.2.1 r.2.2.2.2.2.2.2.1 A_chosen r.2.2.2.2.2.2.2.2.1 r.2.2.2.2.2.2.2.2.2.1 A_stack r.2.2.2.2.2.2.2.2.2.2.1 r.2.2.2.2.2.2.2.2.2.2.2.1 r.2.2.2.2.2.2.2.2.2.2.2.2.1 r.2.2.2.2.2.2.2.2.2.2.2.2.2.1 r.2.2.2.2.2.2.2.2.2.2.2.2.2.2.1 r.2.2.2.2.2.2.2.2.2.2.2.2.2.2.2.1 r.2.2.2.2.2.2.2.2.2.2.2.2.2.2.2.2.1 r.2.2.2.2.2.2.2.2.2.2.2.2.2.2.2.2.2.1 P_next r.2.2.2.2.2.2.2.2.2.2.2.2.2.2.2.2.2.2.1 r.2.2.2.2.2.2.2.2.2.2.2.2.2.2.2.2.2.2.2.1 P_image P_acts P_entries P_imageEntries S_fewest S_row S_strengths r.2.2.2.2.2.2.2.2.2.2.2.2.2.2.2.2.2.2.2.2 U_found U_places U_kinds U_holds U_fitting U_tally L_letters L_firstCells L_secondCells L_firstBest L_secondBest W_refusals ++ fr)) 0 [(0, .ref (aC B 0)), (1, .int p0)] [] (wdC B W_spillsNow W_drawn T_length T_at T_bytes D_cells D_clauses G_length G_code A_size A_chosen A_codes A_lengths A_stack Y_cells Y_clauses N_marbles N_chipped N_swallowed N_sweets N_day N_owners P_next P_kept P_hasImage P_image P_acts P_entries P_imageEntries S_fewest S_row S_strengths U_size U_found U_places U_kinds U_holds U_fitting U_tally L_letters L_firstCells L_secondCells L_firstBest L_secondBest W_refusals ++ fr) (f_Main_text T_length T_at T_bytes D_cells D_clauses G_length G_code A_size A_codes A_lengths Y_cells Y_clauses N_marbles N_chipped N_swallowed N_sweets N_day N_owners P_kept P_hasImage U_size p0) := by
  unfold f_Main_text
  refine h_iload_n hX dX10_text_0 rfl rfl ?_
  refine h_if_ne hX dX10_text_1 (tgt := 69) (by decide) (fun _ => ?_) (fun _ => ?_)
  · exact w_Main_text_J69 hX
  · refine h_aload_n hX dX10_text_4 rfl rfl ?_
    refine get_RX10_21_C0 hX dX10_text_5 ?_
    refine h_callVi hX dX10_text_8 (cv_RX10_108) rc_C3 (As := []) (st := []) (fun _ h => c_YardR_reads h) rfl rfl (by decide) (Nat.le_of_ble_eq_true rfl) (fun a_6 => ?_)
    refine h_if_eq hX dX10_text_11 (tgt := 69) (by decide) (fun _ => ?_) (fun _ => ?_)
    · exact w_Main_text_J69 hX
    · refine h_aload_n hX dX10_text_14 rfl rfl ?_
      refine get_RX10_42_C0 hX dX10_text_15 ?_
      refine h_aload_n hX dX10_text_18 rfl rfl ?_
      refine get_RX10_21_C0 hX dX10_text_19 ?_
      refine h_callVr hX dX10_text_22 (cv_RX10_116) rc_C3 (As := []) (st := [.ref (aC B 13)]) (fun _ h => c_YardR_draft h) rfl rfl (by decide) (Nat.le_of_ble_eq_true rfl) (fun a_7 => ?_)
      refine h_callVv hX dX10_text_25 (cv_RX10_120) rc_C13 (As := [.ref (aC B 4)]) (st := []) (fun _ h => c_Yard_takeOver_C4 h) rfl rfl (by decide) (Nat.le_of_ble_eq_true rfl) (fun a_8 => ?_)
      refine h_aload_n hX dX10_text_28 rfl rfl ?_
      refine get_RX10_49_C0 hX dX10_text_29 ?_
      refine h_aload_n hX dX10_text_32 rfl rfl ?_
      refine get_RX10_42_C0 hX dX10_text_33 ?_
      refine h_callVv hX dX10_text_36 (cv_RX10_124) rc_C16 (As := [.ref (aC B 13)]) (st := []) (fun _ h => c_Now_begin_C13 h) rfl rfl (by decide) (Nat.le_of_ble_eq_true rfl) (fun a_9 => ?_)
      refine h_aload_n hX dX10_text_39 rfl rfl ?_
      refine get_RX10_58_C0 hX dX10_text_40 ?_
      refine h_callVv hX dX10_text_43 (cv_RX10_127) rc_C18 (As := []) (st := []) (fun _ h => c_Past_forgetAll h) rfl rfl (by decide) (Nat.le_of_ble_eq_true rfl) (fun a_10 => ?_)
      refine h_aload_n hX dX10_text_46 rfl rfl ?_
      refine get_RX10_76_C0 hX dX10_text_47 ?_
      refine h_callVv hX dX10_text_50 (cv_RX10_130) rc_C24 (As := []) (st := []) (fun _ h => c_Clues_forgetAll h) rfl rfl (by decide) (Nat.le_of_ble_eq_true rfl) (fun a_11 => ?_)
      refine h_aload_n hX dX10_text_53 rfl rfl ?_
      refine get_RX10_10_C0 hX dX10_text_54 ?_
      refine h_iconst hX dX10_text_57 ki_0 ?_
      refine h_callVv hX dX10_text_58 (cv_RX10_105) rc_C1 (As := [.int 0]) (st := []) (fun _ h => c_Tape_cutTo h) rfl rfl (by decide) (Nat.le_of_ble_eq_true rfl) (fun a_12 => ?_)
      refine h_aload_n hX dX10_text_61 rfl rfl ?_
      refine get_RX10_42_C0 hX dX10_text_62 ?_
      refine h_callVi hX dX10_text_65 (cv_RX10_131) rc_C13 (As := []) (st := []) (fun _ h => c_Yard_marbles h) rfl rfl (by decide) (Nat.le_of_ble_eq_true rfl) (fun a_13 => ?_)
      exact h_ret hX (rv := some (.int a_13)) dX10_text_68 trivial (fun h => h)
theorem c_Main_text {p0 : Int32} {r : (Int32 × Int32 × Int32 × (Nat → Int32) × (Nat → Int32) × Int32 × (Nat → Int32) × Int32 × (Nat → Int32) × (Nat → Int32) × (Nat → Int32) × (Nat → Int32) × Int32 × Int32 × Int32 × Int32 × Int32 × (Nat → Int32) × Int32 × Int32 × Int32)} (h : f_Main_text T_length T_at T_bytes D_cells D_clauses G_length G_code A_size A_codes A_lengths Y_cells Y_clauses N_marbles N_chipped N_swallowed N_sweets N_day N_owners P_kept P_hasImage U_size p0 = some r) : gMet B 326 yX10_text cX10_text 2 (some .int) [.ref (aC B 0), .int p0] (wdC B W_spillsNow W_drawn T_length T_at T_bytes D_cells D_clauses G_length G_code A_size A_chosen A_codes A_lengths A_stack Y_cells Y_clauses N_marbles N_chipped N_swallowed N_sweets N_day N_owners P_next P_kept P_hasImage P_image P_acts P_entries P_imageEntries S_fewest S_row S_strengths U_size U_found U_places U_kinds U_holds U_fitting U_tally L_letters L_firstCells L_secondCells L_firstBest L_secondBest W_refusals ++ fr) (some (.int r.1)) (wdC B W_spillsNow W_drawn r.2.1 r.2.2.1 T_bytes r.2.2.2.1 r.2.2.2.2.1 r.2.2.2.2.2.1 r.2.2.2.2.2.2.1 r.2.2.2.2.2.2.2.1 A_chosen r.2.2.2.2.2.2.2.2.1 r.2.2.2.2.2.2.2.2.2.1 A_stack r.2.2.2.2.2.2.2.2.2.2.1 r.2.2.2.2.2.2.2.2.2.2.2.1 r.2.2.2.2.2.2.2.2.2.2.2.2.1 r.2.2.2.2.2.2.2.2.2.2.2.2.2.1 r.2.2.2.2.2.2.2.2.2.2.2.2.2.2.1 r.2.2.2.2.2.2.2.2.2.2.2.2.2.2.2.1 r.2.2.2.2.2.2.2.2.2.2.2.2.2.2.2.2.1 r.2.2.2.2.2.2.2.2.2.2.2.2.2.2.2.2.2.1 P_next r.2.2.2.2.2.2.2.2.2.2.2.2.2.2.2.2.2.2.1 r.2.2.2.2.2.2.2.2.2.2.2.2.2.2.2.2.2.2.2.1 P_image P_acts P_entries P_imageEntries S_fewest S_row S_strengths r.2.2.2.2.2.2.2.2.2.2.2.2.2.2.2.2.2.2.2.2 U_found U_places U_kinds U_holds U_fitting U_tally L_letters L_firstCells L_secondCells L_firstBest L_secondBest W_refusals ++ fr) :=
  gMet.of rfl (Nat.le_of_ble_eq_true rfl) (fun X hX hF => w_Main_text hX r h hF)
set_option maxRecDepth 4000 in
theorem w_Main_trades_J70 {v1 : Int32} {v2 : Int32} {v3 : Int32} {v4 : Int32} (hX : gOk B X RX10 cX10_trades 5 5 (some .int)) : gH B X (Sum.elim (fun s : (Int32 × Int32) => gG B X 32 [(0, .ref (aC B 0)), (1, .int v1), (2, .int s.1), (3, .int v3), (4, .int s.2)] [] (wdC B W_spillsNow W_drawn T_length T_at T_bytes D_cells D_clauses G_length G_code A_size A_chosen A_codes A_lengths A_stack Y_cells Y_clauses N_marbles N_chipped N_swallowed N_sweets N_day N_owners P_next P_kept P_hasImage P_image P_acts P_entries P_imageEntries S_fewest S_row S_strengths U_size U_found U_places U_kinds U_holds U_fitting U_tally L_letters L_firstCells L_secondCells L_firstBest L_secondBest W_refusals ++ fr)) (Sum.elim (fun s : (Int32 × Int32) => gG B X 16 [(0, .ref (aC B 0)), (1, .int v1), (2, .int s.1), (3, .int s.2)] [] (wdC B W_spillsNow W_drawn T_length T_at T_bytes D_cells D_clauses G_length G_code A_size A_chosen A_codes A_lengths A_stack Y_cells Y_clauses N_marbles N_chipped N_swallowed N_sweets N_day N_owners P_next P_kept P_hasImage P_image P_acts P_entries P_imageEntries S_fewest S_row S_strengths U_size U_found U_places U_kinds U_holds U_fitting U_tally L_letters L_firstCells L_secondCells L_firstBest L_secondBest W_refusals ++ fr)) (fun r : Int32 => gFin X (some (.int r)) (wdC B W_spillsNow W_drawn T_length T_at T_bytes D_cells D_clauses G_length G_code A_size A_chosen A_codes A_lengths A_stack Y_cells Y_clauses N_marbles N_chipped N_swallowed N_sweets N_day N_owners P_next P_kept P_hasImage P_image P_acts P_entries P_imageEntries S_fewest S_row S_strengths U_size U_found U_places U_kinds U_holds U_fitting U_tally L_letters L_firstCells L_secondCells L_firstBest L_secondBest W_refusals ++ fr)))) 70 [(0, .ref (aC B 0)), (1, .int v1), (2, .int v2), (3, .int v3), (4, .int v4)] [] (wdC B W_spillsNow W_drawn T_length T_at T_bytes D_cells D_clauses G_length G_code A_size A_chosen A_codes A_lengths A_stack Y_cells Y_clauses N_marbles N_chipped N_swallowed N_sweets N_day N_owners P_next P_kept P_hasImage P_image P_acts P_entries P_imageEntries S_fewest S_row S_strengths U_size U_found U_places U_kinds U_holds U_fitting U_tally L_letters L_firstCells L_secondCells L_firstBest L_secondBest W_refusals ++ fr) (f_Main_trades_J70 v2 v4) := by
  unfold f_Main_trades_J70
  refine h_iincc hX dX10_trades_70 rfl ki_1 (by decide) (lv' := [(0, .ref (aC B 0)), (1, .int v1), (2, .int v2), (3, .int v3), (4, .int (v4 + 1))]) rfl ?_
  refine h_goto hX dX10_trades_73 (tgt := 32) (by decide) ?_
  exact gH.some' (fun h => h)
set_option maxRecDepth 4000 in
theorem w_Main_trades_L32 {v1 : Int32} {v3 : Int32} (hX : gOk B X RX10 cX10_trades 5 5 (some .int)) (s : (Int32 × Int32)) : gH B X (Sum.elim (fun s : (Int32 × Int32) => gG B X 32 [(0, .ref (aC B 0)), (1, .int v1), (2, .int s.1), (3, .int v3), (4, .int s.2)] [] (wdC B W_spillsNow W_drawn T_length T_at T_bytes D_cells D_clauses G_length G_code A_size A_chosen A_codes A_lengths A_stack Y_cells Y_clauses N_marbles N_chipped N_swallowed N_sweets N_day N_owners P_next P_kept P_hasImage P_image P_acts P_entries P_imageEntries S_fewest S_row S_strengths U_size U_found U_places U_kinds U_holds U_fitting U_tally L_letters L_firstCells L_secondCells L_firstBest L_secondBest W_refusals ++ fr)) (Sum.elim (fun s : (Int32 × Int32) => gG B X 16 [(0, .ref (aC B 0)), (1, .int v1), (2, .int s.1), (3, .int s.2)] [] (wdC B W_spillsNow W_drawn T_length T_at T_bytes D_cells D_clauses G_length G_code A_size A_chosen A_codes A_lengths A_stack Y_cells Y_clauses N_marbles N_chipped N_swallowed N_sweets N_day N_owners P_next P_kept P_hasImage P_image P_acts P_entries P_imageEntries S_fewest S_row S_strengths U_size U_found U_places U_kinds U_holds U_fitting U_tally L_letters L_firstCells L_secondCells L_firstBest L_secondBest W_refusals ++ fr)) (fun r : Int32 => gFin X (some (.int r)) (wdC B W_spillsNow W_drawn T_length T_at T_bytes D_cells D_clauses G_length G_code A_size A_chosen A_codes A_lengths A_stack Y_cells Y_clauses N_marbles N_chipped N_swallowed N_sweets N_day N_owners P_next P_kept P_hasImage P_image P_acts P_entries P_imageEntries S_fewest S_row S_strengths U_size U_found U_places U_kinds U_holds U_fitting U_tally L_letters L_firstCells L_secondCells L_firstBest L_secondBest W_refusals ++ fr)))) 32 [(0, .ref (aC B 0)), (1, .int v1), (2, .int s.1), (3, .int v3), (4, .int s.2)] [] (wdC B W_spillsNow W_drawn T_length T_at T_bytes D_cells D_clauses G_length G_code A_size A_chosen A_codes A_lengths A_stack Y_cells Y_clauses N_marbles N_chipped N_swallowed N_sweets N_day N_owners P_next P_kept P_hasImage P_image P_acts P_entries P_imageEntries S_fewest S_row S_strengths U_size U_found U_places U_kinds U_holds U_fitting U_tally L_letters L_firstCells L_secondCells L_firstBest L_secondBest W_refusals ++ fr) (f_Main_trades_L32 Y_cells Y_clauses N_marbles N_chipped N_swallowed N_owners v1 v3 s) := by
  unfold f_Main_trades_L32
  refine h_iload hX dX10_trades_32 rfl ?_
  refine h_aload_n hX dX10_trades_34 rfl rfl ?_
  refine get_RX10_42_C0 hX dX10_trades_35 ?_
  refine h_callVi hX dX10_trades_38 (cv_RX10_131) rc_C13 (As := []) (st := [.int s.2]) (fun _ h => c_Yard_marbles h) rfl rfl (by decide) (Nat.le_of_ble_eq_true rfl) (fun a_4 => ?_)
  refine h_icmp_ge hX dX10_trades_41 (tgt := 76) (by decide) (fun _ => ?_) (fun _ => ?_)
  · refine gH.inr ?_
    refine h_iincc hX dX10_trades_76 rfl ki_1 (by decide) (lv' := [(0, .ref (aC B 0)), (1, .int v1), (2, .int s.1), (3, .int (v3 + 1)), (4, .int s.2)]) rfl ?_
    refine h_goto hX dX10_trades_79 (tgt := 16) (by decide) ?_
    refine gH.dead [0, 1, 2, 3] rfl ?_
    exact gH.some' (fun h => h)
  · refine h_aload_n hX dX10_trades_44 rfl rfl ?_
    refine h_iload_n hX dX10_trades_45 rfl rfl ?_
    refine h_iload hX dX10_trades_46 rfl ?_
    refine h_callVi hX dX10_trades_48 (cv_RX10_334) rc_C0 (As := [.int v3, .int s.2]) (st := []) (fun _ h => c_Main_bothWouldSwap h) rfl rfl (by decide) (Nat.le_of_ble_eq_true rfl) (fun a_6 => ?_)
    refine h_if_eq hX dX10_trades_51 (tgt := 70) (by decide) (fun _ => ?_) (fun _ => ?_)
    · exact w_Main_trades_J70 hX
    · refine h_iload_n hX dX10_trades_54 rfl rfl ?_
      refine h_iload_n hX dX10_trades_55 rfl rfl ?_
      refine h_icmp_ne hX dX10_trades_56 (tgt := 67) (by decide) (fun _ => ?_) (fun _ => ?_)
      · refine h_iincc hX dX10_trades_67 rfl ki_1 (by decide) (lv' := [(0, .ref (aC B 0)), (1, .int v1), (2, .int (s.1 + 1)), (3, .int v3), (4, .int s.2)]) rfl ?_
        exact w_Main_trades_J70 hX
      · refine h_bipush hX dX10_trades_59 kb_10 ?_
        refine h_iload_n hX dX10_trades_61 rfl rfl ?_
        refine h_imul hX dX10_trades_62 ?_
        refine h_iload hX dX10_trades_63 rfl ?_
        refine h_iadd hX dX10_trades_65 ?_
        exact h_ret hX (rv := some (.int ((10 * v3) + s.2))) dX10_trades_66 trivial (fun h => h)
set_option maxRecDepth 4000 in
theorem w_Main_trades_L16 {v1 : Int32} (hX : gOk B X RX10 cX10_trades 5 5 (some .int)) (s : (Int32 × Int32)) : gH B X (Sum.elim (fun s : (Int32 × Int32) => gG B X 16 [(0, .ref (aC B 0)), (1, .int v1), (2, .int s.1), (3, .int s.2)] [] (wdC B W_spillsNow W_drawn T_length T_at T_bytes D_cells D_clauses G_length G_code A_size A_chosen A_codes A_lengths A_stack Y_cells Y_clauses N_marbles N_chipped N_swallowed N_sweets N_day N_owners P_next P_kept P_hasImage P_image P_acts P_entries P_imageEntries S_fewest S_row S_strengths U_size U_found U_places U_kinds U_holds U_fitting U_tally L_letters L_firstCells L_secondCells L_firstBest L_secondBest W_refusals ++ fr)) (fun r : Int32 => gFin X (some (.int r)) (wdC B W_spillsNow W_drawn T_length T_at T_bytes D_cells D_clauses G_length G_code A_size A_chosen A_codes A_lengths A_stack Y_cells Y_clauses N_marbles N_chipped N_swallowed N_sweets N_day N_owners P_next P_kept P_hasImage P_image P_acts P_entries P_imageEntries S_fewest S_row S_strengths U_size U_found U_places U_kinds U_holds U_fitting U_tally L_letters L_firstCells L_secondCells L_firstBest L_secondBest W_refusals ++ fr))) 16 [(0, .ref (aC B 0)), (1, .int v1), (2, .int s.1), (3, .int s.2)] [] (wdC B W_spillsNow W_drawn T_length T_at T_bytes D_cells D_clauses G_length G_code A_size A_chosen A_codes A_lengths A_stack Y_cells Y_clauses N_marbles N_chipped N_swallowed N_sweets N_day N_owners P_next P_kept P_hasImage P_image P_acts P_entries P_imageEntries S_fewest S_row S_strengths U_size U_found U_places U_kinds U_holds U_fitting U_tally L_letters L_firstCells L_secondCells L_firstBest L_secondBest W_refusals ++ fr) (f_Main_trades_L16 Y_cells Y_clauses N_marbles N_chipped N_swallowed N_owners v1 s) := by
  unfold f_Main_trades_L16
  refine h_iload_n hX dX10_trades_16 rfl rfl ?_
  refine h_aload_n hX dX10_trades_17 rfl rfl ?_
  refine get_RX10_42_C0 hX dX10_trades_18 ?_
  refine h_callVi hX dX10_trades_21 (cv_RX10_131) rc_C13 (As := []) (st := [.int s.2]) (fun _ h => c_Yard_marbles h) rfl rfl (by decide) (Nat.le_of_ble_eq_true rfl) (fun a_2 => ?_)
  refine h_icmp_ge hX dX10_trades_24 (tgt := 82) (by decide) (fun _ => ?_) (fun _ => ?_)
  · refine gH.inr ?_
    refine h_iload_n hX dX10_trades_82 rfl rfl ?_
    refine h_iconst hX dX10_trades_83 ki_m1 ?_
    refine h_icmp_ne hX dX10_trades_84 (tgt := 91) (by decide) (fun _ => ?_) (fun _ => ?_)
    · refine h_iconst hX dX10_trades_91 ki_m1 ?_
      exact h_ret hX (rv := some (.int ((-1)))) dX10_trades_92 trivial (fun h => h)
    · refine h_iload_n hX dX10_trades_87 rfl rfl ?_
      refine h_goto hX dX10_trades_88 (tgt := 92) (by decide) ?_
      exact h_ret hX (rv := some (.int s.1)) dX10_trades_92 trivial (fun h => h)
  · refine h_iload_n hX dX10_trades_27 rfl rfl ?_
    refine h_iconst hX dX10_trades_28 ki_1 ?_
    refine h_iadd hX dX10_trades_29 ?_
    refine gH.leti (fun v4_3 => ?_)
    refine h_istore hX dX10_trades_30 (by decide) (lv' := [(0, .ref (aC B 0)), (1, .int v1), (2, .int s.1), (3, .int s.2), (4, .int v4_3)]) rfl ?_
    exact gH.loop (lvf := fun z : (Int32 × Int32) => [(0, .ref (aC B 0)), (1, .int v1), (2, .int z.1), (3, .int s.2), (4, .int z.2)]) (wf := fun z : (Int32 × Int32) => wdC B W_spillsNow W_drawn T_length T_at T_bytes D_cells D_clauses G_length G_code A_size A_chosen A_codes A_lengths A_stack Y_cells Y_clauses N_marbles N_chipped N_swallowed N_sweets N_day N_owners P_next P_kept P_hasImage P_image P_acts P_entries P_imageEntries S_fewest S_row S_strengths U_size U_found U_places U_kinds U_holds U_fitting U_tally L_letters L_firstCells L_secondCells L_firstBest L_secondBest W_refusals ++ fr) (fun z => w_Main_trades_L32 hX z) (s.1, v4_3)
set_option maxRecDepth 4000 in
theorem w_Main_trades {p0 : Int32} (hX : gOk B X RX10 cX10_trades 5 5 (some .int)) : gH B X (fun r : Int32 => gFin X (some (.int r)) (wdC B W_spillsNow W_drawn T_length T_at T_bytes D_cells D_clauses G_length G_code A_size A_chosen A_codes A_lengths A_stack Y_cells Y_clauses N_marbles N_chipped N_swallowed N_sweets N_day N_owners P_next P_kept P_hasImage P_image P_acts P_entries P_imageEntries S_fewest S_row S_strengths U_size U_found U_places U_kinds U_holds U_fitting U_tally L_letters L_firstCells L_secondCells L_firstBest L_secondBest W_refusals ++ fr)) 0 [(0, .ref (aC B 0)), (1, .int p0)] [] (wdC B W_spillsNow W_drawn T_length T_at T_bytes D_cells D_clauses G_length G_code A_size A_chosen A_codes A_lengths A_stack Y_cells Y_clauses N_marbles N_chipped N_swallowed N_sweets N_day N_owners P_next P_kept P_hasImage P_image P_acts P_entries P_imageEntries S_fewest S_row S_strengths U_size U_found U_places U_kinds U_holds U_fitting U_tally L_letters L_firstCells L_secondCells L_firstBest L_secondBest W_refusals ++ fr) (f_Main_trades Y_cells Y_clauses N_marbles N_chipped N_swallowed N_owners p0) := by
  unfold f_Main_trades
  refine h_aload_n hX dX10_trades_0 rfl rfl ?_
  refine get_RX10_42_C0 hX dX10_trades_1 ?_
  refine h_callVi hX dX10_trades_4 (cv_RX10_139) rc_C13 (As := []) (st := []) (fun _ h => c_Yard_stands h) rfl rfl (by decide) (Nat.le_of_ble_eq_true rfl) (fun a_1 => ?_)
  refine h_if_ne hX dX10_trades_7 (tgt := 12) (by decide) (fun _ => ?_) (fun _ => ?_)
  · refine h_iconst hX dX10_trades_12 ki_0 ?_
    refine h_istore_n hX dX10_trades_13 rfl (by decide) (lv' := [(0, .ref (aC B 0)), (1, .int p0), (2, .int 0)]) rfl ?_
    refine h_iconst hX dX10_trades_14 ki_0 ?_
    refine h_istore_n hX dX10_trades_15 rfl (by decide) (lv' := [(0, .ref (aC B 0)), (1, .int p0), (2, .int 0), (3, .int 0)]) rfl ?_
    exact gH.loop (lvf := fun z : (Int32 × Int32) => [(0, .ref (aC B 0)), (1, .int p0), (2, .int z.1), (3, .int z.2)]) (wf := fun z : (Int32 × Int32) => wdC B W_spillsNow W_drawn T_length T_at T_bytes D_cells D_clauses G_length G_code A_size A_chosen A_codes A_lengths A_stack Y_cells Y_clauses N_marbles N_chipped N_swallowed N_sweets N_day N_owners P_next P_kept P_hasImage P_image P_acts P_entries P_imageEntries S_fewest S_row S_strengths U_size U_found U_places U_kinds U_holds U_fitting U_tally L_letters L_firstCells L_secondCells L_firstBest L_secondBest W_refusals ++ fr) (fun z => w_Main_trades_L16 hX z) (0, 0)
  · refine h_iconst hX dX10_trades_10 ki_m1 ?_
    exact h_ret hX (rv := some (.int ((-1)))) dX10_trades_11 trivial (fun h => h)
theorem c_Main_trades {p0 : Int32} {r : Int32} (h : f_Main_trades Y_cells Y_clauses N_marbles N_chipped N_swallowed N_owners p0 = some r) : gMet B 5 yX10_trades cX10_trades 5 (some .int) [.ref (aC B 0), .int p0] (wdC B W_spillsNow W_drawn T_length T_at T_bytes D_cells D_clauses G_length G_code A_size A_chosen A_codes A_lengths A_stack Y_cells Y_clauses N_marbles N_chipped N_swallowed N_sweets N_day N_owners P_next P_kept P_hasImage P_image P_acts P_entries P_imageEntries S_fewest S_row S_strengths U_size U_found U_places U_kinds U_holds U_fitting U_tally L_letters L_firstCells L_secondCells L_firstBest L_secondBest W_refusals ++ fr) (some (.int r)) (wdC B W_spillsNow W_drawn T_length T_at T_bytes D_cells D_clauses G_length G_code A_size A_chosen A_codes A_lengths A_stack Y_cells Y_clauses N_marbles N_chipped N_swallowed N_sweets N_day N_owners P_next P_kept P_hasImage P_image P_acts P_entries P_imageEntries S_fewest S_row S_strengths U_size U_found U_places U_kinds U_holds U_fitting U_tally L_letters L_firstCells L_secondCells L_firstBest L_secondBest W_refusals ++ fr) :=
  gMet.of rfl (Nat.le_of_ble_eq_true rfl) (fun X hX hF => w_Main_trades hX r h hF)
set_option maxRecDepth 4000 in
theorem w_Past_goBackOne (hX : gOk B X RX5 cX5_goBackOne 1 1 (some .int)) : gH B X (fun r : (Int32 × Int32 × Int32 × Int32 × Int32 × (Nat → Int32) × Int32 × Int32) => gFin X (some (.int r.1)) (wdC B W_spillsNow W_drawn T_length T_at T_bytes D_cells D_clauses G_length G_code A_size A_chosen A_codes A_lengths A_stack Y_cells Y_clauses N_marbles r.2.1 r.2.2.1 r.2.2.2.1 r.2.2.2.2.1 r.2.2.2.2.2.1 r.2.2.2.2.2.2.1 r.2.2.2.2.2.2.2 P_hasImage P_image P_acts P_entries P_imageEntries S_fewest S_row S_strengths U_size U_found U_places U_kinds U_holds U_fitting U_tally L_letters L_firstCells L_secondCells L_firstBest L_secondBest W_refusals ++ fr)) 0 [(0, .ref (aC B 18))] [] (wdC B W_spillsNow W_drawn T_length T_at T_bytes D_cells D_clauses G_length G_code A_size A_chosen A_codes A_lengths A_stack Y_cells Y_clauses N_marbles N_chipped N_swallowed N_sweets N_day N_owners P_next P_kept P_hasImage P_image P_acts P_entries P_imageEntries S_fewest S_row S_strengths U_size U_found U_places U_kinds U_holds U_fitting U_tally L_letters L_firstCells L_secondCells L_firstBest L_secondBest W_refusals ++ fr) (f_Past_goBackOne N_marbles N_chipped N_swallowed N_sweets N_day N_owners P_next P_kept P_acts) := by
  unfold f_Past_goBackOne
  refine h_aload_n hX dX5_goBackOne_0 rfl rfl ?_
  refine get_RX5_26_C18 hX dX5_goBackOne_1 ?_
  refine h_if_ne hX dX5_goBackOne_4 (tgt := 9) (by decide) (fun _ => ?_) (fun _ => ?_)
  · refine h_aload_n hX dX5_goBackOne_9 rfl rfl ?_
    refine h_dup hX dX5_goBackOne_10 rfl ?_
    refine get_RX5_26_C18 hX dX5_goBackOne_11 ?_
    refine h_iconst hX dX5_goBackOne_14 ki_1 ?_
    refine h_isub hX dX5_goBackOne_15 ?_
    refine put_RX5_26_C18 hX dX5_goBackOne_16 ?_
    refine gH.letw (w := fun y => wdC B W_spillsNow W_drawn T_length T_at T_bytes D_cells D_clauses G_length G_code A_size A_chosen A_codes A_lengths A_stack Y_cells Y_clauses N_marbles N_chipped N_swallowed N_sweets N_day N_owners P_next y P_hasImage P_image P_acts P_entries P_imageEntries S_fewest S_row S_strengths U_size U_found U_places U_kinds U_holds U_fitting U_tally L_letters L_firstCells L_secondCells L_firstBest L_secondBest W_refusals ++ fr) (fun P_kept_1 => ?_)
    refine h_aload_n hX dX5_goBackOne_19 rfl rfl ?_
    refine h_aload_n hX dX5_goBackOne_20 rfl rfl ?_
    refine get_RX5_34_C18 hX dX5_goBackOne_21 ?_
    refine h_bipush hX dX5_goBackOne_24 kb_40 ?_
    refine h_iadd hX dX5_goBackOne_26 ?_
    refine h_iconst hX dX5_goBackOne_27 ki_1 ?_
    refine h_isub hX dX5_goBackOne_28 ?_
    refine h_bipush hX dX5_goBackOne_29 kb_40 ?_
    refine h_iremc hX dX5_goBackOne_31 (by decide) ?_
    refine put_RX5_34_C18 hX dX5_goBackOne_32 ?_
    refine gH.letw (w := fun y => wdC B W_spillsNow W_drawn T_length T_at T_bytes D_cells D_clauses G_length G_code A_size A_chosen A_codes A_lengths A_stack Y_cells Y_clauses N_marbles N_chipped N_swallowed N_sweets N_day N_owners y P_kept_1 P_hasImage P_image P_acts P_entries P_imageEntries S_fewest S_row S_strengths U_size U_found U_places U_kinds U_holds U_fitting U_tally L_letters L_firstCells L_secondCells L_firstBest L_secondBest W_refusals ++ fr) (fun P_next_2 => ?_)
    refine h_aload_n hX dX5_goBackOne_35 rfl rfl ?_
    refine get_RX5_22_C18 hX dX5_goBackOne_36 ?_
    refine h_aload_n hX dX5_goBackOne_39 rfl rfl ?_
    refine get_RX5_9_C18 hX dX5_goBackOne_40 ?_
    refine h_aload_n hX dX5_goBackOne_43 rfl rfl ?_
    refine get_RX5_34_C18 hX dX5_goBackOne_44 ?_
    refine ald_C19 hX dX5_goBackOne_47 ?_
    refine h_callVv hX dX5_goBackOne_48 (cv_RX5_49) rc_C16 (As := [.long (P_acts P_next_2.toNatClampNeg)]) (st := []) (fun _ h => c_Now_unpack h) rfl rfl (by decide) (Nat.le_of_ble_eq_true rfl) (fun a_3 => ?_)
    refine h_aload_n hX dX5_goBackOne_51 rfl rfl ?_
    refine get_RX5_26_C18 hX dX5_goBackOne_52 ?_
    exact h_ret hX (rv := some (.int P_kept_1)) dX5_goBackOne_55 trivial (fun h => h)
  · refine h_iconst hX dX5_goBackOne_7 ki_m1 ?_
    exact h_ret hX (rv := some (.int ((-1)))) dX5_goBackOne_8 trivial (fun h => h)
theorem c_Past_goBackOne {r : (Int32 × Int32 × Int32 × Int32 × Int32 × (Nat → Int32) × Int32 × Int32)} (h : f_Past_goBackOne N_marbles N_chipped N_swallowed N_sweets N_day N_owners P_next P_kept P_acts = some r) : gMet B 1 yX5_goBackOne cX5_goBackOne 1 (some .int) [.ref (aC B 18)] (wdC B W_spillsNow W_drawn T_length T_at T_bytes D_cells D_clauses G_length G_code A_size A_chosen A_codes A_lengths A_stack Y_cells Y_clauses N_marbles N_chipped N_swallowed N_sweets N_day N_owners P_next P_kept P_hasImage P_image P_acts P_entries P_imageEntries S_fewest S_row S_strengths U_size U_found U_places U_kinds U_holds U_fitting U_tally L_letters L_firstCells L_secondCells L_firstBest L_secondBest W_refusals ++ fr) (some (.int r.1)) (wdC B W_spillsNow W_drawn T_length T_at T_bytes D_cells D_clauses G_length G_code A_size A_chosen A_codes A_lengths A_stack Y_cells Y_clauses N_marbles r.2.1 r.2.2.1 r.2.2.2.1 r.2.2.2.2.1 r.2.2.2.2.2.1 r.2.2.2.2.2.2.1 r.2.2.2.2.2.2.2 P_hasImage P_image P_acts P_entries P_imageEntries S_fewest S_row S_strengths U_size U_found U_places U_kinds U_holds U_fitting U_tally L_letters L_firstCells L_secondCells L_firstBest L_secondBest W_refusals ++ fr) :=
  gMet.of rfl (Nat.le_of_ble_eq_true rfl) (fun X hX hF => w_Past_goBackOne hX r h hF)
set_option maxRecDepth 4000 in
theorem w_Main_undo (hX : gOk B X RX10 cX10_undo 1 2 (some .int)) : gH B X (fun r : (Int32 × Int32 × Int32 × Int32 × Int32 × (Nat → Int32) × Int32 × Int32) => gFin X (some (.int r.1)) (wdC B W_spillsNow W_drawn T_length T_at T_bytes D_cells D_clauses G_length G_code A_size A_chosen A_codes A_lengths A_stack Y_cells Y_clauses N_marbles r.2.1 r.2.2.1 r.2.2.2.1 r.2.2.2.2.1 r.2.2.2.2.2.1 r.2.2.2.2.2.2.1 r.2.2.2.2.2.2.2 P_hasImage P_image P_acts P_entries P_imageEntries S_fewest S_row S_strengths U_size U_found U_places U_kinds U_holds U_fitting U_tally L_letters L_firstCells L_secondCells L_firstBest L_secondBest W_refusals ++ fr)) 0 [(0, .ref (aC B 0))] [] (wdC B W_spillsNow W_drawn T_length T_at T_bytes D_cells D_clauses G_length G_code A_size A_chosen A_codes A_lengths A_stack Y_cells Y_clauses N_marbles N_chipped N_swallowed N_sweets N_day N_owners P_next P_kept P_hasImage P_image P_acts P_entries P_imageEntries S_fewest S_row S_strengths U_size U_found U_places U_kinds U_holds U_fitting U_tally L_letters L_firstCells L_secondCells L_firstBest L_secondBest W_refusals ++ fr) (f_Main_undo N_marbles N_chipped N_swallowed N_sweets N_day N_owners P_next P_kept P_acts) := by
  unfold f_Main_undo
  refine h_aload_n hX dX10_undo_0 rfl rfl ?_
  refine get_RX10_58_C0 hX dX10_undo_1 ?_
  refine h_callVi hX dX10_undo_4 (cv_RX10_261) rc_C18 (As := []) (st := []) (fun _ h => c_Past_goBackOne h) rfl rfl (by decide) (Nat.le_of_ble_eq_true rfl) (fun a_1 => ?_)
  exact h_ret hX (rv := some (.int a_1.1)) dX10_undo_7 trivial (fun h => h)
theorem c_Main_undo {r : (Int32 × Int32 × Int32 × Int32 × Int32 × (Nat → Int32) × Int32 × Int32)} (h : f_Main_undo N_marbles N_chipped N_swallowed N_sweets N_day N_owners P_next P_kept P_acts = some r) : gMet B 2 yX10_undo cX10_undo 1 (some .int) [.ref (aC B 0)] (wdC B W_spillsNow W_drawn T_length T_at T_bytes D_cells D_clauses G_length G_code A_size A_chosen A_codes A_lengths A_stack Y_cells Y_clauses N_marbles N_chipped N_swallowed N_sweets N_day N_owners P_next P_kept P_hasImage P_image P_acts P_entries P_imageEntries S_fewest S_row S_strengths U_size U_found U_places U_kinds U_holds U_fitting U_tally L_letters L_firstCells L_secondCells L_firstBest L_secondBest W_refusals ++ fr) (some (.int r.1)) (wdC B W_spillsNow W_drawn T_length T_at T_bytes D_cells D_clauses G_length G_code A_size A_chosen A_codes A_lengths A_stack Y_cells Y_clauses N_marbles r.2.1 r.2.2.1 r.2.2.2.1 r.2.2.2.2.1 r.2.2.2.2.2.1 r.2.2.2.2.2.2.1 r.2.2.2.2.2.2.2 P_hasImage P_image P_acts P_entries P_imageEntries S_fewest S_row S_strengths U_size U_found U_places U_kinds U_holds U_fitting U_tally L_letters L_firstCells L_secondCells L_firstBest L_secondBest W_refusals ++ fr) :=
  gMet.of rfl (Nat.le_of_ble_eq_true rfl) (fun X hX hF => w_Main_undo hX r h hF)
set_option maxRecDepth 4000 in
theorem w_Main_weather {p0 : Int32} (hX : gOk B X RX10 cX10_weather 2 4 (some .int)) : gH B X (fun r : (Int32 × (Nat → Int32)) => gFin X (some (.int r.1)) (wdC B W_spillsNow W_drawn T_length T_at T_bytes D_cells D_clauses G_length G_code A_size A_chosen A_codes A_lengths A_stack Y_cells Y_clauses N_marbles N_chipped N_swallowed N_sweets N_day N_owners P_next P_kept P_hasImage P_image P_acts P_entries P_imageEntries S_fewest S_row r.2 U_size U_found U_places U_kinds U_holds U_fitting U_tally L_letters L_firstCells L_secondCells L_firstBest L_secondBest W_refusals ++ fr)) 0 [(0, .ref (aC B 0)), (1, .int p0)] [] (wdC B W_spillsNow W_drawn T_length T_at T_bytes D_cells D_clauses G_length G_code A_size A_chosen A_codes A_lengths A_stack Y_cells Y_clauses N_marbles N_chipped N_swallowed N_sweets N_day N_owners P_next P_kept P_hasImage P_image P_acts P_entries P_imageEntries S_fewest S_row S_strengths U_size U_found U_places U_kinds U_holds U_fitting U_tally L_letters L_firstCells L_secondCells L_firstBest L_secondBest W_refusals ++ fr) (f_Main_weather Y_cells Y_clauses N_marbles N_chipped N_owners S_strengths p0) := by
  unfold f_Main_weather
  refine h_aload_n hX dX10_weather_0 rfl rfl ?_
  refine get_RX10_42_C0 hX dX10_weather_1 ?_
  refine h_callVi hX dX10_weather_4 (cv_RX10_139) rc_C13 (As := []) (st := []) (fun _ h => c_Yard_stands h) rfl rfl (by decide) (Nat.le_of_ble_eq_true rfl) (fun a_1 => ?_)
  refine h_if_eq hX dX10_weather_7 (tgt := 20) (by decide) (fun _ => ?_) (fun _ => ?_)
  · refine h_ldc hX dX10_weather_20 cst_RX10_180 ?_
    exact h_ret hX (rv := some (.int ((-1000000)))) dX10_weather_22 trivial (fun h => h)
  · refine h_iload_n hX dX10_weather_10 rfl rfl ?_
    refine h_if_lt hX dX10_weather_11 (tgt := 20) (by decide) (fun _ => ?_) (fun _ => ?_)
    · refine h_ldc hX dX10_weather_20 cst_RX10_180 ?_
      exact h_ret hX (rv := some (.int ((-1000000)))) dX10_weather_22 trivial (fun h => h)
    · refine h_iload_n hX dX10_weather_14 rfl rfl ?_
      refine h_bipush hX dX10_weather_15 kb_10 ?_
      refine h_icmp_lt hX dX10_weather_17 (tgt := 23) (by decide) (fun _ => ?_) (fun _ => ?_)
      · refine h_aload_n hX dX10_weather_23 rfl rfl ?_
        refine get_RX10_67_C0 hX dX10_weather_24 ?_
        refine h_callVv hX dX10_weather_27 (cv_RX10_296) rc_C22 (As := []) (st := []) (fun _ h => c_Sky_measure h) rfl rfl (by decide) (Nat.le_of_ble_eq_true rfl) (fun a_2 => ?_)
        refine h_aload_n hX dX10_weather_30 rfl rfl ?_
        refine get_RX10_67_C0 hX dX10_weather_31 ?_
        refine h_iload_n hX dX10_weather_34 rfl rfl ?_
        refine h_callVi hX dX10_weather_35 (cv_RX10_299) rc_C22 (As := [.int p0]) (st := []) (fun _ h => c_Sky_strongestKind h) rfl rfl (by decide) (Nat.le_of_ble_eq_true rfl) (fun a_3 => ?_)
        exact h_ret hX (rv := some (.int a_3)) dX10_weather_38 trivial (fun h => h)
      · refine h_ldc hX dX10_weather_20 cst_RX10_180 ?_
        exact h_ret hX (rv := some (.int ((-1000000)))) dX10_weather_22 trivial (fun h => h)
theorem c_Main_weather {p0 : Int32} {r : (Int32 × (Nat → Int32))} (h : f_Main_weather Y_cells Y_clauses N_marbles N_chipped N_owners S_strengths p0 = some r) : gMet B 4 yX10_weather cX10_weather 2 (some .int) [.ref (aC B 0), .int p0] (wdC B W_spillsNow W_drawn T_length T_at T_bytes D_cells D_clauses G_length G_code A_size A_chosen A_codes A_lengths A_stack Y_cells Y_clauses N_marbles N_chipped N_swallowed N_sweets N_day N_owners P_next P_kept P_hasImage P_image P_acts P_entries P_imageEntries S_fewest S_row S_strengths U_size U_found U_places U_kinds U_holds U_fitting U_tally L_letters L_firstCells L_secondCells L_firstBest L_secondBest W_refusals ++ fr) (some (.int r.1)) (wdC B W_spillsNow W_drawn T_length T_at T_bytes D_cells D_clauses G_length G_code A_size A_chosen A_codes A_lengths A_stack Y_cells Y_clauses N_marbles N_chipped N_swallowed N_sweets N_day N_owners P_next P_kept P_hasImage P_image P_acts P_entries P_imageEntries S_fewest S_row r.2 U_size U_found U_places U_kinds U_holds U_fitting U_tally L_letters L_firstCells L_secondCells L_firstBest L_secondBest W_refusals ++ fr) :=
  gMet.of rfl (Nat.le_of_ble_eq_true rfl) (fun X hX hF => w_Main_weather hX r h hF)
set_option maxRecDepth 4000 in
theorem w_Main_who {p0 : Int32} (hX : gOk B X RX10 cX10_who 3 6 (some .int)) : gH B X (fun r : (Int32 × (Nat → Int32) × Int32 × (Nat → Int32)) => gFin X (some (.int r.1)) (wdC B W_spillsNow W_drawn T_length T_at T_bytes D_cells D_clauses G_length G_code A_size A_chosen A_codes A_lengths A_stack Y_cells Y_clauses N_marbles N_chipped N_swallowed N_sweets N_day N_owners P_next P_kept P_hasImage P_image P_acts P_entries P_imageEntries S_fewest S_row r.2.1 U_size r.2.2.1 U_places U_kinds U_holds r.2.2.2 U_tally L_letters L_firstCells L_secondCells L_firstBest L_secondBest W_refusals ++ fr)) 0 [(0, .ref (aC B 0)), (1, .int p0)] [] (wdC B W_spillsNow W_drawn T_length T_at T_bytes D_cells D_clauses G_length G_code A_size A_chosen A_codes A_lengths A_stack Y_cells Y_clauses N_marbles N_chipped N_swallowed N_sweets N_day N_owners P_next P_kept P_hasImage P_image P_acts P_entries P_imageEntries S_fewest S_row S_strengths U_size U_found U_places U_kinds U_holds U_fitting U_tally L_letters L_firstCells L_secondCells L_firstBest L_secondBest W_refusals ++ fr) (f_Main_who Y_cells Y_clauses N_marbles N_chipped N_owners S_strengths U_size U_found U_places U_kinds U_holds U_fitting p0) := by
  unfold f_Main_who
  refine h_aload_n hX dX10_who_0 rfl rfl ?_
  refine get_RX10_42_C0 hX dX10_who_1 ?_
  refine h_callVi hX dX10_who_4 (cv_RX10_139) rc_C13 (As := []) (st := []) (fun _ h => c_Yard_stands h) rfl rfl (by decide) (Nat.le_of_ble_eq_true rfl) (fun a_1 => ?_)
  refine h_if_ne hX dX10_who_7 (tgt := 12) (by decide) (fun _ => ?_) (fun _ => ?_)
  · refine h_aload_n hX dX10_who_12 rfl rfl ?_
    refine get_RX10_76_C0 hX dX10_who_13 ?_
    refine h_callVi hX dX10_who_16 (cv_RX10_322) rc_C24 (As := []) (st := []) (fun _ h => c_Clues_search h) rfl rfl (by decide) (Nat.le_of_ble_eq_true rfl) (fun a_2 => ?_)
    refine h_istore_n hX dX10_who_19 rfl (by decide) (lv' := [(0, .ref (aC B 0)), (1, .int p0), (2, .int a_2.1)]) rfl ?_
    refine h_iload_n hX dX10_who_20 rfl rfl ?_
    refine h_iconst hX dX10_who_21 ki_m1 ?_
    refine h_icmp_ne hX dX10_who_22 (tgt := 29) (by decide) (fun _ => ?_) (fun _ => ?_)
    · refine h_aload_n hX dX10_who_29 rfl rfl ?_
      refine get_RX10_76_C0 hX dX10_who_30 ?_
      refine h_iload_n hX dX10_who_33 rfl rfl ?_
      refine h_callVi hX dX10_who_34 (cv_RX10_325) rc_C24 (As := [.int p0]) (st := []) (fun _ h => c_Clues_fittingAt h) rfl rfl (by decide) (Nat.le_of_ble_eq_true rfl) (fun a_3 => ?_)
      exact h_ret hX (rv := some (.int a_3)) dX10_who_37 trivial (fun h => h)
    · refine h_iload_n hX dX10_who_25 rfl rfl ?_
      refine h_goto hX dX10_who_26 (tgt := 37) (by decide) ?_
      exact h_ret hX (rv := some (.int a_2.1)) dX10_who_37 trivial (fun h => h)
  · refine h_iconst hX dX10_who_10 ki_m1 ?_
    exact h_ret hX (rv := some (.int ((-1)))) dX10_who_11 trivial (fun h => h)
theorem c_Main_who {p0 : Int32} {r : (Int32 × (Nat → Int32) × Int32 × (Nat → Int32))} (h : f_Main_who Y_cells Y_clauses N_marbles N_chipped N_owners S_strengths U_size U_found U_places U_kinds U_holds U_fitting p0 = some r) : gMet B 6 yX10_who cX10_who 3 (some .int) [.ref (aC B 0), .int p0] (wdC B W_spillsNow W_drawn T_length T_at T_bytes D_cells D_clauses G_length G_code A_size A_chosen A_codes A_lengths A_stack Y_cells Y_clauses N_marbles N_chipped N_swallowed N_sweets N_day N_owners P_next P_kept P_hasImage P_image P_acts P_entries P_imageEntries S_fewest S_row S_strengths U_size U_found U_places U_kinds U_holds U_fitting U_tally L_letters L_firstCells L_secondCells L_firstBest L_secondBest W_refusals ++ fr) (some (.int r.1)) (wdC B W_spillsNow W_drawn T_length T_at T_bytes D_cells D_clauses G_length G_code A_size A_chosen A_codes A_lengths A_stack Y_cells Y_clauses N_marbles N_chipped N_swallowed N_sweets N_day N_owners P_next P_kept P_hasImage P_image P_acts P_entries P_imageEntries S_fewest S_row r.2.1 U_size r.2.2.1 U_places U_kinds U_holds r.2.2.2 U_tally L_letters L_firstCells L_secondCells L_firstBest L_secondBest W_refusals ++ fr) :=
  gMet.of rfl (Nat.le_of_ble_eq_true rfl) (fun X hX hF => w_Main_who hX r h hF)
set_option maxRecDepth 4000 in
theorem w_Main_wins {p0 : Int32} {p1 : Int32} {p2 : Int32} {p3 : Int32} (hX : gOk B X RX10 cX10_wins 5 6 (some .int)) : gH B X (fun r : (Int32 × (Nat → Int32) × (Nat → Int32)) => gFin X (some (.int r.1)) (wdC B W_spillsNow W_drawn T_length T_at T_bytes D_cells D_clauses G_length G_code A_size A_chosen A_codes A_lengths r.2.1 Y_cells Y_clauses N_marbles N_chipped N_swallowed N_sweets N_day N_owners P_next P_kept P_hasImage P_image P_acts P_entries P_imageEntries S_fewest S_row S_strengths U_size U_found U_places U_kinds U_holds U_fitting U_tally r.2.2 L_firstCells L_secondCells L_firstBest L_secondBest W_refusals ++ fr)) 0 [(0, .ref (aC B 0)), (1, .int p0), (2, .int p1), (3, .int p2), (4, .int p3)] [] (wdC B W_spillsNow W_drawn T_length T_at T_bytes D_cells D_clauses G_length G_code A_size A_chosen A_codes A_lengths A_stack Y_cells Y_clauses N_marbles N_chipped N_swallowed N_sweets N_day N_owners P_next P_kept P_hasImage P_image P_acts P_entries P_imageEntries S_fewest S_row S_strengths U_size U_found U_places U_kinds U_holds U_fitting U_tally L_letters L_firstCells L_secondCells L_firstBest L_secondBest W_refusals ++ fr) (f_Main_wins A_size A_chosen A_codes A_lengths A_stack Y_cells Y_clauses N_marbles N_chipped N_swallowed N_day N_owners L_letters p0 p1 p2 p3) := by
  unfold f_Main_wins
  refine h_aload_n hX dX10_wins_0 rfl rfl ?_
  refine get_RX10_85_C0 hX dX10_wins_1 ?_
  refine h_iload_n hX dX10_wins_4 rfl rfl ?_
  refine h_iload_n hX dX10_wins_5 rfl rfl ?_
  refine h_iload_n hX dX10_wins_6 rfl rfl ?_
  refine h_iload hX dX10_wins_7 rfl ?_
  refine h_callVi hX dX10_wins_9 (cv_RX10_213) rc_C30 (As := [.int p0, .int p1, .int p2, .int p3]) (st := []) (fun _ h => c_Lane_refusalOf h) rfl rfl (by decide) (Nat.le_of_ble_eq_true rfl) (fun a_1 => ?_)
  refine h_iconst hX dX10_wins_12 ki_m1 ?_
  refine h_icmp_eq hX dX10_wins_13 (tgt := 19) (by decide) (fun _ => ?_) (fun _ => ?_)
  · refine h_aload_n hX dX10_wins_19 rfl rfl ?_
    refine get_RX10_85_C0 hX dX10_wins_20 ?_
    refine h_iload_n hX dX10_wins_23 rfl rfl ?_
    refine h_iload_n hX dX10_wins_24 rfl rfl ?_
    refine h_iload_n hX dX10_wins_25 rfl rfl ?_
    refine h_iload hX dX10_wins_26 rfl ?_
    refine h_callVi hX dX10_wins_28 (cv_RX10_284) rc_C30 (As := [.int p0, .int p1, .int p2, .int p3]) (st := []) (fun _ h => c_Lane_winnerOf h) rfl rfl (by decide) (Nat.le_of_ble_eq_true rfl) (fun a_2 => ?_)
    exact h_ret hX (rv := some (.int a_2.1)) dX10_wins_31 trivial (fun h => h)
  · refine h_ldc hX dX10_wins_16 cst_RX10_180 ?_
    exact h_ret hX (rv := some (.int ((-1000000)))) dX10_wins_18 trivial (fun h => h)
theorem c_Main_wins {p0 : Int32} {p1 : Int32} {p2 : Int32} {p3 : Int32} {r : (Int32 × (Nat → Int32) × (Nat → Int32))} (h : f_Main_wins A_size A_chosen A_codes A_lengths A_stack Y_cells Y_clauses N_marbles N_chipped N_swallowed N_day N_owners L_letters p0 p1 p2 p3 = some r) : gMet B 6 yX10_wins cX10_wins 5 (some .int) [.ref (aC B 0), .int p0, .int p1, .int p2, .int p3] (wdC B W_spillsNow W_drawn T_length T_at T_bytes D_cells D_clauses G_length G_code A_size A_chosen A_codes A_lengths A_stack Y_cells Y_clauses N_marbles N_chipped N_swallowed N_sweets N_day N_owners P_next P_kept P_hasImage P_image P_acts P_entries P_imageEntries S_fewest S_row S_strengths U_size U_found U_places U_kinds U_holds U_fitting U_tally L_letters L_firstCells L_secondCells L_firstBest L_secondBest W_refusals ++ fr) (some (.int r.1)) (wdC B W_spillsNow W_drawn T_length T_at T_bytes D_cells D_clauses G_length G_code A_size A_chosen A_codes A_lengths r.2.1 Y_cells Y_clauses N_marbles N_chipped N_swallowed N_sweets N_day N_owners P_next P_kept P_hasImage P_image P_acts P_entries P_imageEntries S_fewest S_row S_strengths U_size U_found U_places U_kinds U_holds U_fitting U_tally r.2.2 L_firstCells L_secondCells L_firstBest L_secondBest W_refusals ++ fr) :=
  gMet.of rfl (Nat.le_of_ble_eq_true rfl) (fun X hX hF => w_Main_wins hX r h hF)
set_option maxRecDepth 4000 in
theorem w_Main_years_L46 {v1 : Int32} (hX : gOk B X RX10 cX10_years 5 7 (some .int)) (s : (Int32 × Int64 × (Nat → Int32) × Int32 × Int32 × Int32 × (Nat → Int32) × Int32 × Int32 × (Nat → Int64) × (Nat → Int32) × (Nat → Int32) × (Nat → Int32))) : gH B X (Sum.elim (fun s : (Int32 × Int64 × (Nat → Int32) × Int32 × Int32 × Int32 × (Nat → Int32) × Int32 × Int32 × (Nat → Int64) × (Nat → Int32) × (Nat → Int32) × (Nat → Int32)) => gG B X 46 [(0, .ref (aC B 0)), (1, .int v1), (4, .int s.1)] [] (wdC B W_spillsNow s.2.1 T_length T_at T_bytes D_cells D_clauses G_length G_code A_size A_chosen A_codes A_lengths s.2.2.1 Y_cells Y_clauses N_marbles s.2.2.2.1 N_swallowed s.2.2.2.2.1 s.2.2.2.2.2.1 s.2.2.2.2.2.2.1 s.2.2.2.2.2.2.2.1 s.2.2.2.2.2.2.2.2.1 P_hasImage P_image s.2.2.2.2.2.2.2.2.2.1 s.2.2.2.2.2.2.2.2.2.2.1 P_imageEntries S_fewest S_row s.2.2.2.2.2.2.2.2.2.2.2.1 U_size U_found U_places U_kinds U_holds U_fitting U_tally s.2.2.2.2.2.2.2.2.2.2.2.2 L_firstCells L_secondCells L_firstBest L_secondBest W_refusals ++ fr)) (fun r : (Int32 × Int64 × (Nat → Int32) × Int32 × Int32 × Int32 × (Nat → Int32) × Int32 × Int32 × (Nat → Int64) × (Nat → Int32) × (Nat → Int32) × (Nat → Int32)) => gFin X (some (.int r.1)) (wdC B W_spillsNow r.2.1 T_length T_at T_bytes D_cells D_clauses G_length G_code A_size A_chosen A_codes A_lengths r.2.2.1 Y_cells Y_clauses N_marbles r.2.2.2.1 N_swallowed r.2.2.2.2.1 r.2.2.2.2.2.1 r.2.2.2.2.2.2.1 r.2.2.2.2.2.2.2.1 r.2.2.2.2.2.2.2.2.1 P_hasImage P_image r.2.2.2.2.2.2.2.2.2.1 r.2.2.2.2.2.2.2.2.2.2.1 P_imageEntries S_fewest S_row r.2.2.2.2.2.2.2.2.2.2.2.1 U_size U_found U_places U_kinds U_holds U_fitting U_tally r.2.2.2.2.2.2.2.2.2.2.2.2 L_firstCells L_secondCells L_firstBest L_secondBest W_refusals ++ fr))) 46 [(0, .ref (aC B 0)), (1, .int v1), (4, .int s.1)] [] (wdC B W_spillsNow s.2.1 T_length T_at T_bytes D_cells D_clauses G_length G_code A_size A_chosen A_codes A_lengths s.2.2.1 Y_cells Y_clauses N_marbles s.2.2.2.1 N_swallowed s.2.2.2.2.1 s.2.2.2.2.2.1 s.2.2.2.2.2.2.1 s.2.2.2.2.2.2.2.1 s.2.2.2.2.2.2.2.2.1 P_hasImage P_image s.2.2.2.2.2.2.2.2.2.1 s.2.2.2.2.2.2.2.2.2.2.1 P_imageEntries S_fewest S_row s.2.2.2.2.2.2.2.2.2.2.2.1 U_size U_found U_places U_kinds U_holds U_fitting U_tally s.2.2.2.2.2.2.2.2.2.2.2.2 L_firstCells L_secondCells L_firstBest L_secondBest W_refusals ++ fr) (f_Main_years_L46 W_spillsNow A_size A_chosen A_codes A_lengths Y_cells Y_clauses N_marbles N_swallowed v1 s) := by
  unfold f_Main_years_L46
  refine h_iload hX dX10_years_46 rfl ?_
  refine h_iload_n hX dX10_years_48 rfl rfl ?_
  refine h_icmp_ge hX dX10_years_49 (tgt := 77) (by decide) (fun _ => ?_) (fun _ => ?_)
  · refine h_aload_n hX dX10_years_77 rfl rfl ?_
    refine get_RX10_49_C0 hX dX10_years_78 ?_
    refine get_RX10_242_C16 hX dX10_years_81 ?_
    exact h_ret hX (rv := some (.int s.2.2.2.2.2.1)) dX10_years_84 trivial (fun h => h)
  · refine h_aload_n hX dX10_years_52 rfl rfl ?_
    refine get_RX10_58_C0 hX dX10_years_53 ?_
    refine h_callVv hX dX10_years_56 (cv_RX10_220) rc_C18 (As := []) (st := []) (fun _ h => c_Past_remember h) rfl rfl (by decide) (Nat.le_of_ble_eq_true rfl) (fun a_2 => ?_)
    refine h_aload_n hX dX10_years_59 rfl rfl ?_
    refine h_callVv hX dX10_years_60 (cv_RX10_255) rc_C0 (As := []) (st := []) (fun _ h => c_Main_playByDraws h) rfl rfl (by decide) (Nat.le_of_ble_eq_true rfl) (fun a_3 => ?_)
    refine h_aload_n hX dX10_years_63 rfl rfl ?_
    refine h_callVv hX dX10_years_64 (cv_RX10_258) rc_C0 (As := []) (st := []) (fun _ h => c_Main_spillByDraws h) rfl rfl (by decide) (Nat.le_of_ble_eq_true rfl) (fun a_4 => ?_)
    refine h_aload_n hX dX10_years_67 rfl rfl ?_
    refine h_callVv hX dX10_years_68 (cv_RX10_245) rc_C0 (As := []) (st := []) (fun _ h => c_Main_passDay h) rfl rfl (by decide) (Nat.le_of_ble_eq_true rfl) (fun a_5 => ?_)
    refine h_iincc hX dX10_years_71 rfl ki_1 (by decide) (lv' := [(0, .ref (aC B 0)), (1, .int v1), (4, .int (s.1 + 1))]) rfl ?_
    refine h_goto hX dX10_years_74 (tgt := 46) (by decide) ?_
    exact gH.some' (fun h => h)
set_option maxRecDepth 4000 in
theorem w_Main_years {p0 : Int32} {p1 : Int64} (hX : gOk B X RX10 cX10_years 5 7 (some .int)) : gH B X (fun r : (Int32 × Int64 × (Nat → Int32) × Int32 × Int32 × Int32 × (Nat → Int32) × Int32 × Int32 × (Nat → Int64) × (Nat → Int32) × (Nat → Int32) × (Nat → Int32)) => gFin X (some (.int r.1)) (wdC B W_spillsNow r.2.1 T_length T_at T_bytes D_cells D_clauses G_length G_code A_size A_chosen A_codes A_lengths r.2.2.1 Y_cells Y_clauses N_marbles r.2.2.2.1 N_swallowed r.2.2.2.2.1 r.2.2.2.2.2.1 r.2.2.2.2.2.2.1 r.2.2.2.2.2.2.2.1 r.2.2.2.2.2.2.2.2.1 P_hasImage P_image r.2.2.2.2.2.2.2.2.2.1 r.2.2.2.2.2.2.2.2.2.2.1 P_imageEntries S_fewest S_row r.2.2.2.2.2.2.2.2.2.2.2.1 U_size U_found U_places U_kinds U_holds U_fitting U_tally r.2.2.2.2.2.2.2.2.2.2.2.2 L_firstCells L_secondCells L_firstBest L_secondBest W_refusals ++ fr)) 0 [(0, .ref (aC B 0)), (1, .int p0), (2, .long p1)] [] (wdC B W_spillsNow W_drawn T_length T_at T_bytes D_cells D_clauses G_length G_code A_size A_chosen A_codes A_lengths A_stack Y_cells Y_clauses N_marbles N_chipped N_swallowed N_sweets N_day N_owners P_next P_kept P_hasImage P_image P_acts P_entries P_imageEntries S_fewest S_row S_strengths U_size U_found U_places U_kinds U_holds U_fitting U_tally L_letters L_firstCells L_secondCells L_firstBest L_secondBest W_refusals ++ fr) (f_Main_years W_spillsNow W_drawn A_size A_chosen A_codes A_lengths A_stack Y_cells Y_clauses N_marbles N_chipped N_swallowed N_sweets N_day N_owners P_next P_kept P_acts P_entries S_strengths L_letters p0 p1) := by
  unfold f_Main_years
  refine h_aload_n hX dX10_years_0 rfl rfl ?_
  refine get_RX10_42_C0 hX dX10_years_1 ?_
  refine h_callVi hX dX10_years_4 (cv_RX10_139) rc_C13 (As := []) (st := []) (fun _ h => c_Yard_stands h) rfl rfl (by decide) (Nat.le_of_ble_eq_true rfl) (fun a_1 => ?_)
  refine h_if_eq hX dX10_years_7 (tgt := 36) (by decide) (fun _ => ?_) (fun _ => ?_)
  · refine h_iconst hX dX10_years_36 ki_m1 ?_
    exact h_ret hX (rv := some (.int ((-1)))) dX10_years_37 trivial (fun h => h)
  · refine h_iload_n hX dX10_years_10 rfl rfl ?_
    refine h_iconst hX dX10_years_11 ki_1 ?_
    refine h_icmp_lt hX dX10_years_12 (tgt := 36) (by decide) (fun _ => ?_) (fun _ => ?_)
    · refine h_iconst hX dX10_years_36 ki_m1 ?_
      exact h_ret hX (rv := some (.int ((-1)))) dX10_years_37 trivial (fun h => h)
    · refine h_iload_n hX dX10_years_15 rfl rfl ?_
      refine h_bipush hX dX10_years_16 kb_60 ?_
      refine h_icmp_gt hX dX10_years_18 (tgt := 36) (by decide) (fun _ => ?_) (fun _ => ?_)
      · refine h_iconst hX dX10_years_36 ki_m1 ?_
        exact h_ret hX (rv := some (.int ((-1)))) dX10_years_37 trivial (fun h => h)
      · refine h_aload_n hX dX10_years_21 rfl rfl ?_
        refine get_RX10_49_C0 hX dX10_years_22 ?_
        refine get_RX10_242_C16 hX dX10_years_25 ?_
        refine h_iload_n hX dX10_years_28 rfl rfl ?_
        refine h_iadd hX dX10_years_29 ?_
        refine h_sipush hX dX10_years_30 ks_9999 ?_
        refine h_icmp_le hX dX10_years_33 (tgt := 38) (by decide) (fun _ => ?_) (fun _ => ?_)
        · refine h_aload_n hX dX10_years_38 rfl rfl ?_
          refine h_lload_n hX dX10_years_39 rfl rfl ?_
          refine put_RX10_251_C0 hX dX10_years_40 ?_
          refine h_iconst hX dX10_years_43 ki_0 ?_
          refine h_istore hX dX10_years_44 (by decide) (lv' := [(0, .ref (aC B 0)), (1, .int p0), (2, .long p1), (4, .int 0)]) rfl ?_
          refine gH.dead [0, 1, 3] rfl ?_
          exact gH.loop (lvf := fun z : (Int32 × Int64 × (Nat → Int32) × Int32 × Int32 × Int32 × (Nat → Int32) × Int32 × Int32 × (Nat → Int64) × (Nat → Int32) × (Nat → Int32) × (Nat → Int32)) => [(0, .ref (aC B 0)), (1, .int p0), (4, .int z.1)]) (wf := fun z : (Int32 × Int64 × (Nat → Int32) × Int32 × Int32 × Int32 × (Nat → Int32) × Int32 × Int32 × (Nat → Int64) × (Nat → Int32) × (Nat → Int32) × (Nat → Int32)) => wdC B W_spillsNow z.2.1 T_length T_at T_bytes D_cells D_clauses G_length G_code A_size A_chosen A_codes A_lengths z.2.2.1 Y_cells Y_clauses N_marbles z.2.2.2.1 N_swallowed z.2.2.2.2.1 z.2.2.2.2.2.1 z.2.2.2.2.2.2.1 z.2.2.2.2.2.2.2.1 z.2.2.2.2.2.2.2.2.1 P_hasImage P_image z.2.2.2.2.2.2.2.2.2.1 z.2.2.2.2.2.2.2.2.2.2.1 P_imageEntries S_fewest S_row z.2.2.2.2.2.2.2.2.2.2.2.1 U_size U_found U_places U_kinds U_holds U_fitting U_tally z.2.2.2.2.2.2.2.2.2.2.2.2 L_firstCells L_secondCells L_firstBest L_secondBest W_refusals ++ fr) (fun z => w_Main_years_L46 hX z) (0, p1, A_stack, N_chipped, N_sweets, N_day, N_owners, P_next, P_kept, P_acts, P_entries, S_strengths, L_letters)
        · refine h_iconst hX dX10_years_36 ki_m1 ?_
          exact h_ret hX (rv := some (.int ((-1)))) dX10_years_37 trivial (fun h => h)
theorem c_Main_years {p0 : Int32} {p1 : Int64} {r : (Int32 × Int64 × (Nat → Int32) × Int32 × Int32 × Int32 × (Nat → Int32) × Int32 × Int32 × (Nat → Int64) × (Nat → Int32) × (Nat → Int32) × (Nat → Int32))} (h : f_Main_years W_spillsNow W_drawn A_size A_chosen A_codes A_lengths A_stack Y_cells Y_clauses N_marbles N_chipped N_swallowed N_sweets N_day N_owners P_next P_kept P_acts P_entries S_strengths L_letters p0 p1 = some r) : gMet B 7 yX10_years cX10_years 5 (some .int) [.ref (aC B 0), .int p0, .long p1] (wdC B W_spillsNow W_drawn T_length T_at T_bytes D_cells D_clauses G_length G_code A_size A_chosen A_codes A_lengths A_stack Y_cells Y_clauses N_marbles N_chipped N_swallowed N_sweets N_day N_owners P_next P_kept P_hasImage P_image P_acts P_entries P_imageEntries S_fewest S_row S_strengths U_size U_found U_places U_kinds U_holds U_fitting U_tally L_letters L_firstCells L_secondCells L_firstBest L_secondBest W_refusals ++ fr) (some (.int r.1)) (wdC B W_spillsNow r.2.1 T_length T_at T_bytes D_cells D_clauses G_length G_code A_size A_chosen A_codes A_lengths r.2.2.1 Y_cells Y_clauses N_marbles r.2.2.2.1 N_swallowed r.2.2.2.2.1 r.2.2.2.2.2.1 r.2.2.2.2.2.2.1 r.2.2.2.2.2.2.2.1 r.2.2.2.2.2.2.2.2.1 P_hasImage P_image r.2.2.2.2.2.2.2.2.2.1 r.2.2.2.2.2.2.2.2.2.2.1 P_imageEntries S_fewest S_row r.2.2.2.2.2.2.2.2.2.2.2.1 U_size U_found U_places U_kinds U_holds U_fitting U_tally r.2.2.2.2.2.2.2.2.2.2.2.2 L_firstCells L_secondCells L_firstBest L_secondBest W_refusals ++ fr) :=
  gMet.of rfl (Nat.le_of_ble_eq_true rfl) (fun X hX hF => w_Main_years hX r h hF)
