variable {B : gB} {X : gX} {fr : va_W} {W_spillsNow : Int32} {W_drawn : Int64} {T_length : Int32} {T_at : Int32} {T_bytes : Nat → Int32} {D_cells : Nat → Int32} {D_clauses : Nat → Int32} {G_length : Int32} {G_code : Nat → Int32} {A_size : Int32} {A_chosen : Int32} {A_codes : Nat → Int32} {A_lengths : Nat → Int32} {A_stack : Nat → Int32} {Y_cells : Nat → Int32} {Y_clauses : Nat → Int32} {N_marbles : Int32} {N_chipped : Int32} {N_swallowed : Int32} {N_sweets : Int32} {N_day : Int32} {N_owners : Nat → Int32} {P_next : Int32} {P_kept : Int32} {P_hasImage : Int32} {P_image : Int64} {P_acts : Nat → Int64} {P_entries : Nat → Int32} {P_imageEntries : Nat → Int32} {S_fewest : Int32} {S_row : Int32} {S_strengths : Nat → Int32} {U_size : Int32} {U_found : Int32} {U_places : Nat → Int32} {U_kinds : Nat → Int32} {U_holds : Nat → Int32} {U_fitting : Nat → Int32} {U_tally : Nat → Int32} {L_letters : Nat → Int32} {L_firstCells : Nat → Int32} {L_secondCells : Nat → Int32} {L_firstBest : Nat → Int32} {L_secondBest : Nat → Int32} {W_refusals : Nat → Int32}
set_option maxRecDepth 4000 in
theorem w_LawR_readCondition_L13 {RR : Int32 → Int32 → (Nat → Int32) → Int32 → (Nat → Int32) → Int32 → Option (Int32 × Int32 × Int32 × (Nat → Int32))} {dR : Nat} (hR : ∀ (fr : va_W) (W_spillsNow : Int32) (W_drawn : Int64) (T_length : Int32) (T_at : Int32) (T_bytes : Nat → Int32) (D_cells : Nat → Int32) (D_clauses : Nat → Int32) (G_length : Int32) (G_code : Nat → Int32) (A_size : Int32) (A_chosen : Int32) (A_codes : Nat → Int32) (A_lengths : Nat → Int32) (A_stack : Nat → Int32) (Y_cells : Nat → Int32) (Y_clauses : Nat → Int32) (N_marbles : Int32) (N_chipped : Int32) (N_swallowed : Int32) (N_sweets : Int32) (N_day : Int32) (N_owners : Nat → Int32) (P_next : Int32) (P_kept : Int32) (P_hasImage : Int32) (P_image : Int64) (P_acts : Nat → Int64) (P_entries : Nat → Int32) (P_imageEntries : Nat → Int32) (S_fewest : Int32) (S_row : Int32) (S_strengths : Nat → Int32) (U_size : Int32) (U_found : Int32) (U_places : Nat → Int32) (U_kinds : Nat → Int32) (U_holds : Nat → Int32) (U_fitting : Nat → Int32) (U_tally : Nat → Int32) (L_letters : Nat → Int32) (L_firstCells : Nat → Int32) (L_secondCells : Nat → Int32) (L_firstBest : Nat → Int32) (L_secondBest : Nat → Int32) (W_refusals : Nat → Int32) (p0 : Int32) (r : (Int32 × Int32 × Int32 × (Nat → Int32))), RR T_length T_at T_bytes G_length G_code p0 = some r → gMet B dR yX2_readUnit cX2_readUnit 3 (some .boolean) [.ref (aC B 7), .int p0] (wdC B W_spillsNow W_drawn T_length T_at T_bytes D_cells D_clauses G_length G_code A_size A_chosen A_codes A_lengths A_stack Y_cells Y_clauses N_marbles N_chipped N_swallowed N_sweets N_day N_owners P_next P_kept P_hasImage P_image P_acts P_entries P_imageEntries S_fewest S_row S_strengths U_size U_found U_places U_kinds U_holds U_fitting U_tally L_letters L_firstCells L_secondCells L_firstBest L_secondBest W_refusals ++ fr) (some (.int r.1)) (wdC B W_spillsNow W_drawn T_length r.2.1 T_bytes D_cells D_clauses r.2.2.1 r.2.2.2 A_size A_chosen A_codes A_lengths A_stack Y_cells Y_clauses N_marbles N_chipped N_swallowed N_sweets N_day N_owners P_next P_kept P_hasImage P_image P_acts P_entries P_imageEntries S_fewest S_row S_strengths U_size U_found U_places U_kinds U_holds U_fitting U_tally L_letters L_firstCells L_secondCells L_firstBest L_secondBest W_refusals ++ fr)) {v1 : Int32} (hX : gOk B X RX2 cX2_readCondition 4 (dR + 35) (some .boolean)) (s : (Int32 × Int32 × Int32 × (Nat → Int32))) : gH B X (Sum.elim (fun s : (Int32 × Int32 × Int32 × (Nat → Int32)) => gG B X 13 [(0, .ref (aC B 7)), (1, .int v1), (3, .int s.1)] [] (wdC B W_spillsNow W_drawn T_length s.2.1 T_bytes D_cells D_clauses s.2.2.1 s.2.2.2 A_size A_chosen A_codes A_lengths A_stack Y_cells Y_clauses N_marbles N_chipped N_swallowed N_sweets N_day N_owners P_next P_kept P_hasImage P_image P_acts P_entries P_imageEntries S_fewest S_row S_strengths U_size U_found U_places U_kinds U_holds U_fitting U_tally L_letters L_firstCells L_secondCells L_firstBest L_secondBest W_refusals ++ fr)) (fun r : (Int32 × Int32 × Int32 × (Nat → Int32)) => gFin X (some (.int r.1)) (wdC B W_spillsNow W_drawn T_length r.2.1 T_bytes D_cells D_clauses r.2.2.1 r.2.2.2 A_size A_chosen A_codes A_lengths A_stack Y_cells Y_clauses N_marbles N_chipped N_swallowed N_sweets N_day N_owners P_next P_kept P_hasImage P_image P_acts P_entries P_imageEntries S_fewest S_row S_strengths U_size U_found U_places U_kinds U_holds U_fitting U_tally L_letters L_firstCells L_secondCells L_firstBest L_secondBest W_refusals ++ fr))) 13 [(0, .ref (aC B 7)), (1, .int v1), (3, .int s.1)] [] (wdC B W_spillsNow W_drawn T_length s.2.1 T_bytes D_cells D_clauses s.2.2.1 s.2.2.2 A_size A_chosen A_codes A_lengths A_stack Y_cells Y_clauses N_marbles N_chipped N_swallowed N_sweets N_day N_owners P_next P_kept P_hasImage P_image P_acts P_entries P_imageEntries S_fewest S_row S_strengths U_size U_found U_places U_kinds U_holds U_fitting U_tally L_letters L_firstCells L_secondCells L_firstBest L_secondBest W_refusals ++ fr) (f_LawR_readCondition_L13 RR T_length T_bytes v1 s) := by
  unfold f_LawR_readCondition_L13
  refine h_iload_n hX dX2_readCondition_13 rfl rfl ?_
  refine h_sipush hX dX2_readCondition_14 ks_240 ?_
  refine h_icmp_ge hX dX2_readCondition_17 (tgt := 56) (by decide) (fun _ => ?_) (fun _ => ?_)
  · refine h_iconst hX dX2_readCondition_56 ki_1 ?_
    exact h_ret hX (rv := some (.int 1)) dX2_readCondition_57 rfl (fun h => h)
  · refine h_aload_n hX dX2_readCondition_20 rfl rfl ?_
    refine get_RX2_15_C7 hX dX2_readCondition_21 ?_
    refine h_bipush hX dX2_readCondition_24 kb_124 ?_
    refine h_callVi hX dX2_readCondition_26 (cv_RX2_32) rc_C1 (As := [.int 124]) (st := []) (fun _ h => c_Tape_takes h) rfl rfl (by constructor <;> omega) (Nat.le_of_ble_eq_true rfl) (fun a_2 => ?_)
    refine h_if_eq hX dX2_readCondition_29 (tgt := 56) (by decide) (fun _ => ?_) (fun _ => ?_)
    · refine h_iconst hX dX2_readCondition_56 ki_1 ?_
      exact h_ret hX (rv := some (.int 1)) dX2_readCondition_57 rfl (fun h => h)
    · refine h_aload_n hX dX2_readCondition_32 rfl rfl ?_
      refine h_iload_n hX dX2_readCondition_33 rfl rfl ?_
      refine h_iconst hX dX2_readCondition_34 ki_0 ?_
      refine h_callVi hX dX2_readCondition_35 (cv_RX2_58) rc_C7 (As := [.int v1, .int 0]) (st := []) (fun _ h => c_LawR_readTruth hR h) rfl rfl (by constructor <;> omega) (Nat.le_of_ble_eq_true rfl) (fun a_3 => ?_)
      refine h_if_ne hX dX2_readCondition_38 (tgt := 43) (by decide) (fun _ => ?_) (fun _ => ?_)
      · refine h_aload_n hX dX2_readCondition_43 rfl rfl ?_
        refine h_sipush hX dX2_readCondition_44 ks_20124 ?_
        refine h_callVv hX dX2_readCondition_47 (cv_RX2_46) rc_C7 (As := [.int 20124]) (st := []) (fun _ h => c_LawR_emit h) rfl rfl (by constructor <;> omega) (Nat.le_of_ble_eq_true rfl) (fun a_4 => ?_)
        refine h_iincc hX dX2_readCondition_50 rfl ki_1 (by decide) (lv' := [(0, .ref (aC B 7)), (1, .int v1), (3, .int (s.1 + 1))]) rfl ?_
        refine h_goto hX dX2_readCondition_53 (tgt := 13) (by decide) ?_
        exact gH.some' (fun h => h)
      · refine h_iconst hX dX2_readCondition_41 ki_0 ?_
        exact h_ret hX (rv := some (.int 0)) dX2_readCondition_42 rfl (fun h => h)
set_option maxRecDepth 4000 in
theorem w_LawR_readCondition {RR : Int32 → Int32 → (Nat → Int32) → Int32 → (Nat → Int32) → Int32 → Option (Int32 × Int32 × Int32 × (Nat → Int32))} {dR : Nat} (hR : ∀ (fr : va_W) (W_spillsNow : Int32) (W_drawn : Int64) (T_length : Int32) (T_at : Int32) (T_bytes : Nat → Int32) (D_cells : Nat → Int32) (D_clauses : Nat → Int32) (G_length : Int32) (G_code : Nat → Int32) (A_size : Int32) (A_chosen : Int32) (A_codes : Nat → Int32) (A_lengths : Nat → Int32) (A_stack : Nat → Int32) (Y_cells : Nat → Int32) (Y_clauses : Nat → Int32) (N_marbles : Int32) (N_chipped : Int32) (N_swallowed : Int32) (N_sweets : Int32) (N_day : Int32) (N_owners : Nat → Int32) (P_next : Int32) (P_kept : Int32) (P_hasImage : Int32) (P_image : Int64) (P_acts : Nat → Int64) (P_entries : Nat → Int32) (P_imageEntries : Nat → Int32) (S_fewest : Int32) (S_row : Int32) (S_strengths : Nat → Int32) (U_size : Int32) (U_found : Int32) (U_places : Nat → Int32) (U_kinds : Nat → Int32) (U_holds : Nat → Int32) (U_fitting : Nat → Int32) (U_tally : Nat → Int32) (L_letters : Nat → Int32) (L_firstCells : Nat → Int32) (L_secondCells : Nat → Int32) (L_firstBest : Nat → Int32) (L_secondBest : Nat → Int32) (W_refusals : Nat → Int32) (p0 : Int32) (r : (Int32 × Int32 × Int32 × (Nat → Int32))), RR T_length T_at T_bytes G_length G_code p0 = some r → gMet B dR yX2_readUnit cX2_readUnit 3 (some .boolean) [.ref (aC B 7), .int p0] (wdC B W_spillsNow W_drawn T_length T_at T_bytes D_cells D_clauses G_length G_code A_size A_chosen A_codes A_lengths A_stack Y_cells Y_clauses N_marbles N_chipped N_swallowed N_sweets N_day N_owners P_next P_kept P_hasImage P_image P_acts P_entries P_imageEntries S_fewest S_row S_strengths U_size U_found U_places U_kinds U_holds U_fitting U_tally L_letters L_firstCells L_secondCells L_firstBest L_secondBest W_refusals ++ fr) (some (.int r.1)) (wdC B W_spillsNow W_drawn T_length r.2.1 T_bytes D_cells D_clauses r.2.2.1 r.2.2.2 A_size A_chosen A_codes A_lengths A_stack Y_cells Y_clauses N_marbles N_chipped N_swallowed N_sweets N_day N_owners P_next P_kept P_hasImage P_image P_acts P_entries P_imageEntries S_fewest S_row S_strengths U_size U_found U_places U_kinds U_holds U_fitting U_tally L_letters L_firstCells L_secondCells L_firstBest L_secondBest W_refusals ++ fr)) {p0 : Int32} {p1 : Int32} (hX : gOk B X RX2 cX2_readCondition 4 (dR + 35) (some .boolean)) : gH B X (fun r : (Int32 × Int32 × Int32 × (Nat → Int32)) => gFin X (some (.int r.1)) (wdC B W_spillsNow W_drawn T_length r.2.1 T_bytes D_cells D_clauses r.2.2.1 r.2.2.2 A_size A_chosen A_codes A_lengths A_stack Y_cells Y_clauses N_marbles N_chipped N_swallowed N_sweets N_day N_owners P_next P_kept P_hasImage P_image P_acts P_entries P_imageEntries S_fewest S_row S_strengths U_size U_found U_places U_kinds U_holds U_fitting U_tally L_letters L_firstCells L_secondCells L_firstBest L_secondBest W_refusals ++ fr)) 0 [(0, .ref (aC B 7)), (1, .int p0), (2, .int p1)] [] (wdC B W_spillsNow W_drawn T_length T_at T_bytes D_cells D_clauses G_length G_code A_size A_chosen A_codes A_lengths A_stack Y_cells Y_clauses N_marbles N_chipped N_swallowed N_sweets N_day N_owners P_next P_kept P_hasImage P_image P_acts P_entries P_imageEntries S_fewest S_row S_strengths U_size U_found U_places U_kinds U_holds U_fitting U_tally L_letters L_firstCells L_secondCells L_firstBest L_secondBest W_refusals ++ fr) (f_LawR_readConditionB RR T_length T_at T_bytes G_length G_code p0 p1) := by
  unfold f_LawR_readConditionB
  refine h_aload_n hX dX2_readCondition_0 rfl rfl ?_
  refine h_iload_n hX dX2_readCondition_1 rfl rfl ?_
  refine h_iload_n hX dX2_readCondition_2 rfl rfl ?_
  refine h_callVi hX dX2_readCondition_3 (cv_RX2_58) rc_C7 (As := [.int p0, .int p1]) (st := []) (fun _ h => c_LawR_readTruth hR h) rfl rfl (by constructor <;> omega) (Nat.le_of_ble_eq_true rfl) (fun a_1 => ?_)
  refine h_if_ne hX dX2_readCondition_6 (tgt := 11) (by decide) (fun _ => ?_) (fun _ => ?_)
  · refine h_iconst hX dX2_readCondition_11 ki_0 ?_
    refine h_istore_n hX dX2_readCondition_12 rfl (by decide) (lv' := [(0, .ref (aC B 7)), (1, .int p0), (2, .int p1), (3, .int 0)]) rfl ?_
    refine gH.dead [0, 1, 3] rfl ?_
    exact gH.loop (lvf := fun z : (Int32 × Int32 × Int32 × (Nat → Int32)) => [(0, .ref (aC B 7)), (1, .int p0), (3, .int z.1)]) (wf := fun z : (Int32 × Int32 × Int32 × (Nat → Int32)) => wdC B W_spillsNow W_drawn T_length z.2.1 T_bytes D_cells D_clauses z.2.2.1 z.2.2.2 A_size A_chosen A_codes A_lengths A_stack Y_cells Y_clauses N_marbles N_chipped N_swallowed N_sweets N_day N_owners P_next P_kept P_hasImage P_image P_acts P_entries P_imageEntries S_fewest S_row S_strengths U_size U_found U_places U_kinds U_holds U_fitting U_tally L_letters L_firstCells L_secondCells L_firstBest L_secondBest W_refusals ++ fr) (fun z => w_LawR_readCondition_L13 hR hX z) (0, a_1.2.1, a_1.2.2.1, a_1.2.2.2)
  · refine h_iconst hX dX2_readCondition_9 ki_0 ?_
    exact h_ret hX (rv := some (.int 0)) dX2_readCondition_10 rfl (fun h => h)
theorem c_LawR_readCondition {RR : Int32 → Int32 → (Nat → Int32) → Int32 → (Nat → Int32) → Int32 → Option (Int32 × Int32 × Int32 × (Nat → Int32))} {dR : Nat} (hR : ∀ (fr : va_W) (W_spillsNow : Int32) (W_drawn : Int64) (T_length : Int32) (T_at : Int32) (T_bytes : Nat → Int32) (D_cells : Nat → Int32) (D_clauses : Nat → Int32) (G_length : Int32) (G_code : Nat → Int32) (A_size : Int32) (A_chosen : Int32) (A_codes : Nat → Int32) (A_lengths : Nat → Int32) (A_stack : Nat → Int32) (Y_cells : Nat → Int32) (Y_clauses : Nat → Int32) (N_marbles : Int32) (N_chipped : Int32) (N_swallowed : Int32) (N_sweets : Int32) (N_day : Int32) (N_owners : Nat → Int32) (P_next : Int32) (P_kept : Int32) (P_hasImage : Int32) (P_image : Int64) (P_acts : Nat → Int64) (P_entries : Nat → Int32) (P_imageEntries : Nat → Int32) (S_fewest : Int32) (S_row : Int32) (S_strengths : Nat → Int32) (U_size : Int32) (U_found : Int32) (U_places : Nat → Int32) (U_kinds : Nat → Int32) (U_holds : Nat → Int32) (U_fitting : Nat → Int32) (U_tally : Nat → Int32) (L_letters : Nat → Int32) (L_firstCells : Nat → Int32) (L_secondCells : Nat → Int32) (L_firstBest : Nat → Int32) (L_secondBest : Nat → Int32) (W_refusals : Nat → Int32) (p0 : Int32) (r : (Int32 × Int32 × Int32 × (Nat → Int32))), RR T_length T_at T_bytes G_length G_code p0 = some r → gMet B dR yX2_readUnit cX2_readUnit 3 (some .boolean) [.ref (aC B 7), .int p0] (wdC B W_spillsNow W_drawn T_length T_at T_bytes D_cells D_clauses G_length G_code A_size A_chosen A_codes A_lengths A_stack Y_cells Y_clauses N_marbles N_chipped N_swallowed N_sweets N_day N_owners P_next P_kept P_hasImage P_image P_acts P_entries P_imageEntries S_fewest S_row S_strengths U_size U_found U_places U_kinds U_holds U_fitting U_tally L_letters L_firstCells L_secondCells L_firstBest L_secondBest W_refusals ++ fr) (some (.int r.1)) (wdC B W_spillsNow W_drawn T_length r.2.1 T_bytes D_cells D_clauses r.2.2.1 r.2.2.2 A_size A_chosen A_codes A_lengths A_stack Y_cells Y_clauses N_marbles N_chipped N_swallowed N_sweets N_day N_owners P_next P_kept P_hasImage P_image P_acts P_entries P_imageEntries S_fewest S_row S_strengths U_size U_found U_places U_kinds U_holds U_fitting U_tally L_letters L_firstCells L_secondCells L_firstBest L_secondBest W_refusals ++ fr)) {p0 : Int32} {p1 : Int32} {r : (Int32 × Int32 × Int32 × (Nat → Int32))} (h : f_LawR_readConditionB RR T_length T_at T_bytes G_length G_code p0 p1 = some r) : gMet B (dR + 35) yX2_readCondition cX2_readCondition 4 (some .boolean) [.ref (aC B 7), .int p0, .int p1] (wdC B W_spillsNow W_drawn T_length T_at T_bytes D_cells D_clauses G_length G_code A_size A_chosen A_codes A_lengths A_stack Y_cells Y_clauses N_marbles N_chipped N_swallowed N_sweets N_day N_owners P_next P_kept P_hasImage P_image P_acts P_entries P_imageEntries S_fewest S_row S_strengths U_size U_found U_places U_kinds U_holds U_fitting U_tally L_letters L_firstCells L_secondCells L_firstBest L_secondBest W_refusals ++ fr) (some (.int r.1)) (wdC B W_spillsNow W_drawn T_length r.2.1 T_bytes D_cells D_clauses r.2.2.1 r.2.2.2 A_size A_chosen A_codes A_lengths A_stack Y_cells Y_clauses N_marbles N_chipped N_swallowed N_sweets N_day N_owners P_next P_kept P_hasImage P_image P_acts P_entries P_imageEntries S_fewest S_row S_strengths U_size U_found U_places U_kinds U_holds U_fitting U_tally L_letters L_firstCells L_secondCells L_firstBest L_secondBest W_refusals ++ fr) :=
  gMet.of rfl (Nat.le_of_ble_eq_true rfl) (fun X hX hF => w_LawR_readCondition hR hX r h hF)
set_option maxRecDepth 4000 in
theorem w_LawR_readUnit_J42 {RR : Int32 → Int32 → (Nat → Int32) → Int32 → (Nat → Int32) → Int32 → Option (Int32 × Int32 × Int32 × (Nat → Int32))} {dR : Nat} (hR : ∀ (fr : va_W) (W_spillsNow : Int32) (W_drawn : Int64) (T_length : Int32) (T_at : Int32) (T_bytes : Nat → Int32) (D_cells : Nat → Int32) (D_clauses : Nat → Int32) (G_length : Int32) (G_code : Nat → Int32) (A_size : Int32) (A_chosen : Int32) (A_codes : Nat → Int32) (A_lengths : Nat → Int32) (A_stack : Nat → Int32) (Y_cells : Nat → Int32) (Y_clauses : Nat → Int32) (N_marbles : Int32) (N_chipped : Int32) (N_swallowed : Int32) (N_sweets : Int32) (N_day : Int32) (N_owners : Nat → Int32) (P_next : Int32) (P_kept : Int32) (P_hasImage : Int32) (P_image : Int64) (P_acts : Nat → Int64) (P_entries : Nat → Int32) (P_imageEntries : Nat → Int32) (S_fewest : Int32) (S_row : Int32) (S_strengths : Nat → Int32) (U_size : Int32) (U_found : Int32) (U_places : Nat → Int32) (U_kinds : Nat → Int32) (U_holds : Nat → Int32) (U_fitting : Nat → Int32) (U_tally : Nat → Int32) (L_letters : Nat → Int32) (L_firstCells : Nat → Int32) (L_secondCells : Nat → Int32) (L_firstBest : Nat → Int32) (L_secondBest : Nat → Int32) (W_refusals : Nat → Int32) (p0 : Int32) (r : (Int32 × Int32 × Int32 × (Nat → Int32))), RR T_length T_at T_bytes G_length G_code p0 = some r → gMet B dR yX2_readUnit cX2_readUnit 3 (some .boolean) [.ref (aC B 7), .int p0] (wdC B W_spillsNow W_drawn T_length T_at T_bytes D_cells D_clauses G_length G_code A_size A_chosen A_codes A_lengths A_stack Y_cells Y_clauses N_marbles N_chipped N_swallowed N_sweets N_day N_owners P_next P_kept P_hasImage P_image P_acts P_entries P_imageEntries S_fewest S_row S_strengths U_size U_found U_places U_kinds U_holds U_fitting U_tally L_letters L_firstCells L_secondCells L_firstBest L_secondBest W_refusals ++ fr) (some (.int r.1)) (wdC B W_spillsNow W_drawn T_length r.2.1 T_bytes D_cells D_clauses r.2.2.1 r.2.2.2 A_size A_chosen A_codes A_lengths A_stack Y_cells Y_clauses N_marbles N_chipped N_swallowed N_sweets N_day N_owners P_next P_kept P_hasImage P_image P_acts P_entries P_imageEntries S_fewest S_row S_strengths U_size U_found U_places U_kinds U_holds U_fitting U_tally L_letters L_firstCells L_secondCells L_firstBest L_secondBest W_refusals ++ fr)) {v1 : Int32} {v2 : Int32} (hX : gOk B X RX2 cX2_readUnit 3 (dR + 36) (some .boolean)) : gH B X (fun r : (Int32 × Int32 × Int32 × (Nat → Int32)) => gFin X (some (.int r.1)) (wdC B W_spillsNow W_drawn T_length r.2.1 T_bytes D_cells D_clauses r.2.2.1 r.2.2.2 A_size A_chosen A_codes A_lengths A_stack Y_cells Y_clauses N_marbles N_chipped N_swallowed N_sweets N_day N_owners P_next P_kept P_hasImage P_image P_acts P_entries P_imageEntries S_fewest S_row S_strengths U_size U_found U_places U_kinds U_holds U_fitting U_tally L_letters L_firstCells L_secondCells L_firstBest L_secondBest W_refusals ++ fr)) 42 [(0, .ref (aC B 7)), (1, .int v1), (2, .int v2)] [] (wdC B W_spillsNow W_drawn T_length T_at T_bytes D_cells D_clauses G_length G_code A_size A_chosen A_codes A_lengths A_stack Y_cells Y_clauses N_marbles N_chipped N_swallowed N_sweets N_day N_owners P_next P_kept P_hasImage P_image P_acts P_entries P_imageEntries S_fewest S_row S_strengths U_size U_found U_places U_kinds U_holds U_fitting U_tally L_letters L_firstCells L_secondCells L_firstBest L_secondBest W_refusals ++ fr) (f_LawR_readUnit_J42 RR T_length T_at T_bytes G_length G_code v1 v2) := by
  unfold f_LawR_readUnit_J42
  refine h_iload_n hX dX2_readUnit_42 rfl rfl ?_
  refine h_bipush hX dX2_readUnit_43 kb_6 ?_
  refine h_icmp_lt hX dX2_readUnit_45 (tgt := 50) (by decide) (fun _ => ?_) (fun _ => ?_)
  · refine h_aload_n hX dX2_readUnit_50 rfl rfl ?_
    refine get_RX2_15_C7 hX dX2_readUnit_51 ?_
    refine h_callVv hX dX2_readUnit_54 (cv_RX2_67) rc_C1 (As := []) (st := []) (fun _ h => c_Tape_step h) rfl rfl (by constructor <;> omega) (Nat.le_of_ble_eq_true rfl) (fun a_2 => ?_)
    refine h_iload_n hX dX2_readUnit_57 rfl rfl ?_
    refine h_bipush hX dX2_readUnit_58 kb_40 ?_
    refine h_icmp_ne hX dX2_readUnit_60 (tgt := 92) (by decide) (fun _ => ?_) (fun _ => ?_)
    · refine h_aload_n hX dX2_readUnit_92 rfl rfl ?_
      refine h_iload_n hX dX2_readUnit_93 rfl rfl ?_
      refine h_iconst hX dX2_readUnit_94 ki_1 ?_
      refine h_iadd hX dX2_readUnit_95 ?_
      refine h_callVi hX dX2_readUnit_96 (cv_RX2_64) rc_C7 (As := [.int (v1 + 1)]) (st := []) (fun _ h => hR _ _ _ _ _ _ _ _ _ _ _ _ _ _ _ _ _ _ _ _ _ _ _ _ _ _ _ _ _ _ _ _ _ _ _ _ _ _ _ _ _ _ _ _ _ _ _ _ h) rfl rfl (by constructor <;> omega) (Nat.le_of_ble_eq_true rfl) (fun a_3 => ?_)
      refine h_if_ne hX dX2_readUnit_99 (tgt := 104) (by decide) (fun _ => ?_) (fun _ => ?_)
      · refine h_aload_n hX dX2_readUnit_104 rfl rfl ?_
        refine h_sipush hX dX2_readUnit_105 ks_20033 ?_
        refine h_callVv hX dX2_readUnit_108 (cv_RX2_46) rc_C7 (As := [.int 20033]) (st := []) (fun _ h => c_LawR_emit h) rfl rfl (by constructor <;> omega) (Nat.le_of_ble_eq_true rfl) (fun a_4 => ?_)
        refine h_iconst hX dX2_readUnit_111 ki_1 ?_
        exact h_ret hX (rv := some (.int 1)) dX2_readUnit_112 rfl (fun h => h)
      · refine h_iconst hX dX2_readUnit_102 ki_0 ?_
        exact h_ret hX (rv := some (.int 0)) dX2_readUnit_103 rfl (fun h => h)
    · refine h_aload_n hX dX2_readUnit_63 rfl rfl ?_
      refine h_iload_n hX dX2_readUnit_64 rfl rfl ?_
      refine h_iconst hX dX2_readUnit_65 ki_1 ?_
      refine h_iadd hX dX2_readUnit_66 ?_
      refine h_iconst hX dX2_readUnit_67 ki_0 ?_
      refine h_callVi hX dX2_readUnit_68 (cv_RX2_50) rc_C7 (As := [.int (v1 + 1), .int 0]) (st := []) (fun _ h => c_LawR_readCondition hR h) rfl rfl (by constructor <;> omega) (Nat.le_of_ble_eq_true rfl) (fun a_5 => ?_)
      refine h_if_eq hX dX2_readUnit_71 (tgt := 90) (by decide) (fun _ => ?_) (fun _ => ?_)
      · refine h_iconst hX dX2_readUnit_90 ki_0 ?_
        exact h_ret hX (rv := some (.int 0)) dX2_readUnit_91 rfl (fun h => h)
      · refine h_aload_n hX dX2_readUnit_74 rfl rfl ?_
        refine get_RX2_15_C7 hX dX2_readUnit_75 ?_
        refine h_bipush hX dX2_readUnit_78 kb_41 ?_
        refine h_callVi hX dX2_readUnit_80 (cv_RX2_32) rc_C1 (As := [.int 41]) (st := []) (fun _ h => c_Tape_takes h) rfl rfl (by constructor <;> omega) (Nat.le_of_ble_eq_true rfl) (fun a_6 => ?_)
        refine h_if_eq hX dX2_readUnit_83 (tgt := 90) (by decide) (fun _ => ?_) (fun _ => ?_)
        · refine h_iconst hX dX2_readUnit_90 ki_0 ?_
          exact h_ret hX (rv := some (.int 0)) dX2_readUnit_91 rfl (fun h => h)
        · refine h_iconst hX dX2_readUnit_86 ki_1 ?_
          refine h_goto hX dX2_readUnit_87 (tgt := 91) (by decide) ?_
          exact h_ret hX (rv := some (.int 1)) dX2_readUnit_91 rfl (fun h => h)
  · refine h_iconst hX dX2_readUnit_48 ki_0 ?_
    exact h_ret hX (rv := some (.int 0)) dX2_readUnit_49 rfl (fun h => h)
set_option maxRecDepth 4000 in
theorem w_LawR_readUnit {RR : Int32 → Int32 → (Nat → Int32) → Int32 → (Nat → Int32) → Int32 → Option (Int32 × Int32 × Int32 × (Nat → Int32))} {dR : Nat} (hR : ∀ (fr : va_W) (W_spillsNow : Int32) (W_drawn : Int64) (T_length : Int32) (T_at : Int32) (T_bytes : Nat → Int32) (D_cells : Nat → Int32) (D_clauses : Nat → Int32) (G_length : Int32) (G_code : Nat → Int32) (A_size : Int32) (A_chosen : Int32) (A_codes : Nat → Int32) (A_lengths : Nat → Int32) (A_stack : Nat → Int32) (Y_cells : Nat → Int32) (Y_clauses : Nat → Int32) (N_marbles : Int32) (N_chipped : Int32) (N_swallowed : Int32) (N_sweets : Int32) (N_day : Int32) (N_owners : Nat → Int32) (P_next : Int32) (P_kept : Int32) (P_hasImage : Int32) (P_image : Int64) (P_acts : Nat → Int64) (P_entries : Nat → Int32) (P_imageEntries : Nat → Int32) (S_fewest : Int32) (S_row : Int32) (S_strengths : Nat → Int32) (U_size : Int32) (U_found : Int32) (U_places : Nat → Int32) (U_kinds : Nat → Int32) (U_holds : Nat → Int32) (U_fitting : Nat → Int32) (U_tally : Nat → Int32) (L_letters : Nat → Int32) (L_firstCells : Nat → Int32) (L_secondCells : Nat → Int32) (L_firstBest : Nat → Int32) (L_secondBest : Nat → Int32) (W_refusals : Nat → Int32) (p0 : Int32) (r : (Int32 × Int32 × Int32 × (Nat → Int32))), RR T_length T_at T_bytes G_length G_code p0 = some r → gMet B dR yX2_readUnit cX2_readUnit 3 (some .boolean) [.ref (aC B 7), .int p0] (wdC B W_spillsNow W_drawn T_length T_at T_bytes D_cells D_clauses G_length G_code A_size A_chosen A_codes A_lengths A_stack Y_cells Y_clauses N_marbles N_chipped N_swallowed N_sweets N_day N_owners P_next P_kept P_hasImage P_image P_acts P_entries P_imageEntries S_fewest S_row S_strengths U_size U_found U_places U_kinds U_holds U_fitting U_tally L_letters L_firstCells L_secondCells L_firstBest L_secondBest W_refusals ++ fr) (some (.int r.1)) (wdC B W_spillsNow W_drawn T_length r.2.1 T_bytes D_cells D_clauses r.2.2.1 r.2.2.2 A_size A_chosen A_codes A_lengths A_stack Y_cells Y_clauses N_marbles N_chipped N_swallowed N_sweets N_day N_owners P_next P_kept P_hasImage P_image P_acts P_entries P_imageEntries S_fewest S_row S_strengths U_size U_found U_places U_kinds U_holds U_fitting U_tally L_letters L_firstCells L_secondCells L_firstBest L_secondBest W_refusals ++ fr)) {p0 : Int32} (hX : gOk B X RX2 cX2_readUnit 3 (dR + 36) (some .boolean)) : gH B X (fun r : (Int32 × Int32 × Int32 × (Nat → Int32)) => gFin X (some (.int r.1)) (wdC B W_spillsNow W_drawn T_length r.2.1 T_bytes D_cells D_clauses r.2.2.1 r.2.2.2 A_size A_chosen A_codes A_lengths A_stack Y_cells Y_clauses N_marbles N_chipped N_swallowed N_sweets N_day N_owners P_next P_kept P_hasImage P_image P_acts P_entries P_imageEntries S_fewest S_row S_strengths U_size U_found U_places U_kinds U_holds U_fitting U_tally L_letters L_firstCells L_secondCells L_firstBest L_secondBest W_refusals ++ fr)) 0 [(0, .ref (aC B 7)), (1, .int p0)] [] (wdC B W_spillsNow W_drawn T_length T_at T_bytes D_cells D_clauses G_length G_code A_size A_chosen A_codes A_lengths A_stack Y_cells Y_clauses N_marbles N_chipped N_swallowed N_sweets N_day N_owners P_next P_kept P_hasImage P_image P_acts P_entries P_imageEntries S_fewest S_row S_strengths U_size U_found U_places U_kinds U_holds U_fitting U_tally L_letters L_firstCells L_secondCells L_firstBest L_secondBest W_refusals ++ fr) (f_LawR_readUnitB RR T_length T_at T_bytes G_length G_code p0) := by
  unfold f_LawR_readUnitB
  refine h_aload_n hX dX2_readUnit_0 rfl rfl ?_
  refine get_RX2_15_C7 hX dX2_readUnit_1 ?_
  refine h_callVi hX dX2_readUnit_4 (cv_RX2_36) rc_C1 (As := []) (st := []) (fun _ h => c_Tape_sign h) rfl rfl (by constructor <;> omega) (Nat.le_of_ble_eq_true rfl) (fun a_1 => ?_)
  refine h_istore_n hX dX2_readUnit_7 rfl (by decide) (lv' := [(0, .ref (aC B 7)), (1, .int p0), (2, .int a_1.1)]) rfl ?_
  refine h_iload_n hX dX2_readUnit_8 rfl rfl ?_
  refine h_bipush hX dX2_readUnit_9 kb_33 ?_
  refine h_icmp_eq hX dX2_readUnit_11 (tgt := 42) (by decide) (fun _ => ?_) (fun _ => ?_)
  · exact w_LawR_readUnit_J42 hR hX
  · refine h_iload_n hX dX2_readUnit_14 rfl rfl ?_
    refine h_bipush hX dX2_readUnit_15 kb_40 ?_
    refine h_icmp_eq hX dX2_readUnit_17 (tgt := 42) (by decide) (fun _ => ?_) (fun _ => ?_)
    · exact w_LawR_readUnit_J42 hR hX
    · refine h_aload_n hX dX2_readUnit_20 rfl rfl ?_
      refine h_iload_n hX dX2_readUnit_21 rfl rfl ?_
      refine h_callVi hX dX2_readUnit_22 (cv_RX2_40) rc_C7 (As := [.int p0]) (st := []) (fun _ h => cn_LawR_readSum 8 _ _ _ _ _ _ _ _ _ _ _ _ _ _ _ _ _ _ _ _ _ _ _ _ _ _ _ _ _ _ _ _ _ _ _ _ _ _ _ _ _ _ _ _ _ _ _ _ h) rfl rfl (by constructor <;> omega) (Nat.le_of_ble_eq_true rfl) (fun a_7 => ?_)
      refine h_if_eq hX dX2_readUnit_25 (tgt := 40) (by decide) (fun _ => ?_) (fun _ => ?_)
      · refine h_iconst hX dX2_readUnit_40 ki_0 ?_
        exact h_ret hX (rv := some (.int 0)) dX2_readUnit_41 rfl (fun h => h)
      · refine h_aload_n hX dX2_readUnit_28 rfl rfl ?_
        refine h_iload_n hX dX2_readUnit_29 rfl rfl ?_
        refine h_callVi hX dX2_readUnit_30 (cv_RX2_61) rc_C7 (As := [.int p0]) (st := []) (fun _ h => c_LawR_readRightOfComparison h) rfl rfl (by constructor <;> omega) (Nat.le_of_ble_eq_true rfl) (fun a_8 => ?_)
        refine h_if_eq hX dX2_readUnit_33 (tgt := 40) (by decide) (fun _ => ?_) (fun _ => ?_)
        · refine h_iconst hX dX2_readUnit_40 ki_0 ?_
          exact h_ret hX (rv := some (.int 0)) dX2_readUnit_41 rfl (fun h => h)
        · refine h_iconst hX dX2_readUnit_36 ki_1 ?_
          refine h_goto hX dX2_readUnit_37 (tgt := 41) (by decide) ?_
          exact h_ret hX (rv := some (.int 1)) dX2_readUnit_41 rfl (fun h => h)
theorem c_LawR_readUnit {RR : Int32 → Int32 → (Nat → Int32) → Int32 → (Nat → Int32) → Int32 → Option (Int32 × Int32 × Int32 × (Nat → Int32))} {dR : Nat} (hR : ∀ (fr : va_W) (W_spillsNow : Int32) (W_drawn : Int64) (T_length : Int32) (T_at : Int32) (T_bytes : Nat → Int32) (D_cells : Nat → Int32) (D_clauses : Nat → Int32) (G_length : Int32) (G_code : Nat → Int32) (A_size : Int32) (A_chosen : Int32) (A_codes : Nat → Int32) (A_lengths : Nat → Int32) (A_stack : Nat → Int32) (Y_cells : Nat → Int32) (Y_clauses : Nat → Int32) (N_marbles : Int32) (N_chipped : Int32) (N_swallowed : Int32) (N_sweets : Int32) (N_day : Int32) (N_owners : Nat → Int32) (P_next : Int32) (P_kept : Int32) (P_hasImage : Int32) (P_image : Int64) (P_acts : Nat → Int64) (P_entries : Nat → Int32) (P_imageEntries : Nat → Int32) (S_fewest : Int32) (S_row : Int32) (S_strengths : Nat → Int32) (U_size : Int32) (U_found : Int32) (U_places : Nat → Int32) (U_kinds : Nat → Int32) (U_holds : Nat → Int32) (U_fitting : Nat → Int32) (U_tally : Nat → Int32) (L_letters : Nat → Int32) (L_firstCells : Nat → Int32) (L_secondCells : Nat → Int32) (L_firstBest : Nat → Int32) (L_secondBest : Nat → Int32) (W_refusals : Nat → Int32) (p0 : Int32) (r : (Int32 × Int32 × Int32 × (Nat → Int32))), RR T_length T_at T_bytes G_length G_code p0 = some r → gMet B dR yX2_readUnit cX2_readUnit 3 (some .boolean) [.ref (aC B 7), .int p0] (wdC B W_spillsNow W_drawn T_length T_at T_bytes D_cells D_clauses G_length G_code A_size A_chosen A_codes A_lengths A_stack Y_cells Y_clauses N_marbles N_chipped N_swallowed N_sweets N_day N_owners P_next P_kept P_hasImage P_image P_acts P_entries P_imageEntries S_fewest S_row S_strengths U_size U_found U_places U_kinds U_holds U_fitting U_tally L_letters L_firstCells L_secondCells L_firstBest L_secondBest W_refusals ++ fr) (some (.int r.1)) (wdC B W_spillsNow W_drawn T_length r.2.1 T_bytes D_cells D_clauses r.2.2.1 r.2.2.2 A_size A_chosen A_codes A_lengths A_stack Y_cells Y_clauses N_marbles N_chipped N_swallowed N_sweets N_day N_owners P_next P_kept P_hasImage P_image P_acts P_entries P_imageEntries S_fewest S_row S_strengths U_size U_found U_places U_kinds U_holds U_fitting U_tally L_letters L_firstCells L_secondCells L_firstBest L_secondBest W_refusals ++ fr)) {p0 : Int32} {r : (Int32 × Int32 × Int32 × (Nat → Int32))} (h : f_LawR_readUnitB RR T_length T_at T_bytes G_length G_code p0 = some r) : gMet B (dR + 36) yX2_readUnit cX2_readUnit 3 (some .boolean) [.ref (aC B 7), .int p0] (wdC B W_spillsNow W_drawn T_length T_at T_bytes D_cells D_clauses G_length G_code A_size A_chosen A_codes A_lengths A_stack Y_cells Y_clauses N_marbles N_chipped N_swallowed N_sweets N_day N_owners P_next P_kept P_hasImage P_image P_acts P_entries P_imageEntries S_fewest S_row S_strengths U_size U_found U_places U_kinds U_holds U_fitting U_tally L_letters L_firstCells L_secondCells L_firstBest L_secondBest W_refusals ++ fr) (some (.int r.1)) (wdC B W_spillsNow W_drawn T_length r.2.1 T_bytes D_cells D_clauses r.2.2.1 r.2.2.2 A_size A_chosen A_codes A_lengths A_stack Y_cells Y_clauses N_marbles N_chipped N_swallowed N_sweets N_day N_owners P_next P_kept P_hasImage P_image P_acts P_entries P_imageEntries S_fewest S_row S_strengths U_size U_found U_places U_kinds U_holds U_fitting U_tally L_letters L_firstCells L_secondCells L_firstBest L_secondBest W_refusals ++ fr) :=
  gMet.of rfl (Nat.le_of_ble_eq_true rfl) (fun X hX hF => w_LawR_readUnit hR hX r h hF)
theorem cn_LawR_readUnit (n : Nat) : ∀ (fr : va_W) (W_spillsNow : Int32) (W_drawn : Int64) (T_length : Int32) (T_at : Int32) (T_bytes : Nat → Int32) (D_cells : Nat → Int32) (D_clauses : Nat → Int32) (G_length : Int32) (G_code : Nat → Int32) (A_size : Int32) (A_chosen : Int32) (A_codes : Nat → Int32) (A_lengths : Nat → Int32) (A_stack : Nat → Int32) (Y_cells : Nat → Int32) (Y_clauses : Nat → Int32) (N_marbles : Int32) (N_chipped : Int32) (N_swallowed : Int32) (N_sweets : Int32) (N_day : Int32) (N_owners : Nat → Int32) (P_next : Int32) (P_kept : Int32) (P_hasImage : Int32) (P_image : Int64) (P_acts : Nat → Int64) (P_entries : Nat → Int32) (P_imageEntries : Nat → Int32) (S_fewest : Int32) (S_row : Int32) (S_strengths : Nat → Int32) (U_size : Int32) (U_found : Int32) (U_places : Nat → Int32) (U_kinds : Nat → Int32) (U_holds : Nat → Int32) (U_fitting : Nat → Int32) (U_tally : Nat → Int32) (L_letters : Nat → Int32) (L_firstCells : Nat → Int32) (L_secondCells : Nat → Int32) (L_firstBest : Nat → Int32) (L_secondBest : Nat → Int32) (W_refusals : Nat → Int32) (p0 : Int32) (r : (Int32 × Int32 × Int32 × (Nat → Int32))), f_LawR_readUnit n T_length T_at T_bytes G_length G_code p0 = some r → gMet B (36 * n) yX2_readUnit cX2_readUnit 3 (some .boolean) [.ref (aC B 7), .int p0] (wdC B W_spillsNow W_drawn T_length T_at T_bytes D_cells D_clauses G_length G_code A_size A_chosen A_codes A_lengths A_stack Y_cells Y_clauses N_marbles N_chipped N_swallowed N_sweets N_day N_owners P_next P_kept P_hasImage P_image P_acts P_entries P_imageEntries S_fewest S_row S_strengths U_size U_found U_places U_kinds U_holds U_fitting U_tally L_letters L_firstCells L_secondCells L_firstBest L_secondBest W_refusals ++ fr) (some (.int r.1)) (wdC B W_spillsNow W_drawn T_length r.2.1 T_bytes D_cells D_clauses r.2.2.1 r.2.2.2 A_size A_chosen A_codes A_lengths A_stack Y_cells Y_clauses N_marbles N_chipped N_swallowed N_sweets N_day N_owners P_next P_kept P_hasImage P_image P_acts P_entries P_imageEntries S_fewest S_row S_strengths U_size U_found U_places U_kinds U_holds U_fitting U_tally L_letters L_firstCells L_secondCells L_firstBest L_secondBest W_refusals ++ fr) := by
  induction n with
  | zero =>
    intros
    rename_i h
    cases h
  | succ n ih =>
    intro fr
    intros
    rename_i h
    rw [Nat.mul_succ]
    exact c_LawR_readUnit ih h
set_option maxRecDepth 4000 in
theorem w_LawR_aimJump {p0 : Int32} (hX : gOk B X RX2 cX2_aimJump 2 0 none) : gH B X (fun r : (Nat → Int32) => gFin X (none) (wdC B W_spillsNow W_drawn T_length T_at T_bytes D_cells D_clauses G_length r A_size A_chosen A_codes A_lengths A_stack Y_cells Y_clauses N_marbles N_chipped N_swallowed N_sweets N_day N_owners P_next P_kept P_hasImage P_image P_acts P_entries P_imageEntries S_fewest S_row S_strengths U_size U_found U_places U_kinds U_holds U_fitting U_tally L_letters L_firstCells L_secondCells L_firstBest L_secondBest W_refusals ++ fr)) 0 [(0, .ref (aC B 7)), (1, .int p0)] [] (wdC B W_spillsNow W_drawn T_length T_at T_bytes D_cells D_clauses G_length G_code A_size A_chosen A_codes A_lengths A_stack Y_cells Y_clauses N_marbles N_chipped N_swallowed N_sweets N_day N_owners P_next P_kept P_hasImage P_image P_acts P_entries P_imageEntries S_fewest S_row S_strengths U_size U_found U_places U_kinds U_holds U_fitting U_tally L_letters L_firstCells L_secondCells L_firstBest L_secondBest W_refusals ++ fr) (f_LawR_aimJump G_length G_code p0) := by
  unfold f_LawR_aimJump
  refine h_iload_n hX dX2_aimJump_0 rfl rfl ?_
  refine h_sipush hX dX2_aimJump_1 ks_240 ?_
  refine h_icmp_ge hX dX2_aimJump_4 (tgt := 20) (by decide) (fun _ => ?_) (fun _ => ?_)
  · exact h_ret hX (rv := none) dX2_aimJump_20 trivial (fun h => h)
  · refine h_aload_n hX dX2_aimJump_7 rfl rfl ?_
    refine get_RX2_9_C7 hX dX2_aimJump_8 ?_
    refine h_iload_n hX dX2_aimJump_11 rfl rfl ?_
    refine h_ldc hX dX2_aimJump_12 cst_RX2_54 ?_
    refine h_aload_n hX dX2_aimJump_14 rfl rfl ?_
    refine get_RX2_19_C7 hX dX2_aimJump_15 ?_
    refine h_iadd hX dX2_aimJump_18 ?_
    refine ast_C8 hX dX2_aimJump_19 ?_
    refine gH.letw (w := fun y => wdC B W_spillsNow W_drawn T_length T_at T_bytes D_cells D_clauses G_length y A_size A_chosen A_codes A_lengths A_stack Y_cells Y_clauses N_marbles N_chipped N_swallowed N_sweets N_day N_owners P_next P_kept P_hasImage P_image P_acts P_entries P_imageEntries S_fewest S_row S_strengths U_size U_found U_places U_kinds U_holds U_fitting U_tally L_letters L_firstCells L_secondCells L_firstBest L_secondBest W_refusals ++ fr) (fun G_code_1 => ?_)
    exact h_ret hX (rv := none) dX2_aimJump_20 trivial (fun h => h)
theorem c_LawR_aimJump {p0 : Int32} {r : (Nat → Int32)} (h : f_LawR_aimJump G_length G_code p0 = some r) : gMet B 0 yX2_aimJump cX2_aimJump 2 none [.ref (aC B 7), .int p0] (wdC B W_spillsNow W_drawn T_length T_at T_bytes D_cells D_clauses G_length G_code A_size A_chosen A_codes A_lengths A_stack Y_cells Y_clauses N_marbles N_chipped N_swallowed N_sweets N_day N_owners P_next P_kept P_hasImage P_image P_acts P_entries P_imageEntries S_fewest S_row S_strengths U_size U_found U_places U_kinds U_holds U_fitting U_tally L_letters L_firstCells L_secondCells L_firstBest L_secondBest W_refusals ++ fr) (none) (wdC B W_spillsNow W_drawn T_length T_at T_bytes D_cells D_clauses G_length r A_size A_chosen A_codes A_lengths A_stack Y_cells Y_clauses N_marbles N_chipped N_swallowed N_sweets N_day N_owners P_next P_kept P_hasImage P_image P_acts P_entries P_imageEntries S_fewest S_row S_strengths U_size U_found U_places U_kinds U_holds U_fitting U_tally L_letters L_firstCells L_secondCells L_firstBest L_secondBest W_refusals ++ fr) :=
  gMet.of rfl (Nat.le_of_ble_eq_true rfl) (fun X hX hF => w_LawR_aimJump hX r h hF)
set_option maxRecDepth 4000 in
theorem w_LawR_readClause_J88 {v2 : Int32} (hX : gOk B X RX2 cX2_readClause 4 324 (some .boolean)) : gH B X (fun r : (Int32 × Int32 × Int32 × (Nat → Int32)) => gFin X (some (.int r.1)) (wdC B W_spillsNow W_drawn T_length r.2.1 T_bytes D_cells D_clauses r.2.2.1 r.2.2.2 A_size A_chosen A_codes A_lengths A_stack Y_cells Y_clauses N_marbles N_chipped N_swallowed N_sweets N_day N_owners P_next P_kept P_hasImage P_image P_acts P_entries P_imageEntries S_fewest S_row S_strengths U_size U_found U_places U_kinds U_holds U_fitting U_tally L_letters L_firstCells L_secondCells L_firstBest L_secondBest W_refusals ++ fr)) 88 [(0, .ref (aC B 7)), (2, .int v2)] [] (wdC B W_spillsNow W_drawn T_length T_at T_bytes D_cells D_clauses G_length G_code A_size A_chosen A_codes A_lengths A_stack Y_cells Y_clauses N_marbles N_chipped N_swallowed N_sweets N_day N_owners P_next P_kept P_hasImage P_image P_acts P_entries P_imageEntries S_fewest S_row S_strengths U_size U_found U_places U_kinds U_holds U_fitting U_tally L_letters L_firstCells L_secondCells L_firstBest L_secondBest W_refusals ++ fr) (f_LawR_readClause_J88 T_length T_at T_bytes G_length G_code v2) := by
  unfold f_LawR_readClause_J88
  refine h_aload_n hX dX2_readClause_88 rfl rfl ?_
  refine h_iconst hX dX2_readClause_89 ki_0 ?_
  refine h_iload_n hX dX2_readClause_90 rfl rfl ?_
  refine h_callVi hX dX2_readClause_91 (cv_RX2_50) rc_C7 (As := [.int 0, .int v2]) (st := []) (fun _ h => c_LawR_readCondition (cn_LawR_readUnit 8) h) rfl rfl (by decide) (Nat.le_of_ble_eq_true rfl) (fun a_4 => ?_)
  refine h_if_eq hX dX2_readClause_94 (tgt := 109) (by decide) (fun _ => ?_) (fun _ => ?_)
  · refine h_iconst hX dX2_readClause_109 ki_0 ?_
    exact h_ret hX (rv := some (.int 0)) dX2_readClause_110 rfl (fun h => h)
  · refine h_aload_n hX dX2_readClause_97 rfl rfl ?_
    refine get_RX2_15_C7 hX dX2_readClause_98 ?_
    refine h_bipush hX dX2_readClause_101 kb_63 ?_
    refine h_callVi hX dX2_readClause_103 (cv_RX2_32) rc_C1 (As := [.int 63]) (st := []) (fun _ h => c_Tape_takes h) rfl rfl (by decide) (Nat.le_of_ble_eq_true rfl) (fun a_5 => ?_)
    refine h_if_ne hX dX2_readClause_106 (tgt := 111) (by decide) (fun _ => ?_) (fun _ => ?_)
    · refine h_aload_n hX dX2_readClause_111 rfl rfl ?_
      refine get_RX2_19_C7 hX dX2_readClause_112 ?_
      refine h_istore_n hX dX2_readClause_115 rfl (by decide) (lv' := [(0, .ref (aC B 7)), (2, .int v2), (3, .int a_4.2.2.1)]) rfl ?_
      refine h_aload_n hX dX2_readClause_116 rfl rfl ?_
      refine h_ldc hX dX2_readClause_117 cst_RX2_54 ?_
      refine h_callVv hX dX2_readClause_119 (cv_RX2_46) rc_C7 (As := [.int 40000]) (st := []) (fun _ h => c_LawR_emit h) rfl rfl (by decide) (Nat.le_of_ble_eq_true rfl) (fun a_6 => ?_)
      refine h_aload_n hX dX2_readClause_122 rfl rfl ?_
      refine h_iconst hX dX2_readClause_123 ki_0 ?_
      refine h_callVi hX dX2_readClause_124 (cv_RX2_40) rc_C7 (As := [.int 0]) (st := []) (fun _ h => cn_LawR_readSum 8 _ _ _ _ _ _ _ _ _ _ _ _ _ _ _ _ _ _ _ _ _ _ _ _ _ _ _ _ _ _ _ _ _ _ _ _ _ _ _ _ _ _ _ _ _ _ _ _ h) rfl rfl (by decide) (Nat.le_of_ble_eq_true rfl) (fun a_7 => ?_)
      refine h_if_ne hX dX2_readClause_127 (tgt := 132) (by decide) (fun _ => ?_) (fun _ => ?_)
      · refine h_aload_n hX dX2_readClause_132 rfl rfl ?_
        refine h_sipush hX dX2_readClause_133 ks_30000 ?_
        refine h_callVv hX dX2_readClause_136 (cv_RX2_46) rc_C7 (As := [.int 30000]) (st := []) (fun _ h => c_LawR_emit h) rfl rfl (by decide) (Nat.le_of_ble_eq_true rfl) (fun a_8 => ?_)
        refine h_aload_n hX dX2_readClause_139 rfl rfl ?_
        refine h_iload_n hX dX2_readClause_140 rfl rfl ?_
        refine h_callVv hX dX2_readClause_141 (cv_RX2_55) rc_C7 (As := [.int a_4.2.2.1]) (st := []) (fun _ h => c_LawR_aimJump h) rfl rfl (by decide) (Nat.le_of_ble_eq_true rfl) (fun a_9 => ?_)
        refine h_iconst hX dX2_readClause_144 ki_1 ?_
        exact h_ret hX (rv := some (.int 1)) dX2_readClause_145 rfl (fun h => h)
      · refine h_iconst hX dX2_readClause_130 ki_0 ?_
        exact h_ret hX (rv := some (.int 0)) dX2_readClause_131 rfl (fun h => h)
    · refine h_iconst hX dX2_readClause_109 ki_0 ?_
      exact h_ret hX (rv := some (.int 0)) dX2_readClause_110 rfl (fun h => h)
set_option maxRecDepth 4000 in
theorem w_LawR_readClause_J51 {k0 : Int32} (hX : gOk B X RX2 cX2_readClause 4 324 (some .boolean)) : gH B X (fun r : (Int32 × Int32 × Int32 × (Nat → Int32)) => gFin X (some (.int r.1)) (wdC B W_spillsNow W_drawn T_length r.2.1 T_bytes D_cells D_clauses r.2.2.1 r.2.2.2 A_size A_chosen A_codes A_lengths A_stack Y_cells Y_clauses N_marbles N_chipped N_swallowed N_sweets N_day N_owners P_next P_kept P_hasImage P_image P_acts P_entries P_imageEntries S_fewest S_row S_strengths U_size U_found U_places U_kinds U_holds U_fitting U_tally L_letters L_firstCells L_secondCells L_firstBest L_secondBest W_refusals ++ fr)) 51 [(0, .ref (aC B 7))] [.int k0] (wdC B W_spillsNow W_drawn T_length T_at T_bytes D_cells D_clauses G_length G_code A_size A_chosen A_codes A_lengths A_stack Y_cells Y_clauses N_marbles N_chipped N_swallowed N_sweets N_day N_owners P_next P_kept P_hasImage P_image P_acts P_entries P_imageEntries S_fewest S_row S_strengths U_size U_found U_places U_kinds U_holds U_fitting U_tally L_letters L_firstCells L_secondCells L_firstBest L_secondBest W_refusals ++ fr) (f_LawR_readClause_J51 T_length T_at T_bytes G_length G_code k0) := by
  unfold f_LawR_readClause_J51
  refine h_istore_n hX dX2_readClause_51 rfl (by decide) (lv' := [(0, .ref (aC B 7)), (2, .int k0)]) rfl ?_
  refine h_iload_n hX dX2_readClause_52 rfl rfl ?_
  refine h_if_eq hX dX2_readClause_53 (tgt := 88) (by decide) (fun _ => ?_) (fun _ => ?_)
  · exact w_LawR_readClause_J88 hX
  · refine h_aload_n hX dX2_readClause_56 rfl rfl ?_
    refine h_iconst hX dX2_readClause_57 ki_0 ?_
    refine h_callVi hX dX2_readClause_58 (cv_RX2_40) rc_C7 (As := [.int 0]) (st := []) (fun _ h => cn_LawR_readSum 8 _ _ _ _ _ _ _ _ _ _ _ _ _ _ _ _ _ _ _ _ _ _ _ _ _ _ _ _ _ _ _ _ _ _ _ _ _ _ _ _ _ _ _ _ _ _ _ _ h) rfl rfl (by decide) (Nat.le_of_ble_eq_true rfl) (fun a_10 => ?_)
    refine h_if_ne hX dX2_readClause_61 (tgt := 66) (by decide) (fun _ => ?_) (fun _ => ?_)
    · refine h_aload_n hX dX2_readClause_66 rfl rfl ?_
      refine get_RX2_15_C7 hX dX2_readClause_67 ?_
      refine h_callVi hX dX2_readClause_70 (cv_RX2_36) rc_C1 (As := []) (st := []) (fun _ h => c_Tape_sign h) rfl rfl (by decide) (Nat.le_of_ble_eq_true rfl) (fun a_11 => ?_)
      refine h_callSi hX dX2_readClause_73 (cs_RX2_43) (As := [.int a_11.1]) (st := []) (fun _ h => c_LawR_isComparison h) rfl rfl (by decide) (Nat.le_of_ble_eq_true rfl) (fun a_12 => ?_)
      refine h_if_ne hX dX2_readClause_76 (tgt := 88) (by decide) (fun _ => ?_) (fun _ => ?_)
      · exact w_LawR_readClause_J88 hX
      · refine h_aload_n hX dX2_readClause_79 rfl rfl ?_
        refine h_sipush hX dX2_readClause_80 ks_30000 ?_
        refine h_callVv hX dX2_readClause_83 (cv_RX2_46) rc_C7 (As := [.int 30000]) (st := []) (fun _ h => c_LawR_emit h) rfl rfl (by decide) (Nat.le_of_ble_eq_true rfl) (fun a_13 => ?_)
        refine h_iconst hX dX2_readClause_86 ki_1 ?_
        exact h_ret hX (rv := some (.int 1)) dX2_readClause_87 rfl (fun h => h)
    · refine h_iconst hX dX2_readClause_64 ki_0 ?_
      exact h_ret hX (rv := some (.int 0)) dX2_readClause_65 rfl (fun h => h)
set_option maxRecDepth 4000 in
theorem w_LawR_readClause_J50 (hX : gOk B X RX2 cX2_readClause 4 324 (some .boolean)) : gH B X (fun r : (Int32 × Int32 × Int32 × (Nat → Int32)) => gFin X (some (.int r.1)) (wdC B W_spillsNow W_drawn T_length r.2.1 T_bytes D_cells D_clauses r.2.2.1 r.2.2.2 A_size A_chosen A_codes A_lengths A_stack Y_cells Y_clauses N_marbles N_chipped N_swallowed N_sweets N_day N_owners P_next P_kept P_hasImage P_image P_acts P_entries P_imageEntries S_fewest S_row S_strengths U_size U_found U_places U_kinds U_holds U_fitting U_tally L_letters L_firstCells L_secondCells L_firstBest L_secondBest W_refusals ++ fr)) 50 [(0, .ref (aC B 7))] [] (wdC B W_spillsNow W_drawn T_length T_at T_bytes D_cells D_clauses G_length G_code A_size A_chosen A_codes A_lengths A_stack Y_cells Y_clauses N_marbles N_chipped N_swallowed N_sweets N_day N_owners P_next P_kept P_hasImage P_image P_acts P_entries P_imageEntries S_fewest S_row S_strengths U_size U_found U_places U_kinds U_holds U_fitting U_tally L_letters L_firstCells L_secondCells L_firstBest L_secondBest W_refusals ++ fr) (f_LawR_readClause_J50 T_length T_at T_bytes G_length G_code) := by
  unfold f_LawR_readClause_J50
  refine h_iconst hX dX2_readClause_50 ki_0 ?_
  exact w_LawR_readClause_J51 hX
set_option maxRecDepth 4000 in
theorem w_LawR_readClause (hX : gOk B X RX2 cX2_readClause 4 324 (some .boolean)) : gH B X (fun r : (Int32 × Int32 × Int32 × (Nat → Int32)) => gFin X (some (.int r.1)) (wdC B W_spillsNow W_drawn T_length r.2.1 T_bytes D_cells D_clauses r.2.2.1 r.2.2.2 A_size A_chosen A_codes A_lengths A_stack Y_cells Y_clauses N_marbles N_chipped N_swallowed N_sweets N_day N_owners P_next P_kept P_hasImage P_image P_acts P_entries P_imageEntries S_fewest S_row S_strengths U_size U_found U_places U_kinds U_holds U_fitting U_tally L_letters L_firstCells L_secondCells L_firstBest L_secondBest W_refusals ++ fr)) 0 [(0, .ref (aC B 7))] [] (wdC B W_spillsNow W_drawn T_length T_at T_bytes D_cells D_clauses G_length G_code A_size A_chosen A_codes A_lengths A_stack Y_cells Y_clauses N_marbles N_chipped N_swallowed N_sweets N_day N_owners P_next P_kept P_hasImage P_image P_acts P_entries P_imageEntries S_fewest S_row S_strengths U_size U_found U_places U_kinds U_holds U_fitting U_tally L_letters L_firstCells L_secondCells L_firstBest L_secondBest W_refusals ++ fr) (f_LawR_readClause T_length T_at T_bytes G_length G_code) := by
  unfold f_LawR_readClause
  refine h_aload_n hX dX2_readClause_0 rfl rfl ?_
  refine get_RX2_15_C7 hX dX2_readClause_1 ?_
  refine h_bipush hX dX2_readClause_4 kb_121 ?_
  refine h_callVi hX dX2_readClause_6 (cv_RX2_32) rc_C1 (As := [.int 121]) (st := []) (fun _ h => c_Tape_takes h) rfl rfl (by decide) (Nat.le_of_ble_eq_true rfl) (fun a_1 => ?_)
  refine h_if_eq hX dX2_readClause_9 (tgt := 24) (by decide) (fun _ => ?_) (fun _ => ?_)
  · refine h_iconst hX dX2_readClause_24 ki_0 ?_
    exact h_ret hX (rv := some (.int 0)) dX2_readClause_25 rfl (fun h => h)
  · refine h_aload_n hX dX2_readClause_12 rfl rfl ?_
    refine get_RX2_15_C7 hX dX2_readClause_13 ?_
    refine h_bipush hX dX2_readClause_16 kb_58 ?_
    refine h_callVi hX dX2_readClause_18 (cv_RX2_32) rc_C1 (As := [.int 58]) (st := []) (fun _ h => c_Tape_takes h) rfl rfl (by decide) (Nat.le_of_ble_eq_true rfl) (fun a_2 => ?_)
    refine h_if_ne hX dX2_readClause_21 (tgt := 26) (by decide) (fun _ => ?_) (fun _ => ?_)
    · refine h_aload_n hX dX2_readClause_26 rfl rfl ?_
      refine get_RX2_15_C7 hX dX2_readClause_27 ?_
      refine h_callVi hX dX2_readClause_30 (cv_RX2_36) rc_C1 (As := []) (st := []) (fun _ h => c_Tape_sign h) rfl rfl (by decide) (Nat.le_of_ble_eq_true rfl) (fun a_3 => ?_)
      refine h_istore_n hX dX2_readClause_33 rfl (by decide) (lv' := [(0, .ref (aC B 7)), (1, .int a_3.1)]) rfl ?_
      refine h_iload_n hX dX2_readClause_34 rfl rfl ?_
      refine h_bipush hX dX2_readClause_35 kb_33 ?_
      refine h_icmp_eq hX dX2_readClause_37 (tgt := 50) (by decide) (fun _ => ?_) (fun _ => ?_)
      · refine gH.dead [0] rfl ?_
        exact w_LawR_readClause_J50 hX
      · refine h_iload_n hX dX2_readClause_40 rfl rfl ?_
        refine h_bipush hX dX2_readClause_41 kb_40 ?_
        refine h_icmp_eq hX dX2_readClause_43 (tgt := 50) (by decide) (fun _ => ?_) (fun _ => ?_)
        · refine gH.dead [0] rfl ?_
          exact w_LawR_readClause_J50 hX
        · refine h_iconst hX dX2_readClause_46 ki_1 ?_
          refine h_goto hX dX2_readClause_47 (tgt := 51) (by decide) ?_
          refine gH.dead [0] rfl ?_
          exact w_LawR_readClause_J51 hX
    · refine h_iconst hX dX2_readClause_24 ki_0 ?_
      exact h_ret hX (rv := some (.int 0)) dX2_readClause_25 rfl (fun h => h)
theorem c_LawR_readClause {r : (Int32 × Int32 × Int32 × (Nat → Int32))} (h : f_LawR_readClause T_length T_at T_bytes G_length G_code = some r) : gMet B 324 yX2_readClause cX2_readClause 4 (some .boolean) [.ref (aC B 7)] (wdC B W_spillsNow W_drawn T_length T_at T_bytes D_cells D_clauses G_length G_code A_size A_chosen A_codes A_lengths A_stack Y_cells Y_clauses N_marbles N_chipped N_swallowed N_sweets N_day N_owners P_next P_kept P_hasImage P_image P_acts P_entries P_imageEntries S_fewest S_row S_strengths U_size U_found U_places U_kinds U_holds U_fitting U_tally L_letters L_firstCells L_secondCells L_firstBest L_secondBest W_refusals ++ fr) (some (.int r.1)) (wdC B W_spillsNow W_drawn T_length r.2.1 T_bytes D_cells D_clauses r.2.2.1 r.2.2.2 A_size A_chosen A_codes A_lengths A_stack Y_cells Y_clauses N_marbles N_chipped N_swallowed N_sweets N_day N_owners P_next P_kept P_hasImage P_image P_acts P_entries P_imageEntries S_fewest S_row S_strengths U_size U_found U_places U_kinds U_holds U_fitting U_tally L_letters L_firstCells L_secondCells L_firstBest L_secondBest W_refusals ++ fr) :=
  gMet.of rfl (Nat.le_of_ble_eq_true rfl) (fun X hX hF => w_LawR_readClause hX r h hF)
set_option maxRecDepth 4000 in
theorem w_LawR_reads_J52 (hX : gOk B X RX2 cX2_reads 3 325 (some .boolean)) : gH B X (fun r : (Int32 × Int32 × Int32 × (Nat → Int32)) => gFin X (some (.int r.1)) (wdC B W_spillsNow W_drawn T_length r.2.1 T_bytes D_cells D_clauses r.2.2.1 r.2.2.2 A_size A_chosen A_codes A_lengths A_stack Y_cells Y_clauses N_marbles N_chipped N_swallowed N_sweets N_day N_owners P_next P_kept P_hasImage P_image P_acts P_entries P_imageEntries S_fewest S_row S_strengths U_size U_found U_places U_kinds U_holds U_fitting U_tally L_letters L_firstCells L_secondCells L_firstBest L_secondBest W_refusals ++ fr)) 52 [(0, .ref (aC B 7))] [] (wdC B W_spillsNow W_drawn T_length T_at T_bytes D_cells D_clauses G_length G_code A_size A_chosen A_codes A_lengths A_stack Y_cells Y_clauses N_marbles N_chipped N_swallowed N_sweets N_day N_owners P_next P_kept P_hasImage P_image P_acts P_entries P_imageEntries S_fewest S_row S_strengths U_size U_found U_places U_kinds U_holds U_fitting U_tally L_letters L_firstCells L_secondCells L_firstBest L_secondBest W_refusals ++ fr) (f_LawR_reads_J52 T_length T_at T_bytes G_length G_code) := by
  unfold f_LawR_reads_J52
  refine h_aload_n hX dX2_reads_52 rfl rfl ?_
  refine get_RX2_15_C7 hX dX2_reads_53 ?_
  refine h_callVi hX dX2_reads_56 (cv_RX2_36) rc_C1 (As := []) (st := []) (fun _ h => c_Tape_sign h) rfl rfl (by decide) (Nat.le_of_ble_eq_true rfl) (fun a_2 => ?_)
  refine h_iconst hX dX2_reads_59 ki_m1 ?_
  refine h_icmp_ne hX dX2_reads_60 (tgt := 67) (by decide) (fun _ => ?_) (fun _ => ?_)
  · refine h_iconst hX dX2_reads_67 ki_0 ?_
    exact h_ret hX (rv := some (.int 0)) dX2_reads_68 rfl (fun h => h)
  · refine h_iconst hX dX2_reads_63 ki_1 ?_
    refine h_goto hX dX2_reads_64 (tgt := 68) (by decide) ?_
    exact h_ret hX (rv := some (.int 1)) dX2_reads_68 rfl (fun h => h)
set_option maxRecDepth 4000 in
theorem w_LawR_reads_L16 (hX : gOk B X RX2 cX2_reads 3 325 (some .boolean)) (s : (Int32 × Int32 × Int32 × Int32 × (Nat → Int32))) : gH B X (Sum.elim (fun s : (Int32 × Int32 × Int32 × Int32 × (Nat → Int32)) => gG B X 16 [(0, .ref (aC B 7)), (1, .int s.1), (2, .int s.2.1)] [] (wdC B W_spillsNow W_drawn T_length s.2.2.1 T_bytes D_cells D_clauses s.2.2.2.1 s.2.2.2.2 A_size A_chosen A_codes A_lengths A_stack Y_cells Y_clauses N_marbles N_chipped N_swallowed N_sweets N_day N_owners P_next P_kept P_hasImage P_image P_acts P_entries P_imageEntries S_fewest S_row S_strengths U_size U_found U_places U_kinds U_holds U_fitting U_tally L_letters L_firstCells L_secondCells L_firstBest L_secondBest W_refusals ++ fr)) (fun r : (Int32 × Int32 × Int32 × (Nat → Int32)) => gFin X (some (.int r.1)) (wdC B W_spillsNow W_drawn T_length r.2.1 T_bytes D_cells D_clauses r.2.2.1 r.2.2.2 A_size A_chosen A_codes A_lengths A_stack Y_cells Y_clauses N_marbles N_chipped N_swallowed N_sweets N_day N_owners P_next P_kept P_hasImage P_image P_acts P_entries P_imageEntries S_fewest S_row S_strengths U_size U_found U_places U_kinds U_holds U_fitting U_tally L_letters L_firstCells L_secondCells L_firstBest L_secondBest W_refusals ++ fr))) 16 [(0, .ref (aC B 7)), (1, .int s.1), (2, .int s.2.1)] [] (wdC B W_spillsNow W_drawn T_length s.2.2.1 T_bytes D_cells D_clauses s.2.2.2.1 s.2.2.2.2 A_size A_chosen A_codes A_lengths A_stack Y_cells Y_clauses N_marbles N_chipped N_swallowed N_sweets N_day N_owners P_next P_kept P_hasImage P_image P_acts P_entries P_imageEntries S_fewest S_row S_strengths U_size U_found U_places U_kinds U_holds U_fitting U_tally L_letters L_firstCells L_secondCells L_firstBest L_secondBest W_refusals ++ fr) (f_LawR_reads_L16 T_length T_bytes s) := by
  unfold f_LawR_reads_L16
  refine h_iload_n hX dX2_reads_16 rfl rfl ?_
  refine h_sipush hX dX2_reads_17 ks_240 ?_
  refine h_icmp_ge hX dX2_reads_20 (tgt := 52) (by decide) (fun _ => ?_) (fun _ => ?_)
  · refine gH.inr ?_
    refine gH.dead [0] rfl ?_
    exact w_LawR_reads_J52 hX
  · refine h_iload_n hX dX2_reads_23 rfl rfl ?_
    refine h_if_eq hX dX2_reads_24 (tgt := 52) (by decide) (fun _ => ?_) (fun _ => ?_)
    · refine gH.inr ?_
      refine gH.dead [0] rfl ?_
      exact w_LawR_reads_J52 hX
    · refine h_aload_n hX dX2_reads_27 rfl rfl ?_
      refine h_callVi hX dX2_reads_28 (cv_RX2_28) rc_C7 (As := []) (st := []) (fun _ h => c_LawR_readClause h) rfl rfl (by decide) (Nat.le_of_ble_eq_true rfl) (fun a_3 => ?_)
      refine h_if_ne hX dX2_reads_31 (tgt := 36) (by decide) (fun _ => ?_) (fun _ => ?_)
      · refine h_aload_n hX dX2_reads_36 rfl rfl ?_
        refine get_RX2_15_C7 hX dX2_reads_37 ?_
        refine h_bipush hX dX2_reads_40 kb_59 ?_
        refine h_callVi hX dX2_reads_42 (cv_RX2_32) rc_C1 (As := [.int 59]) (st := []) (fun _ h => c_Tape_takes h) rfl rfl (by decide) (Nat.le_of_ble_eq_true rfl) (fun a_4 => ?_)
        refine h_istore_n hX dX2_reads_45 rfl (by decide) (lv' := [(0, .ref (aC B 7)), (1, .int a_4.1), (2, .int s.2.1)]) rfl ?_
        refine h_iincc hX dX2_reads_46 rfl ki_1 (by decide) (lv' := [(0, .ref (aC B 7)), (1, .int a_4.1), (2, .int (s.2.1 + 1))]) rfl ?_
        refine h_goto hX dX2_reads_49 (tgt := 16) (by decide) ?_
        exact gH.some' (fun h => h)
      · refine h_iconst hX dX2_reads_34 ki_0 ?_
        exact h_ret hX (rv := some (.int 0)) dX2_reads_35 rfl (fun h => h)
set_option maxRecDepth 4000 in
theorem w_LawR_reads (hX : gOk B X RX2 cX2_reads 3 325 (some .boolean)) : gH B X (fun r : (Int32 × Int32 × Int32 × (Nat → Int32)) => gFin X (some (.int r.1)) (wdC B W_spillsNow W_drawn T_length r.2.1 T_bytes D_cells D_clauses r.2.2.1 r.2.2.2 A_size A_chosen A_codes A_lengths A_stack Y_cells Y_clauses N_marbles N_chipped N_swallowed N_sweets N_day N_owners P_next P_kept P_hasImage P_image P_acts P_entries P_imageEntries S_fewest S_row S_strengths U_size U_found U_places U_kinds U_holds U_fitting U_tally L_letters L_firstCells L_secondCells L_firstBest L_secondBest W_refusals ++ fr)) 0 [(0, .ref (aC B 7))] [] (wdC B W_spillsNow W_drawn T_length T_at T_bytes D_cells D_clauses G_length G_code A_size A_chosen A_codes A_lengths A_stack Y_cells Y_clauses N_marbles N_chipped N_swallowed N_sweets N_day N_owners P_next P_kept P_hasImage P_image P_acts P_entries P_imageEntries S_fewest S_row S_strengths U_size U_found U_places U_kinds U_holds U_fitting U_tally L_letters L_firstCells L_secondCells L_firstBest L_secondBest W_refusals ++ fr) (f_LawR_reads T_length T_at T_bytes G_length G_code) := by
  unfold f_LawR_reads
  refine h_aload_n hX dX2_reads_0 rfl rfl ?_
  refine h_iconst hX dX2_reads_1 ki_0 ?_
  refine put_RX2_19_C7 hX dX2_reads_2 ?_
  refine h_aload_n hX dX2_reads_5 rfl rfl ?_
  refine get_RX2_15_C7 hX dX2_reads_6 ?_
  refine h_callVv hX dX2_reads_9 (cv_RX2_23) rc_C1 (As := []) (st := []) (fun _ h => c_Tape_rewind h) rfl rfl (by decide) (Nat.le_of_ble_eq_true rfl) (fun a_1 => ?_)
  refine h_iconst hX dX2_reads_12 ki_1 ?_
  refine h_istore_n hX dX2_reads_13 rfl (by decide) (lv' := [(0, .ref (aC B 7)), (1, .int 1)]) rfl ?_
  refine h_iconst hX dX2_reads_14 ki_0 ?_
  refine h_istore_n hX dX2_reads_15 rfl (by decide) (lv' := [(0, .ref (aC B 7)), (1, .int 1), (2, .int 0)]) rfl ?_
  exact gH.loop (lvf := fun z : (Int32 × Int32 × Int32 × Int32 × (Nat → Int32)) => [(0, .ref (aC B 7)), (1, .int z.1), (2, .int z.2.1)]) (wf := fun z : (Int32 × Int32 × Int32 × Int32 × (Nat → Int32)) => wdC B W_spillsNow W_drawn T_length z.2.2.1 T_bytes D_cells D_clauses z.2.2.2.1 z.2.2.2.2 A_size A_chosen A_codes A_lengths A_stack Y_cells Y_clauses N_marbles N_chipped N_swallowed N_sweets N_day N_owners P_next P_kept P_hasImage P_image P_acts P_entries P_imageEntries S_fewest S_row S_strengths U_size U_found U_places U_kinds U_holds U_fitting U_tally L_letters L_firstCells L_secondCells L_firstBest L_secondBest W_refusals ++ fr) (fun z => w_LawR_reads_L16 hX z) (1, 0, a_1, 0, G_code)
theorem c_LawR_reads {r : (Int32 × Int32 × Int32 × (Nat → Int32))} (h : f_LawR_reads T_length T_at T_bytes G_length G_code = some r) : gMet B 325 yX2_reads cX2_reads 3 (some .boolean) [.ref (aC B 7)] (wdC B W_spillsNow W_drawn T_length T_at T_bytes D_cells D_clauses G_length G_code A_size A_chosen A_codes A_lengths A_stack Y_cells Y_clauses N_marbles N_chipped N_swallowed N_sweets N_day N_owners P_next P_kept P_hasImage P_image P_acts P_entries P_imageEntries S_fewest S_row S_strengths U_size U_found U_places U_kinds U_holds U_fitting U_tally L_letters L_firstCells L_secondCells L_firstBest L_secondBest W_refusals ++ fr) (some (.int r.1)) (wdC B W_spillsNow W_drawn T_length r.2.1 T_bytes D_cells D_clauses r.2.2.1 r.2.2.2 A_size A_chosen A_codes A_lengths A_stack Y_cells Y_clauses N_marbles N_chipped N_swallowed N_sweets N_day N_owners P_next P_kept P_hasImage P_image P_acts P_entries P_imageEntries S_fewest S_row S_strengths U_size U_found U_places U_kinds U_holds U_fitting U_tally L_letters L_firstCells L_secondCells L_firstBest L_secondBest W_refusals ++ fr) :=
  gMet.of rfl (Nat.le_of_ble_eq_true rfl) (fun X hX hF => w_LawR_reads hX r h hF)
set_option maxRecDepth 4000 in
theorem w_Main_fault {p0 : Int32} (hX : gOk B X RX10 cX10_fault 2 326 (some .int)) : gH B X (fun r : (Int32 × Int32 × (Nat → Int32) × (Nat → Int32) × Int32 × (Nat → Int32)) => gFin X (some (.int r.1)) (wdC B W_spillsNow W_drawn T_length r.2.1 T_bytes r.2.2.1 r.2.2.2.1 r.2.2.2.2.1 r.2.2.2.2.2 A_size A_chosen A_codes A_lengths A_stack Y_cells Y_clauses N_marbles N_chipped N_swallowed N_sweets N_day N_owners P_next P_kept P_hasImage P_image P_acts P_entries P_imageEntries S_fewest S_row S_strengths U_size U_found U_places U_kinds U_holds U_fitting U_tally L_letters L_firstCells L_secondCells L_firstBest L_secondBest W_refusals ++ fr)) 0 [(0, .ref (aC B 0)), (1, .int p0)] [] (wdC B W_spillsNow W_drawn T_length T_at T_bytes D_cells D_clauses G_length G_code A_size A_chosen A_codes A_lengths A_stack Y_cells Y_clauses N_marbles N_chipped N_swallowed N_sweets N_day N_owners P_next P_kept P_hasImage P_image P_acts P_entries P_imageEntries S_fewest S_row S_strengths U_size U_found U_places U_kinds U_holds U_fitting U_tally L_letters L_firstCells L_secondCells L_firstBest L_secondBest W_refusals ++ fr) (f_Main_fault T_length T_at T_bytes D_cells D_clauses G_length G_code p0) := by
  unfold f_Main_fault
  refine h_iload_n hX dX10_fault_0 rfl rfl ?_
  refine h_if_ne hX dX10_fault_1 (tgt := 26) (by decide) (fun _ => ?_) (fun _ => ?_)
  · refine h_iload_n hX dX10_fault_26 rfl rfl ?_
    refine h_iconst hX dX10_fault_27 ki_1 ?_
    refine h_icmp_ne hX dX10_fault_28 (tgt := 53) (by decide) (fun _ => ?_) (fun _ => ?_)
    · refine h_bipush hX dX10_fault_53 kb_m2 ?_
      exact h_ret hX (rv := some (.int ((-2)))) dX10_fault_55 trivial (fun h => h)
    · refine h_aload_n hX dX10_fault_31 rfl rfl ?_
      refine get_RX10_28_C0 hX dX10_fault_32 ?_
      refine h_callVi hX dX10_fault_35 (cv_RX10_115) rc_C7 (As := []) (st := []) (fun _ h => c_LawR_reads h) rfl rfl (by decide) (Nat.le_of_ble_eq_true rfl) (fun a_1 => ?_)
      refine h_if_eq hX dX10_fault_38 (tgt := 45) (by decide) (fun _ => ?_) (fun _ => ?_)
      · refine h_aload_n hX dX10_fault_45 rfl rfl ?_
        refine get_RX10_10_C0 hX dX10_fault_46 ?_
        refine h_callVi hX dX10_fault_49 (cv_RX10_112) rc_C1 (As := []) (st := []) (fun _ h => c_Tape_position h) rfl rfl (by decide) (Nat.le_of_ble_eq_true rfl) (fun a_2 => ?_)
        exact h_ret hX (rv := some (.int a_2)) dX10_fault_52 trivial (fun h => h)
      · refine h_iconst hX dX10_fault_41 ki_m1 ?_
        refine h_goto hX dX10_fault_42 (tgt := 52) (by decide) ?_
        exact h_ret hX (rv := some (.int ((-1)))) dX10_fault_52 trivial (fun h => h)
  · refine h_aload_n hX dX10_fault_4 rfl rfl ?_
    refine get_RX10_21_C0 hX dX10_fault_5 ?_
    refine h_callVi hX dX10_fault_8 (cv_RX10_108) rc_C3 (As := []) (st := []) (fun _ h => c_YardR_reads h) rfl rfl (by decide) (Nat.le_of_ble_eq_true rfl) (fun a_3 => ?_)
    refine h_if_eq hX dX10_fault_11 (tgt := 18) (by decide) (fun _ => ?_) (fun _ => ?_)
    · refine h_aload_n hX dX10_fault_18 rfl rfl ?_
      refine get_RX10_10_C0 hX dX10_fault_19 ?_
      refine h_callVi hX dX10_fault_22 (cv_RX10_112) rc_C1 (As := []) (st := []) (fun _ h => c_Tape_position h) rfl rfl (by decide) (Nat.le_of_ble_eq_true rfl) (fun a_4 => ?_)
      exact h_ret hX (rv := some (.int a_4)) dX10_fault_25 trivial (fun h => h)
    · refine h_iconst hX dX10_fault_14 ki_m1 ?_
      refine h_goto hX dX10_fault_15 (tgt := 25) (by decide) ?_
      exact h_ret hX (rv := some (.int ((-1)))) dX10_fault_25 trivial (fun h => h)
theorem c_Main_fault {p0 : Int32} {r : (Int32 × Int32 × (Nat → Int32) × (Nat → Int32) × Int32 × (Nat → Int32))} (h : f_Main_fault T_length T_at T_bytes D_cells D_clauses G_length G_code p0 = some r) : gMet B 326 yX10_fault cX10_fault 2 (some .int) [.ref (aC B 0), .int p0] (wdC B W_spillsNow W_drawn T_length T_at T_bytes D_cells D_clauses G_length G_code A_size A_chosen A_codes A_lengths A_stack Y_cells Y_clauses N_marbles N_chipped N_swallowed N_sweets N_day N_owners P_next P_kept P_hasImage P_image P_acts P_entries P_imageEntries S_fewest S_row S_strengths U_size U_found U_places U_kinds U_holds U_fitting U_tally L_letters L_firstCells L_secondCells L_firstBest L_secondBest W_refusals ++ fr) (some (.int r.1)) (wdC B W_spillsNow W_drawn T_length r.2.1 T_bytes r.2.2.1 r.2.2.2.1 r.2.2.2.2.1 r.2.2.2.2.2 A_size A_chosen A_codes A_lengths A_stack Y_cells Y_clauses N_marbles N_chipped N_swallowed N_sweets N_day N_owners P_next P_kept P_hasImage P_image P_acts P_entries P_imageEntries S_fewest S_row S_strengths U_size U_found U_places U_kinds U_holds U_fitting U_tally L_letters L_firstCells L_secondCells L_firstBest L_secondBest W_refusals ++ fr) :=
  gMet.of rfl (Nat.le_of_ble_eq_true rfl) (fun X hX hF => w_Main_fault hX r h hF)
set_option maxRecDepth 4000 in
theorem w_Tape_append_J49 {v1 : Int32} {v2 : Int32} (hX : gOk B X RX7 cX7_append 4 0 none) : gH B X (Sum.elim (fun s : (Int32 × Int32 × (Nat → Int32)) => gG B X 3 [(0, .ref (aC B 1)), (1, .int v1), (2, .int s.1)] [] (wdC B W_spillsNow W_drawn s.2.1 T_at s.2.2 D_cells D_clauses G_length G_code A_size A_chosen A_codes A_lengths A_stack Y_cells Y_clauses N_marbles N_chipped N_swallowed N_sweets N_day N_owners P_next P_kept P_hasImage P_image P_acts P_entries P_imageEntries S_fewest S_row S_strengths U_size U_found U_places U_kinds U_holds U_fitting U_tally L_letters L_firstCells L_secondCells L_firstBest L_secondBest W_refusals ++ fr)) (fun r : (Int32 × (Nat → Int32)) => gFin X (none) (wdC B W_spillsNow W_drawn r.1 T_at r.2 D_cells D_clauses G_length G_code A_size A_chosen A_codes A_lengths A_stack Y_cells Y_clauses N_marbles N_chipped N_swallowed N_sweets N_day N_owners P_next P_kept P_hasImage P_image P_acts P_entries P_imageEntries S_fewest S_row S_strengths U_size U_found U_places U_kinds U_holds U_fitting U_tally L_letters L_firstCells L_secondCells L_firstBest L_secondBest W_refusals ++ fr))) 49 [(0, .ref (aC B 1)), (1, .int v1), (2, .int v2)] [] (wdC B W_spillsNow W_drawn T_length T_at T_bytes D_cells D_clauses G_length G_code A_size A_chosen A_codes A_lengths A_stack Y_cells Y_clauses N_marbles N_chipped N_swallowed N_sweets N_day N_owners P_next P_kept P_hasImage P_image P_acts P_entries P_imageEntries S_fewest S_row S_strengths U_size U_found U_places U_kinds U_holds U_fitting U_tally L_letters L_firstCells L_secondCells L_firstBest L_secondBest W_refusals ++ fr) (f_Tape_append_J49 T_length T_bytes v2) := by
  unfold f_Tape_append_J49
  refine h_iincc hX dX7_append_49 rfl ki_m8 (by decide) (lv' := [(0, .ref (aC B 1)), (1, .int v1), (2, .int (v2 + (-8)))]) rfl ?_
  refine h_goto hX dX7_append_52 (tgt := 3) (by decide) ?_
  exact gH.some' (fun h => h)
set_option maxRecDepth 4000 in
theorem w_Tape_append_L3 {v1 : Int32} (hX : gOk B X RX7 cX7_append 4 0 none) (s : (Int32 × Int32 × (Nat → Int32))) : gH B X (Sum.elim (fun s : (Int32 × Int32 × (Nat → Int32)) => gG B X 3 [(0, .ref (aC B 1)), (1, .int v1), (2, .int s.1)] [] (wdC B W_spillsNow W_drawn s.2.1 T_at s.2.2 D_cells D_clauses G_length G_code A_size A_chosen A_codes A_lengths A_stack Y_cells Y_clauses N_marbles N_chipped N_swallowed N_sweets N_day N_owners P_next P_kept P_hasImage P_image P_acts P_entries P_imageEntries S_fewest S_row S_strengths U_size U_found U_places U_kinds U_holds U_fitting U_tally L_letters L_firstCells L_secondCells L_firstBest L_secondBest W_refusals ++ fr)) (fun r : (Int32 × (Nat → Int32)) => gFin X (none) (wdC B W_spillsNow W_drawn r.1 T_at r.2 D_cells D_clauses G_length G_code A_size A_chosen A_codes A_lengths A_stack Y_cells Y_clauses N_marbles N_chipped N_swallowed N_sweets N_day N_owners P_next P_kept P_hasImage P_image P_acts P_entries P_imageEntries S_fewest S_row S_strengths U_size U_found U_places U_kinds U_holds U_fitting U_tally L_letters L_firstCells L_secondCells L_firstBest L_secondBest W_refusals ++ fr))) 3 [(0, .ref (aC B 1)), (1, .int v1), (2, .int s.1)] [] (wdC B W_spillsNow W_drawn s.2.1 T_at s.2.2 D_cells D_clauses G_length G_code A_size A_chosen A_codes A_lengths A_stack Y_cells Y_clauses N_marbles N_chipped N_swallowed N_sweets N_day N_owners P_next P_kept P_hasImage P_image P_acts P_entries P_imageEntries S_fewest S_row S_strengths U_size U_found U_places U_kinds U_holds U_fitting U_tally L_letters L_firstCells L_secondCells L_firstBest L_secondBest W_refusals ++ fr) (f_Tape_append_L3 v1 s) := by
  unfold f_Tape_append_L3
  refine h_iload_n hX dX7_append_3 rfl rfl ?_
  refine h_if_lt hX dX7_append_4 (tgt := 55) (by decide) (fun _ => ?_) (fun _ => ?_)
  · exact h_ret hX (rv := none) dX7_append_55 trivial (fun h => h)
  · refine h_iload_n hX dX7_append_7 rfl rfl ?_
    refine h_iload_n hX dX7_append_8 rfl rfl ?_
    refine h_iushr hX dX7_append_9 ?_
    refine h_sipush hX dX7_append_10 ks_255 ?_
    refine h_iand hX dX7_append_13 ?_
    refine gH.leti (fun v3_1 => ?_)
    refine h_istore_n hX dX7_append_14 rfl (by decide) (lv' := [(0, .ref (aC B 1)), (1, .int v1), (2, .int s.1), (3, .int v3_1)]) rfl ?_
    refine h_iload_n hX dX7_append_15 rfl rfl ?_
    refine h_if_eq hX dX7_append_16 (tgt := 49) (by decide) (fun _ => ?_) (fun _ => ?_)
    · refine gH.dead [0, 1, 2] rfl ?_
      exact w_Tape_append_J49 hX
    · refine h_aload_n hX dX7_append_19 rfl rfl ?_
      refine get_RX7_15_C1 hX dX7_append_20 ?_
      refine h_sipush hX dX7_append_23 ks_240 ?_
      refine h_icmp_ge hX dX7_append_26 (tgt := 49) (by decide) (fun _ => ?_) (fun _ => ?_)
      · refine gH.dead [0, 1, 2] rfl ?_
        exact w_Tape_append_J49 hX
      · refine h_aload_n hX dX7_append_29 rfl rfl ?_
        refine get_RX7_9_C1 hX dX7_append_30 ?_
        refine h_aload_n hX dX7_append_33 rfl rfl ?_
        refine get_RX7_15_C1 hX dX7_append_34 ?_
        refine h_iload_n hX dX7_append_37 rfl rfl ?_
        refine ast_C2 hX dX7_append_38 ?_
        refine gH.letw (w := fun y => wdC B W_spillsNow W_drawn s.2.1 T_at y D_cells D_clauses G_length G_code A_size A_chosen A_codes A_lengths A_stack Y_cells Y_clauses N_marbles N_chipped N_swallowed N_sweets N_day N_owners P_next P_kept P_hasImage P_image P_acts P_entries P_imageEntries S_fewest S_row S_strengths U_size U_found U_places U_kinds U_holds U_fitting U_tally L_letters L_firstCells L_secondCells L_firstBest L_secondBest W_refusals ++ fr) (fun T_bytes_3 => ?_)
        refine h_aload_n hX dX7_append_39 rfl rfl ?_
        refine h_dup hX dX7_append_40 rfl ?_
        refine get_RX7_15_C1 hX dX7_append_41 ?_
        refine h_iconst hX dX7_append_44 ki_1 ?_
        refine h_iadd hX dX7_append_45 ?_
        refine put_RX7_15_C1 hX dX7_append_46 ?_
        refine gH.letw (w := fun y => wdC B W_spillsNow W_drawn y T_at T_bytes_3 D_cells D_clauses G_length G_code A_size A_chosen A_codes A_lengths A_stack Y_cells Y_clauses N_marbles N_chipped N_swallowed N_sweets N_day N_owners P_next P_kept P_hasImage P_image P_acts P_entries P_imageEntries S_fewest S_row S_strengths U_size U_found U_places U_kinds U_holds U_fitting U_tally L_letters L_firstCells L_secondCells L_firstBest L_secondBest W_refusals ++ fr) (fun T_length_4 => ?_)
        refine gH.dead [0, 1, 2] rfl ?_
        exact w_Tape_append_J49 hX
set_option maxRecDepth 4000 in
theorem w_Tape_append {p0 : Int32} (hX : gOk B X RX7 cX7_append 4 0 none) : gH B X (fun r : (Int32 × (Nat → Int32)) => gFin X (none) (wdC B W_spillsNow W_drawn r.1 T_at r.2 D_cells D_clauses G_length G_code A_size A_chosen A_codes A_lengths A_stack Y_cells Y_clauses N_marbles N_chipped N_swallowed N_sweets N_day N_owners P_next P_kept P_hasImage P_image P_acts P_entries P_imageEntries S_fewest S_row S_strengths U_size U_found U_places U_kinds U_holds U_fitting U_tally L_letters L_firstCells L_secondCells L_firstBest L_secondBest W_refusals ++ fr)) 0 [(0, .ref (aC B 1)), (1, .int p0)] [] (wdC B W_spillsNow W_drawn T_length T_at T_bytes D_cells D_clauses G_length G_code A_size A_chosen A_codes A_lengths A_stack Y_cells Y_clauses N_marbles N_chipped N_swallowed N_sweets N_day N_owners P_next P_kept P_hasImage P_image P_acts P_entries P_imageEntries S_fewest S_row S_strengths U_size U_found U_places U_kinds U_holds U_fitting U_tally L_letters L_firstCells L_secondCells L_firstBest L_secondBest W_refusals ++ fr) (f_Tape_append T_length T_bytes p0) := by
  unfold f_Tape_append
  refine h_bipush hX dX7_append_0 kb_24 ?_
  refine h_istore_n hX dX7_append_2 rfl (by decide) (lv' := [(0, .ref (aC B 1)), (1, .int p0), (2, .int 24)]) rfl ?_
  exact gH.loop (lvf := fun z : (Int32 × Int32 × (Nat → Int32)) => [(0, .ref (aC B 1)), (1, .int p0), (2, .int z.1)]) (wf := fun z : (Int32 × Int32 × (Nat → Int32)) => wdC B W_spillsNow W_drawn z.2.1 T_at z.2.2 D_cells D_clauses G_length G_code A_size A_chosen A_codes A_lengths A_stack Y_cells Y_clauses N_marbles N_chipped N_swallowed N_sweets N_day N_owners P_next P_kept P_hasImage P_image P_acts P_entries P_imageEntries S_fewest S_row S_strengths U_size U_found U_places U_kinds U_holds U_fitting U_tally L_letters L_firstCells L_secondCells L_firstBest L_secondBest W_refusals ++ fr) (fun z => w_Tape_append_L3 hX z) (24, T_length, T_bytes)
theorem c_Tape_append {p0 : Int32} {r : (Int32 × (Nat → Int32))} (h : f_Tape_append T_length T_bytes p0 = some r) : gMet B 0 yX7_append cX7_append 4 none [.ref (aC B 1), .int p0] (wdC B W_spillsNow W_drawn T_length T_at T_bytes D_cells D_clauses G_length G_code A_size A_chosen A_codes A_lengths A_stack Y_cells Y_clauses N_marbles N_chipped N_swallowed N_sweets N_day N_owners P_next P_kept P_hasImage P_image P_acts P_entries P_imageEntries S_fewest S_row S_strengths U_size U_found U_places U_kinds U_holds U_fitting U_tally L_letters L_firstCells L_secondCells L_firstBest L_secondBest W_refusals ++ fr) (none) (wdC B W_spillsNow W_drawn r.1 T_at r.2 D_cells D_clauses G_length G_code A_size A_chosen A_codes A_lengths A_stack Y_cells Y_clauses N_marbles N_chipped N_swallowed N_sweets N_day N_owners P_next P_kept P_hasImage P_image P_acts P_entries P_imageEntries S_fewest S_row S_strengths U_size U_found U_places U_kinds U_holds U_fitting U_tally L_letters L_firstCells L_secondCells L_firstBest L_secondBest W_refusals ++ fr) :=
  gMet.of rfl (Nat.le_of_ble_eq_true rfl) (fun X hX hF => w_Tape_append hX r h hF)
set_option maxRecDepth 4000 in
theorem w_Main_feed {p0 : Int32} {p1 : Int32} {p2 : Int32} {p3 : Int32} {p4 : Int32} (hX : gOk B X RX10 cX10_feed 7 1 (some .int)) : gH B X (fun r : (Int32 × Int32 × (Nat → Int32)) => gFin X (some (.int r.1)) (wdC B W_spillsNow W_drawn r.2.1 T_at r.2.2 D_cells D_clauses G_length G_code A_size A_chosen A_codes A_lengths A_stack Y_cells Y_clauses N_marbles N_chipped N_swallowed N_sweets N_day N_owners P_next P_kept P_hasImage P_image P_acts P_entries P_imageEntries S_fewest S_row S_strengths U_size U_found U_places U_kinds U_holds U_fitting U_tally L_letters L_firstCells L_secondCells L_firstBest L_secondBest W_refusals ++ fr)) 0 [(0, .ref (aC B 0)), (1, .int p0), (2, .int p1), (3, .int p2), (4, .int p3), (5, .int p4)] [] (wdC B W_spillsNow W_drawn T_length T_at T_bytes D_cells D_clauses G_length G_code A_size A_chosen A_codes A_lengths A_stack Y_cells Y_clauses N_marbles N_chipped N_swallowed N_sweets N_day N_owners P_next P_kept P_hasImage P_image P_acts P_entries P_imageEntries S_fewest S_row S_strengths U_size U_found U_places U_kinds U_holds U_fitting U_tally L_letters L_firstCells L_secondCells L_firstBest L_secondBest W_refusals ++ fr) (f_Main_feed T_length T_bytes p0 p1 p2 p3 p4) := by
  unfold f_Main_feed
  refine h_iload_n hX dX10_feed_0 rfl rfl ?_
  refine h_callSi hX dX10_feed_1 (cs_RX10_93) (As := [.int p0]) (st := []) (fun _ h => c_Tape_bytesIn h) rfl rfl (by decide) (Nat.le_of_ble_eq_true rfl) (fun a_1 => ?_)
  refine h_iload_n hX dX10_feed_4 rfl rfl ?_
  refine h_callSi hX dX10_feed_5 (cs_RX10_93) (As := [.int p1]) (st := [.int a_1]) (fun _ h => c_Tape_bytesIn h) rfl rfl (by decide) (Nat.le_of_ble_eq_true rfl) (fun a_2 => ?_)
  refine h_iadd hX dX10_feed_8 ?_
  refine h_iload_n hX dX10_feed_9 rfl rfl ?_
  refine h_callSi hX dX10_feed_10 (cs_RX10_93) (As := [.int p2]) (st := [.int (a_1 + a_2)]) (fun _ h => c_Tape_bytesIn h) rfl rfl (by decide) (Nat.le_of_ble_eq_true rfl) (fun a_3 => ?_)
  refine h_iadd hX dX10_feed_13 ?_
  refine h_iload hX dX10_feed_14 rfl ?_
  refine h_callSi hX dX10_feed_16 (cs_RX10_93) (As := [.int p3]) (st := [.int ((a_1 + a_2) + a_3)]) (fun _ h => c_Tape_bytesIn h) rfl rfl (by decide) (Nat.le_of_ble_eq_true rfl) (fun a_4 => ?_)
  refine h_iadd hX dX10_feed_19 ?_
  refine h_iload hX dX10_feed_20 rfl ?_
  refine h_callSi hX dX10_feed_22 (cs_RX10_93) (As := [.int p4]) (st := [.int (((a_1 + a_2) + a_3) + a_4)]) (fun _ h => c_Tape_bytesIn h) rfl rfl (by decide) (Nat.le_of_ble_eq_true rfl) (fun a_5 => ?_)
  refine h_iadd hX dX10_feed_25 ?_
  refine gH.leti (fun v6_6 => ?_)
  refine h_istore hX dX10_feed_26 (by decide) (lv' := [(0, .ref (aC B 0)), (1, .int p0), (2, .int p1), (3, .int p2), (4, .int p3), (5, .int p4), (6, .int v6_6)]) rfl ?_
  refine h_aload_n hX dX10_feed_28 rfl rfl ?_
  refine get_RX10_10_C0 hX dX10_feed_29 ?_
  refine h_callVi hX dX10_feed_32 (cv_RX10_97) rc_C1 (As := []) (st := []) (fun _ h => c_Tape_size h) rfl rfl (by decide) (Nat.le_of_ble_eq_true rfl) (fun a_7 => ?_)
  refine h_iload hX dX10_feed_35 rfl ?_
  refine h_iadd hX dX10_feed_37 ?_
  refine h_sipush hX dX10_feed_38 ks_240 ?_
  refine h_icmp_le hX dX10_feed_41 (tgt := 46) (by decide) (fun _ => ?_) (fun _ => ?_)
  · refine h_aload_n hX dX10_feed_46 rfl rfl ?_
    refine get_RX10_10_C0 hX dX10_feed_47 ?_
    refine h_iload_n hX dX10_feed_50 rfl rfl ?_
    refine h_callVv hX dX10_feed_51 (cv_RX10_101) rc_C1 (As := [.int p0]) (st := []) (fun _ h => c_Tape_append h) rfl rfl (by decide) (Nat.le_of_ble_eq_true rfl) (fun a_8 => ?_)
    refine h_aload_n hX dX10_feed_54 rfl rfl ?_
    refine get_RX10_10_C0 hX dX10_feed_55 ?_
    refine h_iload_n hX dX10_feed_58 rfl rfl ?_
    refine h_callVv hX dX10_feed_59 (cv_RX10_101) rc_C1 (As := [.int p1]) (st := []) (fun _ h => c_Tape_append h) rfl rfl (by decide) (Nat.le_of_ble_eq_true rfl) (fun a_9 => ?_)
    refine h_aload_n hX dX10_feed_62 rfl rfl ?_
    refine get_RX10_10_C0 hX dX10_feed_63 ?_
    refine h_iload_n hX dX10_feed_66 rfl rfl ?_
    refine h_callVv hX dX10_feed_67 (cv_RX10_101) rc_C1 (As := [.int p2]) (st := []) (fun _ h => c_Tape_append h) rfl rfl (by decide) (Nat.le_of_ble_eq_true rfl) (fun a_10 => ?_)
    refine h_aload_n hX dX10_feed_70 rfl rfl ?_
    refine get_RX10_10_C0 hX dX10_feed_71 ?_
    refine h_iload hX dX10_feed_74 rfl ?_
    refine h_callVv hX dX10_feed_76 (cv_RX10_101) rc_C1 (As := [.int p3]) (st := []) (fun _ h => c_Tape_append h) rfl rfl (by decide) (Nat.le_of_ble_eq_true rfl) (fun a_11 => ?_)
    refine h_aload_n hX dX10_feed_79 rfl rfl ?_
    refine get_RX10_10_C0 hX dX10_feed_80 ?_
    refine h_iload hX dX10_feed_83 rfl ?_
    refine h_callVv hX dX10_feed_85 (cv_RX10_101) rc_C1 (As := [.int p4]) (st := []) (fun _ h => c_Tape_append h) rfl rfl (by decide) (Nat.le_of_ble_eq_true rfl) (fun a_12 => ?_)
    refine h_aload_n hX dX10_feed_88 rfl rfl ?_
    refine get_RX10_10_C0 hX dX10_feed_89 ?_
    refine h_callVi hX dX10_feed_92 (cv_RX10_97) rc_C1 (As := []) (st := []) (fun _ h => c_Tape_size h) rfl rfl (by decide) (Nat.le_of_ble_eq_true rfl) (fun a_13 => ?_)
    exact h_ret hX (rv := some (.int a_13)) dX10_feed_95 trivial (fun h => h)
  · refine h_iconst hX dX10_feed_44 ki_m1 ?_
    exact h_ret hX (rv := some (.int ((-1)))) dX10_feed_45 trivial (fun h => h)
theorem c_Main_feed {p0 : Int32} {p1 : Int32} {p2 : Int32} {p3 : Int32} {p4 : Int32} {r : (Int32 × Int32 × (Nat → Int32))} (h : f_Main_feed T_length T_bytes p0 p1 p2 p3 p4 = some r) : gMet B 1 yX10_feed cX10_feed 7 (some .int) [.ref (aC B 0), .int p0, .int p1, .int p2, .int p3, .int p4] (wdC B W_spillsNow W_drawn T_length T_at T_bytes D_cells D_clauses G_length G_code A_size A_chosen A_codes A_lengths A_stack Y_cells Y_clauses N_marbles N_chipped N_swallowed N_sweets N_day N_owners P_next P_kept P_hasImage P_image P_acts P_entries P_imageEntries S_fewest S_row S_strengths U_size U_found U_places U_kinds U_holds U_fitting U_tally L_letters L_firstCells L_secondCells L_firstBest L_secondBest W_refusals ++ fr) (some (.int r.1)) (wdC B W_spillsNow W_drawn r.2.1 T_at r.2.2 D_cells D_clauses G_length G_code A_size A_chosen A_codes A_lengths A_stack Y_cells Y_clauses N_marbles N_chipped N_swallowed N_sweets N_day N_owners P_next P_kept P_hasImage P_image P_acts P_entries P_imageEntries S_fewest S_row S_strengths U_size U_found U_places U_kinds U_holds U_fitting U_tally L_letters L_firstCells L_secondCells L_firstBest L_secondBest W_refusals ++ fr) :=
  gMet.of rfl (Nat.le_of_ble_eq_true rfl) (fun X hX hF => w_Main_feed hX r h hF)
set_option maxRecDepth 4000 in
theorem w_Main_game {p0 : Int32} {p1 : Int32} {p2 : Int32} {p3 : Int32} {p4 : Int32} (hX : gOk B X RX10 cX10_game 8 5 (some .int)) : gH B X (fun r : (Int32 × (Nat → Int32) × (Nat → Int32)) => gFin X (some (.int r.1)) (wdC B W_spillsNow W_drawn T_length T_at T_bytes D_cells D_clauses G_length G_code A_size A_chosen A_codes A_lengths r.2.1 Y_cells Y_clauses N_marbles N_chipped N_swallowed N_sweets N_day N_owners P_next P_kept P_hasImage P_image P_acts P_entries P_imageEntries S_fewest S_row S_strengths U_size U_found U_places U_kinds U_holds U_fitting U_tally r.2.2 L_firstCells L_secondCells L_firstBest L_secondBest W_refusals ++ fr)) 0 [(0, .ref (aC B 0)), (1, .int p0), (2, .int p1), (3, .int p2), (4, .int p3), (5, .int p4)] [] (wdC B W_spillsNow W_drawn T_length T_at T_bytes D_cells D_clauses G_length G_code A_size A_chosen A_codes A_lengths A_stack Y_cells Y_clauses N_marbles N_chipped N_swallowed N_sweets N_day N_owners P_next P_kept P_hasImage P_image P_acts P_entries P_imageEntries S_fewest S_row S_strengths U_size U_found U_places U_kinds U_holds U_fitting U_tally L_letters L_firstCells L_secondCells L_firstBest L_secondBest W_refusals ++ fr) (f_Main_game A_size A_chosen A_codes A_lengths A_stack Y_cells Y_clauses N_marbles N_chipped N_swallowed N_day N_owners L_letters p0 p1 p2 p3 p4) := by
  unfold f_Main_game
  refine h_iload hX dX10_game_0 rfl ?_
  refine h_if_lt hX dX10_game_2 (tgt := 27) (by decide) (fun _ => ?_) (fun _ => ?_)
  · refine h_ldc hX dX10_game_27 cst_RX10_180 ?_
    exact h_ret hX (rv := some (.int ((-1000000)))) dX10_game_29 trivial (fun h => h)
  · refine h_iload hX dX10_game_5 rfl ?_
    refine h_iconst hX dX10_game_7 ki_1 ?_
    refine h_icmp_gt hX dX10_game_8 (tgt := 27) (by decide) (fun _ => ?_) (fun _ => ?_)
    · refine h_ldc hX dX10_game_27 cst_RX10_180 ?_
      exact h_ret hX (rv := some (.int ((-1000000)))) dX10_game_29 trivial (fun h => h)
    · refine h_aload_n hX dX10_game_11 rfl rfl ?_
      refine get_RX10_85_C0 hX dX10_game_12 ?_
      refine h_iload_n hX dX10_game_15 rfl rfl ?_
      refine h_iload_n hX dX10_game_16 rfl rfl ?_
      refine h_iload_n hX dX10_game_17 rfl rfl ?_
      refine h_iload hX dX10_game_18 rfl ?_
      refine h_callVi hX dX10_game_20 (cv_RX10_213) rc_C30 (As := [.int p0, .int p1, .int p2, .int p3]) (st := []) (fun _ h => c_Lane_refusalOf h) rfl rfl (by decide) (Nat.le_of_ble_eq_true rfl) (fun a_1 => ?_)
      refine h_iconst hX dX10_game_23 ki_m1 ?_
      refine h_icmp_eq hX dX10_game_24 (tgt := 30) (by decide) (fun _ => ?_) (fun _ => ?_)
      · refine h_aload_n hX dX10_game_30 rfl rfl ?_
        refine get_RX10_85_C0 hX dX10_game_31 ?_
        refine h_aload_n hX dX10_game_34 rfl rfl ?_
        refine get_RX10_49_C0 hX dX10_game_35 ?_
        refine h_iload_n hX dX10_game_38 rfl rfl ?_
        refine h_callVi hX dX10_game_39 (cv_RX10_181) rc_C16 (As := [.int p0]) (st := [.ref (aC B 30)]) (fun _ h => c_Now_ownerOf h) rfl rfl (by decide) (Nat.le_of_ble_eq_true rfl) (fun a_2 => ?_)
        refine h_iload_n hX dX10_game_42 rfl rfl ?_
        refine h_iload_n hX dX10_game_43 rfl rfl ?_
        refine h_callVi hX dX10_game_44 (cv_RX10_276) rc_C30 (As := [.int a_2, .int p0, .int p1]) (st := []) (fun _ h => c_Lane_flick h) rfl rfl (by decide) (Nat.le_of_ble_eq_true rfl) (fun a_3 => ?_)
        refine h_istore hX dX10_game_47 (by decide) (lv' := [(0, .ref (aC B 0)), (1, .int p0), (2, .int p1), (3, .int p2), (4, .int p3), (5, .int p4), (6, .int a_3.1)]) rfl ?_
        refine h_aload_n hX dX10_game_49 rfl rfl ?_
        refine get_RX10_85_C0 hX dX10_game_50 ?_
        refine h_aload_n hX dX10_game_53 rfl rfl ?_
        refine get_RX10_49_C0 hX dX10_game_54 ?_
        refine h_iload_n hX dX10_game_57 rfl rfl ?_
        refine h_callVi hX dX10_game_58 (cv_RX10_181) rc_C16 (As := [.int p2]) (st := [.ref (aC B 30)]) (fun _ h => c_Now_ownerOf h) rfl rfl (by decide) (Nat.le_of_ble_eq_true rfl) (fun a_4 => ?_)
        refine h_iload_n hX dX10_game_61 rfl rfl ?_
        refine h_iload hX dX10_game_62 rfl ?_
        refine h_callVi hX dX10_game_64 (cv_RX10_276) rc_C30 (As := [.int a_4, .int p2, .int p3]) (st := []) (fun _ h => c_Lane_flick h) rfl rfl (by decide) (Nat.le_of_ble_eq_true rfl) (fun a_5 => ?_)
        refine h_istore hX dX10_game_67 (by decide) (lv' := [(0, .ref (aC B 0)), (1, .int p0), (2, .int p1), (3, .int p2), (4, .int p3), (5, .int p4), (6, .int a_3.1), (7, .int a_5.1)]) rfl ?_
        refine h_iload hX dX10_game_69 rfl ?_
        refine h_if_ne hX dX10_game_71 (tgt := 102) (by decide) (fun _ => ?_) (fun _ => ?_)
        · refine h_aload_n hX dX10_game_102 rfl rfl ?_
          refine get_RX10_85_C0 hX dX10_game_103 ?_
          refine h_iload hX dX10_game_106 rfl ?_
          refine h_iload hX dX10_game_108 rfl ?_
          refine h_aload_n hX dX10_game_110 rfl rfl ?_
          refine get_RX10_42_C0 hX dX10_game_111 ?_
          refine h_iload_n hX dX10_game_114 rfl rfl ?_
          refine h_callVi hX dX10_game_115 (cv_RX10_187) rc_C13 (As := [.int p2]) (st := [.int a_3.1, .int a_5.1, .ref (aC B 30)]) (fun _ h => c_Yard_size h) rfl rfl (by decide) (Nat.le_of_ble_eq_true rfl) (fun a_6 => ?_)
          refine h_aload_n hX dX10_game_118 rfl rfl ?_
          refine get_RX10_42_C0 hX dX10_game_119 ?_
          refine h_iload_n hX dX10_game_122 rfl rfl ?_
          refine h_callVi hX dX10_game_123 (cv_RX10_187) rc_C13 (As := [.int p0]) (st := [.int a_6, .int a_3.1, .int a_5.1, .ref (aC B 30)]) (fun _ h => c_Yard_size h) rfl rfl (by decide) (Nat.le_of_ble_eq_true rfl) (fun a_7 => ?_)
          refine h_callVi hX dX10_game_126 (cv_RX10_287) rc_C30 (As := [.int a_5.1, .int a_3.1, .int a_6, .int a_7]) (st := []) (fun _ h => c_Lane_gain h) rfl rfl (by decide) (Nat.le_of_ble_eq_true rfl) (fun a_8 => ?_)
          exact h_ret hX (rv := some (.int a_8)) dX10_game_129 trivial (fun h => h)
        · refine h_aload_n hX dX10_game_74 rfl rfl ?_
          refine get_RX10_85_C0 hX dX10_game_75 ?_
          refine h_iload hX dX10_game_78 rfl ?_
          refine h_iload hX dX10_game_80 rfl ?_
          refine h_aload_n hX dX10_game_82 rfl rfl ?_
          refine get_RX10_42_C0 hX dX10_game_83 ?_
          refine h_iload_n hX dX10_game_86 rfl rfl ?_
          refine h_callVi hX dX10_game_87 (cv_RX10_187) rc_C13 (As := [.int p0]) (st := [.int a_5.1, .int a_3.1, .ref (aC B 30)]) (fun _ h => c_Yard_size h) rfl rfl (by decide) (Nat.le_of_ble_eq_true rfl) (fun a_9 => ?_)
          refine h_aload_n hX dX10_game_90 rfl rfl ?_
          refine get_RX10_42_C0 hX dX10_game_91 ?_
          refine h_iload_n hX dX10_game_94 rfl rfl ?_
          refine h_callVi hX dX10_game_95 (cv_RX10_187) rc_C13 (As := [.int p2]) (st := [.int a_9, .int a_5.1, .int a_3.1, .ref (aC B 30)]) (fun _ h => c_Yard_size h) rfl rfl (by decide) (Nat.le_of_ble_eq_true rfl) (fun a_10 => ?_)
          refine h_callVi hX dX10_game_98 (cv_RX10_287) rc_C30 (As := [.int a_3.1, .int a_5.1, .int a_9, .int a_10]) (st := []) (fun _ h => c_Lane_gain h) rfl rfl (by decide) (Nat.le_of_ble_eq_true rfl) (fun a_11 => ?_)
          exact h_ret hX (rv := some (.int a_11)) dX10_game_101 trivial (fun h => h)
      · refine h_ldc hX dX10_game_27 cst_RX10_180 ?_
        exact h_ret hX (rv := some (.int ((-1000000)))) dX10_game_29 trivial (fun h => h)
theorem c_Main_game {p0 : Int32} {p1 : Int32} {p2 : Int32} {p3 : Int32} {p4 : Int32} {r : (Int32 × (Nat → Int32) × (Nat → Int32))} (h : f_Main_game A_size A_chosen A_codes A_lengths A_stack Y_cells Y_clauses N_marbles N_chipped N_swallowed N_day N_owners L_letters p0 p1 p2 p3 p4 = some r) : gMet B 5 yX10_game cX10_game 8 (some .int) [.ref (aC B 0), .int p0, .int p1, .int p2, .int p3, .int p4] (wdC B W_spillsNow W_drawn T_length T_at T_bytes D_cells D_clauses G_length G_code A_size A_chosen A_codes A_lengths A_stack Y_cells Y_clauses N_marbles N_chipped N_swallowed N_sweets N_day N_owners P_next P_kept P_hasImage P_image P_acts P_entries P_imageEntries S_fewest S_row S_strengths U_size U_found U_places U_kinds U_holds U_fitting U_tally L_letters L_firstCells L_secondCells L_firstBest L_secondBest W_refusals ++ fr) (some (.int r.1)) (wdC B W_spillsNow W_drawn T_length T_at T_bytes D_cells D_clauses G_length G_code A_size A_chosen A_codes A_lengths r.2.1 Y_cells Y_clauses N_marbles N_chipped N_swallowed N_sweets N_day N_owners P_next P_kept P_hasImage P_image P_acts P_entries P_imageEntries S_fewest S_row S_strengths U_size U_found U_places U_kinds U_holds U_fitting U_tally r.2.2 L_firstCells L_secondCells L_firstBest L_secondBest W_refusals ++ fr) :=
  gMet.of rfl (Nat.le_of_ble_eq_true rfl) (fun X hX hF => w_Main_game hX r h hF)
set_option maxRecDepth 4000 in
theorem w_Main_give_J22 (hX : gOk B X RX10 cX10_give 3 3 (some .int)) : gH B X (fun r : (Int32 × Int32 × (Nat → Int32) × Int32 × Int32 × (Nat → Int64) × (Nat → Int32)) => gFin X (some (.int r.1)) (wdC B W_spillsNow W_drawn T_length T_at T_bytes D_cells D_clauses G_length G_code A_size A_chosen A_codes A_lengths A_stack Y_cells Y_clauses N_marbles N_chipped N_swallowed r.2.1 N_day r.2.2.1 r.2.2.2.1 r.2.2.2.2.1 P_hasImage P_image r.2.2.2.2.2.1 P_entries P_imageEntries S_fewest S_row S_strengths U_size U_found U_places U_kinds U_holds U_fitting U_tally L_letters L_firstCells L_secondCells L_firstBest L_secondBest r.2.2.2.2.2.2 ++ fr)) 22 [(0, .ref (aC B 0))] [] (wdC B W_spillsNow W_drawn T_length T_at T_bytes D_cells D_clauses G_length G_code A_size A_chosen A_codes A_lengths A_stack Y_cells Y_clauses N_marbles N_chipped N_swallowed N_sweets N_day N_owners P_next P_kept P_hasImage P_image P_acts P_entries P_imageEntries S_fewest S_row S_strengths U_size U_found U_places U_kinds U_holds U_fitting U_tally L_letters L_firstCells L_secondCells L_firstBest L_secondBest W_refusals ++ fr) (f_Main_give_J22 N_sweets N_owners P_next P_kept P_acts W_refusals) := by
  unfold f_Main_give_J22
  refine h_aload_n hX dX10_give_22 rfl rfl ?_
  refine h_iconst hX dX10_give_23 ki_0 ?_
  refine h_callVi hX dX10_give_24 (cv_RX10_217) rc_C0 (As := [.int 0]) (st := []) (fun _ h => c_Main_refuse h) rfl rfl (by decide) (Nat.le_of_ble_eq_true rfl) (fun a_2 => ?_)
  exact h_ret hX (rv := some (.int a_2.1)) dX10_give_27 trivial (fun h => h)
set_option maxRecDepth 4000 in
theorem w_Main_give_J51 (hX : gOk B X RX10 cX10_give 3 3 (some .int)) : gH B X (fun r : (Int32 × Int32 × (Nat → Int32) × Int32 × Int32 × (Nat → Int64) × (Nat → Int32)) => gFin X (some (.int r.1)) (wdC B W_spillsNow W_drawn T_length T_at T_bytes D_cells D_clauses G_length G_code A_size A_chosen A_codes A_lengths A_stack Y_cells Y_clauses N_marbles N_chipped N_swallowed r.2.1 N_day r.2.2.1 r.2.2.2.1 r.2.2.2.2.1 P_hasImage P_image r.2.2.2.2.2.1 P_entries P_imageEntries S_fewest S_row S_strengths U_size U_found U_places U_kinds U_holds U_fitting U_tally L_letters L_firstCells L_secondCells L_firstBest L_secondBest r.2.2.2.2.2.2 ++ fr)) 51 [(0, .ref (aC B 0))] [] (wdC B W_spillsNow W_drawn T_length T_at T_bytes D_cells D_clauses G_length G_code A_size A_chosen A_codes A_lengths A_stack Y_cells Y_clauses N_marbles N_chipped N_swallowed N_sweets N_day N_owners P_next P_kept P_hasImage P_image P_acts P_entries P_imageEntries S_fewest S_row S_strengths U_size U_found U_places U_kinds U_holds U_fitting U_tally L_letters L_firstCells L_secondCells L_firstBest L_secondBest W_refusals ++ fr) (f_Main_give_J51 N_sweets N_owners P_next P_kept P_acts W_refusals) := by
  unfold f_Main_give_J51
  refine h_aload_n hX dX10_give_51 rfl rfl ?_
  refine h_iconst hX dX10_give_52 ki_2 ?_
  refine h_callVi hX dX10_give_53 (cv_RX10_217) rc_C0 (As := [.int 2]) (st := []) (fun _ h => c_Main_refuse h) rfl rfl (by decide) (Nat.le_of_ble_eq_true rfl) (fun a_5 => ?_)
  exact h_ret hX (rv := some (.int a_5.1)) dX10_give_56 trivial (fun h => h)
set_option maxRecDepth 4000 in
theorem w_Main_give {p0 : Int32} {p1 : Int32} (hX : gOk B X RX10 cX10_give 3 3 (some .int)) : gH B X (fun r : (Int32 × Int32 × (Nat → Int32) × Int32 × Int32 × (Nat → Int64) × (Nat → Int32)) => gFin X (some (.int r.1)) (wdC B W_spillsNow W_drawn T_length T_at T_bytes D_cells D_clauses G_length G_code A_size A_chosen A_codes A_lengths A_stack Y_cells Y_clauses N_marbles N_chipped N_swallowed r.2.1 N_day r.2.2.1 r.2.2.2.1 r.2.2.2.2.1 P_hasImage P_image r.2.2.2.2.2.1 P_entries P_imageEntries S_fewest S_row S_strengths U_size U_found U_places U_kinds U_holds U_fitting U_tally L_letters L_firstCells L_secondCells L_firstBest L_secondBest r.2.2.2.2.2.2 ++ fr)) 0 [(0, .ref (aC B 0)), (1, .int p0), (2, .int p1)] [] (wdC B W_spillsNow W_drawn T_length T_at T_bytes D_cells D_clauses G_length G_code A_size A_chosen A_codes A_lengths A_stack Y_cells Y_clauses N_marbles N_chipped N_swallowed N_sweets N_day N_owners P_next P_kept P_hasImage P_image P_acts P_entries P_imageEntries S_fewest S_row S_strengths U_size U_found U_places U_kinds U_holds U_fitting U_tally L_letters L_firstCells L_secondCells L_firstBest L_secondBest W_refusals ++ fr) (f_Main_give Y_cells Y_clauses N_marbles N_chipped N_swallowed N_sweets N_day N_owners P_next P_kept P_acts W_refusals p0 p1) := by
  unfold f_Main_give
  refine h_aload_n hX dX10_give_0 rfl rfl ?_
  refine get_RX10_42_C0 hX dX10_give_1 ?_
  refine h_iload_n hX dX10_give_4 rfl rfl ?_
  refine h_callVi hX dX10_give_5 (cv_RX10_177) rc_C13 (As := [.int p0]) (st := []) (fun _ h => c_Yard_hasMarble h) rfl rfl (by decide) (Nat.le_of_ble_eq_true rfl) (fun a_1 => ?_)
  refine h_if_eq hX dX10_give_8 (tgt := 22) (by decide) (fun _ => ?_) (fun _ => ?_)
  · refine gH.dead [0] rfl ?_
    exact w_Main_give_J22 hX
  · refine h_aload_n hX dX10_give_11 rfl rfl ?_
    refine get_RX10_42_C0 hX dX10_give_12 ?_
    refine h_iload_n hX dX10_give_15 rfl rfl ?_
    refine h_callVi hX dX10_give_16 (cv_RX10_152) rc_C13 (As := [.int p1]) (st := []) (fun _ h => c_Yard_hasBoy h) rfl rfl (by decide) (Nat.le_of_ble_eq_true rfl) (fun a_3 => ?_)
    refine h_if_ne hX dX10_give_19 (tgt := 28) (by decide) (fun _ => ?_) (fun _ => ?_)
    · refine h_aload_n hX dX10_give_28 rfl rfl ?_
      refine get_RX10_49_C0 hX dX10_give_29 ?_
      refine h_iload_n hX dX10_give_32 rfl rfl ?_
      refine h_callVi hX dX10_give_33 (cv_RX10_230) rc_C16 (As := [.int p0]) (st := []) (fun _ h => c_Now_isFree h) rfl rfl (by decide) (Nat.le_of_ble_eq_true rfl) (fun a_4 => ?_)
      refine h_if_eq hX dX10_give_36 (tgt := 51) (by decide) (fun _ => ?_) (fun _ => ?_)
      · refine gH.dead [0] rfl ?_
        exact w_Main_give_J51 hX
      · refine h_aload_n hX dX10_give_39 rfl rfl ?_
        refine get_RX10_49_C0 hX dX10_give_40 ?_
        refine h_iload_n hX dX10_give_43 rfl rfl ?_
        refine h_callVi hX dX10_give_44 (cv_RX10_181) rc_C16 (As := [.int p0]) (st := []) (fun _ h => c_Now_ownerOf h) rfl rfl (by decide) (Nat.le_of_ble_eq_true rfl) (fun a_6 => ?_)
        refine h_iload_n hX dX10_give_47 rfl rfl ?_
        refine h_icmp_ne hX dX10_give_48 (tgt := 57) (by decide) (fun _ => ?_) (fun _ => ?_)
        · refine h_aload_n hX dX10_give_57 rfl rfl ?_
          refine get_RX10_49_C0 hX dX10_give_58 ?_
          refine get_RX10_148_C16 hX dX10_give_61 ?_
          refine h_aload_n hX dX10_give_64 rfl rfl ?_
          refine get_RX10_42_C0 hX dX10_give_65 ?_
          refine h_iload_n hX dX10_give_68 rfl rfl ?_
          refine h_callVi hX dX10_give_69 (cv_RX10_187) rc_C13 (As := [.int p0]) (st := [.int N_sweets]) (fun _ h => c_Yard_size h) rfl rfl (by decide) (Nat.le_of_ble_eq_true rfl) (fun a_7 => ?_)
          refine h_icmp_ge hX dX10_give_72 (tgt := 81) (by decide) (fun _ => ?_) (fun _ => ?_)
          · refine h_aload_n hX dX10_give_81 rfl rfl ?_
            refine get_RX10_58_C0 hX dX10_give_82 ?_
            refine h_callVv hX dX10_give_85 (cv_RX10_220) rc_C18 (As := []) (st := []) (fun _ h => c_Past_remember h) rfl rfl (by decide) (Nat.le_of_ble_eq_true rfl) (fun a_8 => ?_)
            refine h_aload_n hX dX10_give_88 rfl rfl ?_
            refine get_RX10_49_C0 hX dX10_give_89 ?_
            refine h_dup hX dX10_give_92 rfl ?_
            refine get_RX10_148_C16 hX dX10_give_93 ?_
            refine h_aload_n hX dX10_give_96 rfl rfl ?_
            refine get_RX10_42_C0 hX dX10_give_97 ?_
            refine h_iload_n hX dX10_give_100 rfl rfl ?_
            refine h_callVi hX dX10_give_101 (cv_RX10_187) rc_C13 (As := [.int p0]) (st := [.int N_sweets, .ref (aC B 16)]) (fun _ h => c_Yard_size h) rfl rfl (by decide) (Nat.le_of_ble_eq_true rfl) (fun a_9 => ?_)
            refine h_isub hX dX10_give_104 ?_
            refine put_RX10_148_C16 hX dX10_give_105 ?_
            refine gH.letw (w := fun y => wdC B W_spillsNow W_drawn T_length T_at T_bytes D_cells D_clauses G_length G_code A_size A_chosen A_codes A_lengths A_stack Y_cells Y_clauses N_marbles N_chipped N_swallowed y N_day N_owners a_8.1 a_8.2.1 P_hasImage P_image a_8.2.2 P_entries P_imageEntries S_fewest S_row S_strengths U_size U_found U_places U_kinds U_holds U_fitting U_tally L_letters L_firstCells L_secondCells L_firstBest L_secondBest W_refusals ++ fr) (fun N_sweets_10 => ?_)
            refine h_aload_n hX dX10_give_108 rfl rfl ?_
            refine get_RX10_49_C0 hX dX10_give_109 ?_
            refine h_iload_n hX dX10_give_112 rfl rfl ?_
            refine h_iload_n hX dX10_give_113 rfl rfl ?_
            refine h_callVv hX dX10_give_114 (cv_RX10_226) rc_C16 (As := [.int p0, .int p1]) (st := []) (fun _ h => c_Now_hand h) rfl rfl (by decide) (Nat.le_of_ble_eq_true rfl) (fun a_11 => ?_)
            refine h_aload_n hX dX10_give_117 rfl rfl ?_
            refine get_RX10_49_C0 hX dX10_give_118 ?_
            refine get_RX10_148_C16 hX dX10_give_121 ?_
            exact h_ret hX (rv := some (.int N_sweets_10)) dX10_give_124 trivial (fun h => h)
          · refine h_aload_n hX dX10_give_75 rfl rfl ?_
            refine h_iconst hX dX10_give_76 ki_3 ?_
            refine h_callVi hX dX10_give_77 (cv_RX10_217) rc_C0 (As := [.int 3]) (st := []) (fun _ h => c_Main_refuse h) rfl rfl (by decide) (Nat.le_of_ble_eq_true rfl) (fun a_12 => ?_)
            exact h_ret hX (rv := some (.int a_12.1)) dX10_give_80 trivial (fun h => h)
        · refine gH.dead [0] rfl ?_
          exact w_Main_give_J51 hX
    · refine gH.dead [0] rfl ?_
      exact w_Main_give_J22 hX
theorem c_Main_give {p0 : Int32} {p1 : Int32} {r : (Int32 × Int32 × (Nat → Int32) × Int32 × Int32 × (Nat → Int64) × (Nat → Int32))} (h : f_Main_give Y_cells Y_clauses N_marbles N_chipped N_swallowed N_sweets N_day N_owners P_next P_kept P_acts W_refusals p0 p1 = some r) : gMet B 3 yX10_give cX10_give 3 (some .int) [.ref (aC B 0), .int p0, .int p1] (wdC B W_spillsNow W_drawn T_length T_at T_bytes D_cells D_clauses G_length G_code A_size A_chosen A_codes A_lengths A_stack Y_cells Y_clauses N_marbles N_chipped N_swallowed N_sweets N_day N_owners P_next P_kept P_hasImage P_image P_acts P_entries P_imageEntries S_fewest S_row S_strengths U_size U_found U_places U_kinds U_holds U_fitting U_tally L_letters L_firstCells L_secondCells L_firstBest L_secondBest W_refusals ++ fr) (some (.int r.1)) (wdC B W_spillsNow W_drawn T_length T_at T_bytes D_cells D_clauses G_length G_code A_size A_chosen A_codes A_lengths A_stack Y_cells Y_clauses N_marbles N_chipped N_swallowed r.2.1 N_day r.2.2.1 r.2.2.2.1 r.2.2.2.2.1 P_hasImage P_image r.2.2.2.2.2.1 P_entries P_imageEntries S_fewest S_row S_strengths U_size U_found U_places U_kinds U_holds U_fitting U_tally L_letters L_firstCells L_secondCells L_firstBest L_secondBest r.2.2.2.2.2.2 ++ fr) :=
  gMet.of rfl (Nat.le_of_ble_eq_true rfl) (fun X hX hF => w_Main_give hX r h hF)
set_option maxRecDepth 4000 in
theorem w_Main_hands {p0 : Int32} (hX : gOk B X RX10 cX10_hands 2 2 (some .int)) : gH B X (fun r : Int32 => gFin X (some (.int r)) (wdC B W_spillsNow W_drawn T_length T_at T_bytes D_cells D_clauses G_length G_code A_size A_chosen A_codes A_lengths A_stack Y_cells Y_clauses N_marbles N_chipped N_swallowed N_sweets N_day N_owners P_next P_kept P_hasImage P_image P_acts P_entries P_imageEntries S_fewest S_row S_strengths U_size U_found U_places U_kinds U_holds U_fitting U_tally L_letters L_firstCells L_secondCells L_firstBest L_secondBest W_refusals ++ fr)) 0 [(0, .ref (aC B 0)), (1, .int p0)] [] (wdC B W_spillsNow W_drawn T_length T_at T_bytes D_cells D_clauses G_length G_code A_size A_chosen A_codes A_lengths A_stack Y_cells Y_clauses N_marbles N_chipped N_swallowed N_sweets N_day N_owners P_next P_kept P_hasImage P_image P_acts P_entries P_imageEntries S_fewest S_row S_strengths U_size U_found U_places U_kinds U_holds U_fitting U_tally L_letters L_firstCells L_secondCells L_firstBest L_secondBest W_refusals ++ fr) (f_Main_hands Y_clauses N_marbles N_owners p0) := by
  unfold f_Main_hands
  refine h_aload_n hX dX10_hands_0 rfl rfl ?_
  refine get_RX10_42_C0 hX dX10_hands_1 ?_
  refine h_iload_n hX dX10_hands_4 rfl rfl ?_
  refine h_callVi hX dX10_hands_5 (cv_RX10_152) rc_C13 (As := [.int p0]) (st := []) (fun _ h => c_Yard_hasBoy h) rfl rfl (by decide) (Nat.le_of_ble_eq_true rfl) (fun a_1 => ?_)
  refine h_if_eq hX dX10_hands_8 (tgt := 22) (by decide) (fun _ => ?_) (fun _ => ?_)
  · refine h_iconst hX dX10_hands_22 ki_m1 ?_
    exact h_ret hX (rv := some (.int ((-1)))) dX10_hands_23 trivial (fun h => h)
  · refine h_aload_n hX dX10_hands_11 rfl rfl ?_
    refine get_RX10_49_C0 hX dX10_hands_12 ?_
    refine h_iload_n hX dX10_hands_15 rfl rfl ?_
    refine h_callVi hX dX10_hands_16 (cv_RX10_169) rc_C16 (As := [.int p0]) (st := []) (fun _ h => c_Now_handOf h) rfl rfl (by decide) (Nat.le_of_ble_eq_true rfl) (fun a_2 => ?_)
    refine h_goto hX dX10_hands_19 (tgt := 23) (by decide) ?_
    exact h_ret hX (rv := some (.int a_2)) dX10_hands_23 trivial (fun h => h)
theorem c_Main_hands {p0 : Int32} {r : Int32} (h : f_Main_hands Y_clauses N_marbles N_owners p0 = some r) : gMet B 2 yX10_hands cX10_hands 2 (some .int) [.ref (aC B 0), .int p0] (wdC B W_spillsNow W_drawn T_length T_at T_bytes D_cells D_clauses G_length G_code A_size A_chosen A_codes A_lengths A_stack Y_cells Y_clauses N_marbles N_chipped N_swallowed N_sweets N_day N_owners P_next P_kept P_hasImage P_image P_acts P_entries P_imageEntries S_fewest S_row S_strengths U_size U_found U_places U_kinds U_holds U_fitting U_tally L_letters L_firstCells L_secondCells L_firstBest L_secondBest W_refusals ++ fr) (some (.int r)) (wdC B W_spillsNow W_drawn T_length T_at T_bytes D_cells D_clauses G_length G_code A_size A_chosen A_codes A_lengths A_stack Y_cells Y_clauses N_marbles N_chipped N_swallowed N_sweets N_day N_owners P_next P_kept P_hasImage P_image P_acts P_entries P_imageEntries S_fewest S_row S_strengths U_size U_found U_places U_kinds U_holds U_fitting U_tally L_letters L_firstCells L_secondCells L_firstBest L_secondBest W_refusals ++ fr) :=
  gMet.of rfl (Nat.le_of_ble_eq_true rfl) (fun X hX hF => w_Main_hands hX r h hF)
set_option maxRecDepth 4000 in
theorem w_Past_keepImage_L18 (hX : gOk B X RX5 cX5_keepImage 2 2 none) (s : (Int32 × (Nat → Int32))) : gH B X (Sum.elim (fun s : (Int32 × (Nat → Int32)) => gG B X 18 [(0, .ref (aC B 18)), (1, .int s.1)] [] (wdC B W_spillsNow W_drawn T_length T_at T_bytes D_cells D_clauses G_length G_code A_size A_chosen A_codes A_lengths A_stack Y_cells Y_clauses N_marbles N_chipped N_swallowed N_sweets N_day N_owners P_next P_kept P_hasImage P_image P_acts P_entries s.2 S_fewest S_row S_strengths U_size U_found U_places U_kinds U_holds U_fitting U_tally L_letters L_firstCells L_secondCells L_firstBest L_secondBest W_refusals ++ fr)) (fun r : (Int32 × Int64 × (Nat → Int32)) => gFin X (none) (wdC B W_spillsNow W_drawn T_length T_at T_bytes D_cells D_clauses G_length G_code A_size A_chosen A_codes A_lengths A_stack Y_cells Y_clauses N_marbles N_chipped N_swallowed N_sweets N_day N_owners P_next P_kept r.1 r.2.1 P_acts P_entries r.2.2 S_fewest S_row S_strengths U_size U_found U_places U_kinds U_holds U_fitting U_tally L_letters L_firstCells L_secondCells L_firstBest L_secondBest W_refusals ++ fr))) 18 [(0, .ref (aC B 18)), (1, .int s.1)] [] (wdC B W_spillsNow W_drawn T_length T_at T_bytes D_cells D_clauses G_length G_code A_size A_chosen A_codes A_lengths A_stack Y_cells Y_clauses N_marbles N_chipped N_swallowed N_sweets N_day N_owners P_next P_kept P_hasImage P_image P_acts P_entries s.2 S_fewest S_row S_strengths U_size U_found U_places U_kinds U_holds U_fitting U_tally L_letters L_firstCells L_secondCells L_firstBest L_secondBest W_refusals ++ fr) (f_Past_keepImage_L18 N_day P_hasImage P_image P_entries s) := by
  unfold f_Past_keepImage_L18
  refine h_iload_n hX dX5_keepImage_18 rfl rfl ?_
  refine h_aload_n hX dX5_keepImage_19 rfl rfl ?_
  refine h_callVi hX dX5_keepImage_20 (cv_RX5_67) rc_C18 (As := []) (st := [.int s.1]) (fun _ h => c_Past_logLength h) rfl rfl (by decide) (Nat.le_of_ble_eq_true rfl) (fun a_2 => ?_)
  refine h_icmp_ge hX dX5_keepImage_23 (tgt := 48) (by decide) (fun _ => ?_) (fun _ => ?_)
  · exact h_ret hX (rv := none) dX5_keepImage_48 trivial (fun h => h)
  · refine h_aload_n hX dX5_keepImage_26 rfl rfl ?_
    refine get_RX5_19_C18 hX dX5_keepImage_27 ?_
    refine h_iload_n hX dX5_keepImage_30 rfl rfl ?_
    refine h_aload_n hX dX5_keepImage_31 rfl rfl ?_
    refine get_RX5_15_C18 hX dX5_keepImage_32 ?_
    refine h_aload_n hX dX5_keepImage_35 rfl rfl ?_
    refine h_iload_n hX dX5_keepImage_36 rfl rfl ?_
    refine h_callVi hX dX5_keepImage_37 (cv_RX5_56) rc_C18 (As := [.int s.1]) (st := [.ref (aC B 20), .int s.1, .ref (aC B 21)]) (fun _ h => c_Past_ringIndex h) rfl rfl (by decide) (Nat.le_of_ble_eq_true rfl) (fun a_3 => ?_)
    refine ald_C20 hX dX5_keepImage_40 ?_
    refine ast_C21 hX dX5_keepImage_41 ?_
    refine gH.letw (w := fun y => wdC B W_spillsNow W_drawn T_length T_at T_bytes D_cells D_clauses G_length G_code A_size A_chosen A_codes A_lengths A_stack Y_cells Y_clauses N_marbles N_chipped N_swallowed N_sweets N_day N_owners P_next P_kept P_hasImage P_image P_acts P_entries y S_fewest S_row S_strengths U_size U_found U_places U_kinds U_holds U_fitting U_tally L_letters L_firstCells L_secondCells L_firstBest L_secondBest W_refusals ++ fr) (fun P_imageEntries_4 => ?_)
    refine h_iincc hX dX5_keepImage_42 rfl ki_1 (by decide) (lv' := [(0, .ref (aC B 18)), (1, .int (s.1 + 1))]) rfl ?_
    refine h_goto hX dX5_keepImage_45 (tgt := 18) (by decide) ?_
    exact gH.some' (fun h => h)
set_option maxRecDepth 4000 in
theorem w_Past_keepImage (hX : gOk B X RX5 cX5_keepImage 2 2 none) : gH B X (fun r : (Int32 × Int64 × (Nat → Int32)) => gFin X (none) (wdC B W_spillsNow W_drawn T_length T_at T_bytes D_cells D_clauses G_length G_code A_size A_chosen A_codes A_lengths A_stack Y_cells Y_clauses N_marbles N_chipped N_swallowed N_sweets N_day N_owners P_next P_kept r.1 r.2.1 P_acts P_entries r.2.2 S_fewest S_row S_strengths U_size U_found U_places U_kinds U_holds U_fitting U_tally L_letters L_firstCells L_secondCells L_firstBest L_secondBest W_refusals ++ fr)) 0 [(0, .ref (aC B 18))] [] (wdC B W_spillsNow W_drawn T_length T_at T_bytes D_cells D_clauses G_length G_code A_size A_chosen A_codes A_lengths A_stack Y_cells Y_clauses N_marbles N_chipped N_swallowed N_sweets N_day N_owners P_next P_kept P_hasImage P_image P_acts P_entries P_imageEntries S_fewest S_row S_strengths U_size U_found U_places U_kinds U_holds U_fitting U_tally L_letters L_firstCells L_secondCells L_firstBest L_secondBest W_refusals ++ fr) (f_Past_keepImage N_marbles N_chipped N_swallowed N_sweets N_day N_owners P_hasImage P_image P_entries P_imageEntries) := by
  unfold f_Past_keepImage
  refine h_aload_n hX dX5_keepImage_0 rfl rfl ?_
  refine h_iconst hX dX5_keepImage_1 ki_1 ?_
  refine put_RX5_30_C18 hX dX5_keepImage_2 rfl rfl ?_
  refine h_aload_n hX dX5_keepImage_5 rfl rfl ?_
  refine h_aload_n hX dX5_keepImage_6 rfl rfl ?_
  refine get_RX5_22_C18 hX dX5_keepImage_7 ?_
  refine h_callVl hX dX5_keepImage_10 (cv_RX5_37) rc_C16 (As := []) (st := [.ref (aC B 18)]) (fun _ h => c_Now_packed h) rfl rfl (by decide) (Nat.le_of_ble_eq_true rfl) (fun a_1 => ?_)
  refine put_RX5_63_C18 hX dX5_keepImage_13 ?_
  refine h_iconst hX dX5_keepImage_16 ki_0 ?_
  refine h_istore_n hX dX5_keepImage_17 rfl (by decide) (lv' := [(0, .ref (aC B 18)), (1, .int 0)]) rfl ?_
  exact gH.loop (lvf := fun z : (Int32 × (Nat → Int32)) => [(0, .ref (aC B 18)), (1, .int z.1)]) (wf := fun z : (Int32 × (Nat → Int32)) => wdC B W_spillsNow W_drawn T_length T_at T_bytes D_cells D_clauses G_length G_code A_size A_chosen A_codes A_lengths A_stack Y_cells Y_clauses N_marbles N_chipped N_swallowed N_sweets N_day N_owners P_next P_kept 1 a_1 P_acts P_entries z.2 S_fewest S_row S_strengths U_size U_found U_places U_kinds U_holds U_fitting U_tally L_letters L_firstCells L_secondCells L_firstBest L_secondBest W_refusals ++ fr) (fun z => w_Past_keepImage_L18 hX z) (0, P_imageEntries)
theorem c_Past_keepImage {r : (Int32 × Int64 × (Nat → Int32))} (h : f_Past_keepImage N_marbles N_chipped N_swallowed N_sweets N_day N_owners P_hasImage P_image P_entries P_imageEntries = some r) : gMet B 2 yX5_keepImage cX5_keepImage 2 none [.ref (aC B 18)] (wdC B W_spillsNow W_drawn T_length T_at T_bytes D_cells D_clauses G_length G_code A_size A_chosen A_codes A_lengths A_stack Y_cells Y_clauses N_marbles N_chipped N_swallowed N_sweets N_day N_owners P_next P_kept P_hasImage P_image P_acts P_entries P_imageEntries S_fewest S_row S_strengths U_size U_found U_places U_kinds U_holds U_fitting U_tally L_letters L_firstCells L_secondCells L_firstBest L_secondBest W_refusals ++ fr) (none) (wdC B W_spillsNow W_drawn T_length T_at T_bytes D_cells D_clauses G_length G_code A_size A_chosen A_codes A_lengths A_stack Y_cells Y_clauses N_marbles N_chipped N_swallowed N_sweets N_day N_owners P_next P_kept r.1 r.2.1 P_acts P_entries r.2.2 S_fewest S_row S_strengths U_size U_found U_places U_kinds U_holds U_fitting U_tally L_letters L_firstCells L_secondCells L_firstBest L_secondBest W_refusals ++ fr) :=
  gMet.of rfl (Nat.le_of_ble_eq_true rfl) (fun X hX hF => w_Past_keepImage hX r h hF)
set_option maxRecDepth 4000 in
theorem w_Main_image (hX : gOk B X RX10 cX10_image 1 3 (some .int)) : gH B X (fun r : (Int32 × Int32 × Int64 × (Nat → Int32)) => gFin X (some (.int r.1)) (wdC B W_spillsNow W_drawn T_length T_at T_bytes D_cells D_clauses G_length G_code A_size A_chosen A_codes A_lengths A_stack Y_cells Y_clauses N_marbles N_chipped N_swallowed N_sweets N_day N_owners P_next P_kept r.2.1 r.2.2.1 P_acts P_entries r.2.2.2 S_fewest S_row S_strengths U_size U_found U_places U_kinds U_holds U_fitting U_tally L_letters L_firstCells L_secondCells L_firstBest L_secondBest W_refusals ++ fr)) 0 [(0, .ref (aC B 0))] [] (wdC B W_spillsNow W_drawn T_length T_at T_bytes D_cells D_clauses G_length G_code A_size A_chosen A_codes A_lengths A_stack Y_cells Y_clauses N_marbles N_chipped N_swallowed N_sweets N_day N_owners P_next P_kept P_hasImage P_image P_acts P_entries P_imageEntries S_fewest S_row S_strengths U_size U_found U_places U_kinds U_holds U_fitting U_tally L_letters L_firstCells L_secondCells L_firstBest L_secondBest W_refusals ++ fr) (f_Main_image Y_clauses N_marbles N_chipped N_swallowed N_sweets N_day N_owners P_hasImage P_image P_entries P_imageEntries) := by
  unfold f_Main_image
  refine h_aload_n hX dX10_image_0 rfl rfl ?_
  refine get_RX10_42_C0 hX dX10_image_1 ?_
  refine h_callVi hX dX10_image_4 (cv_RX10_139) rc_C13 (As := []) (st := []) (fun _ h => c_Yard_stands h) rfl rfl (by decide) (Nat.le_of_ble_eq_true rfl) (fun a_1 => ?_)
  refine h_if_ne hX dX10_image_7 (tgt := 12) (by decide) (fun _ => ?_) (fun _ => ?_)
  · refine h_aload_n hX dX10_image_12 rfl rfl ?_
    refine get_RX10_58_C0 hX dX10_image_13 ?_
    refine h_callVv hX dX10_image_16 (cv_RX10_352) rc_C18 (As := []) (st := []) (fun _ h => c_Past_keepImage h) rfl rfl (by decide) (Nat.le_of_ble_eq_true rfl) (fun a_2 => ?_)
    refine h_aload_n hX dX10_image_19 rfl rfl ?_
    refine get_RX10_49_C0 hX dX10_image_20 ?_
    refine get_RX10_242_C16 hX dX10_image_23 ?_
    exact h_ret hX (rv := some (.int N_day)) dX10_image_26 trivial (fun h => h)
  · refine h_iconst hX dX10_image_10 ki_m1 ?_
    exact h_ret hX (rv := some (.int ((-1)))) dX10_image_11 trivial (fun h => h)
theorem c_Main_image {r : (Int32 × Int32 × Int64 × (Nat → Int32))} (h : f_Main_image Y_clauses N_marbles N_chipped N_swallowed N_sweets N_day N_owners P_hasImage P_image P_entries P_imageEntries = some r) : gMet B 3 yX10_image cX10_image 1 (some .int) [.ref (aC B 0)] (wdC B W_spillsNow W_drawn T_length T_at T_bytes D_cells D_clauses G_length G_code A_size A_chosen A_codes A_lengths A_stack Y_cells Y_clauses N_marbles N_chipped N_swallowed N_sweets N_day N_owners P_next P_kept P_hasImage P_image P_acts P_entries P_imageEntries S_fewest S_row S_strengths U_size U_found U_places U_kinds U_holds U_fitting U_tally L_letters L_firstCells L_secondCells L_firstBest L_secondBest W_refusals ++ fr) (some (.int r.1)) (wdC B W_spillsNow W_drawn T_length T_at T_bytes D_cells D_clauses G_length G_code A_size A_chosen A_codes A_lengths A_stack Y_cells Y_clauses N_marbles N_chipped N_swallowed N_sweets N_day N_owners P_next P_kept r.2.1 r.2.2.1 P_acts P_entries r.2.2.2 S_fewest S_row S_strengths U_size U_found U_places U_kinds U_holds U_fitting U_tally L_letters L_firstCells L_secondCells L_firstBest L_secondBest W_refusals ++ fr) :=
  gMet.of rfl (Nat.le_of_ble_eq_true rfl) (fun X hX hF => w_Main_image hX r h hF)
set_option maxRecDepth 4000 in
theorem w_Main_isPlaceAndKind {p0 : Int32} {p1 : Int32} (hX : gOk B X RX10 cX10_isPlaceAndKind 3 2 (some .boolean)) : gH B X (fun r : Int32 => gFin X (some (.int r)) (wdC B W_spillsNow W_drawn T_length T_at T_bytes D_cells D_clauses G_length G_code A_size A_chosen A_codes A_lengths A_stack Y_cells Y_clauses N_marbles N_chipped N_swallowed N_sweets N_day N_owners P_next P_kept P_hasImage P_image P_acts P_entries P_imageEntries S_fewest S_row S_strengths U_size U_found U_places U_kinds U_holds U_fitting U_tally L_letters L_firstCells L_secondCells L_firstBest L_secondBest W_refusals ++ fr)) 0 [(0, .ref (aC B 0)), (1, .int p0), (2, .int p1)] [] (wdC B W_spillsNow W_drawn T_length T_at T_bytes D_cells D_clauses G_length G_code A_size A_chosen A_codes A_lengths A_stack Y_cells Y_clauses N_marbles N_chipped N_swallowed N_sweets N_day N_owners P_next P_kept P_hasImage P_image P_acts P_entries P_imageEntries S_fewest S_row S_strengths U_size U_found U_places U_kinds U_holds U_fitting U_tally L_letters L_firstCells L_secondCells L_firstBest L_secondBest W_refusals ++ fr) (f_Main_isPlaceAndKind Y_clauses p0 p1) := by
  unfold f_Main_isPlaceAndKind
  refine h_aload_n hX dX10_isPlaceAndKind_0 rfl rfl ?_
  refine get_RX10_42_C0 hX dX10_isPlaceAndKind_1 ?_
  refine h_callVi hX dX10_isPlaceAndKind_4 (cv_RX10_139) rc_C13 (As := []) (st := []) (fun _ h => c_Yard_stands h) rfl rfl (by decide) (Nat.le_of_ble_eq_true rfl) (fun a_1 => ?_)
  refine h_if_eq hX dX10_isPlaceAndKind_7 (tgt := 34) (by decide) (fun _ => ?_) (fun _ => ?_)
  · refine h_iconst hX dX10_isPlaceAndKind_34 ki_0 ?_
    exact h_ret hX (rv := some (.int 0)) dX10_isPlaceAndKind_35 rfl (fun h => h)
  · refine h_iload_n hX dX10_isPlaceAndKind_10 rfl rfl ?_
    refine h_if_lt hX dX10_isPlaceAndKind_11 (tgt := 34) (by decide) (fun _ => ?_) (fun _ => ?_)
    · refine h_iconst hX dX10_isPlaceAndKind_34 ki_0 ?_
      exact h_ret hX (rv := some (.int 0)) dX10_isPlaceAndKind_35 rfl (fun h => h)
    · refine h_iload_n hX dX10_isPlaceAndKind_14 rfl rfl ?_
      refine h_bipush hX dX10_isPlaceAndKind_15 kb_10 ?_
      refine h_icmp_ge hX dX10_isPlaceAndKind_17 (tgt := 34) (by decide) (fun _ => ?_) (fun _ => ?_)
      · refine h_iconst hX dX10_isPlaceAndKind_34 ki_0 ?_
        exact h_ret hX (rv := some (.int 0)) dX10_isPlaceAndKind_35 rfl (fun h => h)
      · refine h_iload_n hX dX10_isPlaceAndKind_20 rfl rfl ?_
        refine h_if_lt hX dX10_isPlaceAndKind_21 (tgt := 34) (by decide) (fun _ => ?_) (fun _ => ?_)
        · refine h_iconst hX dX10_isPlaceAndKind_34 ki_0 ?_
          exact h_ret hX (rv := some (.int 0)) dX10_isPlaceAndKind_35 rfl (fun h => h)
        · refine h_iload_n hX dX10_isPlaceAndKind_24 rfl rfl ?_
          refine h_bipush hX dX10_isPlaceAndKind_25 kb_6 ?_
          refine h_icmp_ge hX dX10_isPlaceAndKind_27 (tgt := 34) (by decide) (fun _ => ?_) (fun _ => ?_)
          · refine h_iconst hX dX10_isPlaceAndKind_34 ki_0 ?_
            exact h_ret hX (rv := some (.int 0)) dX10_isPlaceAndKind_35 rfl (fun h => h)
          · refine h_iconst hX dX10_isPlaceAndKind_30 ki_1 ?_
            refine h_goto hX dX10_isPlaceAndKind_31 (tgt := 35) (by decide) ?_
            exact h_ret hX (rv := some (.int 1)) dX10_isPlaceAndKind_35 rfl (fun h => h)
theorem c_Main_isPlaceAndKind {p0 : Int32} {p1 : Int32} {r : Int32} (h : f_Main_isPlaceAndKind Y_clauses p0 p1 = some r) : gMet B 2 yX10_isPlaceAndKind cX10_isPlaceAndKind 3 (some .boolean) [.ref (aC B 0), .int p0, .int p1] (wdC B W_spillsNow W_drawn T_length T_at T_bytes D_cells D_clauses G_length G_code A_size A_chosen A_codes A_lengths A_stack Y_cells Y_clauses N_marbles N_chipped N_swallowed N_sweets N_day N_owners P_next P_kept P_hasImage P_image P_acts P_entries P_imageEntries S_fewest S_row S_strengths U_size U_found U_places U_kinds U_holds U_fitting U_tally L_letters L_firstCells L_secondCells L_firstBest L_secondBest W_refusals ++ fr) (some (.int r)) (wdC B W_spillsNow W_drawn T_length T_at T_bytes D_cells D_clauses G_length G_code A_size A_chosen A_codes A_lengths A_stack Y_cells Y_clauses N_marbles N_chipped N_swallowed N_sweets N_day N_owners P_next P_kept P_hasImage P_image P_acts P_entries P_imageEntries S_fewest S_row S_strengths U_size U_found U_places U_kinds U_holds U_fitting U_tally L_letters L_firstCells L_secondCells L_firstBest L_secondBest W_refusals ++ fr) :=
  gMet.of rfl (Nat.le_of_ble_eq_true rfl) (fun X hX hF => w_Main_isPlaceAndKind hX r h hF)
set_option maxRecDepth 4000 in
theorem w_Main_lands {p0 : Int32} {p1 : Int32} {p2 : Int32} (hX : gOk B X RX10 cX10_lands 4 5 (some .int)) : gH B X (fun r : (Int32 × (Nat → Int32) × (Nat → Int32)) => gFin X (some (.int r.1)) (wdC B W_spillsNow W_drawn T_length T_at T_bytes D_cells D_clauses G_length G_code A_size A_chosen A_codes A_lengths r.2.1 Y_cells Y_clauses N_marbles N_chipped N_swallowed N_sweets N_day N_owners P_next P_kept P_hasImage P_image P_acts P_entries P_imageEntries S_fewest S_row S_strengths U_size U_found U_places U_kinds U_holds U_fitting U_tally r.2.2 L_firstCells L_secondCells L_firstBest L_secondBest W_refusals ++ fr)) 0 [(0, .ref (aC B 0)), (1, .int p0), (2, .int p1), (3, .int p2)] [] (wdC B W_spillsNow W_drawn T_length T_at T_bytes D_cells D_clauses G_length G_code A_size A_chosen A_codes A_lengths A_stack Y_cells Y_clauses N_marbles N_chipped N_swallowed N_sweets N_day N_owners P_next P_kept P_hasImage P_image P_acts P_entries P_imageEntries S_fewest S_row S_strengths U_size U_found U_places U_kinds U_holds U_fitting U_tally L_letters L_firstCells L_secondCells L_firstBest L_secondBest W_refusals ++ fr) (f_Main_lands A_size A_chosen A_codes A_lengths A_stack Y_cells Y_clauses N_marbles N_chipped N_day N_owners L_letters p0 p1 p2) := by
  unfold f_Main_lands
  refine h_aload_n hX dX10_lands_0 rfl rfl ?_
  refine get_RX10_42_C0 hX dX10_lands_1 ?_
  refine h_iload_n hX dX10_lands_4 rfl rfl ?_
  refine h_callVi hX dX10_lands_5 (cv_RX10_152) rc_C13 (As := [.int p0]) (st := []) (fun _ h => c_Yard_hasBoy h) rfl rfl (by decide) (Nat.le_of_ble_eq_true rfl) (fun a_1 => ?_)
  refine h_if_eq hX dX10_lands_8 (tgt := 29) (by decide) (fun _ => ?_) (fun _ => ?_)
  · refine h_iconst hX dX10_lands_29 ki_m1 ?_
    exact h_ret hX (rv := some (.int ((-1)))) dX10_lands_30 trivial (fun h => h)
  · refine h_aload_n hX dX10_lands_11 rfl rfl ?_
    refine get_RX10_42_C0 hX dX10_lands_12 ?_
    refine h_iload_n hX dX10_lands_15 rfl rfl ?_
    refine h_callVi hX dX10_lands_16 (cv_RX10_177) rc_C13 (As := [.int p1]) (st := []) (fun _ h => c_Yard_hasMarble h) rfl rfl (by decide) (Nat.le_of_ble_eq_true rfl) (fun a_2 => ?_)
    refine h_if_eq hX dX10_lands_19 (tgt := 29) (by decide) (fun _ => ?_) (fun _ => ?_)
    · refine h_iconst hX dX10_lands_29 ki_m1 ?_
      exact h_ret hX (rv := some (.int ((-1)))) dX10_lands_30 trivial (fun h => h)
    · refine h_iload_n hX dX10_lands_22 rfl rfl ?_
      refine h_callSi hX dX10_lands_23 (cs_RX10_273) (As := [.int p2]) (st := []) (fun _ h => c_Lane_isPower h) rfl rfl (by decide) (Nat.le_of_ble_eq_true rfl) (fun a_3 => ?_)
      refine h_if_ne hX dX10_lands_26 (tgt := 31) (by decide) (fun _ => ?_) (fun _ => ?_)
      · refine h_aload_n hX dX10_lands_31 rfl rfl ?_
        refine get_RX10_85_C0 hX dX10_lands_32 ?_
        refine h_iload_n hX dX10_lands_35 rfl rfl ?_
        refine h_iload_n hX dX10_lands_36 rfl rfl ?_
        refine h_iload_n hX dX10_lands_37 rfl rfl ?_
        refine h_callVi hX dX10_lands_38 (cv_RX10_276) rc_C30 (As := [.int p0, .int p1, .int p2]) (st := []) (fun _ h => c_Lane_flick h) rfl rfl (by decide) (Nat.le_of_ble_eq_true rfl) (fun a_4 => ?_)
        exact h_ret hX (rv := some (.int a_4.1)) dX10_lands_41 trivial (fun h => h)
      · refine h_iconst hX dX10_lands_29 ki_m1 ?_
        exact h_ret hX (rv := some (.int ((-1)))) dX10_lands_30 trivial (fun h => h)
theorem c_Main_lands {p0 : Int32} {p1 : Int32} {p2 : Int32} {r : (Int32 × (Nat → Int32) × (Nat → Int32))} (h : f_Main_lands A_size A_chosen A_codes A_lengths A_stack Y_cells Y_clauses N_marbles N_chipped N_day N_owners L_letters p0 p1 p2 = some r) : gMet B 5 yX10_lands cX10_lands 4 (some .int) [.ref (aC B 0), .int p0, .int p1, .int p2] (wdC B W_spillsNow W_drawn T_length T_at T_bytes D_cells D_clauses G_length G_code A_size A_chosen A_codes A_lengths A_stack Y_cells Y_clauses N_marbles N_chipped N_swallowed N_sweets N_day N_owners P_next P_kept P_hasImage P_image P_acts P_entries P_imageEntries S_fewest S_row S_strengths U_size U_found U_places U_kinds U_holds U_fitting U_tally L_letters L_firstCells L_secondCells L_firstBest L_secondBest W_refusals ++ fr) (some (.int r.1)) (wdC B W_spillsNow W_drawn T_length T_at T_bytes D_cells D_clauses G_length G_code A_size A_chosen A_codes A_lengths r.2.1 Y_cells Y_clauses N_marbles N_chipped N_swallowed N_sweets N_day N_owners P_next P_kept P_hasImage P_image P_acts P_entries P_imageEntries S_fewest S_row S_strengths U_size U_found U_places U_kinds U_holds U_fitting U_tally r.2.2 L_firstCells L_secondCells L_firstBest L_secondBest W_refusals ++ fr) :=
  gMet.of rfl (Nat.le_of_ble_eq_true rfl) (fun X hX hF => w_Main_lands hX r h hF)
