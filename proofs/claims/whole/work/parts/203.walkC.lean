variable {B : gB} {X : gX} {fr : va_W} {W_spillsNow : Int32} {W_drawn : Int64} {T_length : Int32} {T_at : Int32} {T_bytes : Nat → Int32} {D_cells : Nat → Int32} {D_clauses : Nat → Int32} {G_length : Int32} {G_code : Nat → Int32} {A_size : Int32} {A_chosen : Int32} {A_codes : Nat → Int32} {A_lengths : Nat → Int32} {A_stack : Nat → Int32} {Y_cells : Nat → Int32} {Y_clauses : Nat → Int32} {N_marbles : Int32} {N_chipped : Int32} {N_swallowed : Int32} {N_sweets : Int32} {N_day : Int32} {N_owners : Nat → Int32} {P_next : Int32} {P_kept : Int32} {P_hasImage : Int32} {P_image : Int64} {P_acts : Nat → Int64} {P_entries : Nat → Int32} {P_imageEntries : Nat → Int32} {S_fewest : Int32} {S_row : Int32} {S_strengths : Nat → Int32} {U_size : Int32} {U_found : Int32} {U_places : Nat → Int32} {U_kinds : Nat → Int32} {U_holds : Nat → Int32} {U_fitting : Nat → Int32} {U_tally : Nat → Int32} {L_letters : Nat → Int32} {L_firstCells : Nat → Int32} {L_secondCells : Nat → Int32} {L_firstBest : Nat → Int32} {L_secondBest : Nat → Int32} {W_refusals : Nat → Int32}
set_option maxRecDepth 4000 in
theorem w_Lane_gain {p0 : Int32} {p1 : Int32} {p2 : Int32} {p3 : Int32} (hX : gOk B X RX1 cX1_gain 6 4 (some .int)) : gH B X (fun r : Int32 => gFin X (some (.int r)) (wdC B W_spillsNow W_drawn T_length T_at T_bytes D_cells D_clauses G_length G_code A_size A_chosen A_codes A_lengths A_stack Y_cells Y_clauses N_marbles N_chipped N_swallowed N_sweets N_day N_owners P_next P_kept P_hasImage P_image P_acts P_entries P_imageEntries S_fewest S_row S_strengths U_size U_found U_places U_kinds U_holds U_fitting U_tally L_letters L_firstCells L_secondCells L_firstBest L_secondBest W_refusals ++ fr)) 0 [(0, .ref (aC B 30)), (1, .int p0), (2, .int p1), (3, .int p2), (4, .int p3)] [] (wdC B W_spillsNow W_drawn T_length T_at T_bytes D_cells D_clauses G_length G_code A_size A_chosen A_codes A_lengths A_stack Y_cells Y_clauses N_marbles N_chipped N_swallowed N_sweets N_day N_owners P_next P_kept P_hasImage P_image P_acts P_entries P_imageEntries S_fewest S_row S_strengths U_size U_found U_places U_kinds U_holds U_fitting U_tally L_letters L_firstCells L_secondCells L_firstBest L_secondBest W_refusals ++ fr) (f_Lane_gain Y_cells p0 p1 p2 p3) := by
  unfold f_Lane_gain
  refine h_aload_n hX dX1_gain_0 rfl rfl ?_
  refine h_iload_n hX dX1_gain_1 rfl rfl ?_
  refine h_iload_n hX dX1_gain_2 rfl rfl ?_
  refine h_callVi hX dX1_gain_3 (cv_RX1_120) rc_C30 (As := [.int p0, .int p1]) (st := []) (fun _ h => c_Lane_nearerOf h) rfl rfl (by decide) (Nat.le_of_ble_eq_true rfl) (fun a_1 => ?_)
  refine h_istore hX dX1_gain_6 (by decide) (lv' := [(0, .ref (aC B 30)), (1, .int p0), (2, .int p1), (3, .int p2), (4, .int p3), (5, .int a_1)]) rfl ?_
  refine h_iload hX dX1_gain_8 rfl ?_
  refine h_iconst hX dX1_gain_10 ki_1 ?_
  refine h_icmp_ne hX dX1_gain_11 (tgt := 17) (by decide) (fun _ => ?_) (fun _ => ?_)
  · refine h_iload hX dX1_gain_17 rfl ?_
    refine h_iconst hX dX1_gain_19 ki_2 ?_
    refine h_icmp_eq hX dX1_gain_20 (tgt := 31) (by decide) (fun _ => ?_) (fun _ => ?_)
    · refine h_iload_n hX dX1_gain_31 rfl rfl ?_
      refine h_ineg hX dX1_gain_32 ?_
      refine h_goto hX dX1_gain_33 (tgt := 37) (by decide) ?_
      exact h_ret hX (rv := some (.int (-p2))) dX1_gain_37 trivial (fun h => h)
    · refine h_aload_n hX dX1_gain_23 rfl rfl ?_
      refine h_iload_n hX dX1_gain_24 rfl rfl ?_
      refine h_callVi hX dX1_gain_25 (cv_RX1_110) rc_C30 (As := [.int p0]) (st := []) (fun _ h => c_Lane_isDrain h) rfl rfl (by decide) (Nat.le_of_ble_eq_true rfl) (fun a_2 => ?_)
      refine h_if_eq hX dX1_gain_28 (tgt := 36) (by decide) (fun _ => ?_) (fun _ => ?_)
      · refine h_iconst hX dX1_gain_36 ki_0 ?_
        exact h_ret hX (rv := some (.int 0)) dX1_gain_37 trivial (fun h => h)
      · refine h_iload_n hX dX1_gain_31 rfl rfl ?_
        refine h_ineg hX dX1_gain_32 ?_
        refine h_goto hX dX1_gain_33 (tgt := 37) (by decide) ?_
        exact h_ret hX (rv := some (.int (-p2))) dX1_gain_37 trivial (fun h => h)
  · refine h_iload hX dX1_gain_14 rfl ?_
    exact h_ret hX (rv := some (.int p3)) dX1_gain_16 trivial (fun h => h)
theorem c_Lane_gain {p0 : Int32} {p1 : Int32} {p2 : Int32} {p3 : Int32} {r : Int32} (h : f_Lane_gain Y_cells p0 p1 p2 p3 = some r) : gMet B 4 yX1_gain cX1_gain 6 (some .int) [.ref (aC B 30), .int p0, .int p1, .int p2, .int p3] (wdC B W_spillsNow W_drawn T_length T_at T_bytes D_cells D_clauses G_length G_code A_size A_chosen A_codes A_lengths A_stack Y_cells Y_clauses N_marbles N_chipped N_swallowed N_sweets N_day N_owners P_next P_kept P_hasImage P_image P_acts P_entries P_imageEntries S_fewest S_row S_strengths U_size U_found U_places U_kinds U_holds U_fitting U_tally L_letters L_firstCells L_secondCells L_firstBest L_secondBest W_refusals ++ fr) (some (.int r)) (wdC B W_spillsNow W_drawn T_length T_at T_bytes D_cells D_clauses G_length G_code A_size A_chosen A_codes A_lengths A_stack Y_cells Y_clauses N_marbles N_chipped N_swallowed N_sweets N_day N_owners P_next P_kept P_hasImage P_image P_acts P_entries P_imageEntries S_fewest S_row S_strengths U_size U_found U_places U_kinds U_holds U_fitting U_tally L_letters L_firstCells L_secondCells L_firstBest L_secondBest W_refusals ++ fr) :=
  gMet.of rfl (Nat.le_of_ble_eq_true rfl) (fun X hX hF => w_Lane_gain hX r h hF)
set_option maxRecDepth 4000 in
theorem w_Lane_findBestAnswers_L111 {v3 : Int32} {v4 : Int32} {v5 : Int32} (hX : gOk B X RX1 cX1_findBestAnswers 9 5 none) (s : (Int32 × (Nat → Int32) × (Nat → Int32))) : gH B X (Sum.elim (fun s : (Int32 × (Nat → Int32) × (Nat → Int32)) => gG B X 111 [(0, .ref (aC B 30)), (3, .int v3), (4, .int v4), (5, .int v5), (6, .int s.1)] [] (wdC B W_spillsNow W_drawn T_length T_at T_bytes D_cells D_clauses G_length G_code A_size A_chosen A_codes A_lengths A_stack Y_cells Y_clauses N_marbles N_chipped N_swallowed N_sweets N_day N_owners P_next P_kept P_hasImage P_image P_acts P_entries P_imageEntries S_fewest S_row S_strengths U_size U_found U_places U_kinds U_holds U_fitting U_tally L_letters L_firstCells L_secondCells s.2.1 s.2.2 W_refusals ++ fr)) (Sum.elim (fun s : (Int32 × (Nat → Int32) × (Nat → Int32)) => gG B X 101 [(0, .ref (aC B 30)), (3, .int v3), (4, .int v4), (5, .int s.1)] [] (wdC B W_spillsNow W_drawn T_length T_at T_bytes D_cells D_clauses G_length G_code A_size A_chosen A_codes A_lengths A_stack Y_cells Y_clauses N_marbles N_chipped N_swallowed N_sweets N_day N_owners P_next P_kept P_hasImage P_image P_acts P_entries P_imageEntries S_fewest S_row S_strengths U_size U_found U_places U_kinds U_holds U_fitting U_tally L_letters L_firstCells L_secondCells s.2.1 s.2.2 W_refusals ++ fr)) (fun r : ((Nat → Int32) × (Nat → Int32) × (Nat → Int32) × (Nat → Int32) × (Nat → Int32) × (Nat → Int32)) => gFin X (none) (wdC B W_spillsNow W_drawn T_length T_at T_bytes D_cells D_clauses G_length G_code A_size A_chosen A_codes A_lengths r.1 Y_cells Y_clauses N_marbles N_chipped N_swallowed N_sweets N_day N_owners P_next P_kept P_hasImage P_image P_acts P_entries P_imageEntries S_fewest S_row S_strengths U_size U_found U_places U_kinds U_holds U_fitting U_tally r.2.1 r.2.2.1 r.2.2.2.1 r.2.2.2.2.1 r.2.2.2.2.2 W_refusals ++ fr)))) 111 [(0, .ref (aC B 30)), (3, .int v3), (4, .int v4), (5, .int v5), (6, .int s.1)] [] (wdC B W_spillsNow W_drawn T_length T_at T_bytes D_cells D_clauses G_length G_code A_size A_chosen A_codes A_lengths A_stack Y_cells Y_clauses N_marbles N_chipped N_swallowed N_sweets N_day N_owners P_next P_kept P_hasImage P_image P_acts P_entries P_imageEntries S_fewest S_row S_strengths U_size U_found U_places U_kinds U_holds U_fitting U_tally L_letters L_firstCells L_secondCells s.2.1 s.2.2 W_refusals ++ fr) (f_Lane_findBestAnswers_L111 Y_cells L_firstCells L_secondCells v3 v4 v5 s) := by
  unfold f_Lane_findBestAnswers_L111
  refine h_iload hX dX1_findBestAnswers_111 rfl ?_
  refine h_bipush hX dX1_findBestAnswers_113 kb_9 ?_
  refine h_icmp_gt hX dX1_findBestAnswers_115 (tgt := 208) (by decide) (fun _ => ?_) (fun _ => ?_)
  · refine gH.inr ?_
    refine h_iincc hX dX1_findBestAnswers_208 rfl ki_1 (by decide) (lv' := [(0, .ref (aC B 30)), (3, .int v3), (4, .int v4), (5, .int (v5 + 1)), (6, .int s.1)]) rfl ?_
    refine h_goto hX dX1_findBestAnswers_211 (tgt := 101) (by decide) ?_
    refine gH.dead [0, 1, 2, 3] rfl ?_
    exact gH.some' (fun h => h)
  · refine h_aload_n hX dX1_findBestAnswers_118 rfl rfl ?_
    refine h_aload_n hX dX1_findBestAnswers_119 rfl rfl ?_
    refine get_RX1_18_C30 hX dX1_findBestAnswers_120 ?_
    refine h_iload hX dX1_findBestAnswers_123 rfl ?_
    refine ald_C32 hX dX1_findBestAnswers_125 ?_
    refine h_aload_n hX dX1_findBestAnswers_126 rfl rfl ?_
    refine get_RX1_21_C30 hX dX1_findBestAnswers_127 ?_
    refine h_iload hX dX1_findBestAnswers_130 rfl ?_
    refine ald_C33 hX dX1_findBestAnswers_132 ?_
    refine h_iload_n hX dX1_findBestAnswers_133 rfl rfl ?_
    refine h_iload hX dX1_findBestAnswers_134 rfl ?_
    refine h_callVi hX dX1_findBestAnswers_136 (cv_RX1_130) rc_C30 (As := [.int (L_firstCells v5.toNatClampNeg), .int (L_secondCells s.1.toNatClampNeg), .int v3, .int v4]) (st := []) (fun _ h => c_Lane_gain h) rfl rfl (by decide) (Nat.le_of_ble_eq_true rfl) (fun a_4 => ?_)
    refine h_istore hX dX1_findBestAnswers_139 (by decide) (lv' := [(0, .ref (aC B 30)), (3, .int v3), (4, .int v4), (5, .int v5), (6, .int s.1), (7, .int a_4)]) rfl ?_
    refine h_aload_n hX dX1_findBestAnswers_141 rfl rfl ?_
    refine h_aload_n hX dX1_findBestAnswers_142 rfl rfl ?_
    refine get_RX1_21_C30 hX dX1_findBestAnswers_143 ?_
    refine h_iload hX dX1_findBestAnswers_146 rfl ?_
    refine ald_C33 hX dX1_findBestAnswers_148 ?_
    refine h_aload_n hX dX1_findBestAnswers_149 rfl rfl ?_
    refine get_RX1_18_C30 hX dX1_findBestAnswers_150 ?_
    refine h_iload hX dX1_findBestAnswers_153 rfl ?_
    refine ald_C32 hX dX1_findBestAnswers_155 ?_
    refine h_iload hX dX1_findBestAnswers_156 rfl ?_
    refine h_iload_n hX dX1_findBestAnswers_158 rfl rfl ?_
    refine h_callVi hX dX1_findBestAnswers_159 (cv_RX1_130) rc_C30 (As := [.int (L_secondCells s.1.toNatClampNeg), .int (L_firstCells v5.toNatClampNeg), .int v4, .int v3]) (st := []) (fun _ h => c_Lane_gain h) rfl rfl (by decide) (Nat.le_of_ble_eq_true rfl) (fun a_5 => ?_)
    refine h_istore hX dX1_findBestAnswers_162 (by decide) (lv' := [(0, .ref (aC B 30)), (3, .int v3), (4, .int v4), (5, .int v5), (6, .int s.1), (7, .int a_4), (8, .int a_5)]) rfl ?_
    refine h_aload_n hX dX1_findBestAnswers_164 rfl rfl ?_
    refine get_RX1_24_C30 hX dX1_findBestAnswers_165 ?_
    refine h_iload hX dX1_findBestAnswers_168 rfl ?_
    refine h_aload_n hX dX1_findBestAnswers_170 rfl rfl ?_
    refine get_RX1_24_C30 hX dX1_findBestAnswers_171 ?_
    refine h_iload hX dX1_findBestAnswers_174 rfl ?_
    refine ald_C34 hX dX1_findBestAnswers_176 ?_
    refine h_iload hX dX1_findBestAnswers_177 rfl ?_
    refine h_jmax hX dX1_findBestAnswers_179 cm_RX1_97 (by omega) (Nat.le_of_ble_eq_true rfl) ?_
    refine ast_C34 hX dX1_findBestAnswers_182 ?_
    refine gH.letw (w := fun y => wdC B W_spillsNow W_drawn T_length T_at T_bytes D_cells D_clauses G_length G_code A_size A_chosen A_codes A_lengths A_stack Y_cells Y_clauses N_marbles N_chipped N_swallowed N_sweets N_day N_owners P_next P_kept P_hasImage P_image P_acts P_entries P_imageEntries S_fewest S_row S_strengths U_size U_found U_places U_kinds U_holds U_fitting U_tally L_letters L_firstCells L_secondCells y s.2.2 W_refusals ++ fr) (fun L_firstBest_6 => ?_)
    refine h_aload_n hX dX1_findBestAnswers_183 rfl rfl ?_
    refine get_RX1_27_C30 hX dX1_findBestAnswers_184 ?_
    refine h_iload hX dX1_findBestAnswers_187 rfl ?_
    refine h_aload_n hX dX1_findBestAnswers_189 rfl rfl ?_
    refine get_RX1_27_C30 hX dX1_findBestAnswers_190 ?_
    refine h_iload hX dX1_findBestAnswers_193 rfl ?_
    refine ald_C35 hX dX1_findBestAnswers_195 ?_
    refine h_iload hX dX1_findBestAnswers_196 rfl ?_
    refine h_jmax hX dX1_findBestAnswers_198 cm_RX1_97 (by omega) (Nat.le_of_ble_eq_true rfl) ?_
    refine ast_C35 hX dX1_findBestAnswers_201 ?_
    refine gH.letw (w := fun y => wdC B W_spillsNow W_drawn T_length T_at T_bytes D_cells D_clauses G_length G_code A_size A_chosen A_codes A_lengths A_stack Y_cells Y_clauses N_marbles N_chipped N_swallowed N_sweets N_day N_owners P_next P_kept P_hasImage P_image P_acts P_entries P_imageEntries S_fewest S_row S_strengths U_size U_found U_places U_kinds U_holds U_fitting U_tally L_letters L_firstCells L_secondCells L_firstBest_6 y W_refusals ++ fr) (fun L_secondBest_7 => ?_)
    refine h_iincc hX dX1_findBestAnswers_202 rfl ki_1 (by decide) (lv' := [(0, .ref (aC B 30)), (3, .int v3), (4, .int v4), (5, .int v5), (6, .int (s.1 + 1)), (7, .int a_4), (8, .int a_5)]) rfl ?_
    refine h_goto hX dX1_findBestAnswers_205 (tgt := 111) (by decide) ?_
    refine gH.dead [0, 1, 2, 3, 4] rfl ?_
    exact gH.some' (fun h => h)
set_option maxRecDepth 4000 in
theorem w_Lane_findBestAnswers_L101 {v3 : Int32} {v4 : Int32} (hX : gOk B X RX1 cX1_findBestAnswers 9 5 none) (s : (Int32 × (Nat → Int32) × (Nat → Int32))) : gH B X (Sum.elim (fun s : (Int32 × (Nat → Int32) × (Nat → Int32)) => gG B X 101 [(0, .ref (aC B 30)), (3, .int v3), (4, .int v4), (5, .int s.1)] [] (wdC B W_spillsNow W_drawn T_length T_at T_bytes D_cells D_clauses G_length G_code A_size A_chosen A_codes A_lengths A_stack Y_cells Y_clauses N_marbles N_chipped N_swallowed N_sweets N_day N_owners P_next P_kept P_hasImage P_image P_acts P_entries P_imageEntries S_fewest S_row S_strengths U_size U_found U_places U_kinds U_holds U_fitting U_tally L_letters L_firstCells L_secondCells s.2.1 s.2.2 W_refusals ++ fr)) (fun r : ((Nat → Int32) × (Nat → Int32) × (Nat → Int32) × (Nat → Int32) × (Nat → Int32) × (Nat → Int32)) => gFin X (none) (wdC B W_spillsNow W_drawn T_length T_at T_bytes D_cells D_clauses G_length G_code A_size A_chosen A_codes A_lengths r.1 Y_cells Y_clauses N_marbles N_chipped N_swallowed N_sweets N_day N_owners P_next P_kept P_hasImage P_image P_acts P_entries P_imageEntries S_fewest S_row S_strengths U_size U_found U_places U_kinds U_holds U_fitting U_tally r.2.1 r.2.2.1 r.2.2.2.1 r.2.2.2.2.1 r.2.2.2.2.2 W_refusals ++ fr))) 101 [(0, .ref (aC B 30)), (3, .int v3), (4, .int v4), (5, .int s.1)] [] (wdC B W_spillsNow W_drawn T_length T_at T_bytes D_cells D_clauses G_length G_code A_size A_chosen A_codes A_lengths A_stack Y_cells Y_clauses N_marbles N_chipped N_swallowed N_sweets N_day N_owners P_next P_kept P_hasImage P_image P_acts P_entries P_imageEntries S_fewest S_row S_strengths U_size U_found U_places U_kinds U_holds U_fitting U_tally L_letters L_firstCells L_secondCells s.2.1 s.2.2 W_refusals ++ fr) (f_Lane_findBestAnswers_L101 A_stack Y_cells L_letters L_firstCells L_secondCells v3 v4 s) := by
  unfold f_Lane_findBestAnswers_L101
  refine h_iload hX dX1_findBestAnswers_101 rfl ?_
  refine h_bipush hX dX1_findBestAnswers_103 kb_9 ?_
  refine h_icmp_gt hX dX1_findBestAnswers_105 (tgt := 214) (by decide) (fun _ => ?_) (fun _ => ?_)
  · exact h_ret hX (rv := none) dX1_findBestAnswers_214 trivial (fun h => h)
  · refine h_iconst hX dX1_findBestAnswers_108 ki_1 ?_
    refine h_istore hX dX1_findBestAnswers_109 (by decide) (lv' := [(0, .ref (aC B 30)), (3, .int v3), (4, .int v4), (5, .int s.1), (6, .int 1)]) rfl ?_
    exact gH.loop (lvf := fun z : (Int32 × (Nat → Int32) × (Nat → Int32)) => [(0, .ref (aC B 30)), (3, .int v3), (4, .int v4), (5, .int s.1), (6, .int z.1)]) (wf := fun z : (Int32 × (Nat → Int32) × (Nat → Int32)) => wdC B W_spillsNow W_drawn T_length T_at T_bytes D_cells D_clauses G_length G_code A_size A_chosen A_codes A_lengths A_stack Y_cells Y_clauses N_marbles N_chipped N_swallowed N_sweets N_day N_owners P_next P_kept P_hasImage P_image P_acts P_entries P_imageEntries S_fewest S_row S_strengths U_size U_found U_places U_kinds U_holds U_fitting U_tally L_letters L_firstCells L_secondCells z.2.1 z.2.2 W_refusals ++ fr) (fun z => w_Lane_findBestAnswers_L111 hX z) (1, s.2.1, s.2.2)
set_option maxRecDepth 4000 in
theorem w_Lane_findBestAnswers_L22 {v1 : Int32} {v2 : Int32} {v3 : Int32} {v4 : Int32} (hX : gOk B X RX1 cX1_findBestAnswers 9 5 none) (s : (Int32 × (Nat → Int32) × (Nat → Int32) × (Nat → Int32) × (Nat → Int32) × (Nat → Int32) × (Nat → Int32))) : gH B X (Sum.elim (fun s : (Int32 × (Nat → Int32) × (Nat → Int32) × (Nat → Int32) × (Nat → Int32) × (Nat → Int32) × (Nat → Int32)) => gG B X 22 [(0, .ref (aC B 30)), (1, .int v1), (2, .int v2), (3, .int v3), (4, .int v4), (5, .int s.1)] [] (wdC B W_spillsNow W_drawn T_length T_at T_bytes D_cells D_clauses G_length G_code A_size A_chosen A_codes A_lengths s.2.1 Y_cells Y_clauses N_marbles N_chipped N_swallowed N_sweets N_day N_owners P_next P_kept P_hasImage P_image P_acts P_entries P_imageEntries S_fewest S_row S_strengths U_size U_found U_places U_kinds U_holds U_fitting U_tally s.2.2.1 s.2.2.2.1 s.2.2.2.2.1 s.2.2.2.2.2.1 s.2.2.2.2.2.2 W_refusals ++ fr)) (fun r : ((Nat → Int32) × (Nat → Int32) × (Nat → Int32) × (Nat → Int32) × (Nat → Int32) × (Nat → Int32)) => gFin X (none) (wdC B W_spillsNow W_drawn T_length T_at T_bytes D_cells D_clauses G_length G_code A_size A_chosen A_codes A_lengths r.1 Y_cells Y_clauses N_marbles N_chipped N_swallowed N_sweets N_day N_owners P_next P_kept P_hasImage P_image P_acts P_entries P_imageEntries S_fewest S_row S_strengths U_size U_found U_places U_kinds U_holds U_fitting U_tally r.2.1 r.2.2.1 r.2.2.2.1 r.2.2.2.2.1 r.2.2.2.2.2 W_refusals ++ fr))) 22 [(0, .ref (aC B 30)), (1, .int v1), (2, .int v2), (3, .int v3), (4, .int v4), (5, .int s.1)] [] (wdC B W_spillsNow W_drawn T_length T_at T_bytes D_cells D_clauses G_length G_code A_size A_chosen A_codes A_lengths s.2.1 Y_cells Y_clauses N_marbles N_chipped N_swallowed N_sweets N_day N_owners P_next P_kept P_hasImage P_image P_acts P_entries P_imageEntries S_fewest S_row S_strengths U_size U_found U_places U_kinds U_holds U_fitting U_tally s.2.2.1 s.2.2.2.1 s.2.2.2.2.1 s.2.2.2.2.2.1 s.2.2.2.2.2.2 W_refusals ++ fr) (f_Lane_findBestAnswers_L22 A_size A_chosen A_codes A_lengths Y_cells N_marbles N_chipped N_day N_owners v1 v2 v3 v4 s) := by
  unfold f_Lane_findBestAnswers_L22
  refine h_iload hX dX1_findBestAnswers_22 rfl ?_
  refine h_bipush hX dX1_findBestAnswers_24 kb_9 ?_
  refine h_icmp_gt hX dX1_findBestAnswers_26 (tgt := 98) (by decide) (fun _ => ?_) (fun _ => ?_)
  · refine gH.inr ?_
    refine h_iconst hX dX1_findBestAnswers_98 ki_1 ?_
    refine h_istore hX dX1_findBestAnswers_99 (by decide) (lv' := [(0, .ref (aC B 30)), (1, .int v1), (2, .int v2), (3, .int v3), (4, .int v4), (5, .int 1)]) rfl ?_
    refine gH.dead [0, 3, 4, 5] rfl ?_
    exact gH.loop (lvf := fun z : (Int32 × (Nat → Int32) × (Nat → Int32)) => [(0, .ref (aC B 30)), (3, .int v3), (4, .int v4), (5, .int z.1)]) (wf := fun z : (Int32 × (Nat → Int32) × (Nat → Int32)) => wdC B W_spillsNow W_drawn T_length T_at T_bytes D_cells D_clauses G_length G_code A_size A_chosen A_codes A_lengths s.2.1 Y_cells Y_clauses N_marbles N_chipped N_swallowed N_sweets N_day N_owners P_next P_kept P_hasImage P_image P_acts P_entries P_imageEntries S_fewest S_row S_strengths U_size U_found U_places U_kinds U_holds U_fitting U_tally s.2.2.1 s.2.2.2.1 s.2.2.2.2.1 z.2.1 z.2.2 W_refusals ++ fr) (fun z => w_Lane_findBestAnswers_L101 hX z) (1, s.2.2.2.2.2.1, s.2.2.2.2.2.2)
  · refine h_aload_n hX dX1_findBestAnswers_29 rfl rfl ?_
    refine get_RX1_18_C30 hX dX1_findBestAnswers_30 ?_
    refine h_iload hX dX1_findBestAnswers_33 rfl ?_
    refine h_aload_n hX dX1_findBestAnswers_35 rfl rfl ?_
    refine h_aload_n hX dX1_findBestAnswers_36 rfl rfl ?_
    refine get_RX1_34_C30 hX dX1_findBestAnswers_37 ?_
    refine h_iload_n hX dX1_findBestAnswers_40 rfl rfl ?_
    refine h_callVi hX dX1_findBestAnswers_41 (cv_RX1_56) rc_C16 (As := [.int v1]) (st := [.ref (aC B 30), .int s.1, .ref (aC B 32)]) (fun _ h => c_Now_ownerOf h) rfl rfl (by decide) (Nat.le_of_ble_eq_true rfl) (fun a_9 => ?_)
    refine h_iload_n hX dX1_findBestAnswers_44 rfl rfl ?_
    refine h_iload hX dX1_findBestAnswers_45 rfl ?_
    refine h_callVi hX dX1_findBestAnswers_47 (cv_RX1_116) rc_C30 (As := [.int a_9, .int v1, .int s.1]) (st := [.int s.1, .ref (aC B 32)]) (fun _ h => c_Lane_flick h) rfl rfl (by decide) (Nat.le_of_ble_eq_true rfl) (fun a_10 => ?_)
    refine ast_C32 hX dX1_findBestAnswers_50 ?_
    refine gH.letw (w := fun y => wdC B W_spillsNow W_drawn T_length T_at T_bytes D_cells D_clauses G_length G_code A_size A_chosen A_codes A_lengths a_10.2.1 Y_cells Y_clauses N_marbles N_chipped N_swallowed N_sweets N_day N_owners P_next P_kept P_hasImage P_image P_acts P_entries P_imageEntries S_fewest S_row S_strengths U_size U_found U_places U_kinds U_holds U_fitting U_tally a_10.2.2 y s.2.2.2.2.1 s.2.2.2.2.2.1 s.2.2.2.2.2.2 W_refusals ++ fr) (fun L_firstCells_11 => ?_)
    refine h_aload_n hX dX1_findBestAnswers_51 rfl rfl ?_
    refine get_RX1_21_C30 hX dX1_findBestAnswers_52 ?_
    refine h_iload hX dX1_findBestAnswers_55 rfl ?_
    refine h_aload_n hX dX1_findBestAnswers_57 rfl rfl ?_
    refine h_aload_n hX dX1_findBestAnswers_58 rfl rfl ?_
    refine get_RX1_34_C30 hX dX1_findBestAnswers_59 ?_
    refine h_iload_n hX dX1_findBestAnswers_62 rfl rfl ?_
    refine h_callVi hX dX1_findBestAnswers_63 (cv_RX1_56) rc_C16 (As := [.int v2]) (st := [.ref (aC B 30), .int s.1, .ref (aC B 33)]) (fun _ h => c_Now_ownerOf h) rfl rfl (by decide) (Nat.le_of_ble_eq_true rfl) (fun a_12 => ?_)
    refine h_iload_n hX dX1_findBestAnswers_66 rfl rfl ?_
    refine h_iload hX dX1_findBestAnswers_67 rfl ?_
    refine h_callVi hX dX1_findBestAnswers_69 (cv_RX1_116) rc_C30 (As := [.int a_12, .int v2, .int s.1]) (st := [.int s.1, .ref (aC B 33)]) (fun _ h => c_Lane_flick h) rfl rfl (by decide) (Nat.le_of_ble_eq_true rfl) (fun a_13 => ?_)
    refine ast_C33 hX dX1_findBestAnswers_72 ?_
    refine gH.letw (w := fun y => wdC B W_spillsNow W_drawn T_length T_at T_bytes D_cells D_clauses G_length G_code A_size A_chosen A_codes A_lengths a_13.2.1 Y_cells Y_clauses N_marbles N_chipped N_swallowed N_sweets N_day N_owners P_next P_kept P_hasImage P_image P_acts P_entries P_imageEntries S_fewest S_row S_strengths U_size U_found U_places U_kinds U_holds U_fitting U_tally a_13.2.2 L_firstCells_11 y s.2.2.2.2.2.1 s.2.2.2.2.2.2 W_refusals ++ fr) (fun L_secondCells_14 => ?_)
    refine h_aload_n hX dX1_findBestAnswers_73 rfl rfl ?_
    refine get_RX1_24_C30 hX dX1_findBestAnswers_74 ?_
    refine h_iload hX dX1_findBestAnswers_77 rfl ?_
    refine h_iload_n hX dX1_findBestAnswers_79 rfl rfl ?_
    refine h_ineg hX dX1_findBestAnswers_80 ?_
    refine ast_C34 hX dX1_findBestAnswers_81 ?_
    refine gH.letw (w := fun y => wdC B W_spillsNow W_drawn T_length T_at T_bytes D_cells D_clauses G_length G_code A_size A_chosen A_codes A_lengths a_13.2.1 Y_cells Y_clauses N_marbles N_chipped N_swallowed N_sweets N_day N_owners P_next P_kept P_hasImage P_image P_acts P_entries P_imageEntries S_fewest S_row S_strengths U_size U_found U_places U_kinds U_holds U_fitting U_tally a_13.2.2 L_firstCells_11 L_secondCells_14 y s.2.2.2.2.2.2 W_refusals ++ fr) (fun L_firstBest_15 => ?_)
    refine h_aload_n hX dX1_findBestAnswers_82 rfl rfl ?_
    refine get_RX1_27_C30 hX dX1_findBestAnswers_83 ?_
    refine h_iload hX dX1_findBestAnswers_86 rfl ?_
    refine h_iload hX dX1_findBestAnswers_88 rfl ?_
    refine h_ineg hX dX1_findBestAnswers_90 ?_
    refine ast_C35 hX dX1_findBestAnswers_91 ?_
    refine gH.letw (w := fun y => wdC B W_spillsNow W_drawn T_length T_at T_bytes D_cells D_clauses G_length G_code A_size A_chosen A_codes A_lengths a_13.2.1 Y_cells Y_clauses N_marbles N_chipped N_swallowed N_sweets N_day N_owners P_next P_kept P_hasImage P_image P_acts P_entries P_imageEntries S_fewest S_row S_strengths U_size U_found U_places U_kinds U_holds U_fitting U_tally a_13.2.2 L_firstCells_11 L_secondCells_14 L_firstBest_15 y W_refusals ++ fr) (fun L_secondBest_16 => ?_)
    refine h_iincc hX dX1_findBestAnswers_92 rfl ki_1 (by decide) (lv' := [(0, .ref (aC B 30)), (1, .int v1), (2, .int v2), (3, .int v3), (4, .int v4), (5, .int (s.1 + 1))]) rfl ?_
    refine h_goto hX dX1_findBestAnswers_95 (tgt := 22) (by decide) ?_
    exact gH.some' (fun h => h)
set_option maxRecDepth 4000 in
theorem w_Lane_findBestAnswers {p0 : Int32} {p1 : Int32} (hX : gOk B X RX1 cX1_findBestAnswers 9 5 none) : gH B X (fun r : ((Nat → Int32) × (Nat → Int32) × (Nat → Int32) × (Nat → Int32) × (Nat → Int32) × (Nat → Int32)) => gFin X (none) (wdC B W_spillsNow W_drawn T_length T_at T_bytes D_cells D_clauses G_length G_code A_size A_chosen A_codes A_lengths r.1 Y_cells Y_clauses N_marbles N_chipped N_swallowed N_sweets N_day N_owners P_next P_kept P_hasImage P_image P_acts P_entries P_imageEntries S_fewest S_row S_strengths U_size U_found U_places U_kinds U_holds U_fitting U_tally r.2.1 r.2.2.1 r.2.2.2.1 r.2.2.2.2.1 r.2.2.2.2.2 W_refusals ++ fr)) 0 [(0, .ref (aC B 30)), (1, .int p0), (2, .int p1)] [] (wdC B W_spillsNow W_drawn T_length T_at T_bytes D_cells D_clauses G_length G_code A_size A_chosen A_codes A_lengths A_stack Y_cells Y_clauses N_marbles N_chipped N_swallowed N_sweets N_day N_owners P_next P_kept P_hasImage P_image P_acts P_entries P_imageEntries S_fewest S_row S_strengths U_size U_found U_places U_kinds U_holds U_fitting U_tally L_letters L_firstCells L_secondCells L_firstBest L_secondBest W_refusals ++ fr) (f_Lane_findBestAnswers A_size A_chosen A_codes A_lengths A_stack Y_cells N_marbles N_chipped N_day N_owners L_letters L_firstCells L_secondCells L_firstBest L_secondBest p0 p1) := by
  unfold f_Lane_findBestAnswers
  refine h_aload_n hX dX1_findBestAnswers_0 rfl rfl ?_
  refine get_RX1_30_C30 hX dX1_findBestAnswers_1 ?_
  refine h_iload_n hX dX1_findBestAnswers_4 rfl rfl ?_
  refine h_callVi hX dX1_findBestAnswers_5 (cv_RX1_63) rc_C13 (As := [.int p0]) (st := []) (fun _ h => c_Yard_size h) rfl rfl (by decide) (Nat.le_of_ble_eq_true rfl) (fun a_1 => ?_)
  refine h_istore_n hX dX1_findBestAnswers_8 rfl (by decide) (lv' := [(0, .ref (aC B 30)), (1, .int p0), (2, .int p1), (3, .int a_1)]) rfl ?_
  refine h_aload_n hX dX1_findBestAnswers_9 rfl rfl ?_
  refine get_RX1_30_C30 hX dX1_findBestAnswers_10 ?_
  refine h_iload_n hX dX1_findBestAnswers_13 rfl rfl ?_
  refine h_callVi hX dX1_findBestAnswers_14 (cv_RX1_63) rc_C13 (As := [.int p1]) (st := []) (fun _ h => c_Yard_size h) rfl rfl (by decide) (Nat.le_of_ble_eq_true rfl) (fun a_2 => ?_)
  refine h_istore hX dX1_findBestAnswers_17 (by decide) (lv' := [(0, .ref (aC B 30)), (1, .int p0), (2, .int p1), (3, .int a_1), (4, .int a_2)]) rfl ?_
  refine h_iconst hX dX1_findBestAnswers_19 ki_1 ?_
  refine h_istore hX dX1_findBestAnswers_20 (by decide) (lv' := [(0, .ref (aC B 30)), (1, .int p0), (2, .int p1), (3, .int a_1), (4, .int a_2), (5, .int 1)]) rfl ?_
  exact gH.loop (lvf := fun z : (Int32 × (Nat → Int32) × (Nat → Int32) × (Nat → Int32) × (Nat → Int32) × (Nat → Int32) × (Nat → Int32)) => [(0, .ref (aC B 30)), (1, .int p0), (2, .int p1), (3, .int a_1), (4, .int a_2), (5, .int z.1)]) (wf := fun z : (Int32 × (Nat → Int32) × (Nat → Int32) × (Nat → Int32) × (Nat → Int32) × (Nat → Int32) × (Nat → Int32)) => wdC B W_spillsNow W_drawn T_length T_at T_bytes D_cells D_clauses G_length G_code A_size A_chosen A_codes A_lengths z.2.1 Y_cells Y_clauses N_marbles N_chipped N_swallowed N_sweets N_day N_owners P_next P_kept P_hasImage P_image P_acts P_entries P_imageEntries S_fewest S_row S_strengths U_size U_found U_places U_kinds U_holds U_fitting U_tally z.2.2.1 z.2.2.2.1 z.2.2.2.2.1 z.2.2.2.2.2.1 z.2.2.2.2.2.2 W_refusals ++ fr) (fun z => w_Lane_findBestAnswers_L22 hX z) (1, A_stack, L_letters, L_firstCells, L_secondCells, L_firstBest, L_secondBest)
theorem c_Lane_findBestAnswers {p0 : Int32} {p1 : Int32} {r : ((Nat → Int32) × (Nat → Int32) × (Nat → Int32) × (Nat → Int32) × (Nat → Int32) × (Nat → Int32))} (h : f_Lane_findBestAnswers A_size A_chosen A_codes A_lengths A_stack Y_cells N_marbles N_chipped N_day N_owners L_letters L_firstCells L_secondCells L_firstBest L_secondBest p0 p1 = some r) : gMet B 5 yX1_findBestAnswers cX1_findBestAnswers 9 none [.ref (aC B 30), .int p0, .int p1] (wdC B W_spillsNow W_drawn T_length T_at T_bytes D_cells D_clauses G_length G_code A_size A_chosen A_codes A_lengths A_stack Y_cells Y_clauses N_marbles N_chipped N_swallowed N_sweets N_day N_owners P_next P_kept P_hasImage P_image P_acts P_entries P_imageEntries S_fewest S_row S_strengths U_size U_found U_places U_kinds U_holds U_fitting U_tally L_letters L_firstCells L_secondCells L_firstBest L_secondBest W_refusals ++ fr) (none) (wdC B W_spillsNow W_drawn T_length T_at T_bytes D_cells D_clauses G_length G_code A_size A_chosen A_codes A_lengths r.1 Y_cells Y_clauses N_marbles N_chipped N_swallowed N_sweets N_day N_owners P_next P_kept P_hasImage P_image P_acts P_entries P_imageEntries S_fewest S_row S_strengths U_size U_found U_places U_kinds U_holds U_fitting U_tally r.2.1 r.2.2.1 r.2.2.2.1 r.2.2.2.2.1 r.2.2.2.2.2 W_refusals ++ fr) :=
  gMet.of rfl (Nat.le_of_ble_eq_true rfl) (fun X hX hF => w_Lane_findBestAnswers hX r h hF)
set_option maxRecDepth 4000 in
theorem w_Lane_nearestPower_J61 {v1 : Int32} {v2 : Int32} {v3 : Int32} {v4 : Int32} {v5 : Int32} (hX : gOk B X RX1 cX1_nearestPower 7 5 (some .int)) : gH B X (Sum.elim (fun s : (Int32 × Int32 × Int32 × (Nat → Int32) × (Nat → Int32)) => gG B X 8 [(0, .ref (aC B 30)), (1, .int v1), (2, .int v2), (3, .int s.1), (4, .int s.2.1), (5, .int s.2.2.1)] [] (wdC B W_spillsNow W_drawn T_length T_at T_bytes D_cells D_clauses G_length G_code A_size A_chosen A_codes A_lengths s.2.2.2.1 Y_cells Y_clauses N_marbles N_chipped N_swallowed N_sweets N_day N_owners P_next P_kept P_hasImage P_image P_acts P_entries P_imageEntries S_fewest S_row S_strengths U_size U_found U_places U_kinds U_holds U_fitting U_tally s.2.2.2.2 L_firstCells L_secondCells L_firstBest L_secondBest W_refusals ++ fr)) (fun r : (Int32 × (Nat → Int32) × (Nat → Int32)) => gFin X (some (.int r.1)) (wdC B W_spillsNow W_drawn T_length T_at T_bytes D_cells D_clauses G_length G_code A_size A_chosen A_codes A_lengths r.2.1 Y_cells Y_clauses N_marbles N_chipped N_swallowed N_sweets N_day N_owners P_next P_kept P_hasImage P_image P_acts P_entries P_imageEntries S_fewest S_row S_strengths U_size U_found U_places U_kinds U_holds U_fitting U_tally r.2.2 L_firstCells L_secondCells L_firstBest L_secondBest W_refusals ++ fr))) 61 [(0, .ref (aC B 30)), (1, .int v1), (2, .int v2), (3, .int v3), (4, .int v4), (5, .int v5)] [] (wdC B W_spillsNow W_drawn T_length T_at T_bytes D_cells D_clauses G_length G_code A_size A_chosen A_codes A_lengths A_stack Y_cells Y_clauses N_marbles N_chipped N_swallowed N_sweets N_day N_owners P_next P_kept P_hasImage P_image P_acts P_entries P_imageEntries S_fewest S_row S_strengths U_size U_found U_places U_kinds U_holds U_fitting U_tally L_letters L_firstCells L_secondCells L_firstBest L_secondBest W_refusals ++ fr) (f_Lane_nearestPower_J61 A_stack L_letters v3 v4 v5) := by
  unfold f_Lane_nearestPower_J61
  refine h_iincc hX dX1_nearestPower_61 rfl ki_1 (by decide) (lv' := [(0, .ref (aC B 30)), (1, .int v1), (2, .int v2), (3, .int v3), (4, .int v4), (5, .int (v5 + 1))]) rfl ?_
  refine h_goto hX dX1_nearestPower_64 (tgt := 8) (by decide) ?_
  exact gH.some' (fun h => h)
set_option maxRecDepth 4000 in
theorem w_Lane_nearestPower_J50 {v1 : Int32} {v2 : Int32} {v5 : Int32} {v6 : Int32} (hX : gOk B X RX1 cX1_nearestPower 7 5 (some .int)) : gH B X (Sum.elim (fun s : (Int32 × Int32 × Int32 × (Nat → Int32) × (Nat → Int32)) => gG B X 8 [(0, .ref (aC B 30)), (1, .int v1), (2, .int v2), (3, .int s.1), (4, .int s.2.1), (5, .int s.2.2.1)] [] (wdC B W_spillsNow W_drawn T_length T_at T_bytes D_cells D_clauses G_length G_code A_size A_chosen A_codes A_lengths s.2.2.2.1 Y_cells Y_clauses N_marbles N_chipped N_swallowed N_sweets N_day N_owners P_next P_kept P_hasImage P_image P_acts P_entries P_imageEntries S_fewest S_row S_strengths U_size U_found U_places U_kinds U_holds U_fitting U_tally s.2.2.2.2 L_firstCells L_secondCells L_firstBest L_secondBest W_refusals ++ fr)) (fun r : (Int32 × (Nat → Int32) × (Nat → Int32)) => gFin X (some (.int r.1)) (wdC B W_spillsNow W_drawn T_length T_at T_bytes D_cells D_clauses G_length G_code A_size A_chosen A_codes A_lengths r.2.1 Y_cells Y_clauses N_marbles N_chipped N_swallowed N_sweets N_day N_owners P_next P_kept P_hasImage P_image P_acts P_entries P_imageEntries S_fewest S_row S_strengths U_size U_found U_places U_kinds U_holds U_fitting U_tally r.2.2 L_firstCells L_secondCells L_firstBest L_secondBest W_refusals ++ fr))) 50 [(0, .ref (aC B 30)), (1, .int v1), (2, .int v2), (5, .int v5), (6, .int v6)] [] (wdC B W_spillsNow W_drawn T_length T_at T_bytes D_cells D_clauses G_length G_code A_size A_chosen A_codes A_lengths A_stack Y_cells Y_clauses N_marbles N_chipped N_swallowed N_sweets N_day N_owners P_next P_kept P_hasImage P_image P_acts P_entries P_imageEntries S_fewest S_row S_strengths U_size U_found U_places U_kinds U_holds U_fitting U_tally L_letters L_firstCells L_secondCells L_firstBest L_secondBest W_refusals ++ fr) (f_Lane_nearestPower_J50 A_stack Y_cells L_letters v5 v6) := by
  unfold f_Lane_nearestPower_J50
  refine h_iload hX dX1_nearestPower_50 rfl ?_
  refine h_istore_n hX dX1_nearestPower_52 rfl (by decide) (lv' := [(0, .ref (aC B 30)), (1, .int v1), (2, .int v2), (3, .int v5), (5, .int v5), (6, .int v6)]) rfl ?_
  refine h_aload_n hX dX1_nearestPower_53 rfl rfl ?_
  refine h_iload hX dX1_nearestPower_54 rfl ?_
  refine h_callVi hX dX1_nearestPower_56 (cv_RX1_113) rc_C30 (As := [.int v6]) (st := []) (fun _ h => c_Lane_distance h) rfl rfl (by decide) (Nat.le_of_ble_eq_true rfl) (fun a_4 => ?_)
  refine h_istore hX dX1_nearestPower_59 (by decide) (lv' := [(0, .ref (aC B 30)), (1, .int v1), (2, .int v2), (3, .int v5), (4, .int a_4), (5, .int v5), (6, .int v6)]) rfl ?_
  refine gH.dead [0, 1, 2, 3, 4, 5] rfl ?_
  exact w_Lane_nearestPower_J61 hX
set_option maxRecDepth 4000 in
theorem w_Lane_nearestPower_L8 {v1 : Int32} {v2 : Int32} (hX : gOk B X RX1 cX1_nearestPower 7 5 (some .int)) (s : (Int32 × Int32 × Int32 × (Nat → Int32) × (Nat → Int32))) : gH B X (Sum.elim (fun s : (Int32 × Int32 × Int32 × (Nat → Int32) × (Nat → Int32)) => gG B X 8 [(0, .ref (aC B 30)), (1, .int v1), (2, .int v2), (3, .int s.1), (4, .int s.2.1), (5, .int s.2.2.1)] [] (wdC B W_spillsNow W_drawn T_length T_at T_bytes D_cells D_clauses G_length G_code A_size A_chosen A_codes A_lengths s.2.2.2.1 Y_cells Y_clauses N_marbles N_chipped N_swallowed N_sweets N_day N_owners P_next P_kept P_hasImage P_image P_acts P_entries P_imageEntries S_fewest S_row S_strengths U_size U_found U_places U_kinds U_holds U_fitting U_tally s.2.2.2.2 L_firstCells L_secondCells L_firstBest L_secondBest W_refusals ++ fr)) (fun r : (Int32 × (Nat → Int32) × (Nat → Int32)) => gFin X (some (.int r.1)) (wdC B W_spillsNow W_drawn T_length T_at T_bytes D_cells D_clauses G_length G_code A_size A_chosen A_codes A_lengths r.2.1 Y_cells Y_clauses N_marbles N_chipped N_swallowed N_sweets N_day N_owners P_next P_kept P_hasImage P_image P_acts P_entries P_imageEntries S_fewest S_row S_strengths U_size U_found U_places U_kinds U_holds U_fitting U_tally r.2.2 L_firstCells L_secondCells L_firstBest L_secondBest W_refusals ++ fr))) 8 [(0, .ref (aC B 30)), (1, .int v1), (2, .int v2), (3, .int s.1), (4, .int s.2.1), (5, .int s.2.2.1)] [] (wdC B W_spillsNow W_drawn T_length T_at T_bytes D_cells D_clauses G_length G_code A_size A_chosen A_codes A_lengths s.2.2.2.1 Y_cells Y_clauses N_marbles N_chipped N_swallowed N_sweets N_day N_owners P_next P_kept P_hasImage P_image P_acts P_entries P_imageEntries S_fewest S_row S_strengths U_size U_found U_places U_kinds U_holds U_fitting U_tally s.2.2.2.2 L_firstCells L_secondCells L_firstBest L_secondBest W_refusals ++ fr) (f_Lane_nearestPower_L8 A_size A_chosen A_codes A_lengths Y_cells N_marbles N_chipped N_day N_owners v1 v2 s) := by
  unfold f_Lane_nearestPower_L8
  refine h_iload hX dX1_nearestPower_8 rfl ?_
  refine h_bipush hX dX1_nearestPower_10 kb_9 ?_
  refine h_icmp_gt hX dX1_nearestPower_12 (tgt := 67) (by decide) (fun _ => ?_) (fun _ => ?_)
  · refine h_iload_n hX dX1_nearestPower_67 rfl rfl ?_
    exact h_ret hX (rv := some (.int s.1)) dX1_nearestPower_68 trivial (fun h => h)
  · refine h_aload_n hX dX1_nearestPower_15 rfl rfl ?_
    refine h_iload_n hX dX1_nearestPower_16 rfl rfl ?_
    refine h_iload_n hX dX1_nearestPower_17 rfl rfl ?_
    refine h_iload hX dX1_nearestPower_18 rfl ?_
    refine h_callVi hX dX1_nearestPower_20 (cv_RX1_116) rc_C30 (As := [.int v1, .int v2, .int s.2.2.1]) (st := []) (fun _ h => c_Lane_flick h) rfl rfl (by decide) (Nat.le_of_ble_eq_true rfl) (fun a_1 => ?_)
    refine h_istore hX dX1_nearestPower_23 (by decide) (lv' := [(0, .ref (aC B 30)), (1, .int v1), (2, .int v2), (3, .int s.1), (4, .int s.2.1), (5, .int s.2.2.1), (6, .int a_1.1)]) rfl ?_
    refine h_aload_n hX dX1_nearestPower_25 rfl rfl ?_
    refine h_iload hX dX1_nearestPower_26 rfl ?_
    refine h_callVi hX dX1_nearestPower_28 (cv_RX1_110) rc_C30 (As := [.int a_1.1]) (st := []) (fun _ h => c_Lane_isDrain h) rfl rfl (by decide) (Nat.le_of_ble_eq_true rfl) (fun a_2 => ?_)
    refine h_if_ne hX dX1_nearestPower_31 (tgt := 61) (by decide) (fun _ => ?_) (fun _ => ?_)
    · refine gH.dead [0, 1, 2, 3, 4, 5] rfl ?_
      exact w_Lane_nearestPower_J61 hX
    · refine h_iload_n hX dX1_nearestPower_34 rfl rfl ?_
      refine h_iconst hX dX1_nearestPower_35 ki_m1 ?_
      refine h_icmp_eq hX dX1_nearestPower_36 (tgt := 50) (by decide) (fun _ => ?_) (fun _ => ?_)
      · refine gH.dead [0, 1, 2, 5, 6] rfl ?_
        exact w_Lane_nearestPower_J50 hX
      · refine h_aload_n hX dX1_nearestPower_39 rfl rfl ?_
        refine h_iload hX dX1_nearestPower_40 rfl ?_
        refine h_callVi hX dX1_nearestPower_42 (cv_RX1_113) rc_C30 (As := [.int a_1.1]) (st := []) (fun _ h => c_Lane_distance h) rfl rfl (by decide) (Nat.le_of_ble_eq_true rfl) (fun a_5 => ?_)
        refine h_iload hX dX1_nearestPower_45 rfl ?_
        refine h_icmp_ge hX dX1_nearestPower_47 (tgt := 61) (by decide) (fun _ => ?_) (fun _ => ?_)
        · refine gH.dead [0, 1, 2, 3, 4, 5] rfl ?_
          exact w_Lane_nearestPower_J61 hX
        · refine gH.dead [0, 1, 2, 5, 6] rfl ?_
          exact w_Lane_nearestPower_J50 hX
set_option maxRecDepth 4000 in
theorem w_Lane_nearestPower {p0 : Int32} {p1 : Int32} (hX : gOk B X RX1 cX1_nearestPower 7 5 (some .int)) : gH B X (fun r : (Int32 × (Nat → Int32) × (Nat → Int32)) => gFin X (some (.int r.1)) (wdC B W_spillsNow W_drawn T_length T_at T_bytes D_cells D_clauses G_length G_code A_size A_chosen A_codes A_lengths r.2.1 Y_cells Y_clauses N_marbles N_chipped N_swallowed N_sweets N_day N_owners P_next P_kept P_hasImage P_image P_acts P_entries P_imageEntries S_fewest S_row S_strengths U_size U_found U_places U_kinds U_holds U_fitting U_tally r.2.2 L_firstCells L_secondCells L_firstBest L_secondBest W_refusals ++ fr)) 0 [(0, .ref (aC B 30)), (1, .int p0), (2, .int p1)] [] (wdC B W_spillsNow W_drawn T_length T_at T_bytes D_cells D_clauses G_length G_code A_size A_chosen A_codes A_lengths A_stack Y_cells Y_clauses N_marbles N_chipped N_swallowed N_sweets N_day N_owners P_next P_kept P_hasImage P_image P_acts P_entries P_imageEntries S_fewest S_row S_strengths U_size U_found U_places U_kinds U_holds U_fitting U_tally L_letters L_firstCells L_secondCells L_firstBest L_secondBest W_refusals ++ fr) (f_Lane_nearestPower A_size A_chosen A_codes A_lengths A_stack Y_cells N_marbles N_chipped N_day N_owners L_letters p0 p1) := by
  unfold f_Lane_nearestPower
  refine h_iconst hX dX1_nearestPower_0 ki_m1 ?_
  refine h_istore_n hX dX1_nearestPower_1 rfl (by decide) (lv' := [(0, .ref (aC B 30)), (1, .int p0), (2, .int p1), (3, .int ((-1)))]) rfl ?_
  refine h_iconst hX dX1_nearestPower_2 ki_0 ?_
  refine h_istore hX dX1_nearestPower_3 (by decide) (lv' := [(0, .ref (aC B 30)), (1, .int p0), (2, .int p1), (3, .int ((-1))), (4, .int 0)]) rfl ?_
  refine h_iconst hX dX1_nearestPower_5 ki_1 ?_
  refine h_istore hX dX1_nearestPower_6 (by decide) (lv' := [(0, .ref (aC B 30)), (1, .int p0), (2, .int p1), (3, .int ((-1))), (4, .int 0), (5, .int 1)]) rfl ?_
  exact gH.loop (lvf := fun z : (Int32 × Int32 × Int32 × (Nat → Int32) × (Nat → Int32)) => [(0, .ref (aC B 30)), (1, .int p0), (2, .int p1), (3, .int z.1), (4, .int z.2.1), (5, .int z.2.2.1)]) (wf := fun z : (Int32 × Int32 × Int32 × (Nat → Int32) × (Nat → Int32)) => wdC B W_spillsNow W_drawn T_length T_at T_bytes D_cells D_clauses G_length G_code A_size A_chosen A_codes A_lengths z.2.2.2.1 Y_cells Y_clauses N_marbles N_chipped N_swallowed N_sweets N_day N_owners P_next P_kept P_hasImage P_image P_acts P_entries P_imageEntries S_fewest S_row S_strengths U_size U_found U_places U_kinds U_holds U_fitting U_tally z.2.2.2.2 L_firstCells L_secondCells L_firstBest L_secondBest W_refusals ++ fr) (fun z => w_Lane_nearestPower_L8 hX z) ((-1), 0, 1, A_stack, L_letters)
theorem c_Lane_nearestPower {p0 : Int32} {p1 : Int32} {r : (Int32 × (Nat → Int32) × (Nat → Int32))} (h : f_Lane_nearestPower A_size A_chosen A_codes A_lengths A_stack Y_cells N_marbles N_chipped N_day N_owners L_letters p0 p1 = some r) : gMet B 5 yX1_nearestPower cX1_nearestPower 7 (some .int) [.ref (aC B 30), .int p0, .int p1] (wdC B W_spillsNow W_drawn T_length T_at T_bytes D_cells D_clauses G_length G_code A_size A_chosen A_codes A_lengths A_stack Y_cells Y_clauses N_marbles N_chipped N_swallowed N_sweets N_day N_owners P_next P_kept P_hasImage P_image P_acts P_entries P_imageEntries S_fewest S_row S_strengths U_size U_found U_places U_kinds U_holds U_fitting U_tally L_letters L_firstCells L_secondCells L_firstBest L_secondBest W_refusals ++ fr) (some (.int r.1)) (wdC B W_spillsNow W_drawn T_length T_at T_bytes D_cells D_clauses G_length G_code A_size A_chosen A_codes A_lengths r.2.1 Y_cells Y_clauses N_marbles N_chipped N_swallowed N_sweets N_day N_owners P_next P_kept P_hasImage P_image P_acts P_entries P_imageEntries S_fewest S_row S_strengths U_size U_found U_places U_kinds U_holds U_fitting U_tally r.2.2 L_firstCells L_secondCells L_firstBest L_secondBest W_refusals ++ fr) :=
  gMet.of rfl (Nat.le_of_ble_eq_true rfl) (fun X hX hF => w_Lane_nearestPower hX r h hF)
set_option maxRecDepth 4000 in
theorem w_Yard_hasMarble {p0 : Int32} (hX : gOk B X RX8 cX8_hasMarble 2 1 (some .boolean)) : gH B X (fun r : Int32 => gFin X (some (.int r)) (wdC B W_spillsNow W_drawn T_length T_at T_bytes D_cells D_clauses G_length G_code A_size A_chosen A_codes A_lengths A_stack Y_cells Y_clauses N_marbles N_chipped N_swallowed N_sweets N_day N_owners P_next P_kept P_hasImage P_image P_acts P_entries P_imageEntries S_fewest S_row S_strengths U_size U_found U_places U_kinds U_holds U_fitting U_tally L_letters L_firstCells L_secondCells L_firstBest L_secondBest W_refusals ++ fr)) 0 [(0, .ref (aC B 13)), (1, .int p0)] [] (wdC B W_spillsNow W_drawn T_length T_at T_bytes D_cells D_clauses G_length G_code A_size A_chosen A_codes A_lengths A_stack Y_cells Y_clauses N_marbles N_chipped N_swallowed N_sweets N_day N_owners P_next P_kept P_hasImage P_image P_acts P_entries P_imageEntries S_fewest S_row S_strengths U_size U_found U_places U_kinds U_holds U_fitting U_tally L_letters L_firstCells L_secondCells L_firstBest L_secondBest W_refusals ++ fr) (f_Yard_hasMarble Y_clauses p0) := by
  unfold f_Yard_hasMarble
  refine h_iload_n hX dX8_hasMarble_0 rfl rfl ?_
  refine h_if_lt hX dX8_hasMarble_1 (tgt := 16) (by decide) (fun _ => ?_) (fun _ => ?_)
  · refine h_iconst hX dX8_hasMarble_16 ki_0 ?_
    exact h_ret hX (rv := some (.int 0)) dX8_hasMarble_17 rfl (fun h => h)
  · refine h_iload_n hX dX8_hasMarble_4 rfl rfl ?_
    refine h_aload_n hX dX8_hasMarble_5 rfl rfl ?_
    refine h_callVi hX dX8_hasMarble_6 (cv_RX8_50) rc_C13 (As := []) (st := [.int p0]) (fun _ h => c_Yard_marbles h) rfl rfl (by decide) (Nat.le_of_ble_eq_true rfl) (fun a_1 => ?_)
    refine h_icmp_ge hX dX8_hasMarble_9 (tgt := 16) (by decide) (fun _ => ?_) (fun _ => ?_)
    · refine h_iconst hX dX8_hasMarble_16 ki_0 ?_
      exact h_ret hX (rv := some (.int 0)) dX8_hasMarble_17 rfl (fun h => h)
    · refine h_iconst hX dX8_hasMarble_12 ki_1 ?_
      refine h_goto hX dX8_hasMarble_13 (tgt := 17) (by decide) ?_
      exact h_ret hX (rv := some (.int 1)) dX8_hasMarble_17 rfl (fun h => h)
theorem c_Yard_hasMarble {p0 : Int32} {r : Int32} (h : f_Yard_hasMarble Y_clauses p0 = some r) : gMet B 1 yX8_hasMarble cX8_hasMarble 2 (some .boolean) [.ref (aC B 13), .int p0] (wdC B W_spillsNow W_drawn T_length T_at T_bytes D_cells D_clauses G_length G_code A_size A_chosen A_codes A_lengths A_stack Y_cells Y_clauses N_marbles N_chipped N_swallowed N_sweets N_day N_owners P_next P_kept P_hasImage P_image P_acts P_entries P_imageEntries S_fewest S_row S_strengths U_size U_found U_places U_kinds U_holds U_fitting U_tally L_letters L_firstCells L_secondCells L_firstBest L_secondBest W_refusals ++ fr) (some (.int r)) (wdC B W_spillsNow W_drawn T_length T_at T_bytes D_cells D_clauses G_length G_code A_size A_chosen A_codes A_lengths A_stack Y_cells Y_clauses N_marbles N_chipped N_swallowed N_sweets N_day N_owners P_next P_kept P_hasImage P_image P_acts P_entries P_imageEntries S_fewest S_row S_strengths U_size U_found U_places U_kinds U_holds U_fitting U_tally L_letters L_firstCells L_secondCells L_firstBest L_secondBest W_refusals ++ fr) :=
  gMet.of rfl (Nat.le_of_ble_eq_true rfl) (fun X hX hF => w_Yard_hasMarble hX r h hF)
set_option maxRecDepth 4000 in
theorem w_Now_isSwallowed {p0 : Int32} (hX : gOk B X RX4 cX4_isSwallowed 2 0 (some .boolean)) : gH B X (fun r : Int32 => gFin X (some (.int r)) (wdC B W_spillsNow W_drawn T_length T_at T_bytes D_cells D_clauses G_length G_code A_size A_chosen A_codes A_lengths A_stack Y_cells Y_clauses N_marbles N_chipped N_swallowed N_sweets N_day N_owners P_next P_kept P_hasImage P_image P_acts P_entries P_imageEntries S_fewest S_row S_strengths U_size U_found U_places U_kinds U_holds U_fitting U_tally L_letters L_firstCells L_secondCells L_firstBest L_secondBest W_refusals ++ fr)) 0 [(0, .ref (aC B 16)), (1, .int p0)] [] (wdC B W_spillsNow W_drawn T_length T_at T_bytes D_cells D_clauses G_length G_code A_size A_chosen A_codes A_lengths A_stack Y_cells Y_clauses N_marbles N_chipped N_swallowed N_sweets N_day N_owners P_next P_kept P_hasImage P_image P_acts P_entries P_imageEntries S_fewest S_row S_strengths U_size U_found U_places U_kinds U_holds U_fitting U_tally L_letters L_firstCells L_secondCells L_firstBest L_secondBest W_refusals ++ fr) (f_Now_isSwallowed N_swallowed p0) := by
  unfold f_Now_isSwallowed
  refine h_aload_n hX dX4_isSwallowed_0 rfl rfl ?_
  refine get_RX4_37_C16 hX dX4_isSwallowed_1 ?_
  refine h_iload_n hX dX4_isSwallowed_4 rfl rfl ?_
  refine h_ishr hX dX4_isSwallowed_5 ?_
  refine h_iconst hX dX4_isSwallowed_6 ki_1 ?_
  refine h_iand hX dX4_isSwallowed_7 ?_
  refine h_if_eq hX dX4_isSwallowed_8 (tgt := 15) (by decide) (fun _ => ?_) (fun _ => ?_)
  · refine h_iconst hX dX4_isSwallowed_15 ki_0 ?_
    exact h_ret hX (rv := some (.int 0)) dX4_isSwallowed_16 rfl (fun h => h)
  · refine h_iconst hX dX4_isSwallowed_11 ki_1 ?_
    refine h_goto hX dX4_isSwallowed_12 (tgt := 16) (by decide) ?_
    exact h_ret hX (rv := some (.int 1)) dX4_isSwallowed_16 rfl (fun h => h)
theorem c_Now_isSwallowed {p0 : Int32} {r : Int32} (h : f_Now_isSwallowed N_swallowed p0 = some r) : gMet B 0 yX4_isSwallowed cX4_isSwallowed 2 (some .boolean) [.ref (aC B 16), .int p0] (wdC B W_spillsNow W_drawn T_length T_at T_bytes D_cells D_clauses G_length G_code A_size A_chosen A_codes A_lengths A_stack Y_cells Y_clauses N_marbles N_chipped N_swallowed N_sweets N_day N_owners P_next P_kept P_hasImage P_image P_acts P_entries P_imageEntries S_fewest S_row S_strengths U_size U_found U_places U_kinds U_holds U_fitting U_tally L_letters L_firstCells L_secondCells L_firstBest L_secondBest W_refusals ++ fr) (some (.int r)) (wdC B W_spillsNow W_drawn T_length T_at T_bytes D_cells D_clauses G_length G_code A_size A_chosen A_codes A_lengths A_stack Y_cells Y_clauses N_marbles N_chipped N_swallowed N_sweets N_day N_owners P_next P_kept P_hasImage P_image P_acts P_entries P_imageEntries S_fewest S_row S_strengths U_size U_found U_places U_kinds U_holds U_fitting U_tally L_letters L_firstCells L_secondCells L_firstBest L_secondBest W_refusals ++ fr) :=
  gMet.of rfl (Nat.le_of_ble_eq_true rfl) (fun X hX hF => w_Now_isSwallowed hX r h hF)
set_option maxRecDepth 4000 in
theorem w_Now_isFree {p0 : Int32} (hX : gOk B X RX4 cX4_isFree 2 2 (some .boolean)) : gH B X (fun r : Int32 => gFin X (some (.int r)) (wdC B W_spillsNow W_drawn T_length T_at T_bytes D_cells D_clauses G_length G_code A_size A_chosen A_codes A_lengths A_stack Y_cells Y_clauses N_marbles N_chipped N_swallowed N_sweets N_day N_owners P_next P_kept P_hasImage P_image P_acts P_entries P_imageEntries S_fewest S_row S_strengths U_size U_found U_places U_kinds U_holds U_fitting U_tally L_letters L_firstCells L_secondCells L_firstBest L_secondBest W_refusals ++ fr)) 0 [(0, .ref (aC B 16)), (1, .int p0)] [] (wdC B W_spillsNow W_drawn T_length T_at T_bytes D_cells D_clauses G_length G_code A_size A_chosen A_codes A_lengths A_stack Y_cells Y_clauses N_marbles N_chipped N_swallowed N_sweets N_day N_owners P_next P_kept P_hasImage P_image P_acts P_entries P_imageEntries S_fewest S_row S_strengths U_size U_found U_places U_kinds U_holds U_fitting U_tally L_letters L_firstCells L_secondCells L_firstBest L_secondBest W_refusals ++ fr) (f_Now_isFree N_marbles N_swallowed N_owners p0) := by
  unfold f_Now_isFree
  refine h_aload_n hX dX4_isFree_0 rfl rfl ?_
  refine h_iload_n hX dX4_isFree_1 rfl rfl ?_
  refine h_callVi hX dX4_isFree_2 (cv_RX4_52) rc_C16 (As := [.int p0]) (st := []) (fun _ h => c_Now_isDrained h) rfl rfl (by decide) (Nat.le_of_ble_eq_true rfl) (fun a_1 => ?_)
  refine h_if_ne hX dX4_isFree_5 (tgt := 20) (by decide) (fun _ => ?_) (fun _ => ?_)
  · refine h_iconst hX dX4_isFree_20 ki_0 ?_
    exact h_ret hX (rv := some (.int 0)) dX4_isFree_21 rfl (fun h => h)
  · refine h_aload_n hX dX4_isFree_8 rfl rfl ?_
    refine h_iload_n hX dX4_isFree_9 rfl rfl ?_
    refine h_callVi hX dX4_isFree_10 (cv_RX4_56) rc_C16 (As := [.int p0]) (st := []) (fun _ h => c_Now_isSwallowed h) rfl rfl (by decide) (Nat.le_of_ble_eq_true rfl) (fun a_2 => ?_)
    refine h_if_ne hX dX4_isFree_13 (tgt := 20) (by decide) (fun _ => ?_) (fun _ => ?_)
    · refine h_iconst hX dX4_isFree_20 ki_0 ?_
      exact h_ret hX (rv := some (.int 0)) dX4_isFree_21 rfl (fun h => h)
    · refine h_iconst hX dX4_isFree_16 ki_1 ?_
      refine h_goto hX dX4_isFree_17 (tgt := 21) (by decide) ?_
      exact h_ret hX (rv := some (.int 1)) dX4_isFree_21 rfl (fun h => h)
theorem c_Now_isFree {p0 : Int32} {r : Int32} (h : f_Now_isFree N_marbles N_swallowed N_owners p0 = some r) : gMet B 2 yX4_isFree cX4_isFree 2 (some .boolean) [.ref (aC B 16), .int p0] (wdC B W_spillsNow W_drawn T_length T_at T_bytes D_cells D_clauses G_length G_code A_size A_chosen A_codes A_lengths A_stack Y_cells Y_clauses N_marbles N_chipped N_swallowed N_sweets N_day N_owners P_next P_kept P_hasImage P_image P_acts P_entries P_imageEntries S_fewest S_row S_strengths U_size U_found U_places U_kinds U_holds U_fitting U_tally L_letters L_firstCells L_secondCells L_firstBest L_secondBest W_refusals ++ fr) (some (.int r)) (wdC B W_spillsNow W_drawn T_length T_at T_bytes D_cells D_clauses G_length G_code A_size A_chosen A_codes A_lengths A_stack Y_cells Y_clauses N_marbles N_chipped N_swallowed N_sweets N_day N_owners P_next P_kept P_hasImage P_image P_acts P_entries P_imageEntries S_fewest S_row S_strengths U_size U_found U_places U_kinds U_holds U_fitting U_tally L_letters L_firstCells L_secondCells L_firstBest L_secondBest W_refusals ++ fr) :=
  gMet.of rfl (Nat.le_of_ble_eq_true rfl) (fun X hX hF => w_Now_isFree hX r h hF)
set_option maxRecDepth 4000 in
theorem w_Lane_refusalOf_J92 {k0 : Int32} (hX : gOk B X RX1 cX1_refusalOf 6 3 (some .int)) : gH B X (fun r : Int32 => gFin X (some (.int r)) (wdC B W_spillsNow W_drawn T_length T_at T_bytes D_cells D_clauses G_length G_code A_size A_chosen A_codes A_lengths A_stack Y_cells Y_clauses N_marbles N_chipped N_swallowed N_sweets N_day N_owners P_next P_kept P_hasImage P_image P_acts P_entries P_imageEntries S_fewest S_row S_strengths U_size U_found U_places U_kinds U_holds U_fitting U_tally L_letters L_firstCells L_secondCells L_firstBest L_secondBest W_refusals ++ fr)) 92 [] [.int k0] (wdC B W_spillsNow W_drawn T_length T_at T_bytes D_cells D_clauses G_length G_code A_size A_chosen A_codes A_lengths A_stack Y_cells Y_clauses N_marbles N_chipped N_swallowed N_sweets N_day N_owners P_next P_kept P_hasImage P_image P_acts P_entries P_imageEntries S_fewest S_row S_strengths U_size U_found U_places U_kinds U_holds U_fitting U_tally L_letters L_firstCells L_secondCells L_firstBest L_secondBest W_refusals ++ fr) (f_Lane_refusalOf_J92 k0) := by
  unfold f_Lane_refusalOf_J92
  refine h_istore hX dX1_refusalOf_92 (by decide) (lv' := [(5, .int k0)]) rfl ?_
  refine h_iload hX dX1_refusalOf_94 rfl ?_
  refine h_if_eq hX dX1_refusalOf_96 (tgt := 103) (by decide) (fun _ => ?_) (fun _ => ?_)
  · refine h_iconst hX dX1_refusalOf_103 ki_2 ?_
    exact h_ret hX (rv := some (.int 2)) dX1_refusalOf_104 trivial (fun h => h)
  · refine h_iconst hX dX1_refusalOf_99 ki_m1 ?_
    refine h_goto hX dX1_refusalOf_100 (tgt := 104) (by decide) ?_
    exact h_ret hX (rv := some (.int ((-1)))) dX1_refusalOf_104 trivial (fun h => h)
set_option maxRecDepth 4000 in
theorem w_Lane_refusalOf_J91 (hX : gOk B X RX1 cX1_refusalOf 6 3 (some .int)) : gH B X (fun r : Int32 => gFin X (some (.int r)) (wdC B W_spillsNow W_drawn T_length T_at T_bytes D_cells D_clauses G_length G_code A_size A_chosen A_codes A_lengths A_stack Y_cells Y_clauses N_marbles N_chipped N_swallowed N_sweets N_day N_owners P_next P_kept P_hasImage P_image P_acts P_entries P_imageEntries S_fewest S_row S_strengths U_size U_found U_places U_kinds U_holds U_fitting U_tally L_letters L_firstCells L_secondCells L_firstBest L_secondBest W_refusals ++ fr)) 91 [] [] (wdC B W_spillsNow W_drawn T_length T_at T_bytes D_cells D_clauses G_length G_code A_size A_chosen A_codes A_lengths A_stack Y_cells Y_clauses N_marbles N_chipped N_swallowed N_sweets N_day N_owners P_next P_kept P_hasImage P_image P_acts P_entries P_imageEntries S_fewest S_row S_strengths U_size U_found U_places U_kinds U_holds U_fitting U_tally L_letters L_firstCells L_secondCells L_firstBest L_secondBest W_refusals ++ fr) (f_Lane_refusalOf_J91) := by
  unfold f_Lane_refusalOf_J91
  refine h_iconst hX dX1_refusalOf_91 ki_0 ?_
  exact w_Lane_refusalOf_J92 hX
set_option maxRecDepth 4000 in
theorem w_Lane_refusalOf {p0 : Int32} {p1 : Int32} {p2 : Int32} {p3 : Int32} (hX : gOk B X RX1 cX1_refusalOf 6 3 (some .int)) : gH B X (fun r : Int32 => gFin X (some (.int r)) (wdC B W_spillsNow W_drawn T_length T_at T_bytes D_cells D_clauses G_length G_code A_size A_chosen A_codes A_lengths A_stack Y_cells Y_clauses N_marbles N_chipped N_swallowed N_sweets N_day N_owners P_next P_kept P_hasImage P_image P_acts P_entries P_imageEntries S_fewest S_row S_strengths U_size U_found U_places U_kinds U_holds U_fitting U_tally L_letters L_firstCells L_secondCells L_firstBest L_secondBest W_refusals ++ fr)) 0 [(0, .ref (aC B 30)), (1, .int p0), (2, .int p1), (3, .int p2), (4, .int p3)] [] (wdC B W_spillsNow W_drawn T_length T_at T_bytes D_cells D_clauses G_length G_code A_size A_chosen A_codes A_lengths A_stack Y_cells Y_clauses N_marbles N_chipped N_swallowed N_sweets N_day N_owners P_next P_kept P_hasImage P_image P_acts P_entries P_imageEntries S_fewest S_row S_strengths U_size U_found U_places U_kinds U_holds U_fitting U_tally L_letters L_firstCells L_secondCells L_firstBest L_secondBest W_refusals ++ fr) (f_Lane_refusalOf Y_clauses N_marbles N_swallowed N_owners p0 p1 p2 p3) := by
  unfold f_Lane_refusalOf
  refine h_aload_n hX dX1_refusalOf_0 rfl rfl ?_
  refine get_RX1_30_C30 hX dX1_refusalOf_1 ?_
  refine h_iload_n hX dX1_refusalOf_4 rfl rfl ?_
  refine h_callVi hX dX1_refusalOf_5 (cv_RX1_42) rc_C13 (As := [.int p0]) (st := []) (fun _ h => c_Yard_hasMarble h) rfl rfl (by decide) (Nat.le_of_ble_eq_true rfl) (fun a_1 => ?_)
  refine h_if_eq hX dX1_refusalOf_8 (tgt := 22) (by decide) (fun _ => ?_) (fun _ => ?_)
  · refine h_iconst hX dX1_refusalOf_22 ki_0 ?_
    exact h_ret hX (rv := some (.int 0)) dX1_refusalOf_23 trivial (fun h => h)
  · refine h_aload_n hX dX1_refusalOf_11 rfl rfl ?_
    refine get_RX1_30_C30 hX dX1_refusalOf_12 ?_
    refine h_iload_n hX dX1_refusalOf_15 rfl rfl ?_
    refine h_callVi hX dX1_refusalOf_16 (cv_RX1_42) rc_C13 (As := [.int p2]) (st := []) (fun _ h => c_Yard_hasMarble h) rfl rfl (by decide) (Nat.le_of_ble_eq_true rfl) (fun a_2 => ?_)
    refine h_if_ne hX dX1_refusalOf_19 (tgt := 24) (by decide) (fun _ => ?_) (fun _ => ?_)
    · refine h_iload_n hX dX1_refusalOf_24 rfl rfl ?_
      refine h_iload_n hX dX1_refusalOf_25 rfl rfl ?_
      refine h_icmp_eq hX dX1_refusalOf_26 (tgt := 44) (by decide) (fun _ => ?_) (fun _ => ?_)
      · refine h_iconst hX dX1_refusalOf_44 ki_1 ?_
        exact h_ret hX (rv := some (.int 1)) dX1_refusalOf_45 trivial (fun h => h)
      · refine h_iload_n hX dX1_refusalOf_29 rfl rfl ?_
        refine h_callSi hX dX1_refusalOf_30 (cs_RX1_48) (As := [.int p1]) (st := []) (fun _ h => c_Lane_isPower h) rfl rfl (by decide) (Nat.le_of_ble_eq_true rfl) (fun a_3 => ?_)
        refine h_if_eq hX dX1_refusalOf_33 (tgt := 44) (by decide) (fun _ => ?_) (fun _ => ?_)
        · refine h_iconst hX dX1_refusalOf_44 ki_1 ?_
          exact h_ret hX (rv := some (.int 1)) dX1_refusalOf_45 trivial (fun h => h)
        · refine h_iload hX dX1_refusalOf_36 rfl ?_
          refine h_callSi hX dX1_refusalOf_38 (cs_RX1_48) (As := [.int p3]) (st := []) (fun _ h => c_Lane_isPower h) rfl rfl (by decide) (Nat.le_of_ble_eq_true rfl) (fun a_4 => ?_)
          refine h_if_ne hX dX1_refusalOf_41 (tgt := 46) (by decide) (fun _ => ?_) (fun _ => ?_)
          · refine h_aload_n hX dX1_refusalOf_46 rfl rfl ?_
            refine get_RX1_34_C30 hX dX1_refusalOf_47 ?_
            refine h_iload_n hX dX1_refusalOf_50 rfl rfl ?_
            refine h_callVi hX dX1_refusalOf_51 (cv_RX1_51) rc_C16 (As := [.int p0]) (st := []) (fun _ h => c_Now_isFree h) rfl rfl (by decide) (Nat.le_of_ble_eq_true rfl) (fun a_5 => ?_)
            refine h_if_eq hX dX1_refusalOf_54 (tgt := 91) (by decide) (fun _ => ?_) (fun _ => ?_)
            · refine gH.dead [] rfl ?_
              exact w_Lane_refusalOf_J91 hX
            · refine h_aload_n hX dX1_refusalOf_57 rfl rfl ?_
              refine get_RX1_34_C30 hX dX1_refusalOf_58 ?_
              refine h_iload_n hX dX1_refusalOf_61 rfl rfl ?_
              refine h_callVi hX dX1_refusalOf_62 (cv_RX1_51) rc_C16 (As := [.int p2]) (st := []) (fun _ h => c_Now_isFree h) rfl rfl (by decide) (Nat.le_of_ble_eq_true rfl) (fun a_6 => ?_)
              refine h_if_eq hX dX1_refusalOf_65 (tgt := 91) (by decide) (fun _ => ?_) (fun _ => ?_)
              · refine gH.dead [] rfl ?_
                exact w_Lane_refusalOf_J91 hX
              · refine h_aload_n hX dX1_refusalOf_68 rfl rfl ?_
                refine get_RX1_34_C30 hX dX1_refusalOf_69 ?_
                refine h_iload_n hX dX1_refusalOf_72 rfl rfl ?_
                refine h_callVi hX dX1_refusalOf_73 (cv_RX1_56) rc_C16 (As := [.int p0]) (st := []) (fun _ h => c_Now_ownerOf h) rfl rfl (by decide) (Nat.le_of_ble_eq_true rfl) (fun a_7 => ?_)
                refine h_aload_n hX dX1_refusalOf_76 rfl rfl ?_
                refine get_RX1_34_C30 hX dX1_refusalOf_77 ?_
                refine h_iload_n hX dX1_refusalOf_80 rfl rfl ?_
                refine h_callVi hX dX1_refusalOf_81 (cv_RX1_56) rc_C16 (As := [.int p2]) (st := [.int a_7]) (fun _ h => c_Now_ownerOf h) rfl rfl (by decide) (Nat.le_of_ble_eq_true rfl) (fun a_8 => ?_)
                refine h_icmp_eq hX dX1_refusalOf_84 (tgt := 91) (by decide) (fun _ => ?_) (fun _ => ?_)
                · refine gH.dead [] rfl ?_
                  exact w_Lane_refusalOf_J91 hX
                · refine h_iconst hX dX1_refusalOf_87 ki_1 ?_
                  refine h_goto hX dX1_refusalOf_88 (tgt := 92) (by decide) ?_
                  refine gH.dead [] rfl ?_
                  exact w_Lane_refusalOf_J92 hX
          · refine h_iconst hX dX1_refusalOf_44 ki_1 ?_
            exact h_ret hX (rv := some (.int 1)) dX1_refusalOf_45 trivial (fun h => h)
    · refine h_iconst hX dX1_refusalOf_22 ki_0 ?_
      exact h_ret hX (rv := some (.int 0)) dX1_refusalOf_23 trivial (fun h => h)
theorem c_Lane_refusalOf {p0 : Int32} {p1 : Int32} {p2 : Int32} {p3 : Int32} {r : Int32} (h : f_Lane_refusalOf Y_clauses N_marbles N_swallowed N_owners p0 p1 p2 p3 = some r) : gMet B 3 yX1_refusalOf cX1_refusalOf 6 (some .int) [.ref (aC B 30), .int p0, .int p1, .int p2, .int p3] (wdC B W_spillsNow W_drawn T_length T_at T_bytes D_cells D_clauses G_length G_code A_size A_chosen A_codes A_lengths A_stack Y_cells Y_clauses N_marbles N_chipped N_swallowed N_sweets N_day N_owners P_next P_kept P_hasImage P_image P_acts P_entries P_imageEntries S_fewest S_row S_strengths U_size U_found U_places U_kinds U_holds U_fitting U_tally L_letters L_firstCells L_secondCells L_firstBest L_secondBest W_refusals ++ fr) (some (.int r)) (wdC B W_spillsNow W_drawn T_length T_at T_bytes D_cells D_clauses G_length G_code A_size A_chosen A_codes A_lengths A_stack Y_cells Y_clauses N_marbles N_chipped N_swallowed N_sweets N_day N_owners P_next P_kept P_hasImage P_image P_acts P_entries P_imageEntries S_fewest S_row S_strengths U_size U_found U_places U_kinds U_holds U_fitting U_tally L_letters L_firstCells L_secondCells L_firstBest L_secondBest W_refusals ++ fr) :=
  gMet.of rfl (Nat.le_of_ble_eq_true rfl) (fun X hX hF => w_Lane_refusalOf hX r h hF)
set_option maxRecDepth 4000 in
theorem w_Lane_restingPowers_J131 {v3 : Int32} {v4 : Int32} {v5 : Int32} {v6 : Int32} {v7 : Int32} {v8 : Int32} (hX : gOk B X RX1 cX1_restingPowers 9 6 (some .int)) : gH B X (Sum.elim (fun s : (Int32 × Int32) => gG B X 42 [(0, .ref (aC B 30)), (3, .int v3), (4, .int v4), (5, .int v5), (6, .int s.1), (7, .int v7), (8, .int s.2)] [] (wdC B W_spillsNow W_drawn T_length T_at T_bytes D_cells D_clauses G_length G_code A_size A_chosen A_codes A_lengths A_stack Y_cells Y_clauses N_marbles N_chipped N_swallowed N_sweets N_day N_owners P_next P_kept P_hasImage P_image P_acts P_entries P_imageEntries S_fewest S_row S_strengths U_size U_found U_places U_kinds U_holds U_fitting U_tally L_letters L_firstCells L_secondCells L_firstBest L_secondBest W_refusals ++ fr)) (Sum.elim (fun s : (Int32 × Int32) => gG B X 32 [(0, .ref (aC B 30)), (3, .int v3), (4, .int v4), (5, .int v5), (6, .int s.1), (7, .int s.2)] [] (wdC B W_spillsNow W_drawn T_length T_at T_bytes D_cells D_clauses G_length G_code A_size A_chosen A_codes A_lengths A_stack Y_cells Y_clauses N_marbles N_chipped N_swallowed N_sweets N_day N_owners P_next P_kept P_hasImage P_image P_acts P_entries P_imageEntries S_fewest S_row S_strengths U_size U_found U_places U_kinds U_holds U_fitting U_tally L_letters L_firstCells L_secondCells L_firstBest L_secondBest W_refusals ++ fr)) (fun r : (Int32 × (Nat → Int32) × (Nat → Int32) × (Nat → Int32) × (Nat → Int32) × (Nat → Int32) × (Nat → Int32)) => gFin X (some (.int r.1)) (wdC B W_spillsNow W_drawn T_length T_at T_bytes D_cells D_clauses G_length G_code A_size A_chosen A_codes A_lengths r.2.1 Y_cells Y_clauses N_marbles N_chipped N_swallowed N_sweets N_day N_owners P_next P_kept P_hasImage P_image P_acts P_entries P_imageEntries S_fewest S_row S_strengths U_size U_found U_places U_kinds U_holds U_fitting U_tally r.2.2.1 r.2.2.2.1 r.2.2.2.2.1 r.2.2.2.2.2.1 r.2.2.2.2.2.2 W_refusals ++ fr)))) 131 [(0, .ref (aC B 30)), (3, .int v3), (4, .int v4), (5, .int v5), (6, .int v6), (7, .int v7), (8, .int v8)] [] (wdC B W_spillsNow W_drawn T_length T_at T_bytes D_cells D_clauses G_length G_code A_size A_chosen A_codes A_lengths A_stack Y_cells Y_clauses N_marbles N_chipped N_swallowed N_sweets N_day N_owners P_next P_kept P_hasImage P_image P_acts P_entries P_imageEntries S_fewest S_row S_strengths U_size U_found U_places U_kinds U_holds U_fitting U_tally L_letters L_firstCells L_secondCells L_firstBest L_secondBest W_refusals ++ fr) (f_Lane_restingPowers_J131 v6 v8) := by
  unfold f_Lane_restingPowers_J131
  refine h_iincc hX dX1_restingPowers_131 rfl ki_1 (by decide) (lv' := [(0, .ref (aC B 30)), (3, .int v3), (4, .int v4), (5, .int v5), (6, .int v6), (7, .int v7), (8, .int (v8 + 1))]) rfl ?_
  refine h_goto hX dX1_restingPowers_134 (tgt := 42) (by decide) ?_
  exact gH.some' (fun h => h)
set_option maxRecDepth 4000 in
theorem w_Lane_restingPowers_L42 {v3 : Int32} {v4 : Int32} {v5 : Int32} {v7 : Int32} (hX : gOk B X RX1 cX1_restingPowers 9 6 (some .int)) (s : (Int32 × Int32)) : gH B X (Sum.elim (fun s : (Int32 × Int32) => gG B X 42 [(0, .ref (aC B 30)), (3, .int v3), (4, .int v4), (5, .int v5), (6, .int s.1), (7, .int v7), (8, .int s.2)] [] (wdC B W_spillsNow W_drawn T_length T_at T_bytes D_cells D_clauses G_length G_code A_size A_chosen A_codes A_lengths A_stack Y_cells Y_clauses N_marbles N_chipped N_swallowed N_sweets N_day N_owners P_next P_kept P_hasImage P_image P_acts P_entries P_imageEntries S_fewest S_row S_strengths U_size U_found U_places U_kinds U_holds U_fitting U_tally L_letters L_firstCells L_secondCells L_firstBest L_secondBest W_refusals ++ fr)) (Sum.elim (fun s : (Int32 × Int32) => gG B X 32 [(0, .ref (aC B 30)), (3, .int v3), (4, .int v4), (5, .int v5), (6, .int s.1), (7, .int s.2)] [] (wdC B W_spillsNow W_drawn T_length T_at T_bytes D_cells D_clauses G_length G_code A_size A_chosen A_codes A_lengths A_stack Y_cells Y_clauses N_marbles N_chipped N_swallowed N_sweets N_day N_owners P_next P_kept P_hasImage P_image P_acts P_entries P_imageEntries S_fewest S_row S_strengths U_size U_found U_places U_kinds U_holds U_fitting U_tally L_letters L_firstCells L_secondCells L_firstBest L_secondBest W_refusals ++ fr)) (fun r : (Int32 × (Nat → Int32) × (Nat → Int32) × (Nat → Int32) × (Nat → Int32) × (Nat → Int32) × (Nat → Int32)) => gFin X (some (.int r.1)) (wdC B W_spillsNow W_drawn T_length T_at T_bytes D_cells D_clauses G_length G_code A_size A_chosen A_codes A_lengths r.2.1 Y_cells Y_clauses N_marbles N_chipped N_swallowed N_sweets N_day N_owners P_next P_kept P_hasImage P_image P_acts P_entries P_imageEntries S_fewest S_row S_strengths U_size U_found U_places U_kinds U_holds U_fitting U_tally r.2.2.1 r.2.2.2.1 r.2.2.2.2.1 r.2.2.2.2.2.1 r.2.2.2.2.2.2 W_refusals ++ fr)))) 42 [(0, .ref (aC B 30)), (3, .int v3), (4, .int v4), (5, .int v5), (6, .int s.1), (7, .int v7), (8, .int s.2)] [] (wdC B W_spillsNow W_drawn T_length T_at T_bytes D_cells D_clauses G_length G_code A_size A_chosen A_codes A_lengths A_stack Y_cells Y_clauses N_marbles N_chipped N_swallowed N_sweets N_day N_owners P_next P_kept P_hasImage P_image P_acts P_entries P_imageEntries S_fewest S_row S_strengths U_size U_found U_places U_kinds U_holds U_fitting U_tally L_letters L_firstCells L_secondCells L_firstBest L_secondBest W_refusals ++ fr) (f_Lane_restingPowers_L42 A_stack Y_cells L_letters L_firstCells L_secondCells L_firstBest L_secondBest v3 v4 v5 v7 s) := by
  unfold f_Lane_restingPowers_L42
  refine h_iload hX dX1_restingPowers_42 rfl ?_
  refine h_bipush hX dX1_restingPowers_44 kb_9 ?_
  refine h_icmp_gt hX dX1_restingPowers_46 (tgt := 137) (by decide) (fun _ => ?_) (fun _ => ?_)
  · refine gH.inr ?_
    refine h_iincc hX dX1_restingPowers_137 rfl ki_1 (by decide) (lv' := [(0, .ref (aC B 30)), (3, .int v3), (4, .int v4), (5, .int v5), (6, .int s.1), (7, .int (v7 + 1)), (8, .int s.2)]) rfl ?_
    refine h_goto hX dX1_restingPowers_140 (tgt := 32) (by decide) ?_
    refine gH.dead [0, 1, 2, 3, 4, 5] rfl ?_
    exact gH.some' (fun h => h)
  · refine h_aload_n hX dX1_restingPowers_49 rfl rfl ?_
    refine h_aload_n hX dX1_restingPowers_50 rfl rfl ?_
    refine get_RX1_18_C30 hX dX1_restingPowers_51 ?_
    refine h_iload hX dX1_restingPowers_54 rfl ?_
    refine ald_C32 hX dX1_restingPowers_56 ?_
    refine h_aload_n hX dX1_restingPowers_57 rfl rfl ?_
    refine get_RX1_21_C30 hX dX1_restingPowers_58 ?_
    refine h_iload hX dX1_restingPowers_61 rfl ?_
    refine ald_C33 hX dX1_restingPowers_63 ?_
    refine h_iload hX dX1_restingPowers_64 rfl ?_
    refine h_iload hX dX1_restingPowers_66 rfl ?_
    refine h_callVi hX dX1_restingPowers_68 (cv_RX1_130) rc_C30 (As := [.int (L_firstCells v7.toNatClampNeg), .int (L_secondCells s.2.toNatClampNeg), .int v4, .int v5]) (st := []) (fun _ h => c_Lane_gain h) rfl rfl (by decide) (Nat.le_of_ble_eq_true rfl) (fun a_5 => ?_)
    refine h_aload_n hX dX1_restingPowers_71 rfl rfl ?_
    refine get_RX1_24_C30 hX dX1_restingPowers_72 ?_
    refine h_iload hX dX1_restingPowers_75 rfl ?_
    refine ald_C34 hX dX1_restingPowers_77 ?_
    refine h_icmp_ne hX dX1_restingPowers_78 (tgt := 131) (by decide) (fun _ => ?_) (fun _ => ?_)
    · exact w_Lane_restingPowers_J131 hX
    · refine h_aload_n hX dX1_restingPowers_81 rfl rfl ?_
      refine h_aload_n hX dX1_restingPowers_82 rfl rfl ?_
      refine get_RX1_21_C30 hX dX1_restingPowers_83 ?_
      refine h_iload hX dX1_restingPowers_86 rfl ?_
      refine ald_C33 hX dX1_restingPowers_88 ?_
      refine h_aload_n hX dX1_restingPowers_89 rfl rfl ?_
      refine get_RX1_18_C30 hX dX1_restingPowers_90 ?_
      refine h_iload hX dX1_restingPowers_93 rfl ?_
      refine ald_C32 hX dX1_restingPowers_95 ?_
      refine h_iload hX dX1_restingPowers_96 rfl ?_
      refine h_iload hX dX1_restingPowers_98 rfl ?_
      refine h_callVi hX dX1_restingPowers_100 (cv_RX1_130) rc_C30 (As := [.int (L_secondCells s.2.toNatClampNeg), .int (L_firstCells v7.toNatClampNeg), .int v5, .int v4]) (st := []) (fun _ h => c_Lane_gain h) rfl rfl (by decide) (Nat.le_of_ble_eq_true rfl) (fun a_7 => ?_)
      refine h_aload_n hX dX1_restingPowers_103 rfl rfl ?_
      refine get_RX1_27_C30 hX dX1_restingPowers_104 ?_
      refine h_iload hX dX1_restingPowers_107 rfl ?_
      refine ald_C35 hX dX1_restingPowers_109 ?_
      refine h_icmp_ne hX dX1_restingPowers_110 (tgt := 131) (by decide) (fun _ => ?_) (fun _ => ?_)
      · exact w_Lane_restingPowers_J131 hX
      · refine h_iload hX dX1_restingPowers_113 rfl ?_
        refine h_iload_n hX dX1_restingPowers_115 rfl rfl ?_
        refine h_icmp_ne hX dX1_restingPowers_116 (tgt := 128) (by decide) (fun _ => ?_) (fun _ => ?_)
        · refine h_iincc hX dX1_restingPowers_128 rfl ki_1 (by decide) (lv' := [(0, .ref (aC B 30)), (3, .int v3), (4, .int v4), (5, .int v5), (6, .int (s.1 + 1)), (7, .int v7), (8, .int s.2)]) rfl ?_
          exact w_Lane_restingPowers_J131 hX
        · refine h_bipush hX dX1_restingPowers_119 kb_10 ?_
          refine h_iload hX dX1_restingPowers_121 rfl ?_
          refine h_imul hX dX1_restingPowers_123 ?_
          refine h_iload hX dX1_restingPowers_124 rfl ?_
          refine h_iadd hX dX1_restingPowers_126 ?_
          exact h_ret hX (rv := some (.int ((10 * v7) + s.2))) dX1_restingPowers_127 trivial (fun h => h)
set_option maxRecDepth 4000 in
theorem w_Lane_restingPowers_L32 {v3 : Int32} {v4 : Int32} {v5 : Int32} (hX : gOk B X RX1 cX1_restingPowers 9 6 (some .int)) (s : (Int32 × Int32)) : gH B X (Sum.elim (fun s : (Int32 × Int32) => gG B X 32 [(0, .ref (aC B 30)), (3, .int v3), (4, .int v4), (5, .int v5), (6, .int s.1), (7, .int s.2)] [] (wdC B W_spillsNow W_drawn T_length T_at T_bytes D_cells D_clauses G_length G_code A_size A_chosen A_codes A_lengths A_stack Y_cells Y_clauses N_marbles N_chipped N_swallowed N_sweets N_day N_owners P_next P_kept P_hasImage P_image P_acts P_entries P_imageEntries S_fewest S_row S_strengths U_size U_found U_places U_kinds U_holds U_fitting U_tally L_letters L_firstCells L_secondCells L_firstBest L_secondBest W_refusals ++ fr)) (fun r : (Int32 × (Nat → Int32) × (Nat → Int32) × (Nat → Int32) × (Nat → Int32) × (Nat → Int32) × (Nat → Int32)) => gFin X (some (.int r.1)) (wdC B W_spillsNow W_drawn T_length T_at T_bytes D_cells D_clauses G_length G_code A_size A_chosen A_codes A_lengths r.2.1 Y_cells Y_clauses N_marbles N_chipped N_swallowed N_sweets N_day N_owners P_next P_kept P_hasImage P_image P_acts P_entries P_imageEntries S_fewest S_row S_strengths U_size U_found U_places U_kinds U_holds U_fitting U_tally r.2.2.1 r.2.2.2.1 r.2.2.2.2.1 r.2.2.2.2.2.1 r.2.2.2.2.2.2 W_refusals ++ fr))) 32 [(0, .ref (aC B 30)), (3, .int v3), (4, .int v4), (5, .int v5), (6, .int s.1), (7, .int s.2)] [] (wdC B W_spillsNow W_drawn T_length T_at T_bytes D_cells D_clauses G_length G_code A_size A_chosen A_codes A_lengths A_stack Y_cells Y_clauses N_marbles N_chipped N_swallowed N_sweets N_day N_owners P_next P_kept P_hasImage P_image P_acts P_entries P_imageEntries S_fewest S_row S_strengths U_size U_found U_places U_kinds U_holds U_fitting U_tally L_letters L_firstCells L_secondCells L_firstBest L_secondBest W_refusals ++ fr) (f_Lane_restingPowers_L32 A_stack Y_cells L_letters L_firstCells L_secondCells L_firstBest L_secondBest v3 v4 v5 s) := by
  unfold f_Lane_restingPowers_L32
  refine h_iload hX dX1_restingPowers_32 rfl ?_
  refine h_bipush hX dX1_restingPowers_34 kb_9 ?_
  refine h_icmp_gt hX dX1_restingPowers_36 (tgt := 143) (by decide) (fun _ => ?_) (fun _ => ?_)
  · refine gH.inr ?_
    refine h_iload_n hX dX1_restingPowers_143 rfl rfl ?_
    refine h_iconst hX dX1_restingPowers_144 ki_m1 ?_
    refine h_icmp_ne hX dX1_restingPowers_145 (tgt := 153) (by decide) (fun _ => ?_) (fun _ => ?_)
    · refine h_iconst hX dX1_restingPowers_153 ki_m1 ?_
      exact h_ret hX (rv := some (.int ((-1)))) dX1_restingPowers_154 trivial (fun h => h)
    · refine h_iload hX dX1_restingPowers_148 rfl ?_
      refine h_goto hX dX1_restingPowers_150 (tgt := 154) (by decide) ?_
      exact h_ret hX (rv := some (.int s.1)) dX1_restingPowers_154 trivial (fun h => h)
  · refine h_iconst hX dX1_restingPowers_39 ki_1 ?_
    refine h_istore hX dX1_restingPowers_40 (by decide) (lv' := [(0, .ref (aC B 30)), (3, .int v3), (4, .int v4), (5, .int v5), (6, .int s.1), (7, .int s.2), (8, .int 1)]) rfl ?_
    exact gH.loop (lvf := fun z : (Int32 × Int32) => [(0, .ref (aC B 30)), (3, .int v3), (4, .int v4), (5, .int v5), (6, .int z.1), (7, .int s.2), (8, .int z.2)]) (wf := fun z : (Int32 × Int32) => wdC B W_spillsNow W_drawn T_length T_at T_bytes D_cells D_clauses G_length G_code A_size A_chosen A_codes A_lengths A_stack Y_cells Y_clauses N_marbles N_chipped N_swallowed N_sweets N_day N_owners P_next P_kept P_hasImage P_image P_acts P_entries P_imageEntries S_fewest S_row S_strengths U_size U_found U_places U_kinds U_holds U_fitting U_tally L_letters L_firstCells L_secondCells L_firstBest L_secondBest W_refusals ++ fr) (fun z => w_Lane_restingPowers_L42 hX z) (s.1, 1)
set_option maxRecDepth 4000 in
theorem w_Lane_restingPowers {p0 : Int32} {p1 : Int32} {p2 : Int32} (hX : gOk B X RX1 cX1_restingPowers 9 6 (some .int)) : gH B X (fun r : (Int32 × (Nat → Int32) × (Nat → Int32) × (Nat → Int32) × (Nat → Int32) × (Nat → Int32) × (Nat → Int32)) => gFin X (some (.int r.1)) (wdC B W_spillsNow W_drawn T_length T_at T_bytes D_cells D_clauses G_length G_code A_size A_chosen A_codes A_lengths r.2.1 Y_cells Y_clauses N_marbles N_chipped N_swallowed N_sweets N_day N_owners P_next P_kept P_hasImage P_image P_acts P_entries P_imageEntries S_fewest S_row S_strengths U_size U_found U_places U_kinds U_holds U_fitting U_tally r.2.2.1 r.2.2.2.1 r.2.2.2.2.1 r.2.2.2.2.2.1 r.2.2.2.2.2.2 W_refusals ++ fr)) 0 [(0, .ref (aC B 30)), (1, .int p0), (2, .int p1), (3, .int p2)] [] (wdC B W_spillsNow W_drawn T_length T_at T_bytes D_cells D_clauses G_length G_code A_size A_chosen A_codes A_lengths A_stack Y_cells Y_clauses N_marbles N_chipped N_swallowed N_sweets N_day N_owners P_next P_kept P_hasImage P_image P_acts P_entries P_imageEntries S_fewest S_row S_strengths U_size U_found U_places U_kinds U_holds U_fitting U_tally L_letters L_firstCells L_secondCells L_firstBest L_secondBest W_refusals ++ fr) (f_Lane_restingPowers A_size A_chosen A_codes A_lengths A_stack Y_cells N_marbles N_chipped N_day N_owners L_letters L_firstCells L_secondCells L_firstBest L_secondBest p0 p1 p2) := by
  unfold f_Lane_restingPowers
  refine h_aload_n hX dX1_restingPowers_0 rfl rfl ?_
  refine get_RX1_30_C30 hX dX1_restingPowers_1 ?_
  refine h_iload_n hX dX1_restingPowers_4 rfl rfl ?_
  refine h_callVi hX dX1_restingPowers_5 (cv_RX1_63) rc_C13 (As := [.int p0]) (st := []) (fun _ h => c_Yard_size h) rfl rfl (by decide) (Nat.le_of_ble_eq_true rfl) (fun a_1 => ?_)
  refine h_istore hX dX1_restingPowers_8 (by decide) (lv' := [(0, .ref (aC B 30)), (1, .int p0), (2, .int p1), (3, .int p2), (4, .int a_1)]) rfl ?_
  refine h_aload_n hX dX1_restingPowers_10 rfl rfl ?_
  refine get_RX1_30_C30 hX dX1_restingPowers_11 ?_
  refine h_iload_n hX dX1_restingPowers_14 rfl rfl ?_
  refine h_callVi hX dX1_restingPowers_15 (cv_RX1_63) rc_C13 (As := [.int p1]) (st := []) (fun _ h => c_Yard_size h) rfl rfl (by decide) (Nat.le_of_ble_eq_true rfl) (fun a_2 => ?_)
  refine h_istore hX dX1_restingPowers_18 (by decide) (lv' := [(0, .ref (aC B 30)), (1, .int p0), (2, .int p1), (3, .int p2), (4, .int a_1), (5, .int a_2)]) rfl ?_
  refine h_aload_n hX dX1_restingPowers_20 rfl rfl ?_
  refine h_iload_n hX dX1_restingPowers_21 rfl rfl ?_
  refine h_iload_n hX dX1_restingPowers_22 rfl rfl ?_
  refine h_callVv hX dX1_restingPowers_23 (cv_RX1_127) rc_C30 (As := [.int p0, .int p1]) (st := []) (fun _ h => c_Lane_findBestAnswers h) rfl rfl (by decide) (Nat.le_of_ble_eq_true rfl) (fun a_3 => ?_)
  refine h_iconst hX dX1_restingPowers_26 ki_0 ?_
  refine h_istore hX dX1_restingPowers_27 (by decide) (lv' := [(0, .ref (aC B 30)), (1, .int p0), (2, .int p1), (3, .int p2), (4, .int a_1), (5, .int a_2), (6, .int 0)]) rfl ?_
  refine h_iconst hX dX1_restingPowers_29 ki_1 ?_
  refine h_istore hX dX1_restingPowers_30 (by decide) (lv' := [(0, .ref (aC B 30)), (1, .int p0), (2, .int p1), (3, .int p2), (4, .int a_1), (5, .int a_2), (6, .int 0), (7, .int 1)]) rfl ?_
  refine gH.dead [0, 3, 4, 5, 6, 7] rfl ?_
  exact gH.loop (lvf := fun z : (Int32 × Int32) => [(0, .ref (aC B 30)), (3, .int p2), (4, .int a_1), (5, .int a_2), (6, .int z.1), (7, .int z.2)]) (wf := fun z : (Int32 × Int32) => wdC B W_spillsNow W_drawn T_length T_at T_bytes D_cells D_clauses G_length G_code A_size A_chosen A_codes A_lengths a_3.1 Y_cells Y_clauses N_marbles N_chipped N_swallowed N_sweets N_day N_owners P_next P_kept P_hasImage P_image P_acts P_entries P_imageEntries S_fewest S_row S_strengths U_size U_found U_places U_kinds U_holds U_fitting U_tally a_3.2.1 a_3.2.2.1 a_3.2.2.2.1 a_3.2.2.2.2.1 a_3.2.2.2.2.2 W_refusals ++ fr) (fun z => w_Lane_restingPowers_L32 hX z) (0, 1)
theorem c_Lane_restingPowers {p0 : Int32} {p1 : Int32} {p2 : Int32} {r : (Int32 × (Nat → Int32) × (Nat → Int32) × (Nat → Int32) × (Nat → Int32) × (Nat → Int32) × (Nat → Int32))} (h : f_Lane_restingPowers A_size A_chosen A_codes A_lengths A_stack Y_cells N_marbles N_chipped N_day N_owners L_letters L_firstCells L_secondCells L_firstBest L_secondBest p0 p1 p2 = some r) : gMet B 6 yX1_restingPowers cX1_restingPowers 9 (some .int) [.ref (aC B 30), .int p0, .int p1, .int p2] (wdC B W_spillsNow W_drawn T_length T_at T_bytes D_cells D_clauses G_length G_code A_size A_chosen A_codes A_lengths A_stack Y_cells Y_clauses N_marbles N_chipped N_swallowed N_sweets N_day N_owners P_next P_kept P_hasImage P_image P_acts P_entries P_imageEntries S_fewest S_row S_strengths U_size U_found U_places U_kinds U_holds U_fitting U_tally L_letters L_firstCells L_secondCells L_firstBest L_secondBest W_refusals ++ fr) (some (.int r.1)) (wdC B W_spillsNow W_drawn T_length T_at T_bytes D_cells D_clauses G_length G_code A_size A_chosen A_codes A_lengths r.2.1 Y_cells Y_clauses N_marbles N_chipped N_swallowed N_sweets N_day N_owners P_next P_kept P_hasImage P_image P_acts P_entries P_imageEntries S_fewest S_row S_strengths U_size U_found U_places U_kinds U_holds U_fitting U_tally r.2.2.1 r.2.2.2.1 r.2.2.2.2.1 r.2.2.2.2.2.1 r.2.2.2.2.2.2 W_refusals ++ fr) :=
  gMet.of rfl (Nat.le_of_ble_eq_true rfl) (fun X hX hF => w_Lane_restingPowers hX r h hF)
set_option maxRecDepth 4000 in
theorem w_Lane_winnerOf {p0 : Int32} {p1 : Int32} {p2 : Int32} {p3 : Int32} (hX : gOk B X RX1 cX1_winnerOf 5 5 (some .int)) : gH B X (fun r : (Int32 × (Nat → Int32) × (Nat → Int32)) => gFin X (some (.int r.1)) (wdC B W_spillsNow W_drawn T_length T_at T_bytes D_cells D_clauses G_length G_code A_size A_chosen A_codes A_lengths r.2.1 Y_cells Y_clauses N_marbles N_chipped N_swallowed N_sweets N_day N_owners P_next P_kept P_hasImage P_image P_acts P_entries P_imageEntries S_fewest S_row S_strengths U_size U_found U_places U_kinds U_holds U_fitting U_tally r.2.2 L_firstCells L_secondCells L_firstBest L_secondBest W_refusals ++ fr)) 0 [(0, .ref (aC B 30)), (1, .int p0), (2, .int p1), (3, .int p2), (4, .int p3)] [] (wdC B W_spillsNow W_drawn T_length T_at T_bytes D_cells D_clauses G_length G_code A_size A_chosen A_codes A_lengths A_stack Y_cells Y_clauses N_marbles N_chipped N_swallowed N_sweets N_day N_owners P_next P_kept P_hasImage P_image P_acts P_entries P_imageEntries S_fewest S_row S_strengths U_size U_found U_places U_kinds U_holds U_fitting U_tally L_letters L_firstCells L_secondCells L_firstBest L_secondBest W_refusals ++ fr) (f_Lane_winnerOf A_size A_chosen A_codes A_lengths A_stack Y_cells N_marbles N_chipped N_day N_owners L_letters p0 p1 p2 p3) := by
  unfold f_Lane_winnerOf
  refine h_aload_n hX dX1_winnerOf_0 rfl rfl ?_
  refine h_aload_n hX dX1_winnerOf_1 rfl rfl ?_
  refine h_aload_n hX dX1_winnerOf_2 rfl rfl ?_
  refine get_RX1_34_C30 hX dX1_winnerOf_3 ?_
  refine h_iload_n hX dX1_winnerOf_6 rfl rfl ?_
  refine h_callVi hX dX1_winnerOf_7 (cv_RX1_56) rc_C16 (As := [.int p0]) (st := [.ref (aC B 30), .ref (aC B 30)]) (fun _ h => c_Now_ownerOf h) rfl rfl (by decide) (Nat.le_of_ble_eq_true rfl) (fun a_1 => ?_)
  refine h_iload_n hX dX1_winnerOf_10 rfl rfl ?_
  refine h_iload_n hX dX1_winnerOf_11 rfl rfl ?_
  refine h_callVi hX dX1_winnerOf_12 (cv_RX1_116) rc_C30 (As := [.int a_1, .int p0, .int p1]) (st := [.ref (aC B 30)]) (fun _ h => c_Lane_flick h) rfl rfl (by decide) (Nat.le_of_ble_eq_true rfl) (fun a_2 => ?_)
  refine h_aload_n hX dX1_winnerOf_15 rfl rfl ?_
  refine h_aload_n hX dX1_winnerOf_16 rfl rfl ?_
  refine get_RX1_34_C30 hX dX1_winnerOf_17 ?_
  refine h_iload_n hX dX1_winnerOf_20 rfl rfl ?_
  refine h_callVi hX dX1_winnerOf_21 (cv_RX1_56) rc_C16 (As := [.int p2]) (st := [.ref (aC B 30), .int a_2.1, .ref (aC B 30)]) (fun _ h => c_Now_ownerOf h) rfl rfl (by decide) (Nat.le_of_ble_eq_true rfl) (fun a_3 => ?_)
  refine h_iload_n hX dX1_winnerOf_24 rfl rfl ?_
  refine h_iload hX dX1_winnerOf_25 rfl ?_
  refine h_callVi hX dX1_winnerOf_27 (cv_RX1_116) rc_C30 (As := [.int a_3, .int p2, .int p3]) (st := [.int a_2.1, .ref (aC B 30)]) (fun _ h => c_Lane_flick h) rfl rfl (by decide) (Nat.le_of_ble_eq_true rfl) (fun a_4 => ?_)
  refine h_callVi hX dX1_winnerOf_30 (cv_RX1_120) rc_C30 (As := [.int a_2.1, .int a_4.1]) (st := []) (fun _ h => c_Lane_nearerOf h) rfl rfl (by decide) (Nat.le_of_ble_eq_true rfl) (fun a_5 => ?_)
  exact h_ret hX (rv := some (.int a_5)) dX1_winnerOf_33 trivial (fun h => h)
theorem c_Lane_winnerOf {p0 : Int32} {p1 : Int32} {p2 : Int32} {p3 : Int32} {r : (Int32 × (Nat → Int32) × (Nat → Int32))} (h : f_Lane_winnerOf A_size A_chosen A_codes A_lengths A_stack Y_cells N_marbles N_chipped N_day N_owners L_letters p0 p1 p2 p3 = some r) : gMet B 5 yX1_winnerOf cX1_winnerOf 5 (some .int) [.ref (aC B 30), .int p0, .int p1, .int p2, .int p3] (wdC B W_spillsNow W_drawn T_length T_at T_bytes D_cells D_clauses G_length G_code A_size A_chosen A_codes A_lengths A_stack Y_cells Y_clauses N_marbles N_chipped N_swallowed N_sweets N_day N_owners P_next P_kept P_hasImage P_image P_acts P_entries P_imageEntries S_fewest S_row S_strengths U_size U_found U_places U_kinds U_holds U_fitting U_tally L_letters L_firstCells L_secondCells L_firstBest L_secondBest W_refusals ++ fr) (some (.int r.1)) (wdC B W_spillsNow W_drawn T_length T_at T_bytes D_cells D_clauses G_length G_code A_size A_chosen A_codes A_lengths r.2.1 Y_cells Y_clauses N_marbles N_chipped N_swallowed N_sweets N_day N_owners P_next P_kept P_hasImage P_image P_acts P_entries P_imageEntries S_fewest S_row S_strengths U_size U_found U_places U_kinds U_holds U_fitting U_tally r.2.2 L_firstCells L_secondCells L_firstBest L_secondBest W_refusals ++ fr) :=
  gMet.of rfl (Nat.le_of_ble_eq_true rfl) (fun X hX hF => w_Lane_winnerOf hX r h hF)
set_option maxRecDepth 4000 in
theorem w_Lane_winningParts_J68 {v1 : Int32} {v2 : Int32} {v3 : Int32} {v4 : Int32} {v5 : Int32} {v6 : Int32} {v7 : Int32} (hX : gOk B X RX1 cX1_winningParts 8 4 (some .int)) : gH B X (Sum.elim (fun s : (Int32 × Int32) => gG B X 25 [(0, .ref (aC B 30)), (1, .int v1), (2, .int v2), (3, .int v3), (4, .int s.1), (5, .int v5), (6, .int v6), (7, .int s.2)] [] (wdC B W_spillsNow W_drawn T_length T_at T_bytes D_cells D_clauses G_length G_code A_size A_chosen A_codes A_lengths A_stack Y_cells Y_clauses N_marbles N_chipped N_swallowed N_sweets N_day N_owners P_next P_kept P_hasImage P_image P_acts P_entries P_imageEntries S_fewest S_row S_strengths U_size U_found U_places U_kinds U_holds U_fitting U_tally L_letters L_firstCells L_secondCells L_firstBest L_secondBest W_refusals ++ fr)) (Sum.elim (fun s : (Int32 × Int32) => gG B X 6 [(0, .ref (aC B 30)), (1, .int v1), (2, .int v2), (3, .int v3), (4, .int s.1), (5, .int s.2)] [] (wdC B W_spillsNow W_drawn T_length T_at T_bytes D_cells D_clauses G_length G_code A_size A_chosen A_codes A_lengths A_stack Y_cells Y_clauses N_marbles N_chipped N_swallowed N_sweets N_day N_owners P_next P_kept P_hasImage P_image P_acts P_entries P_imageEntries S_fewest S_row S_strengths U_size U_found U_places U_kinds U_holds U_fitting U_tally L_letters L_firstCells L_secondCells L_firstBest L_secondBest W_refusals ++ fr)) (fun r : Int32 => gFin X (some (.int r)) (wdC B W_spillsNow W_drawn T_length T_at T_bytes D_cells D_clauses G_length G_code A_size A_chosen A_codes A_lengths A_stack Y_cells Y_clauses N_marbles N_chipped N_swallowed N_sweets N_day N_owners P_next P_kept P_hasImage P_image P_acts P_entries P_imageEntries S_fewest S_row S_strengths U_size U_found U_places U_kinds U_holds U_fitting U_tally L_letters L_firstCells L_secondCells L_firstBest L_secondBest W_refusals ++ fr)))) 68 [(0, .ref (aC B 30)), (1, .int v1), (2, .int v2), (3, .int v3), (4, .int v4), (5, .int v5), (6, .int v6), (7, .int v7)] [] (wdC B W_spillsNow W_drawn T_length T_at T_bytes D_cells D_clauses G_length G_code A_size A_chosen A_codes A_lengths A_stack Y_cells Y_clauses N_marbles N_chipped N_swallowed N_sweets N_day N_owners P_next P_kept P_hasImage P_image P_acts P_entries P_imageEntries S_fewest S_row S_strengths U_size U_found U_places U_kinds U_holds U_fitting U_tally L_letters L_firstCells L_secondCells L_firstBest L_secondBest W_refusals ++ fr) (f_Lane_winningParts_J68 v4 v7) := by
  unfold f_Lane_winningParts_J68
  refine h_iincc hX dX1_winningParts_68 rfl ki_1 (by decide) (lv' := [(0, .ref (aC B 30)), (1, .int v1), (2, .int v2), (3, .int v3), (4, .int v4), (5, .int v5), (6, .int v6), (7, .int (v7 + 1))]) rfl ?_
  refine h_goto hX dX1_winningParts_71 (tgt := 25) (by decide) ?_
  exact gH.some' (fun h => h)
set_option maxRecDepth 4000 in
theorem w_Lane_winningParts_L25 {v1 : Int32} {v2 : Int32} {v3 : Int32} {v5 : Int32} {v6 : Int32} (hX : gOk B X RX1 cX1_winningParts 8 4 (some .int)) (s : (Int32 × Int32)) : gH B X (Sum.elim (fun s : (Int32 × Int32) => gG B X 25 [(0, .ref (aC B 30)), (1, .int v1), (2, .int v2), (3, .int v3), (4, .int s.1), (5, .int v5), (6, .int v6), (7, .int s.2)] [] (wdC B W_spillsNow W_drawn T_length T_at T_bytes D_cells D_clauses G_length G_code A_size A_chosen A_codes A_lengths A_stack Y_cells Y_clauses N_marbles N_chipped N_swallowed N_sweets N_day N_owners P_next P_kept P_hasImage P_image P_acts P_entries P_imageEntries S_fewest S_row S_strengths U_size U_found U_places U_kinds U_holds U_fitting U_tally L_letters L_firstCells L_secondCells L_firstBest L_secondBest W_refusals ++ fr)) (Sum.elim (fun s : (Int32 × Int32) => gG B X 6 [(0, .ref (aC B 30)), (1, .int v1), (2, .int v2), (3, .int v3), (4, .int s.1), (5, .int s.2)] [] (wdC B W_spillsNow W_drawn T_length T_at T_bytes D_cells D_clauses G_length G_code A_size A_chosen A_codes A_lengths A_stack Y_cells Y_clauses N_marbles N_chipped N_swallowed N_sweets N_day N_owners P_next P_kept P_hasImage P_image P_acts P_entries P_imageEntries S_fewest S_row S_strengths U_size U_found U_places U_kinds U_holds U_fitting U_tally L_letters L_firstCells L_secondCells L_firstBest L_secondBest W_refusals ++ fr)) (fun r : Int32 => gFin X (some (.int r)) (wdC B W_spillsNow W_drawn T_length T_at T_bytes D_cells D_clauses G_length G_code A_size A_chosen A_codes A_lengths A_stack Y_cells Y_clauses N_marbles N_chipped N_swallowed N_sweets N_day N_owners P_next P_kept P_hasImage P_image P_acts P_entries P_imageEntries S_fewest S_row S_strengths U_size U_found U_places U_kinds U_holds U_fitting U_tally L_letters L_firstCells L_secondCells L_firstBest L_secondBest W_refusals ++ fr)))) 25 [(0, .ref (aC B 30)), (1, .int v1), (2, .int v2), (3, .int v3), (4, .int s.1), (5, .int v5), (6, .int v6), (7, .int s.2)] [] (wdC B W_spillsNow W_drawn T_length T_at T_bytes D_cells D_clauses G_length G_code A_size A_chosen A_codes A_lengths A_stack Y_cells Y_clauses N_marbles N_chipped N_swallowed N_sweets N_day N_owners P_next P_kept P_hasImage P_image P_acts P_entries P_imageEntries S_fewest S_row S_strengths U_size U_found U_places U_kinds U_holds U_fitting U_tally L_letters L_firstCells L_secondCells L_firstBest L_secondBest W_refusals ++ fr) (f_Lane_winningParts_L25 Y_cells v1 v2 v3 v5 v6 s) := by
  unfold f_Lane_winningParts_L25
  refine h_iload hX dX1_winningParts_25 rfl ?_
  refine h_iconst hX dX1_winningParts_27 ki_1 ?_
  refine h_icmp_gt hX dX1_winningParts_28 (tgt := 74) (by decide) (fun _ => ?_) (fun _ => ?_)
  · refine gH.inr ?_
    refine h_iincc hX dX1_winningParts_74 rfl ki_1 (by decide) (lv' := [(0, .ref (aC B 30)), (1, .int v1), (2, .int v2), (3, .int v3), (4, .int s.1), (5, .int (v5 + 1)), (6, .int v6), (7, .int s.2)]) rfl ?_
    refine h_goto hX dX1_winningParts_77 (tgt := 6) (by decide) ?_
    refine gH.dead [0, 1, 2, 3, 4, 5] rfl ?_
    exact gH.some' (fun h => h)
  · refine h_aload_n hX dX1_winningParts_31 rfl rfl ?_
    refine h_iconst hX dX1_winningParts_32 ki_0 ?_
    refine h_iload_n hX dX1_winningParts_33 rfl rfl ?_
    refine h_iload hX dX1_winningParts_34 rfl ?_
    refine h_iadd hX dX1_winningParts_36 ?_
    refine h_jmax hX dX1_winningParts_37 cm_RX1_97 (by omega) (Nat.le_of_ble_eq_true rfl) ?_
    refine h_iconst hX dX1_winningParts_40 ki_0 ?_
    refine h_iload_n hX dX1_winningParts_41 rfl rfl ?_
    refine h_iload hX dX1_winningParts_42 rfl ?_
    refine h_iadd hX dX1_winningParts_44 ?_
    refine h_jmax hX dX1_winningParts_45 cm_RX1_97 (by omega) (Nat.le_of_ble_eq_true rfl) ?_
    refine h_callVi hX dX1_winningParts_48 (cv_RX1_120) rc_C30 (As := [.int (jmax 0 (v1 + v5)), .int (jmax 0 (v2 + s.2))]) (st := []) (fun _ h => c_Lane_nearerOf h) rfl rfl (by decide) (Nat.le_of_ble_eq_true rfl) (fun a_3 => ?_)
    refine h_iconst hX dX1_winningParts_51 ki_1 ?_
    refine h_icmp_ne hX dX1_winningParts_52 (tgt := 68) (by decide) (fun _ => ?_) (fun _ => ?_)
    · exact w_Lane_winningParts_J68 hX
    · refine h_iload hX dX1_winningParts_55 rfl ?_
      refine h_iload hX dX1_winningParts_57 rfl ?_
      refine h_iload hX dX1_winningParts_59 rfl ?_
      refine h_iload_n hX dX1_winningParts_61 rfl rfl ?_
      refine h_callSi hX dX1_winningParts_62 (cs_RX1_135) (As := [.int v6, .int s.2, .int v3]) (st := [.int s.1]) (fun _ h => c_Lane_partsOf h) rfl rfl (by decide) (Nat.le_of_ble_eq_true rfl) (fun a_5 => ?_)
      refine h_iadd hX dX1_winningParts_65 ?_
      refine gH.leti (fun v4_6 => ?_)
      refine h_istore hX dX1_winningParts_66 (by decide) (lv' := [(0, .ref (aC B 30)), (1, .int v1), (2, .int v2), (3, .int v3), (4, .int v4_6), (5, .int v5), (6, .int v6), (7, .int s.2)]) rfl ?_
      exact w_Lane_winningParts_J68 hX
set_option maxRecDepth 4000 in
theorem w_Lane_winningParts_L6 {v1 : Int32} {v2 : Int32} {v3 : Int32} (hX : gOk B X RX1 cX1_winningParts 8 4 (some .int)) (s : (Int32 × Int32)) : gH B X (Sum.elim (fun s : (Int32 × Int32) => gG B X 6 [(0, .ref (aC B 30)), (1, .int v1), (2, .int v2), (3, .int v3), (4, .int s.1), (5, .int s.2)] [] (wdC B W_spillsNow W_drawn T_length T_at T_bytes D_cells D_clauses G_length G_code A_size A_chosen A_codes A_lengths A_stack Y_cells Y_clauses N_marbles N_chipped N_swallowed N_sweets N_day N_owners P_next P_kept P_hasImage P_image P_acts P_entries P_imageEntries S_fewest S_row S_strengths U_size U_found U_places U_kinds U_holds U_fitting U_tally L_letters L_firstCells L_secondCells L_firstBest L_secondBest W_refusals ++ fr)) (fun r : Int32 => gFin X (some (.int r)) (wdC B W_spillsNow W_drawn T_length T_at T_bytes D_cells D_clauses G_length G_code A_size A_chosen A_codes A_lengths A_stack Y_cells Y_clauses N_marbles N_chipped N_swallowed N_sweets N_day N_owners P_next P_kept P_hasImage P_image P_acts P_entries P_imageEntries S_fewest S_row S_strengths U_size U_found U_places U_kinds U_holds U_fitting U_tally L_letters L_firstCells L_secondCells L_firstBest L_secondBest W_refusals ++ fr))) 6 [(0, .ref (aC B 30)), (1, .int v1), (2, .int v2), (3, .int v3), (4, .int s.1), (5, .int s.2)] [] (wdC B W_spillsNow W_drawn T_length T_at T_bytes D_cells D_clauses G_length G_code A_size A_chosen A_codes A_lengths A_stack Y_cells Y_clauses N_marbles N_chipped N_swallowed N_sweets N_day N_owners P_next P_kept P_hasImage P_image P_acts P_entries P_imageEntries S_fewest S_row S_strengths U_size U_found U_places U_kinds U_holds U_fitting U_tally L_letters L_firstCells L_secondCells L_firstBest L_secondBest W_refusals ++ fr) (f_Lane_winningParts_L6 Y_cells v1 v2 v3 s) := by
  unfold f_Lane_winningParts_L6
  refine h_iload hX dX1_winningParts_6 rfl ?_
  refine h_iconst hX dX1_winningParts_8 ki_1 ?_
  refine h_icmp_gt hX dX1_winningParts_9 (tgt := 80) (by decide) (fun _ => ?_) (fun _ => ?_)
  · refine h_iload hX dX1_winningParts_80 rfl ?_
    exact h_ret hX (rv := some (.int s.1)) dX1_winningParts_82 trivial (fun h => h)
  · refine h_ldc hX dX1_winningParts_12 cst_RX1_134 ?_
    refine h_iload hX dX1_winningParts_14 rfl ?_
    refine h_iload_n hX dX1_winningParts_16 rfl rfl ?_
    refine h_callSi hX dX1_winningParts_17 (cs_RX1_135) (As := [.int 1000000000, .int s.2, .int v3]) (st := []) (fun _ h => c_Lane_partsOf h) rfl rfl (by decide) (Nat.le_of_ble_eq_true rfl) (fun a_1 => ?_)
    refine h_istore hX dX1_winningParts_20 (by decide) (lv' := [(0, .ref (aC B 30)), (1, .int v1), (2, .int v2), (3, .int v3), (4, .int s.1), (5, .int s.2), (6, .int a_1)]) rfl ?_
    refine h_iconst hX dX1_winningParts_22 ki_m1 ?_
    refine h_istore hX dX1_winningParts_23 (by decide) (lv' := [(0, .ref (aC B 30)), (1, .int v1), (2, .int v2), (3, .int v3), (4, .int s.1), (5, .int s.2), (6, .int a_1), (7, .int ((-1)))]) rfl ?_
    exact gH.loop (lvf := fun z : (Int32 × Int32) => [(0, .ref (aC B 30)), (1, .int v1), (2, .int v2), (3, .int v3), (4, .int z.1), (5, .int s.2), (6, .int a_1), (7, .int z.2)]) (wf := fun z : (Int32 × Int32) => wdC B W_spillsNow W_drawn T_length T_at T_bytes D_cells D_clauses G_length G_code A_size A_chosen A_codes A_lengths A_stack Y_cells Y_clauses N_marbles N_chipped N_swallowed N_sweets N_day N_owners P_next P_kept P_hasImage P_image P_acts P_entries P_imageEntries S_fewest S_row S_strengths U_size U_found U_places U_kinds U_holds U_fitting U_tally L_letters L_firstCells L_secondCells L_firstBest L_secondBest W_refusals ++ fr) (fun z => w_Lane_winningParts_L25 hX z) (s.1, (-1))
set_option maxRecDepth 4000 in
theorem w_Lane_winningParts {p0 : Int32} {p1 : Int32} {p2 : Int32} (hX : gOk B X RX1 cX1_winningParts 8 4 (some .int)) : gH B X (fun r : Int32 => gFin X (some (.int r)) (wdC B W_spillsNow W_drawn T_length T_at T_bytes D_cells D_clauses G_length G_code A_size A_chosen A_codes A_lengths A_stack Y_cells Y_clauses N_marbles N_chipped N_swallowed N_sweets N_day N_owners P_next P_kept P_hasImage P_image P_acts P_entries P_imageEntries S_fewest S_row S_strengths U_size U_found U_places U_kinds U_holds U_fitting U_tally L_letters L_firstCells L_secondCells L_firstBest L_secondBest W_refusals ++ fr)) 0 [(0, .ref (aC B 30)), (1, .int p0), (2, .int p1), (3, .int p2)] [] (wdC B W_spillsNow W_drawn T_length T_at T_bytes D_cells D_clauses G_length G_code A_size A_chosen A_codes A_lengths A_stack Y_cells Y_clauses N_marbles N_chipped N_swallowed N_sweets N_day N_owners P_next P_kept P_hasImage P_image P_acts P_entries P_imageEntries S_fewest S_row S_strengths U_size U_found U_places U_kinds U_holds U_fitting U_tally L_letters L_firstCells L_secondCells L_firstBest L_secondBest W_refusals ++ fr) (f_Lane_winningParts Y_cells p0 p1 p2) := by
  unfold f_Lane_winningParts
  refine h_iconst hX dX1_winningParts_0 ki_0 ?_
  refine h_istore hX dX1_winningParts_1 (by decide) (lv' := [(0, .ref (aC B 30)), (1, .int p0), (2, .int p1), (3, .int p2), (4, .int 0)]) rfl ?_
  refine h_iconst hX dX1_winningParts_3 ki_m1 ?_
  refine h_istore hX dX1_winningParts_4 (by decide) (lv' := [(0, .ref (aC B 30)), (1, .int p0), (2, .int p1), (3, .int p2), (4, .int 0), (5, .int ((-1)))]) rfl ?_
  exact gH.loop (lvf := fun z : (Int32 × Int32) => [(0, .ref (aC B 30)), (1, .int p0), (2, .int p1), (3, .int p2), (4, .int z.1), (5, .int z.2)]) (wf := fun z : (Int32 × Int32) => wdC B W_spillsNow W_drawn T_length T_at T_bytes D_cells D_clauses G_length G_code A_size A_chosen A_codes A_lengths A_stack Y_cells Y_clauses N_marbles N_chipped N_swallowed N_sweets N_day N_owners P_next P_kept P_hasImage P_image P_acts P_entries P_imageEntries S_fewest S_row S_strengths U_size U_found U_places U_kinds U_holds U_fitting U_tally L_letters L_firstCells L_secondCells L_firstBest L_secondBest W_refusals ++ fr) (fun z => w_Lane_winningParts_L6 hX z) (0, (-1))
theorem c_Lane_winningParts {p0 : Int32} {p1 : Int32} {p2 : Int32} {r : Int32} (h : f_Lane_winningParts Y_cells p0 p1 p2 = some r) : gMet B 4 yX1_winningParts cX1_winningParts 8 (some .int) [.ref (aC B 30), .int p0, .int p1, .int p2] (wdC B W_spillsNow W_drawn T_length T_at T_bytes D_cells D_clauses G_length G_code A_size A_chosen A_codes A_lengths A_stack Y_cells Y_clauses N_marbles N_chipped N_swallowed N_sweets N_day N_owners P_next P_kept P_hasImage P_image P_acts P_entries P_imageEntries S_fewest S_row S_strengths U_size U_found U_places U_kinds U_holds U_fitting U_tally L_letters L_firstCells L_secondCells L_firstBest L_secondBest W_refusals ++ fr) (some (.int r)) (wdC B W_spillsNow W_drawn T_length T_at T_bytes D_cells D_clauses G_length G_code A_size A_chosen A_codes A_lengths A_stack Y_cells Y_clauses N_marbles N_chipped N_swallowed N_sweets N_day N_owners P_next P_kept P_hasImage P_image P_acts P_entries P_imageEntries S_fewest S_row S_strengths U_size U_found U_places U_kinds U_holds U_fitting U_tally L_letters L_firstCells L_secondCells L_firstBest L_secondBest W_refusals ++ fr) :=
  gMet.of rfl (Nat.le_of_ble_eq_true rfl) (fun X hX hF => w_Lane_winningParts hX r h hF)
set_option maxRecDepth 4000 in
theorem w_Yard_hasBoy {p0 : Int32} (hX : gOk B X RX8 cX8_hasBoy 2 1 (some .boolean)) : gH B X (fun r : Int32 => gFin X (some (.int r)) (wdC B W_spillsNow W_drawn T_length T_at T_bytes D_cells D_clauses G_length G_code A_size A_chosen A_codes A_lengths A_stack Y_cells Y_clauses N_marbles N_chipped N_swallowed N_sweets N_day N_owners P_next P_kept P_hasImage P_image P_acts P_entries P_imageEntries S_fewest S_row S_strengths U_size U_found U_places U_kinds U_holds U_fitting U_tally L_letters L_firstCells L_secondCells L_firstBest L_secondBest W_refusals ++ fr)) 0 [(0, .ref (aC B 13)), (1, .int p0)] [] (wdC B W_spillsNow W_drawn T_length T_at T_bytes D_cells D_clauses G_length G_code A_size A_chosen A_codes A_lengths A_stack Y_cells Y_clauses N_marbles N_chipped N_swallowed N_sweets N_day N_owners P_next P_kept P_hasImage P_image P_acts P_entries P_imageEntries S_fewest S_row S_strengths U_size U_found U_places U_kinds U_holds U_fitting U_tally L_letters L_firstCells L_secondCells L_firstBest L_secondBest W_refusals ++ fr) (f_Yard_hasBoy Y_clauses p0) := by
  unfold f_Yard_hasBoy
  refine h_iload_n hX dX8_hasBoy_0 rfl rfl ?_
  refine h_if_lt hX dX8_hasBoy_1 (tgt := 16) (by decide) (fun _ => ?_) (fun _ => ?_)
  · refine h_iconst hX dX8_hasBoy_16 ki_0 ?_
    exact h_ret hX (rv := some (.int 0)) dX8_hasBoy_17 rfl (fun h => h)
  · refine h_iload_n hX dX8_hasBoy_4 rfl rfl ?_
    refine h_aload_n hX dX8_hasBoy_5 rfl rfl ?_
    refine h_callVi hX dX8_hasBoy_6 (cv_RX8_46) rc_C13 (As := []) (st := [.int p0]) (fun _ h => c_Yard_boys h) rfl rfl (by decide) (Nat.le_of_ble_eq_true rfl) (fun a_1 => ?_)
    refine h_icmp_ge hX dX8_hasBoy_9 (tgt := 16) (by decide) (fun _ => ?_) (fun _ => ?_)
    · refine h_iconst hX dX8_hasBoy_16 ki_0 ?_
      exact h_ret hX (rv := some (.int 0)) dX8_hasBoy_17 rfl (fun h => h)
    · refine h_iconst hX dX8_hasBoy_12 ki_1 ?_
      refine h_goto hX dX8_hasBoy_13 (tgt := 17) (by decide) ?_
      exact h_ret hX (rv := some (.int 1)) dX8_hasBoy_17 rfl (fun h => h)
theorem c_Yard_hasBoy {p0 : Int32} {r : Int32} (h : f_Yard_hasBoy Y_clauses p0 = some r) : gMet B 1 yX8_hasBoy cX8_hasBoy 2 (some .boolean) [.ref (aC B 13), .int p0] (wdC B W_spillsNow W_drawn T_length T_at T_bytes D_cells D_clauses G_length G_code A_size A_chosen A_codes A_lengths A_stack Y_cells Y_clauses N_marbles N_chipped N_swallowed N_sweets N_day N_owners P_next P_kept P_hasImage P_image P_acts P_entries P_imageEntries S_fewest S_row S_strengths U_size U_found U_places U_kinds U_holds U_fitting U_tally L_letters L_firstCells L_secondCells L_firstBest L_secondBest W_refusals ++ fr) (some (.int r)) (wdC B W_spillsNow W_drawn T_length T_at T_bytes D_cells D_clauses G_length G_code A_size A_chosen A_codes A_lengths A_stack Y_cells Y_clauses N_marbles N_chipped N_swallowed N_sweets N_day N_owners P_next P_kept P_hasImage P_image P_acts P_entries P_imageEntries S_fewest S_row S_strengths U_size U_found U_places U_kinds U_holds U_fitting U_tally L_letters L_firstCells L_secondCells L_firstBest L_secondBest W_refusals ++ fr) :=
  gMet.of rfl (Nat.le_of_ble_eq_true rfl) (fun X hX hF => w_Yard_hasBoy hX r h hF)
set_option maxRecDepth 4000 in
theorem w_Main_aim {p0 : Int32} {p1 : Int32} (hX : gOk B X RX10 cX10_aim 3 6 (some .int)) : gH B X (fun r : (Int32 × (Nat → Int32) × (Nat → Int32)) => gFin X (some (.int r.1)) (wdC B W_spillsNow W_drawn T_length T_at T_bytes D_cells D_clauses G_length G_code A_size A_chosen A_codes A_lengths r.2.1 Y_cells Y_clauses N_marbles N_chipped N_swallowed N_sweets N_day N_owners P_next P_kept P_hasImage P_image P_acts P_entries P_imageEntries S_fewest S_row S_strengths U_size U_found U_places U_kinds U_holds U_fitting U_tally r.2.2 L_firstCells L_secondCells L_firstBest L_secondBest W_refusals ++ fr)) 0 [(0, .ref (aC B 0)), (1, .int p0), (2, .int p1)] [] (wdC B W_spillsNow W_drawn T_length T_at T_bytes D_cells D_clauses G_length G_code A_size A_chosen A_codes A_lengths A_stack Y_cells Y_clauses N_marbles N_chipped N_swallowed N_sweets N_day N_owners P_next P_kept P_hasImage P_image P_acts P_entries P_imageEntries S_fewest S_row S_strengths U_size U_found U_places U_kinds U_holds U_fitting U_tally L_letters L_firstCells L_secondCells L_firstBest L_secondBest W_refusals ++ fr) (f_Main_aim A_size A_chosen A_codes A_lengths A_stack Y_cells Y_clauses N_marbles N_chipped N_day N_owners L_letters p0 p1) := by
  unfold f_Main_aim
  refine h_aload_n hX dX10_aim_0 rfl rfl ?_
  refine get_RX10_42_C0 hX dX10_aim_1 ?_
  refine h_iload_n hX dX10_aim_4 rfl rfl ?_
  refine h_callVi hX dX10_aim_5 (cv_RX10_152) rc_C13 (As := [.int p0]) (st := []) (fun _ h => c_Yard_hasBoy h) rfl rfl (by decide) (Nat.le_of_ble_eq_true rfl) (fun a_1 => ?_)
  refine h_if_eq hX dX10_aim_8 (tgt := 22) (by decide) (fun _ => ?_) (fun _ => ?_)
  · refine h_iconst hX dX10_aim_22 ki_m1 ?_
    exact h_ret hX (rv := some (.int ((-1)))) dX10_aim_23 trivial (fun h => h)
  · refine h_aload_n hX dX10_aim_11 rfl rfl ?_
    refine get_RX10_42_C0 hX dX10_aim_12 ?_
    refine h_iload_n hX dX10_aim_15 rfl rfl ?_
    refine h_callVi hX dX10_aim_16 (cv_RX10_177) rc_C13 (As := [.int p1]) (st := []) (fun _ h => c_Yard_hasMarble h) rfl rfl (by decide) (Nat.le_of_ble_eq_true rfl) (fun a_2 => ?_)
    refine h_if_ne hX dX10_aim_19 (tgt := 24) (by decide) (fun _ => ?_) (fun _ => ?_)
    · refine h_aload_n hX dX10_aim_24 rfl rfl ?_
      refine get_RX10_85_C0 hX dX10_aim_25 ?_
      refine h_iload_n hX dX10_aim_28 rfl rfl ?_
      refine h_iload_n hX dX10_aim_29 rfl rfl ?_
      refine h_callVi hX dX10_aim_30 (cv_RX10_280) rc_C30 (As := [.int p0, .int p1]) (st := []) (fun _ h => c_Lane_nearestPower h) rfl rfl (by decide) (Nat.le_of_ble_eq_true rfl) (fun a_3 => ?_)
      exact h_ret hX (rv := some (.int a_3.1)) dX10_aim_33 trivial (fun h => h)
    · refine h_iconst hX dX10_aim_22 ki_m1 ?_
      exact h_ret hX (rv := some (.int ((-1)))) dX10_aim_23 trivial (fun h => h)
theorem c_Main_aim {p0 : Int32} {p1 : Int32} {r : (Int32 × (Nat → Int32) × (Nat → Int32))} (h : f_Main_aim A_size A_chosen A_codes A_lengths A_stack Y_cells Y_clauses N_marbles N_chipped N_day N_owners L_letters p0 p1 = some r) : gMet B 6 yX10_aim cX10_aim 3 (some .int) [.ref (aC B 0), .int p0, .int p1] (wdC B W_spillsNow W_drawn T_length T_at T_bytes D_cells D_clauses G_length G_code A_size A_chosen A_codes A_lengths A_stack Y_cells Y_clauses N_marbles N_chipped N_swallowed N_sweets N_day N_owners P_next P_kept P_hasImage P_image P_acts P_entries P_imageEntries S_fewest S_row S_strengths U_size U_found U_places U_kinds U_holds U_fitting U_tally L_letters L_firstCells L_secondCells L_firstBest L_secondBest W_refusals ++ fr) (some (.int r.1)) (wdC B W_spillsNow W_drawn T_length T_at T_bytes D_cells D_clauses G_length G_code A_size A_chosen A_codes A_lengths r.2.1 Y_cells Y_clauses N_marbles N_chipped N_swallowed N_sweets N_day N_owners P_next P_kept P_hasImage P_image P_acts P_entries P_imageEntries S_fewest S_row S_strengths U_size U_found U_places U_kinds U_holds U_fitting U_tally r.2.2 L_firstCells L_secondCells L_firstBest L_secondBest W_refusals ++ fr) :=
  gMet.of rfl (Nat.le_of_ble_eq_true rfl) (fun X hX hF => w_Main_aim hX r h hF)
set_option maxRecDepth 4000 in
theorem w_Yard_stands (hX : gOk B X RX8 cX8_stands 1 1 (some .boolean)) : gH B X (fun r : Int32 => gFin X (some (.int r)) (wdC B W_spillsNow W_drawn T_length T_at T_bytes D_cells D_clauses G_length G_code A_size A_chosen A_codes A_lengths A_stack Y_cells Y_clauses N_marbles N_chipped N_swallowed N_sweets N_day N_owners P_next P_kept P_hasImage P_image P_acts P_entries P_imageEntries S_fewest S_row S_strengths U_size U_found U_places U_kinds U_holds U_fitting U_tally L_letters L_firstCells L_secondCells L_firstBest L_secondBest W_refusals ++ fr)) 0 [(0, .ref (aC B 13))] [] (wdC B W_spillsNow W_drawn T_length T_at T_bytes D_cells D_clauses G_length G_code A_size A_chosen A_codes A_lengths A_stack Y_cells Y_clauses N_marbles N_chipped N_swallowed N_sweets N_day N_owners P_next P_kept P_hasImage P_image P_acts P_entries P_imageEntries S_fewest S_row S_strengths U_size U_found U_places U_kinds U_holds U_fitting U_tally L_letters L_firstCells L_secondCells L_firstBest L_secondBest W_refusals ++ fr) (f_Yard_stands Y_clauses) := by
  unfold f_Yard_stands
  refine h_aload_n hX dX8_stands_0 rfl rfl ?_
  refine h_callVi hX dX8_stands_1 (cv_RX8_50) rc_C13 (As := []) (st := []) (fun _ h => c_Yard_marbles h) rfl rfl (by decide) (Nat.le_of_ble_eq_true rfl) (fun a_1 => ?_)
  refine h_if_le hX dX8_stands_4 (tgt := 11) (by decide) (fun _ => ?_) (fun _ => ?_)
  · refine h_iconst hX dX8_stands_11 ki_0 ?_
    exact h_ret hX (rv := some (.int 0)) dX8_stands_12 rfl (fun h => h)
  · refine h_iconst hX dX8_stands_7 ki_1 ?_
    refine h_goto hX dX8_stands_8 (tgt := 12) (by decide) ?_
    exact h_ret hX (rv := some (.int 1)) dX8_stands_12 rfl (fun h => h)
theorem c_Yard_stands {r : Int32} (h : f_Yard_stands Y_clauses = some r) : gMet B 1 yX8_stands cX8_stands 1 (some .boolean) [.ref (aC B 13)] (wdC B W_spillsNow W_drawn T_length T_at T_bytes D_cells D_clauses G_length G_code A_size A_chosen A_codes A_lengths A_stack Y_cells Y_clauses N_marbles N_chipped N_swallowed N_sweets N_day N_owners P_next P_kept P_hasImage P_image P_acts P_entries P_imageEntries S_fewest S_row S_strengths U_size U_found U_places U_kinds U_holds U_fitting U_tally L_letters L_firstCells L_secondCells L_firstBest L_secondBest W_refusals ++ fr) (some (.int r)) (wdC B W_spillsNow W_drawn T_length T_at T_bytes D_cells D_clauses G_length G_code A_size A_chosen A_codes A_lengths A_stack Y_cells Y_clauses N_marbles N_chipped N_swallowed N_sweets N_day N_owners P_next P_kept P_hasImage P_image P_acts P_entries P_imageEntries S_fewest S_row S_strengths U_size U_found U_places U_kinds U_holds U_fitting U_tally L_letters L_firstCells L_secondCells L_firstBest L_secondBest W_refusals ++ fr) :=
  gMet.of rfl (Nat.le_of_ble_eq_true rfl) (fun X hX hF => w_Yard_stands hX r h hF)
set_option maxRecDepth 4000 in
theorem w_Yard_farms (hX : gOk B X RX8 cX8_farms 1 0 (some .int)) : gH B X (fun r : Int32 => gFin X (some (.int r)) (wdC B W_spillsNow W_drawn T_length T_at T_bytes D_cells D_clauses G_length G_code A_size A_chosen A_codes A_lengths A_stack Y_cells Y_clauses N_marbles N_chipped N_swallowed N_sweets N_day N_owners P_next P_kept P_hasImage P_image P_acts P_entries P_imageEntries S_fewest S_row S_strengths U_size U_found U_places U_kinds U_holds U_fitting U_tally L_letters L_firstCells L_secondCells L_firstBest L_secondBest W_refusals ++ fr)) 0 [(0, .ref (aC B 13))] [] (wdC B W_spillsNow W_drawn T_length T_at T_bytes D_cells D_clauses G_length G_code A_size A_chosen A_codes A_lengths A_stack Y_cells Y_clauses N_marbles N_chipped N_swallowed N_sweets N_day N_owners P_next P_kept P_hasImage P_image P_acts P_entries P_imageEntries S_fewest S_row S_strengths U_size U_found U_places U_kinds U_holds U_fitting U_tally L_letters L_firstCells L_secondCells L_firstBest L_secondBest W_refusals ++ fr) (f_Yard_farms Y_clauses) := by
  unfold f_Yard_farms
  refine h_aload_n hX dX8_farms_0 rfl rfl ?_
  refine get_RX8_18_C13 hX dX8_farms_1 ?_
  refine h_iconst hX dX8_farms_4 ki_3 ?_
  refine ald_C15 hX dX8_farms_5 ?_
  exact h_ret hX (rv := some (.int (Y_clauses (3 : Int32).toNatClampNeg))) dX8_farms_6 trivial (fun h => h)
theorem c_Yard_farms {r : Int32} (h : f_Yard_farms Y_clauses = some r) : gMet B 0 yX8_farms cX8_farms 1 (some .int) [.ref (aC B 13)] (wdC B W_spillsNow W_drawn T_length T_at T_bytes D_cells D_clauses G_length G_code A_size A_chosen A_codes A_lengths A_stack Y_cells Y_clauses N_marbles N_chipped N_swallowed N_sweets N_day N_owners P_next P_kept P_hasImage P_image P_acts P_entries P_imageEntries S_fewest S_row S_strengths U_size U_found U_places U_kinds U_holds U_fitting U_tally L_letters L_firstCells L_secondCells L_firstBest L_secondBest W_refusals ++ fr) (some (.int r)) (wdC B W_spillsNow W_drawn T_length T_at T_bytes D_cells D_clauses G_length G_code A_size A_chosen A_codes A_lengths A_stack Y_cells Y_clauses N_marbles N_chipped N_swallowed N_sweets N_day N_owners P_next P_kept P_hasImage P_image P_acts P_entries P_imageEntries S_fewest S_row S_strengths U_size U_found U_places U_kinds U_holds U_fitting U_tally L_letters L_firstCells L_secondCells L_firstBest L_secondBest W_refusals ++ fr) :=
  gMet.of rfl (Nat.le_of_ble_eq_true rfl) (fun X hX hF => w_Yard_farms hX r h hF)
set_option maxRecDepth 4000 in
theorem w_Yard_farmPlace {p0 : Int32} (hX : gOk B X RX8 cX8_farmPlace 2 1 (some .int)) : gH B X (fun r : Int32 => gFin X (some (.int r)) (wdC B W_spillsNow W_drawn T_length T_at T_bytes D_cells D_clauses G_length G_code A_size A_chosen A_codes A_lengths A_stack Y_cells Y_clauses N_marbles N_chipped N_swallowed N_sweets N_day N_owners P_next P_kept P_hasImage P_image P_acts P_entries P_imageEntries S_fewest S_row S_strengths U_size U_found U_places U_kinds U_holds U_fitting U_tally L_letters L_firstCells L_secondCells L_firstBest L_secondBest W_refusals ++ fr)) 0 [(0, .ref (aC B 13)), (1, .int p0)] [] (wdC B W_spillsNow W_drawn T_length T_at T_bytes D_cells D_clauses G_length G_code A_size A_chosen A_codes A_lengths A_stack Y_cells Y_clauses N_marbles N_chipped N_swallowed N_sweets N_day N_owners P_next P_kept P_hasImage P_image P_acts P_entries P_imageEntries S_fewest S_row S_strengths U_size U_found U_places U_kinds U_holds U_fitting U_tally L_letters L_firstCells L_secondCells L_firstBest L_secondBest W_refusals ++ fr) (f_Yard_farmPlace Y_cells p0) := by
  unfold f_Yard_farmPlace
  refine h_aload_n hX dX8_farmPlace_0 rfl rfl ?_
  refine h_iconst hX dX8_farmPlace_1 ki_3 ?_
  refine h_iload_n hX dX8_farmPlace_2 rfl rfl ?_
  refine h_iconst hX dX8_farmPlace_3 ki_0 ?_
  refine h_callVi hX dX8_farmPlace_4 (cv_RX8_60) rc_C13 (As := [.int 3, .int p0, .int 0]) (st := []) (fun _ h => c_Yard_cell h) rfl rfl (by decide) (Nat.le_of_ble_eq_true rfl) (fun a_1 => ?_)
  exact h_ret hX (rv := some (.int a_1)) dX8_farmPlace_7 trivial (fun h => h)
theorem c_Yard_farmPlace {p0 : Int32} {r : Int32} (h : f_Yard_farmPlace Y_cells p0 = some r) : gMet B 1 yX8_farmPlace cX8_farmPlace 2 (some .int) [.ref (aC B 13), .int p0] (wdC B W_spillsNow W_drawn T_length T_at T_bytes D_cells D_clauses G_length G_code A_size A_chosen A_codes A_lengths A_stack Y_cells Y_clauses N_marbles N_chipped N_swallowed N_sweets N_day N_owners P_next P_kept P_hasImage P_image P_acts P_entries P_imageEntries S_fewest S_row S_strengths U_size U_found U_places U_kinds U_holds U_fitting U_tally L_letters L_firstCells L_secondCells L_firstBest L_secondBest W_refusals ++ fr) (some (.int r)) (wdC B W_spillsNow W_drawn T_length T_at T_bytes D_cells D_clauses G_length G_code A_size A_chosen A_codes A_lengths A_stack Y_cells Y_clauses N_marbles N_chipped N_swallowed N_sweets N_day N_owners P_next P_kept P_hasImage P_image P_acts P_entries P_imageEntries S_fewest S_row S_strengths U_size U_found U_places U_kinds U_holds U_fitting U_tally L_letters L_firstCells L_secondCells L_firstBest L_secondBest W_refusals ++ fr) :=
  gMet.of rfl (Nat.le_of_ble_eq_true rfl) (fun X hX hF => w_Yard_farmPlace hX r h hF)
set_option maxRecDepth 4000 in
theorem w_Sky_isInhabited_L2 {v1 : Int32} (hX : gOk B X RX6 cX6_isInhabited 3 2 (some .boolean)) (s : Int32) : gH B X (Sum.elim (fun s : Int32 => gG B X 2 [(0, .ref (aC B 22)), (1, .int v1), (2, .int s)] [] (wdC B W_spillsNow W_drawn T_length T_at T_bytes D_cells D_clauses G_length G_code A_size A_chosen A_codes A_lengths A_stack Y_cells Y_clauses N_marbles N_chipped N_swallowed N_sweets N_day N_owners P_next P_kept P_hasImage P_image P_acts P_entries P_imageEntries S_fewest S_row S_strengths U_size U_found U_places U_kinds U_holds U_fitting U_tally L_letters L_firstCells L_secondCells L_firstBest L_secondBest W_refusals ++ fr)) (fun r : Int32 => gFin X (some (.int r)) (wdC B W_spillsNow W_drawn T_length T_at T_bytes D_cells D_clauses G_length G_code A_size A_chosen A_codes A_lengths A_stack Y_cells Y_clauses N_marbles N_chipped N_swallowed N_sweets N_day N_owners P_next P_kept P_hasImage P_image P_acts P_entries P_imageEntries S_fewest S_row S_strengths U_size U_found U_places U_kinds U_holds U_fitting U_tally L_letters L_firstCells L_secondCells L_firstBest L_secondBest W_refusals ++ fr))) 2 [(0, .ref (aC B 22)), (1, .int v1), (2, .int s)] [] (wdC B W_spillsNow W_drawn T_length T_at T_bytes D_cells D_clauses G_length G_code A_size A_chosen A_codes A_lengths A_stack Y_cells Y_clauses N_marbles N_chipped N_swallowed N_sweets N_day N_owners P_next P_kept P_hasImage P_image P_acts P_entries P_imageEntries S_fewest S_row S_strengths U_size U_found U_places U_kinds U_holds U_fitting U_tally L_letters L_firstCells L_secondCells L_firstBest L_secondBest W_refusals ++ fr) (f_Sky_isInhabited_L2 Y_cells Y_clauses v1 s) := by
  unfold f_Sky_isInhabited_L2
  refine h_iload_n hX dX6_isInhabited_2 rfl rfl ?_
  refine h_aload_n hX dX6_isInhabited_3 rfl rfl ?_
  refine get_RX6_15_C22 hX dX6_isInhabited_4 ?_
  refine h_callVi hX dX6_isInhabited_7 (cv_RX6_108) rc_C13 (As := []) (st := [.int s]) (fun _ h => c_Yard_boys h) rfl rfl (by decide) (Nat.le_of_ble_eq_true rfl) (fun a_1 => ?_)
  refine h_icmp_ge hX dX6_isInhabited_10 (tgt := 33) (by decide) (fun _ => ?_) (fun _ => ?_)
  · refine h_iconst hX dX6_isInhabited_33 ki_0 ?_
    exact h_ret hX (rv := some (.int 0)) dX6_isInhabited_34 rfl (fun h => h)
  · refine h_aload_n hX dX6_isInhabited_13 rfl rfl ?_
    refine get_RX6_15_C22 hX dX6_isInhabited_14 ?_
    refine h_iload_n hX dX6_isInhabited_17 rfl rfl ?_
    refine h_callVi hX dX6_isInhabited_18 (cv_RX6_53) rc_C13 (As := [.int s]) (st := []) (fun _ h => c_Yard_boyPlace h) rfl rfl (by decide) (Nat.le_of_ble_eq_true rfl) (fun a_2 => ?_)
    refine h_iload_n hX dX6_isInhabited_21 rfl rfl ?_
    refine h_icmp_ne hX dX6_isInhabited_22 (tgt := 27) (by decide) (fun _ => ?_) (fun _ => ?_)
    · refine h_iincc hX dX6_isInhabited_27 rfl ki_1 (by decide) (lv' := [(0, .ref (aC B 22)), (1, .int v1), (2, .int (s + 1))]) rfl ?_
      refine h_goto hX dX6_isInhabited_30 (tgt := 2) (by decide) ?_
      exact gH.some' (fun h => h)
    · refine h_iconst hX dX6_isInhabited_25 ki_1 ?_
      exact h_ret hX (rv := some (.int 1)) dX6_isInhabited_26 rfl (fun h => h)
set_option maxRecDepth 4000 in
theorem w_Sky_isInhabited {p0 : Int32} (hX : gOk B X RX6 cX6_isInhabited 3 2 (some .boolean)) : gH B X (fun r : Int32 => gFin X (some (.int r)) (wdC B W_spillsNow W_drawn T_length T_at T_bytes D_cells D_clauses G_length G_code A_size A_chosen A_codes A_lengths A_stack Y_cells Y_clauses N_marbles N_chipped N_swallowed N_sweets N_day N_owners P_next P_kept P_hasImage P_image P_acts P_entries P_imageEntries S_fewest S_row S_strengths U_size U_found U_places U_kinds U_holds U_fitting U_tally L_letters L_firstCells L_secondCells L_firstBest L_secondBest W_refusals ++ fr)) 0 [(0, .ref (aC B 22)), (1, .int p0)] [] (wdC B W_spillsNow W_drawn T_length T_at T_bytes D_cells D_clauses G_length G_code A_size A_chosen A_codes A_lengths A_stack Y_cells Y_clauses N_marbles N_chipped N_swallowed N_sweets N_day N_owners P_next P_kept P_hasImage P_image P_acts P_entries P_imageEntries S_fewest S_row S_strengths U_size U_found U_places U_kinds U_holds U_fitting U_tally L_letters L_firstCells L_secondCells L_firstBest L_secondBest W_refusals ++ fr) (f_Sky_isInhabited Y_cells Y_clauses p0) := by
  unfold f_Sky_isInhabited
  refine h_iconst hX dX6_isInhabited_0 ki_0 ?_
  refine h_istore_n hX dX6_isInhabited_1 rfl (by decide) (lv' := [(0, .ref (aC B 22)), (1, .int p0), (2, .int 0)]) rfl ?_
  exact gH.loop (lvf := fun z : Int32 => [(0, .ref (aC B 22)), (1, .int p0), (2, .int z)]) (wf := fun z : Int32 => wdC B W_spillsNow W_drawn T_length T_at T_bytes D_cells D_clauses G_length G_code A_size A_chosen A_codes A_lengths A_stack Y_cells Y_clauses N_marbles N_chipped N_swallowed N_sweets N_day N_owners P_next P_kept P_hasImage P_image P_acts P_entries P_imageEntries S_fewest S_row S_strengths U_size U_found U_places U_kinds U_holds U_fitting U_tally L_letters L_firstCells L_secondCells L_firstBest L_secondBest W_refusals ++ fr) (fun z => w_Sky_isInhabited_L2 hX z) 0
theorem c_Sky_isInhabited {p0 : Int32} {r : Int32} (h : f_Sky_isInhabited Y_cells Y_clauses p0 = some r) : gMet B 2 yX6_isInhabited cX6_isInhabited 3 (some .boolean) [.ref (aC B 22), .int p0] (wdC B W_spillsNow W_drawn T_length T_at T_bytes D_cells D_clauses G_length G_code A_size A_chosen A_codes A_lengths A_stack Y_cells Y_clauses N_marbles N_chipped N_swallowed N_sweets N_day N_owners P_next P_kept P_hasImage P_image P_acts P_entries P_imageEntries S_fewest S_row S_strengths U_size U_found U_places U_kinds U_holds U_fitting U_tally L_letters L_firstCells L_secondCells L_firstBest L_secondBest W_refusals ++ fr) (some (.int r)) (wdC B W_spillsNow W_drawn T_length T_at T_bytes D_cells D_clauses G_length G_code A_size A_chosen A_codes A_lengths A_stack Y_cells Y_clauses N_marbles N_chipped N_swallowed N_sweets N_day N_owners P_next P_kept P_hasImage P_image P_acts P_entries P_imageEntries S_fewest S_row S_strengths U_size U_found U_places U_kinds U_holds U_fitting U_tally L_letters L_firstCells L_secondCells L_firstBest L_secondBest W_refusals ++ fr) :=
  gMet.of rfl (Nat.le_of_ble_eq_true rfl) (fun X hX hF => w_Sky_isInhabited hX r h hF)
set_option maxRecDepth 4000 in
theorem w_Yard_wanted {p0 : Int32} (hX : gOk B X RX8 cX8_wanted 2 1 (some .int)) : gH B X (fun r : Int32 => gFin X (some (.int r)) (wdC B W_spillsNow W_drawn T_length T_at T_bytes D_cells D_clauses G_length G_code A_size A_chosen A_codes A_lengths A_stack Y_cells Y_clauses N_marbles N_chipped N_swallowed N_sweets N_day N_owners P_next P_kept P_hasImage P_image P_acts P_entries P_imageEntries S_fewest S_row S_strengths U_size U_found U_places U_kinds U_holds U_fitting U_tally L_letters L_firstCells L_secondCells L_firstBest L_secondBest W_refusals ++ fr)) 0 [(0, .ref (aC B 13)), (1, .int p0)] [] (wdC B W_spillsNow W_drawn T_length T_at T_bytes D_cells D_clauses G_length G_code A_size A_chosen A_codes A_lengths A_stack Y_cells Y_clauses N_marbles N_chipped N_swallowed N_sweets N_day N_owners P_next P_kept P_hasImage P_image P_acts P_entries P_imageEntries S_fewest S_row S_strengths U_size U_found U_places U_kinds U_holds U_fitting U_tally L_letters L_firstCells L_secondCells L_firstBest L_secondBest W_refusals ++ fr) (f_Yard_wanted Y_cells p0) := by
  unfold f_Yard_wanted
  refine h_aload_n hX dX8_wanted_0 rfl rfl ?_
  refine h_iconst hX dX8_wanted_1 ki_3 ?_
  refine h_iload_n hX dX8_wanted_2 rfl rfl ?_
  refine h_iconst hX dX8_wanted_3 ki_1 ?_
  refine h_callVi hX dX8_wanted_4 (cv_RX8_60) rc_C13 (As := [.int 3, .int p0, .int 1]) (st := []) (fun _ h => c_Yard_cell h) rfl rfl (by decide) (Nat.le_of_ble_eq_true rfl) (fun a_1 => ?_)
  exact h_ret hX (rv := some (.int a_1)) dX8_wanted_7 trivial (fun h => h)
theorem c_Yard_wanted {p0 : Int32} {r : Int32} (h : f_Yard_wanted Y_cells p0 = some r) : gMet B 1 yX8_wanted cX8_wanted 2 (some .int) [.ref (aC B 13), .int p0] (wdC B W_spillsNow W_drawn T_length T_at T_bytes D_cells D_clauses G_length G_code A_size A_chosen A_codes A_lengths A_stack Y_cells Y_clauses N_marbles N_chipped N_swallowed N_sweets N_day N_owners P_next P_kept P_hasImage P_image P_acts P_entries P_imageEntries S_fewest S_row S_strengths U_size U_found U_places U_kinds U_holds U_fitting U_tally L_letters L_firstCells L_secondCells L_firstBest L_secondBest W_refusals ++ fr) (some (.int r)) (wdC B W_spillsNow W_drawn T_length T_at T_bytes D_cells D_clauses G_length G_code A_size A_chosen A_codes A_lengths A_stack Y_cells Y_clauses N_marbles N_chipped N_swallowed N_sweets N_day N_owners P_next P_kept P_hasImage P_image P_acts P_entries P_imageEntries S_fewest S_row S_strengths U_size U_found U_places U_kinds U_holds U_fitting U_tally L_letters L_firstCells L_secondCells L_firstBest L_secondBest W_refusals ++ fr) :=
  gMet.of rfl (Nat.le_of_ble_eq_true rfl) (fun X hX hF => w_Yard_wanted hX r h hF)
