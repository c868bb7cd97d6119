variable {B : gB} {X : gX} {fr : va_W} {m_thrown : Int32} {m_size : Int32} {m_at : Int32} {m_wrong : Int32} {m_deep : Int32} {m_laws : Int32} {m_text : Int32} {m_readBoys : Int32} {m_readMarbles : Int32} {m_readFarms : Int32} {m_boys : Int32} {m_marbles : Int32} {m_farms : Int32} {m_holding : Int32} {m_spills : Int32} {m_acts : Int32} {m_draws : Int64} {m_bestRow : Int32} {m_bestMany : Int32} {m_noted : Int32} {m_hasImage : Int32} {m_tape : Nat → Int32} {m_code : Nat → Int32} {m_value : Nat → Int32} {m_codes : Nat → Int32} {m_clauses : Nat → Int32} {m_testFrom : Nat → Int32} {m_sumFrom : Nat → Int32} {m_sumTo : Nat → Int32} {m_letters : Nat → Int32} {m_stack : Nat → Int32} {m_readRule : Nat → Int32} {m_readBoy : Nat → Int32} {m_readMarble : Nat → Int32} {m_readFarm : Nat → Int32} {m_rule : Nat → Int32} {m_boy : Nat → Int32} {m_marble : Nat → Int32} {m_farm : Nat → Int32} {m_now : Nat → Int32} {m_refused : Nat → Int32} {m_kept : Nat → Int32} {m_notePlace : Nat → Int32} {m_noteKind : Nat → Int32} {m_noteIs : Nat → Int32} {m_toldBy : Nat → Int32} {m_image : Nat → Int32}
set_option maxRecDepth 4000 in
theorem w_M_isBoy {p0 : Int32} (hX : gOk B X RX11 cX11_isBoy 2 1 (some .boolean)) : gH B X (fun r : Int32 => gFin X (some (.int r)) (wdM B m_thrown m_size m_at m_wrong m_deep m_laws m_text m_readBoys m_readMarbles m_readFarms m_boys m_marbles m_farms m_holding m_spills m_acts m_draws m_bestRow m_bestMany m_noted m_hasImage m_tape m_code m_value m_codes m_clauses m_testFrom m_sumFrom m_sumTo m_letters m_stack m_readRule m_readBoy m_readMarble m_readFarm m_rule m_boy m_marble m_farm m_now m_refused m_kept m_notePlace m_noteKind m_noteIs m_toldBy m_image ++ fr)) 0 [(0, .ref (aM B 0)), (1, .int p0)] [] (wdM B m_thrown m_size m_at m_wrong m_deep m_laws m_text m_readBoys m_readMarbles m_readFarms m_boys m_marbles m_farms m_holding m_spills m_acts m_draws m_bestRow m_bestMany m_noted m_hasImage m_tape m_code m_value m_codes m_clauses m_testFrom m_sumFrom m_sumTo m_letters m_stack m_readRule m_readBoy m_readMarble m_readFarm m_rule m_boy m_marble m_farm m_now m_refused m_kept m_notePlace m_noteKind m_noteIs m_toldBy m_image ++ fr) (f_M_isBoy m_boys p0) := by
  unfold f_M_isBoy
  refine h_iload_n hX dX11_isBoy_0 rfl rfl ?_
  refine h_iconst hX dX11_isBoy_1 ki_0 ?_
  refine h_aload_n hX dX11_isBoy_2 rfl rfl ?_
  refine get_RX11_258_M0 hX dX11_isBoy_3 ?_
  refine h_iconst hX dX11_isBoy_6 ki_1 ?_
  refine h_isub hX dX11_isBoy_7 ?_
  refine h_callSi hX dX11_isBoy_8 (cs_RX11_208) (As := [.int p0, .int 0, .int (m_boys - 1)]) (st := []) (fun _ h => c_M_in h) rfl rfl (by decide) (Nat.le_of_ble_eq_true rfl) (fun a_1 => ?_)
  exact h_retz hX dX11_isBoy_11 (fun h => h)
theorem c_M_isBoy {p0 : Int32} {r : Int32} (h : f_M_isBoy m_boys p0 = some r) : gMet B 1 yX11_isBoy cX11_isBoy 2 (some .boolean) [.ref (aM B 0), .int p0] (wdM B m_thrown m_size m_at m_wrong m_deep m_laws m_text m_readBoys m_readMarbles m_readFarms m_boys m_marbles m_farms m_holding m_spills m_acts m_draws m_bestRow m_bestMany m_noted m_hasImage m_tape m_code m_value m_codes m_clauses m_testFrom m_sumFrom m_sumTo m_letters m_stack m_readRule m_readBoy m_readMarble m_readFarm m_rule m_boy m_marble m_farm m_now m_refused m_kept m_notePlace m_noteKind m_noteIs m_toldBy m_image ++ fr) (some (.int r)) (wdM B m_thrown m_size m_at m_wrong m_deep m_laws m_text m_readBoys m_readMarbles m_readFarms m_boys m_marbles m_farms m_holding m_spills m_acts m_draws m_bestRow m_bestMany m_noted m_hasImage m_tape m_code m_value m_codes m_clauses m_testFrom m_sumFrom m_sumTo m_letters m_stack m_readRule m_readBoy m_readMarble m_readFarm m_rule m_boy m_marble m_farm m_now m_refused m_kept m_notePlace m_noteKind m_noteIs m_toldBy m_image ++ fr) :=
  gMet.of rfl (Nat.le_of_ble_eq_true rfl) (fun X hX hF => w_M_isBoy hX r h hF)
set_option maxRecDepth 4000 in
theorem w_M_isMarble {p0 : Int32} (hX : gOk B X RX11 cX11_isMarble 2 1 (some .boolean)) : gH B X (fun r : Int32 => gFin X (some (.int r)) (wdM B m_thrown m_size m_at m_wrong m_deep m_laws m_text m_readBoys m_readMarbles m_readFarms m_boys m_marbles m_farms m_holding m_spills m_acts m_draws m_bestRow m_bestMany m_noted m_hasImage m_tape m_code m_value m_codes m_clauses m_testFrom m_sumFrom m_sumTo m_letters m_stack m_readRule m_readBoy m_readMarble m_readFarm m_rule m_boy m_marble m_farm m_now m_refused m_kept m_notePlace m_noteKind m_noteIs m_toldBy m_image ++ fr)) 0 [(0, .ref (aM B 0)), (1, .int p0)] [] (wdM B m_thrown m_size m_at m_wrong m_deep m_laws m_text m_readBoys m_readMarbles m_readFarms m_boys m_marbles m_farms m_holding m_spills m_acts m_draws m_bestRow m_bestMany m_noted m_hasImage m_tape m_code m_value m_codes m_clauses m_testFrom m_sumFrom m_sumTo m_letters m_stack m_readRule m_readBoy m_readMarble m_readFarm m_rule m_boy m_marble m_farm m_now m_refused m_kept m_notePlace m_noteKind m_noteIs m_toldBy m_image ++ fr) (f_M_isMarble m_marbles p0) := by
  unfold f_M_isMarble
  refine h_iload_n hX dX11_isMarble_0 rfl rfl ?_
  refine h_iconst hX dX11_isMarble_1 ki_0 ?_
  refine h_aload_n hX dX11_isMarble_2 rfl rfl ?_
  refine get_RX11_261_M0 hX dX11_isMarble_3 ?_
  refine h_iconst hX dX11_isMarble_6 ki_1 ?_
  refine h_isub hX dX11_isMarble_7 ?_
  refine h_callSi hX dX11_isMarble_8 (cs_RX11_208) (As := [.int p0, .int 0, .int (m_marbles - 1)]) (st := []) (fun _ h => c_M_in h) rfl rfl (by decide) (Nat.le_of_ble_eq_true rfl) (fun a_1 => ?_)
  exact h_retz hX dX11_isMarble_11 (fun h => h)
theorem c_M_isMarble {p0 : Int32} {r : Int32} (h : f_M_isMarble m_marbles p0 = some r) : gMet B 1 yX11_isMarble cX11_isMarble 2 (some .boolean) [.ref (aM B 0), .int p0] (wdM B m_thrown m_size m_at m_wrong m_deep m_laws m_text m_readBoys m_readMarbles m_readFarms m_boys m_marbles m_farms m_holding m_spills m_acts m_draws m_bestRow m_bestMany m_noted m_hasImage m_tape m_code m_value m_codes m_clauses m_testFrom m_sumFrom m_sumTo m_letters m_stack m_readRule m_readBoy m_readMarble m_readFarm m_rule m_boy m_marble m_farm m_now m_refused m_kept m_notePlace m_noteKind m_noteIs m_toldBy m_image ++ fr) (some (.int r)) (wdM B m_thrown m_size m_at m_wrong m_deep m_laws m_text m_readBoys m_readMarbles m_readFarms m_boys m_marbles m_farms m_holding m_spills m_acts m_draws m_bestRow m_bestMany m_noted m_hasImage m_tape m_code m_value m_codes m_clauses m_testFrom m_sumFrom m_sumTo m_letters m_stack m_readRule m_readBoy m_readMarble m_readFarm m_rule m_boy m_marble m_farm m_now m_refused m_kept m_notePlace m_noteKind m_noteIs m_toldBy m_image ++ fr) :=
  gMet.of rfl (Nat.le_of_ble_eq_true rfl) (fun X hX hF => w_M_isMarble hX r h hF)
set_option maxRecDepth 4000 in
theorem w_M_of {p0 : Int32} {p1 : Int32} (hX : gOk B X RX11 cX11_of 3 0 (some .int)) : gH B X (fun r : Int32 => gFin X (some (.int r)) (wdM B m_thrown m_size m_at m_wrong m_deep m_laws m_text m_readBoys m_readMarbles m_readFarms m_boys m_marbles m_farms m_holding m_spills m_acts m_draws m_bestRow m_bestMany m_noted m_hasImage m_tape m_code m_value m_codes m_clauses m_testFrom m_sumFrom m_sumTo m_letters m_stack m_readRule m_readBoy m_readMarble m_readFarm m_rule m_boy m_marble m_farm m_now m_refused m_kept m_notePlace m_noteKind m_noteIs m_toldBy m_image ++ fr)) 0 [(0, .ref (aM B 0)), (1, .int p0), (2, .int p1)] [] (wdM B m_thrown m_size m_at m_wrong m_deep m_laws m_text m_readBoys m_readMarbles m_readFarms m_boys m_marbles m_farms m_holding m_spills m_acts m_draws m_bestRow m_bestMany m_noted m_hasImage m_tape m_code m_value m_codes m_clauses m_testFrom m_sumFrom m_sumTo m_letters m_stack m_readRule m_readBoy m_readMarble m_readFarm m_rule m_boy m_marble m_farm m_now m_refused m_kept m_notePlace m_noteKind m_noteIs m_toldBy m_image ++ fr) (f_M_of m_marble p0 p1) := by
  unfold f_M_of
  refine h_aload_n hX dX11_of_0 rfl rfl ?_
  refine get_RX11_58_M0 hX dX11_of_1 ?_
  refine h_iconst hX dX11_of_4 ki_3 ?_
  refine h_iload_n hX dX11_of_5 rfl rfl ?_
  refine h_imul hX dX11_of_6 ?_
  refine h_iload_n hX dX11_of_7 rfl rfl ?_
  refine h_iadd hX dX11_of_8 ?_
  refine ald_M17 hX dX11_of_9 ?_
  exact h_ret hX (rv := some (.int (m_marble ((3 * p0) + p1 : Int32).toNatClampNeg))) dX11_of_10 trivial (fun h => h)
theorem c_M_of {p0 : Int32} {p1 : Int32} {r : Int32} (h : f_M_of m_marble p0 p1 = some r) : gMet B 0 yX11_of cX11_of 3 (some .int) [.ref (aM B 0), .int p0, .int p1] (wdM B m_thrown m_size m_at m_wrong m_deep m_laws m_text m_readBoys m_readMarbles m_readFarms m_boys m_marbles m_farms m_holding m_spills m_acts m_draws m_bestRow m_bestMany m_noted m_hasImage m_tape m_code m_value m_codes m_clauses m_testFrom m_sumFrom m_sumTo m_letters m_stack m_readRule m_readBoy m_readMarble m_readFarm m_rule m_boy m_marble m_farm m_now m_refused m_kept m_notePlace m_noteKind m_noteIs m_toldBy m_image ++ fr) (some (.int r)) (wdM B m_thrown m_size m_at m_wrong m_deep m_laws m_text m_readBoys m_readMarbles m_readFarms m_boys m_marbles m_farms m_holding m_spills m_acts m_draws m_bestRow m_bestMany m_noted m_hasImage m_tape m_code m_value m_codes m_clauses m_testFrom m_sumFrom m_sumTo m_letters m_stack m_readRule m_readBoy m_readMarble m_readFarm m_rule m_boy m_marble m_farm m_now m_refused m_kept m_notePlace m_noteKind m_noteIs m_toldBy m_image ++ fr) :=
  gMet.of rfl (Nat.le_of_ble_eq_true rfl) (fun X hX hF => w_M_of hX r h hF)
set_option maxRecDepth 4000 in
theorem w_M_handsOf_J32 {v1 : Int32} {v3 : Int32} {k0 : Int32} {k1 : Int32} (hX : gOk B X RX11 cX11_handsOf 4 0 (some .int)) : gH B X (Sum.elim (fun s : (Int32 × Int32) => gG B X 4 [(0, .ref (aM B 0)), (1, .int v1), (2, .int s.1), (3, .int s.2)] [] (wdM B m_thrown m_size m_at m_wrong m_deep m_laws m_text m_readBoys m_readMarbles m_readFarms m_boys m_marbles m_farms m_holding m_spills m_acts m_draws m_bestRow m_bestMany m_noted m_hasImage m_tape m_code m_value m_codes m_clauses m_testFrom m_sumFrom m_sumTo m_letters m_stack m_readRule m_readBoy m_readMarble m_readFarm m_rule m_boy m_marble m_farm m_now m_refused m_kept m_notePlace m_noteKind m_noteIs m_toldBy m_image ++ fr)) (fun r : Int32 => gFin X (some (.int r)) (wdM B m_thrown m_size m_at m_wrong m_deep m_laws m_text m_readBoys m_readMarbles m_readFarms m_boys m_marbles m_farms m_holding m_spills m_acts m_draws m_bestRow m_bestMany m_noted m_hasImage m_tape m_code m_value m_codes m_clauses m_testFrom m_sumFrom m_sumTo m_letters m_stack m_readRule m_readBoy m_readMarble m_readFarm m_rule m_boy m_marble m_farm m_now m_refused m_kept m_notePlace m_noteKind m_noteIs m_toldBy m_image ++ fr))) 32 [(0, .ref (aM B 0)), (1, .int v1), (3, .int v3)] [.int k1, .int k0] (wdM B m_thrown m_size m_at m_wrong m_deep m_laws m_text m_readBoys m_readMarbles m_readFarms m_boys m_marbles m_farms m_holding m_spills m_acts m_draws m_bestRow m_bestMany m_noted m_hasImage m_tape m_code m_value m_codes m_clauses m_testFrom m_sumFrom m_sumTo m_letters m_stack m_readRule m_readBoy m_readMarble m_readFarm m_rule m_boy m_marble m_farm m_now m_refused m_kept m_notePlace m_noteKind m_noteIs m_toldBy m_image ++ fr) (f_M_handsOf_J32 v3 k0 k1) := by
  unfold f_M_handsOf_J32
  refine h_ior hX dX11_handsOf_32 ?_
  refine gH.leti (fun v2_1 => ?_)
  refine h_istore_n hX dX11_handsOf_33 rfl (by decide) (lv' := [(0, .ref (aM B 0)), (1, .int v1), (2, .int v2_1), (3, .int v3)]) rfl ?_
  refine h_iincc hX dX11_handsOf_34 rfl ki_1 (by decide) (lv' := [(0, .ref (aM B 0)), (1, .int v1), (2, .int v2_1), (3, .int (v3 + 1))]) rfl ?_
  refine h_goto hX dX11_handsOf_37 (tgt := 4) (by decide) ?_
  exact gH.some' (fun h => h)
set_option maxRecDepth 4000 in
theorem w_M_handsOf_L4 {v1 : Int32} (hX : gOk B X RX11 cX11_handsOf 4 0 (some .int)) (s : (Int32 × Int32)) : gH B X (Sum.elim (fun s : (Int32 × Int32) => gG B X 4 [(0, .ref (aM B 0)), (1, .int v1), (2, .int s.1), (3, .int s.2)] [] (wdM B m_thrown m_size m_at m_wrong m_deep m_laws m_text m_readBoys m_readMarbles m_readFarms m_boys m_marbles m_farms m_holding m_spills m_acts m_draws m_bestRow m_bestMany m_noted m_hasImage m_tape m_code m_value m_codes m_clauses m_testFrom m_sumFrom m_sumTo m_letters m_stack m_readRule m_readBoy m_readMarble m_readFarm m_rule m_boy m_marble m_farm m_now m_refused m_kept m_notePlace m_noteKind m_noteIs m_toldBy m_image ++ fr)) (fun r : Int32 => gFin X (some (.int r)) (wdM B m_thrown m_size m_at m_wrong m_deep m_laws m_text m_readBoys m_readMarbles m_readFarms m_boys m_marbles m_farms m_holding m_spills m_acts m_draws m_bestRow m_bestMany m_noted m_hasImage m_tape m_code m_value m_codes m_clauses m_testFrom m_sumFrom m_sumTo m_letters m_stack m_readRule m_readBoy m_readMarble m_readFarm m_rule m_boy m_marble m_farm m_now m_refused m_kept m_notePlace m_noteKind m_noteIs m_toldBy m_image ++ fr))) 4 [(0, .ref (aM B 0)), (1, .int v1), (2, .int s.1), (3, .int s.2)] [] (wdM B m_thrown m_size m_at m_wrong m_deep m_laws m_text m_readBoys m_readMarbles m_readFarms m_boys m_marbles m_farms m_holding m_spills m_acts m_draws m_bestRow m_bestMany m_noted m_hasImage m_tape m_code m_value m_codes m_clauses m_testFrom m_sumFrom m_sumTo m_letters m_stack m_readRule m_readBoy m_readMarble m_readFarm m_rule m_boy m_marble m_farm m_now m_refused m_kept m_notePlace m_noteKind m_noteIs m_toldBy m_image ++ fr) (f_M_handsOf_L4 m_marbles m_now v1 s) := by
  unfold f_M_handsOf_L4
  refine h_iload_n hX dX11_handsOf_4 rfl rfl ?_
  refine h_aload_n hX dX11_handsOf_5 rfl rfl ?_
  refine get_RX11_261_M0 hX dX11_handsOf_6 ?_
  refine h_icmp_ge hX dX11_handsOf_9 (tgt := 40) (by decide) (fun _ => ?_) (fun _ => ?_)
  · refine h_iload_n hX dX11_handsOf_40 rfl rfl ?_
    exact h_ret hX (rv := some (.int s.1)) dX11_handsOf_41 trivial (fun h => h)
  · refine h_iload_n hX dX11_handsOf_12 rfl rfl ?_
    refine h_aload_n hX dX11_handsOf_13 rfl rfl ?_
    refine get_RX11_64_M0 hX dX11_handsOf_14 ?_
    refine h_iconst hX dX11_handsOf_17 ki_0 ?_
    refine h_iload_n hX dX11_handsOf_18 rfl rfl ?_
    refine h_iadd hX dX11_handsOf_19 ?_
    refine ald_M19 hX dX11_handsOf_20 ?_
    refine h_iload_n hX dX11_handsOf_21 rfl rfl ?_
    refine h_icmp_ne hX dX11_handsOf_22 (tgt := 31) (by decide) (fun _ => ?_) (fun _ => ?_)
    · refine h_iconst hX dX11_handsOf_31 ki_0 ?_
      refine gH.dead [0, 1, 3] rfl ?_
      exact w_M_handsOf_J32 hX
    · refine h_iconst hX dX11_handsOf_25 ki_1 ?_
      refine h_iload_n hX dX11_handsOf_26 rfl rfl ?_
      refine h_ishl hX dX11_handsOf_27 ?_
      refine h_goto hX dX11_handsOf_28 (tgt := 32) (by decide) ?_
      refine gH.dead [0, 1, 3] rfl ?_
      exact w_M_handsOf_J32 hX
set_option maxRecDepth 4000 in
theorem w_M_handsOf {p0 : Int32} (hX : gOk B X RX11 cX11_handsOf 4 0 (some .int)) : gH B X (fun r : Int32 => gFin X (some (.int r)) (wdM B m_thrown m_size m_at m_wrong m_deep m_laws m_text m_readBoys m_readMarbles m_readFarms m_boys m_marbles m_farms m_holding m_spills m_acts m_draws m_bestRow m_bestMany m_noted m_hasImage m_tape m_code m_value m_codes m_clauses m_testFrom m_sumFrom m_sumTo m_letters m_stack m_readRule m_readBoy m_readMarble m_readFarm m_rule m_boy m_marble m_farm m_now m_refused m_kept m_notePlace m_noteKind m_noteIs m_toldBy m_image ++ fr)) 0 [(0, .ref (aM B 0)), (1, .int p0)] [] (wdM B m_thrown m_size m_at m_wrong m_deep m_laws m_text m_readBoys m_readMarbles m_readFarms m_boys m_marbles m_farms m_holding m_spills m_acts m_draws m_bestRow m_bestMany m_noted m_hasImage m_tape m_code m_value m_codes m_clauses m_testFrom m_sumFrom m_sumTo m_letters m_stack m_readRule m_readBoy m_readMarble m_readFarm m_rule m_boy m_marble m_farm m_now m_refused m_kept m_notePlace m_noteKind m_noteIs m_toldBy m_image ++ fr) (f_M_handsOf m_marbles m_now p0) := by
  unfold f_M_handsOf
  refine h_iconst hX dX11_handsOf_0 ki_0 ?_
  refine h_istore_n hX dX11_handsOf_1 rfl (by decide) (lv' := [(0, .ref (aM B 0)), (1, .int p0), (2, .int 0)]) rfl ?_
  refine h_iconst hX dX11_handsOf_2 ki_0 ?_
  refine h_istore_n hX dX11_handsOf_3 rfl (by decide) (lv' := [(0, .ref (aM B 0)), (1, .int p0), (2, .int 0), (3, .int 0)]) rfl ?_
  exact gH.loop (lvf := fun z : (Int32 × Int32) => [(0, .ref (aM B 0)), (1, .int p0), (2, .int z.1), (3, .int z.2)]) (wf := fun z : (Int32 × Int32) => wdM B m_thrown m_size m_at m_wrong m_deep m_laws m_text m_readBoys m_readMarbles m_readFarms m_boys m_marbles m_farms m_holding m_spills m_acts m_draws m_bestRow m_bestMany m_noted m_hasImage m_tape m_code m_value m_codes m_clauses m_testFrom m_sumFrom m_sumTo m_letters m_stack m_readRule m_readBoy m_readMarble m_readFarm m_rule m_boy m_marble m_farm m_now m_refused m_kept m_notePlace m_noteKind m_noteIs m_toldBy m_image ++ fr) (fun z => w_M_handsOf_L4 hX z) (0, 0)
theorem c_M_handsOf {p0 : Int32} {r : Int32} (h : f_M_handsOf m_marbles m_now p0 = some r) : gMet B 0 yX11_handsOf cX11_handsOf 4 (some .int) [.ref (aM B 0), .int p0] (wdM B m_thrown m_size m_at m_wrong m_deep m_laws m_text m_readBoys m_readMarbles m_readFarms m_boys m_marbles m_farms m_holding m_spills m_acts m_draws m_bestRow m_bestMany m_noted m_hasImage m_tape m_code m_value m_codes m_clauses m_testFrom m_sumFrom m_sumTo m_letters m_stack m_readRule m_readBoy m_readMarble m_readFarm m_rule m_boy m_marble m_farm m_now m_refused m_kept m_notePlace m_noteKind m_noteIs m_toldBy m_image ++ fr) (some (.int r)) (wdM B m_thrown m_size m_at m_wrong m_deep m_laws m_text m_readBoys m_readMarbles m_readFarms m_boys m_marbles m_farms m_holding m_spills m_acts m_draws m_bestRow m_bestMany m_noted m_hasImage m_tape m_code m_value m_codes m_clauses m_testFrom m_sumFrom m_sumTo m_letters m_stack m_readRule m_readBoy m_readMarble m_readFarm m_rule m_boy m_marble m_farm m_now m_refused m_kept m_notePlace m_noteKind m_noteIs m_toldBy m_image ++ fr) :=
  gMet.of rfl (Nat.le_of_ble_eq_true rfl) (fun X hX hF => w_M_handsOf hX r h hF)
set_option maxRecDepth 4000 in
theorem w_M_workOut_J165 {v1 : Int32} {v3 : Int32} {v4 : Int32} {v5 : Int32} (hX : gOk B X RX11 cX11_workOut 6 3 (some .int)) : gH B X (Sum.elim (fun s : (Int32 × Int32 × (Nat → Int32)) => gG B X 12 [(0, .ref (aM B 0)), (1, .int v1), (3, .int v3), (4, .int s.1), (5, .int s.2.1)] [] (wdM B m_thrown m_size m_at m_wrong m_deep m_laws m_text m_readBoys m_readMarbles m_readFarms m_boys m_marbles m_farms m_holding m_spills m_acts m_draws m_bestRow m_bestMany m_noted m_hasImage m_tape m_code m_value m_codes m_clauses m_testFrom m_sumFrom m_sumTo m_letters s.2.2 m_readRule m_readBoy m_readMarble m_readFarm m_rule m_boy m_marble m_farm m_now m_refused m_kept m_notePlace m_noteKind m_noteIs m_toldBy m_image ++ fr)) (fun r : (Int32 × (Nat → Int32)) => gFin X (some (.int r.1)) (wdM B m_thrown m_size m_at m_wrong m_deep m_laws m_text m_readBoys m_readMarbles m_readFarms m_boys m_marbles m_farms m_holding m_spills m_acts m_draws m_bestRow m_bestMany m_noted m_hasImage m_tape m_code m_value m_codes m_clauses m_testFrom m_sumFrom m_sumTo m_letters r.2 m_readRule m_readBoy m_readMarble m_readFarm m_rule m_boy m_marble m_farm m_now m_refused m_kept m_notePlace m_noteKind m_noteIs m_toldBy m_image ++ fr))) 165 [(0, .ref (aM B 0)), (1, .int v1), (3, .int v3), (4, .int v4), (5, .int v5)] [] (wdM B m_thrown m_size m_at m_wrong m_deep m_laws m_text m_readBoys m_readMarbles m_readFarms m_boys m_marbles m_farms m_holding m_spills m_acts m_draws m_bestRow m_bestMany m_noted m_hasImage m_tape m_code m_value m_codes m_clauses m_testFrom m_sumFrom m_sumTo m_letters m_stack m_readRule m_readBoy m_readMarble m_readFarm m_rule m_boy m_marble m_farm m_now m_refused m_kept m_notePlace m_noteKind m_noteIs m_toldBy m_image ++ fr) (f_M_workOut_J165 m_stack v4 v5) := by
  unfold f_M_workOut_J165
  refine h_iincc hX dX11_workOut_165 rfl ki_1 (by decide) (lv' := [(0, .ref (aM B 0)), (1, .int v1), (3, .int v3), (4, .int v4), (5, .int (v5 + 1))]) rfl ?_
  refine h_goto hX dX11_workOut_168 (tgt := 12) (by decide) ?_
  exact gH.some' (fun h => h)
set_option maxRecDepth 4000 in
theorem w_M_workOut_J83 {v1 : Int32} {v3 : Int32} {v4 : Int32} {v5 : Int32} {k1 : Int32} {k2 : Int32} (hX : gOk B X RX11 cX11_workOut 6 3 (some .int)) : gH B X (Sum.elim (fun s : (Int32 × Int32 × (Nat → Int32)) => gG B X 12 [(0, .ref (aM B 0)), (1, .int v1), (3, .int v3), (4, .int s.1), (5, .int s.2.1)] [] (wdM B m_thrown m_size m_at m_wrong m_deep m_laws m_text m_readBoys m_readMarbles m_readFarms m_boys m_marbles m_farms m_holding m_spills m_acts m_draws m_bestRow m_bestMany m_noted m_hasImage m_tape m_code m_value m_codes m_clauses m_testFrom m_sumFrom m_sumTo m_letters s.2.2 m_readRule m_readBoy m_readMarble m_readFarm m_rule m_boy m_marble m_farm m_now m_refused m_kept m_notePlace m_noteKind m_noteIs m_toldBy m_image ++ fr)) (fun r : (Int32 × (Nat → Int32)) => gFin X (some (.int r.1)) (wdM B m_thrown m_size m_at m_wrong m_deep m_laws m_text m_readBoys m_readMarbles m_readFarms m_boys m_marbles m_farms m_holding m_spills m_acts m_draws m_bestRow m_bestMany m_noted m_hasImage m_tape m_code m_value m_codes m_clauses m_testFrom m_sumFrom m_sumTo m_letters r.2 m_readRule m_readBoy m_readMarble m_readFarm m_rule m_boy m_marble m_farm m_now m_refused m_kept m_notePlace m_noteKind m_noteIs m_toldBy m_image ++ fr))) 83 [(0, .ref (aM B 0)), (1, .int v1), (3, .int v3), (4, .int v4), (5, .int v5)] [.int k2, .int k1, .ref (aM B 10)] (wdM B m_thrown m_size m_at m_wrong m_deep m_laws m_text m_readBoys m_readMarbles m_readFarms m_boys m_marbles m_farms m_holding m_spills m_acts m_draws m_bestRow m_bestMany m_noted m_hasImage m_tape m_code m_value m_codes m_clauses m_testFrom m_sumFrom m_sumTo m_letters m_stack m_readRule m_readBoy m_readMarble m_readFarm m_rule m_boy m_marble m_farm m_now m_refused m_kept m_notePlace m_noteKind m_noteIs m_toldBy m_image ++ fr) (f_M_workOut_J83 m_stack v4 v5 k1 k2) := by
  unfold f_M_workOut_J83
  refine ast_M10 hX dX11_workOut_83 ?_
  refine gH.letw (w := fun y => wdM B m_thrown m_size m_at m_wrong m_deep m_laws m_text m_readBoys m_readMarbles m_readFarms m_boys m_marbles m_farms m_holding m_spills m_acts m_draws m_bestRow m_bestMany m_noted m_hasImage m_tape m_code m_value m_codes m_clauses m_testFrom m_sumFrom m_sumTo m_letters y m_readRule m_readBoy m_readMarble m_readFarm m_rule m_boy m_marble m_farm m_now m_refused m_kept m_notePlace m_noteKind m_noteIs m_toldBy m_image ++ fr) (fun m_stack_2 => ?_)
  refine h_iincc hX dX11_workOut_84 rfl ki_1 (by decide) (lv' := [(0, .ref (aM B 0)), (1, .int v1), (3, .int v3), (4, .int (v4 + 1)), (5, .int v5)]) rfl ?_
  refine h_goto hX dX11_workOut_87 (tgt := 165) (by decide) ?_
  exact w_M_workOut_J165 hX
set_option maxRecDepth 4000 in
theorem w_M_workOut_J45 {v1 : Int32} {v3 : Int32} {v4 : Int32} {v5 : Int32} (hX : gOk B X RX11 cX11_workOut 6 3 (some .int)) : gH B X (Sum.elim (fun s : (Int32 × Int32 × (Nat → Int32)) => gG B X 12 [(0, .ref (aM B 0)), (1, .int v1), (3, .int v3), (4, .int s.1), (5, .int s.2.1)] [] (wdM B m_thrown m_size m_at m_wrong m_deep m_laws m_text m_readBoys m_readMarbles m_readFarms m_boys m_marbles m_farms m_holding m_spills m_acts m_draws m_bestRow m_bestMany m_noted m_hasImage m_tape m_code m_value m_codes m_clauses m_testFrom m_sumFrom m_sumTo m_letters s.2.2 m_readRule m_readBoy m_readMarble m_readFarm m_rule m_boy m_marble m_farm m_now m_refused m_kept m_notePlace m_noteKind m_noteIs m_toldBy m_image ++ fr)) (fun r : (Int32 × (Nat → Int32)) => gFin X (some (.int r.1)) (wdM B m_thrown m_size m_at m_wrong m_deep m_laws m_text m_readBoys m_readMarbles m_readFarms m_boys m_marbles m_farms m_holding m_spills m_acts m_draws m_bestRow m_bestMany m_noted m_hasImage m_tape m_code m_value m_codes m_clauses m_testFrom m_sumFrom m_sumTo m_letters r.2 m_readRule m_readBoy m_readMarble m_readFarm m_rule m_boy m_marble m_farm m_now m_refused m_kept m_notePlace m_noteKind m_noteIs m_toldBy m_image ++ fr))) 45 [(0, .ref (aM B 0)), (1, .int v1), (3, .int v3), (4, .int v4), (5, .int v5)] [] (wdM B m_thrown m_size m_at m_wrong m_deep m_laws m_text m_readBoys m_readMarbles m_readFarms m_boys m_marbles m_farms m_holding m_spills m_acts m_draws m_bestRow m_bestMany m_noted m_hasImage m_tape m_code m_value m_codes m_clauses m_testFrom m_sumFrom m_sumTo m_letters m_stack m_readRule m_readBoy m_readMarble m_readFarm m_rule m_boy m_marble m_farm m_now m_refused m_kept m_notePlace m_noteKind m_noteIs m_toldBy m_image ++ fr) (f_M_workOut_J45 m_code m_value m_letters m_stack v4 v5) := by
  unfold f_M_workOut_J45
  refine h_aload_n hX dX11_workOut_45 rfl rfl ?_
  refine get_RX11_37_M0 hX dX11_workOut_46 ?_
  refine h_iload hX dX11_workOut_49 rfl ?_
  refine h_aload_n hX dX11_workOut_51 rfl rfl ?_
  refine get_RX11_13_M0 hX dX11_workOut_52 ?_
  refine h_iload hX dX11_workOut_55 rfl ?_
  refine ald_M2 hX dX11_workOut_57 ?_
  refine h_if_ne hX dX11_workOut_58 (tgt := 71) (by decide) (fun _ => ?_) (fun _ => ?_)
  · refine h_aload_n hX dX11_workOut_71 rfl rfl ?_
    refine get_RX11_34_M0 hX dX11_workOut_72 ?_
    refine h_aload_n hX dX11_workOut_75 rfl rfl ?_
    refine get_RX11_16_M0 hX dX11_workOut_76 ?_
    refine h_iload hX dX11_workOut_79 rfl ?_
    refine ald_M3 hX dX11_workOut_81 ?_
    refine ald_M9 hX dX11_workOut_82 ?_
    exact w_M_workOut_J83 hX
  · refine h_aload_n hX dX11_workOut_61 rfl rfl ?_
    refine get_RX11_16_M0 hX dX11_workOut_62 ?_
    refine h_iload hX dX11_workOut_65 rfl ?_
    refine ald_M3 hX dX11_workOut_67 ?_
    refine h_goto hX dX11_workOut_68 (tgt := 83) (by decide) ?_
    exact w_M_workOut_J83 hX
set_option maxRecDepth 4000 in
theorem w_M_workOut_L12 {v1 : Int32} {v3 : Int32} (hX : gOk B X RX11 cX11_workOut 6 3 (some .int)) (s : (Int32 × Int32 × (Nat → Int32))) : gH B X (Sum.elim (fun s : (Int32 × Int32 × (Nat → Int32)) => gG B X 12 [(0, .ref (aM B 0)), (1, .int v1), (3, .int v3), (4, .int s.1), (5, .int s.2.1)] [] (wdM B m_thrown m_size m_at m_wrong m_deep m_laws m_text m_readBoys m_readMarbles m_readFarms m_boys m_marbles m_farms m_holding m_spills m_acts m_draws m_bestRow m_bestMany m_noted m_hasImage m_tape m_code m_value m_codes m_clauses m_testFrom m_sumFrom m_sumTo m_letters s.2.2 m_readRule m_readBoy m_readMarble m_readFarm m_rule m_boy m_marble m_farm m_now m_refused m_kept m_notePlace m_noteKind m_noteIs m_toldBy m_image ++ fr)) (fun r : (Int32 × (Nat → Int32)) => gFin X (some (.int r.1)) (wdM B m_thrown m_size m_at m_wrong m_deep m_laws m_text m_readBoys m_readMarbles m_readFarms m_boys m_marbles m_farms m_holding m_spills m_acts m_draws m_bestRow m_bestMany m_noted m_hasImage m_tape m_code m_value m_codes m_clauses m_testFrom m_sumFrom m_sumTo m_letters r.2 m_readRule m_readBoy m_readMarble m_readFarm m_rule m_boy m_marble m_farm m_now m_refused m_kept m_notePlace m_noteKind m_noteIs m_toldBy m_image ++ fr))) 12 [(0, .ref (aM B 0)), (1, .int v1), (3, .int v3), (4, .int s.1), (5, .int s.2.1)] [] (wdM B m_thrown m_size m_at m_wrong m_deep m_laws m_text m_readBoys m_readMarbles m_readFarms m_boys m_marbles m_farms m_holding m_spills m_acts m_draws m_bestRow m_bestMany m_noted m_hasImage m_tape m_code m_value m_codes m_clauses m_testFrom m_sumFrom m_sumTo m_letters s.2.2 m_readRule m_readBoy m_readMarble m_readFarm m_rule m_boy m_marble m_farm m_now m_refused m_kept m_notePlace m_noteKind m_noteIs m_toldBy m_image ++ fr) (f_M_workOut_L12 m_code m_value m_letters v1 v3 s) := by
  unfold f_M_workOut_L12
  refine h_iload hX dX11_workOut_12 rfl ?_
  refine h_sipush hX dX11_workOut_14 ks_520 ?_
  refine h_iload_n hX dX11_workOut_17 rfl rfl ?_
  refine h_imul hX dX11_workOut_18 ?_
  refine h_iload_n hX dX11_workOut_19 rfl rfl ?_
  refine h_iadd hX dX11_workOut_20 ?_
  refine h_icmp_ge hX dX11_workOut_21 (tgt := 171) (by decide) (fun _ => ?_) (fun _ => ?_)
  · refine gH.inr ?_
    refine h_aload_n hX dX11_workOut_171 rfl rfl ?_
    refine get_RX11_37_M0 hX dX11_workOut_172 ?_
    refine h_iconst hX dX11_workOut_175 ki_0 ?_
    refine ald_M10 hX dX11_workOut_176 ?_
    exact h_ret hX (rv := some (.int (s.2.2 (0 : Int32).toNatClampNeg))) dX11_workOut_177 trivial (fun h => h)
  · refine h_aload_n hX dX11_workOut_24 rfl rfl ?_
    refine get_RX11_13_M0 hX dX11_workOut_25 ?_
    refine h_iload hX dX11_workOut_28 rfl ?_
    refine ald_M2 hX dX11_workOut_30 ?_
    refine h_if_eq hX dX11_workOut_31 (tgt := 45) (by decide) (fun _ => ?_) (fun _ => ?_)
    · exact w_M_workOut_J45 hX
    · refine h_aload_n hX dX11_workOut_34 rfl rfl ?_
      refine get_RX11_13_M0 hX dX11_workOut_35 ?_
      refine h_iload hX dX11_workOut_38 rfl ?_
      refine ald_M2 hX dX11_workOut_40 ?_
      refine h_iconst hX dX11_workOut_41 ki_1 ?_
      refine h_icmp_ne hX dX11_workOut_42 (tgt := 90) (by decide) (fun _ => ?_) (fun _ => ?_)
      · refine h_aload_n hX dX11_workOut_90 rfl rfl ?_
        refine get_RX11_13_M0 hX dX11_workOut_91 ?_
        refine h_iload hX dX11_workOut_94 rfl ?_
        refine ald_M2 hX dX11_workOut_96 ?_
        refine h_bipush hX dX11_workOut_97 kb_9 ?_
        refine h_icmp_ne hX dX11_workOut_99 (tgt := 125) (by decide) (fun _ => ?_) (fun _ => ?_)
        · refine h_iincc hX dX11_workOut_125 rfl ki_m1 (by decide) (lv' := [(0, .ref (aM B 0)), (1, .int v1), (3, .int v3), (4, .int (s.1 + (-1))), (5, .int s.2.1)]) rfl ?_
          refine h_aload_n hX dX11_workOut_128 rfl rfl ?_
          refine get_RX11_37_M0 hX dX11_workOut_129 ?_
          refine h_iload hX dX11_workOut_132 rfl ?_
          refine h_iconst hX dX11_workOut_134 ki_1 ?_
          refine h_isub hX dX11_workOut_135 ?_
          refine h_aload_n hX dX11_workOut_136 rfl rfl ?_
          refine get_RX11_13_M0 hX dX11_workOut_137 ?_
          refine h_iload hX dX11_workOut_140 rfl ?_
          refine ald_M2 hX dX11_workOut_142 ?_
          refine h_aload_n hX dX11_workOut_143 rfl rfl ?_
          refine get_RX11_37_M0 hX dX11_workOut_144 ?_
          refine h_iload hX dX11_workOut_147 rfl ?_
          refine h_iconst hX dX11_workOut_149 ki_1 ?_
          refine h_isub hX dX11_workOut_150 ?_
          refine ald_M10 hX dX11_workOut_151 ?_
          refine h_i2l hX dX11_workOut_152 ?_
          refine h_aload_n hX dX11_workOut_153 rfl rfl ?_
          refine get_RX11_37_M0 hX dX11_workOut_154 ?_
          refine h_iload hX dX11_workOut_157 rfl ?_
          refine ald_M10 hX dX11_workOut_159 ?_
          refine h_i2l hX dX11_workOut_160 ?_
          refine h_callSi hX dX11_workOut_161 (cs_RX11_200) (As := [.int (m_code s.2.1.toNatClampNeg), .long ((s.2.2 ((s.1 + (-1)) - 1 : Int32).toNatClampNeg : Int32).toInt64), .long ((s.2.2 (s.1 + (-1) : Int32).toNatClampNeg : Int32).toInt64)]) (st := [.int ((s.1 + (-1)) - 1), .ref (aM B 10)]) (fun _ h => c_M_worked h) rfl rfl (by decide) (Nat.le_of_ble_eq_true rfl) (fun a_6 => ?_)
          refine ast_M10 hX dX11_workOut_164 ?_
          refine gH.letw (w := fun y => wdM B m_thrown m_size m_at m_wrong m_deep m_laws m_text m_readBoys m_readMarbles m_readFarms m_boys m_marbles m_farms m_holding m_spills m_acts m_draws m_bestRow m_bestMany m_noted m_hasImage m_tape m_code m_value m_codes m_clauses m_testFrom m_sumFrom m_sumTo m_letters y m_readRule m_readBoy m_readMarble m_readFarm m_rule m_boy m_marble m_farm m_now m_refused m_kept m_notePlace m_noteKind m_noteIs m_toldBy m_image ++ fr) (fun m_stack_7 => ?_)
          exact w_M_workOut_J165 hX
        · refine h_aload_n hX dX11_workOut_102 rfl rfl ?_
          refine get_RX11_37_M0 hX dX11_workOut_103 ?_
          refine h_iload hX dX11_workOut_106 rfl ?_
          refine h_iconst hX dX11_workOut_108 ki_1 ?_
          refine h_isub hX dX11_workOut_109 ?_
          refine h_iconst hX dX11_workOut_110 ki_1 ?_
          refine h_aload_n hX dX11_workOut_111 rfl rfl ?_
          refine get_RX11_37_M0 hX dX11_workOut_112 ?_
          refine h_iload hX dX11_workOut_115 rfl ?_
          refine h_iconst hX dX11_workOut_117 ki_1 ?_
          refine h_isub hX dX11_workOut_118 ?_
          refine ald_M10 hX dX11_workOut_119 ?_
          refine h_isub hX dX11_workOut_120 ?_
          refine ast_M10 hX dX11_workOut_121 ?_
          refine gH.letw (w := fun y => wdM B m_thrown m_size m_at m_wrong m_deep m_laws m_text m_readBoys m_readMarbles m_readFarms m_boys m_marbles m_farms m_holding m_spills m_acts m_draws m_bestRow m_bestMany m_noted m_hasImage m_tape m_code m_value m_codes m_clauses m_testFrom m_sumFrom m_sumTo m_letters y m_readRule m_readBoy m_readMarble m_readFarm m_rule m_boy m_marble m_farm m_now m_refused m_kept m_notePlace m_noteKind m_noteIs m_toldBy m_image ++ fr) (fun m_stack_8 => ?_)
          refine h_goto hX dX11_workOut_122 (tgt := 165) (by decide) ?_
          exact w_M_workOut_J165 hX
      · exact w_M_workOut_J45 hX
set_option maxRecDepth 4000 in
theorem w_M_workOut {p0 : Int32} {p1 : Int32} {p2 : Int32} (hX : gOk B X RX11 cX11_workOut 6 3 (some .int)) : gH B X (fun r : (Int32 × (Nat → Int32)) => gFin X (some (.int r.1)) (wdM B m_thrown m_size m_at m_wrong m_deep m_laws m_text m_readBoys m_readMarbles m_readFarms m_boys m_marbles m_farms m_holding m_spills m_acts m_draws m_bestRow m_bestMany m_noted m_hasImage m_tape m_code m_value m_codes m_clauses m_testFrom m_sumFrom m_sumTo m_letters r.2 m_readRule m_readBoy m_readMarble m_readFarm m_rule m_boy m_marble m_farm m_now m_refused m_kept m_notePlace m_noteKind m_noteIs m_toldBy m_image ++ fr)) 0 [(0, .ref (aM B 0)), (1, .int p0), (2, .int p1), (3, .int p2)] [] (wdM B m_thrown m_size m_at m_wrong m_deep m_laws m_text m_readBoys m_readMarbles m_readFarms m_boys m_marbles m_farms m_holding m_spills m_acts m_draws m_bestRow m_bestMany m_noted m_hasImage m_tape m_code m_value m_codes m_clauses m_testFrom m_sumFrom m_sumTo m_letters m_stack m_readRule m_readBoy m_readMarble m_readFarm m_rule m_boy m_marble m_farm m_now m_refused m_kept m_notePlace m_noteKind m_noteIs m_toldBy m_image ++ fr) (f_M_workOut m_code m_value m_letters m_stack p0 p1 p2) := by
  unfold f_M_workOut
  refine h_iconst hX dX11_workOut_0 ki_0 ?_
  refine h_istore hX dX11_workOut_1 (by decide) (lv' := [(0, .ref (aM B 0)), (1, .int p0), (2, .int p1), (3, .int p2), (4, .int 0)]) rfl ?_
  refine h_sipush hX dX11_workOut_3 ks_520 ?_
  refine h_iload_n hX dX11_workOut_6 rfl rfl ?_
  refine h_imul hX dX11_workOut_7 ?_
  refine h_iload_n hX dX11_workOut_8 rfl rfl ?_
  refine h_iadd hX dX11_workOut_9 ?_
  refine gH.leti (fun v5_1 => ?_)
  refine h_istore hX dX11_workOut_10 (by decide) (lv' := [(0, .ref (aM B 0)), (1, .int p0), (2, .int p1), (3, .int p2), (4, .int 0), (5, .int v5_1)]) rfl ?_
  refine gH.dead [0, 1, 3, 4, 5] rfl ?_
  exact gH.loop (lvf := fun z : (Int32 × Int32 × (Nat → Int32)) => [(0, .ref (aM B 0)), (1, .int p0), (3, .int p2), (4, .int z.1), (5, .int z.2.1)]) (wf := fun z : (Int32 × Int32 × (Nat → Int32)) => wdM B m_thrown m_size m_at m_wrong m_deep m_laws m_text m_readBoys m_readMarbles m_readFarms m_boys m_marbles m_farms m_holding m_spills m_acts m_draws m_bestRow m_bestMany m_noted m_hasImage m_tape m_code m_value m_codes m_clauses m_testFrom m_sumFrom m_sumTo m_letters z.2.2 m_readRule m_readBoy m_readMarble m_readFarm m_rule m_boy m_marble m_farm m_now m_refused m_kept m_notePlace m_noteKind m_noteIs m_toldBy m_image ++ fr) (fun z => w_M_workOut_L12 hX z) (0, v5_1, m_stack)
theorem c_M_workOut {p0 : Int32} {p1 : Int32} {p2 : Int32} {r : (Int32 × (Nat → Int32))} (h : f_M_workOut m_code m_value m_letters m_stack p0 p1 p2 = some r) : gMet B 3 yX11_workOut cX11_workOut 6 (some .int) [.ref (aM B 0), .int p0, .int p1, .int p2] (wdM B m_thrown m_size m_at m_wrong m_deep m_laws m_text m_readBoys m_readMarbles m_readFarms m_boys m_marbles m_farms m_holding m_spills m_acts m_draws m_bestRow m_bestMany m_noted m_hasImage m_tape m_code m_value m_codes m_clauses m_testFrom m_sumFrom m_sumTo m_letters m_stack m_readRule m_readBoy m_readMarble m_readFarm m_rule m_boy m_marble m_farm m_now m_refused m_kept m_notePlace m_noteKind m_noteIs m_toldBy m_image ++ fr) (some (.int r.1)) (wdM B m_thrown m_size m_at m_wrong m_deep m_laws m_text m_readBoys m_readMarbles m_readFarms m_boys m_marbles m_farms m_holding m_spills m_acts m_draws m_bestRow m_bestMany m_noted m_hasImage m_tape m_code m_value m_codes m_clauses m_testFrom m_sumFrom m_sumTo m_letters r.2 m_readRule m_readBoy m_readMarble m_readFarm m_rule m_boy m_marble m_farm m_now m_refused m_kept m_notePlace m_noteKind m_noteIs m_toldBy m_image ++ fr) :=
  gMet.of rfl (Nat.le_of_ble_eq_true rfl) (fun X hX hF => w_M_workOut hX r h hF)
set_option maxRecDepth 4000 in
theorem w_M_worthOf_J57 {v1 : Int32} {v2 : Int32} (hX : gOk B X RX11 cX11_worthOf 3 4 (some .int)) : gH B X (fun r : (Int32 × (Nat → Int32)) => gFin X (some (.int r.1)) (wdM B m_thrown m_size m_at m_wrong m_deep m_laws m_text m_readBoys m_readMarbles m_readFarms m_boys m_marbles m_farms m_holding m_spills m_acts m_draws m_bestRow m_bestMany m_noted m_hasImage m_tape m_code m_value m_codes m_clauses m_testFrom m_sumFrom m_sumTo m_letters r.2 m_readRule m_readBoy m_readMarble m_readFarm m_rule m_boy m_marble m_farm m_now m_refused m_kept m_notePlace m_noteKind m_noteIs m_toldBy m_image ++ fr)) 57 [(0, .ref (aM B 0)), (1, .int v1), (2, .int v2)] [] (wdM B m_thrown m_size m_at m_wrong m_deep m_laws m_text m_readBoys m_readMarbles m_readFarms m_boys m_marbles m_farms m_holding m_spills m_acts m_draws m_bestRow m_bestMany m_noted m_hasImage m_tape m_code m_value m_codes m_clauses m_testFrom m_sumFrom m_sumTo m_letters m_stack m_readRule m_readBoy m_readMarble m_readFarm m_rule m_boy m_marble m_farm m_now m_refused m_kept m_notePlace m_noteKind m_noteIs m_toldBy m_image ++ fr) (f_M_worthOf_J57 m_code m_value m_sumFrom m_sumTo m_letters m_stack v1 v2) := by
  unfold f_M_worthOf_J57
  refine h_aload_n hX dX11_worthOf_57 rfl rfl ?_
  refine h_iload_n hX dX11_worthOf_58 rfl rfl ?_
  refine h_aload_n hX dX11_worthOf_59 rfl rfl ?_
  refine get_RX11_28_M0 hX dX11_worthOf_60 ?_
  refine h_iload_n hX dX11_worthOf_63 rfl rfl ?_
  refine ald_M7 hX dX11_worthOf_64 ?_
  refine h_aload_n hX dX11_worthOf_65 rfl rfl ?_
  refine get_RX11_31_M0 hX dX11_worthOf_66 ?_
  refine h_iload_n hX dX11_worthOf_69 rfl rfl ?_
  refine ald_M8 hX dX11_worthOf_70 ?_
  refine h_callVi hX dX11_worthOf_71 (cv_RX11_204) rc_M0 (As := [.int v1, .int (m_sumFrom v2.toNatClampNeg), .int (m_sumTo v2.toNatClampNeg)]) (st := []) (fun _ h => c_M_workOut h) rfl rfl (by decide) (Nat.le_of_ble_eq_true rfl) (fun a_2 => ?_)
  exact h_ret hX (rv := some (.int a_2.1)) dX11_worthOf_74 trivial (fun h => h)
set_option maxRecDepth 4000 in
theorem w_M_worthOf_L6 {v1 : Int32} (hX : gOk B X RX11 cX11_worthOf 3 4 (some .int)) (s : (Int32 × (Nat → Int32))) : gH B X (Sum.elim (fun s : (Int32 × (Nat → Int32)) => gG B X 6 [(0, .ref (aM B 0)), (1, .int v1), (2, .int s.1)] [] (wdM B m_thrown m_size m_at m_wrong m_deep m_laws m_text m_readBoys m_readMarbles m_readFarms m_boys m_marbles m_farms m_holding m_spills m_acts m_draws m_bestRow m_bestMany m_noted m_hasImage m_tape m_code m_value m_codes m_clauses m_testFrom m_sumFrom m_sumTo m_letters s.2 m_readRule m_readBoy m_readMarble m_readFarm m_rule m_boy m_marble m_farm m_now m_refused m_kept m_notePlace m_noteKind m_noteIs m_toldBy m_image ++ fr)) (fun r : (Int32 × (Nat → Int32)) => gFin X (some (.int r.1)) (wdM B m_thrown m_size m_at m_wrong m_deep m_laws m_text m_readBoys m_readMarbles m_readFarms m_boys m_marbles m_farms m_holding m_spills m_acts m_draws m_bestRow m_bestMany m_noted m_hasImage m_tape m_code m_value m_codes m_clauses m_testFrom m_sumFrom m_sumTo m_letters r.2 m_readRule m_readBoy m_readMarble m_readFarm m_rule m_boy m_marble m_farm m_now m_refused m_kept m_notePlace m_noteKind m_noteIs m_toldBy m_image ++ fr))) 6 [(0, .ref (aM B 0)), (1, .int v1), (2, .int s.1)] [] (wdM B m_thrown m_size m_at m_wrong m_deep m_laws m_text m_readBoys m_readMarbles m_readFarms m_boys m_marbles m_farms m_holding m_spills m_acts m_draws m_bestRow m_bestMany m_noted m_hasImage m_tape m_code m_value m_codes m_clauses m_testFrom m_sumFrom m_sumTo m_letters s.2 m_readRule m_readBoy m_readMarble m_readFarm m_rule m_boy m_marble m_farm m_now m_refused m_kept m_notePlace m_noteKind m_noteIs m_toldBy m_image ++ fr) (f_M_worthOf_L6 m_code m_value m_clauses m_testFrom m_sumFrom m_sumTo m_letters v1 s) := by
  unfold f_M_worthOf_L6
  refine h_iload_n hX dX11_worthOf_6 rfl rfl ?_
  refine h_sipush hX dX11_worthOf_7 ks_140 ?_
  refine h_iload_n hX dX11_worthOf_10 rfl rfl ?_
  refine h_imul hX dX11_worthOf_11 ?_
  refine h_aload_n hX dX11_worthOf_12 rfl rfl ?_
  refine get_RX11_22_M0 hX dX11_worthOf_13 ?_
  refine h_iload_n hX dX11_worthOf_16 rfl rfl ?_
  refine ald_M5 hX dX11_worthOf_17 ?_
  refine h_iadd hX dX11_worthOf_18 ?_
  refine h_icmp_ge hX dX11_worthOf_19 (tgt := 81) (by decide) (fun _ => ?_) (fun _ => ?_)
  · refine h_iconst hX dX11_worthOf_81 ki_0 ?_
    exact h_ret hX (rv := some (.int 0)) dX11_worthOf_82 trivial (fun h => h)
  · refine h_aload_n hX dX11_worthOf_22 rfl rfl ?_
    refine get_RX11_25_M0 hX dX11_worthOf_23 ?_
    refine h_iload_n hX dX11_worthOf_26 rfl rfl ?_
    refine ald_M6 hX dX11_worthOf_27 ?_
    refine h_aload_n hX dX11_worthOf_28 rfl rfl ?_
    refine get_RX11_28_M0 hX dX11_worthOf_29 ?_
    refine h_iload_n hX dX11_worthOf_32 rfl rfl ?_
    refine ald_M7 hX dX11_worthOf_33 ?_
    refine h_icmp_eq hX dX11_worthOf_34 (tgt := 57) (by decide) (fun _ => ?_) (fun _ => ?_)
    · refine gH.inr ?_
      exact w_M_worthOf_J57 hX
    · refine h_aload_n hX dX11_worthOf_37 rfl rfl ?_
      refine h_iload_n hX dX11_worthOf_38 rfl rfl ?_
      refine h_aload_n hX dX11_worthOf_39 rfl rfl ?_
      refine get_RX11_25_M0 hX dX11_worthOf_40 ?_
      refine h_iload_n hX dX11_worthOf_43 rfl rfl ?_
      refine ald_M6 hX dX11_worthOf_44 ?_
      refine h_aload_n hX dX11_worthOf_45 rfl rfl ?_
      refine get_RX11_28_M0 hX dX11_worthOf_46 ?_
      refine h_iload_n hX dX11_worthOf_49 rfl rfl ?_
      refine ald_M7 hX dX11_worthOf_50 ?_
      refine h_callVi hX dX11_worthOf_51 (cv_RX11_204) rc_M0 (As := [.int v1, .int (m_testFrom s.1.toNatClampNeg), .int (m_sumFrom s.1.toNatClampNeg)]) (st := []) (fun _ h => c_M_workOut h) rfl rfl (by decide) (Nat.le_of_ble_eq_true rfl) (fun a_3 => ?_)
      refine h_if_eq hX dX11_worthOf_54 (tgt := 75) (by decide) (fun _ => ?_) (fun _ => ?_)
      · refine h_iincc hX dX11_worthOf_75 rfl ki_1 (by decide) (lv' := [(0, .ref (aM B 0)), (1, .int v1), (2, .int (s.1 + 1))]) rfl ?_
        refine h_goto hX dX11_worthOf_78 (tgt := 6) (by decide) ?_
        exact gH.some' (fun h => h)
      · refine gH.inr ?_
        exact w_M_worthOf_J57 hX
set_option maxRecDepth 4000 in
theorem w_M_worthOf {p0 : Int32} (hX : gOk B X RX11 cX11_worthOf 3 4 (some .int)) : gH B X (fun r : (Int32 × (Nat → Int32)) => gFin X (some (.int r.1)) (wdM B m_thrown m_size m_at m_wrong m_deep m_laws m_text m_readBoys m_readMarbles m_readFarms m_boys m_marbles m_farms m_holding m_spills m_acts m_draws m_bestRow m_bestMany m_noted m_hasImage m_tape m_code m_value m_codes m_clauses m_testFrom m_sumFrom m_sumTo m_letters r.2 m_readRule m_readBoy m_readMarble m_readFarm m_rule m_boy m_marble m_farm m_now m_refused m_kept m_notePlace m_noteKind m_noteIs m_toldBy m_image ++ fr)) 0 [(0, .ref (aM B 0)), (1, .int p0)] [] (wdM B m_thrown m_size m_at m_wrong m_deep m_laws m_text m_readBoys m_readMarbles m_readFarms m_boys m_marbles m_farms m_holding m_spills m_acts m_draws m_bestRow m_bestMany m_noted m_hasImage m_tape m_code m_value m_codes m_clauses m_testFrom m_sumFrom m_sumTo m_letters m_stack m_readRule m_readBoy m_readMarble m_readFarm m_rule m_boy m_marble m_farm m_now m_refused m_kept m_notePlace m_noteKind m_noteIs m_toldBy m_image ++ fr) (f_M_worthOf m_code m_value m_clauses m_testFrom m_sumFrom m_sumTo m_letters m_stack p0) := by
  unfold f_M_worthOf
  refine h_sipush hX dX11_worthOf_0 ks_140 ?_
  refine h_iload_n hX dX11_worthOf_3 rfl rfl ?_
  refine h_imul hX dX11_worthOf_4 ?_
  refine gH.leti (fun v2_1 => ?_)
  refine h_istore_n hX dX11_worthOf_5 rfl (by decide) (lv' := [(0, .ref (aM B 0)), (1, .int p0), (2, .int v2_1)]) rfl ?_
  exact gH.loop (lvf := fun z : (Int32 × (Nat → Int32)) => [(0, .ref (aM B 0)), (1, .int p0), (2, .int z.1)]) (wf := fun z : (Int32 × (Nat → Int32)) => wdM B m_thrown m_size m_at m_wrong m_deep m_laws m_text m_readBoys m_readMarbles m_readFarms m_boys m_marbles m_farms m_holding m_spills m_acts m_draws m_bestRow m_bestMany m_noted m_hasImage m_tape m_code m_value m_codes m_clauses m_testFrom m_sumFrom m_sumTo m_letters z.2 m_readRule m_readBoy m_readMarble m_readFarm m_rule m_boy m_marble m_farm m_now m_refused m_kept m_notePlace m_noteKind m_noteIs m_toldBy m_image ++ fr) (fun z => w_M_worthOf_L6 hX z) (v2_1, m_stack)
theorem c_M_worthOf {p0 : Int32} {r : (Int32 × (Nat → Int32))} (h : f_M_worthOf m_code m_value m_clauses m_testFrom m_sumFrom m_sumTo m_letters m_stack p0 = some r) : gMet B 4 yX11_worthOf cX11_worthOf 3 (some .int) [.ref (aM B 0), .int p0] (wdM B m_thrown m_size m_at m_wrong m_deep m_laws m_text m_readBoys m_readMarbles m_readFarms m_boys m_marbles m_farms m_holding m_spills m_acts m_draws m_bestRow m_bestMany m_noted m_hasImage m_tape m_code m_value m_codes m_clauses m_testFrom m_sumFrom m_sumTo m_letters m_stack m_readRule m_readBoy m_readMarble m_readFarm m_rule m_boy m_marble m_farm m_now m_refused m_kept m_notePlace m_noteKind m_noteIs m_toldBy m_image ++ fr) (some (.int r.1)) (wdM B m_thrown m_size m_at m_wrong m_deep m_laws m_text m_readBoys m_readMarbles m_readFarms m_boys m_marbles m_farms m_holding m_spills m_acts m_draws m_bestRow m_bestMany m_noted m_hasImage m_tape m_code m_value m_codes m_clauses m_testFrom m_sumFrom m_sumTo m_letters r.2 m_readRule m_readBoy m_readMarble m_readFarm m_rule m_boy m_marble m_farm m_now m_refused m_kept m_notePlace m_noteKind m_noteIs m_toldBy m_image ++ fr) :=
  gMet.of rfl (Nat.le_of_ble_eq_true rfl) (fun X hX hF => w_M_worthOf hX r h hF)
set_option maxRecDepth 4000 in
theorem w_M_landsAt_J124 {v4 : Int32} (hX : gOk B X RX11 cX11_landsAt 5 5 (some .int)) : gH B X (fun r : (Int32 × (Nat → Int32) × (Nat → Int32)) => gFin X (some (.int r.1)) (wdM B m_thrown m_size m_at m_wrong m_deep m_laws m_text m_readBoys m_readMarbles m_readFarms m_boys m_marbles m_farms m_holding m_spills m_acts m_draws m_bestRow m_bestMany m_noted m_hasImage m_tape m_code m_value m_codes m_clauses m_testFrom m_sumFrom m_sumTo r.2.1 r.2.2 m_readRule m_readBoy m_readMarble m_readFarm m_rule m_boy m_marble m_farm m_now m_refused m_kept m_notePlace m_noteKind m_noteIs m_toldBy m_image ++ fr)) 124 [(4, .int v4)] [] (wdM B m_thrown m_size m_at m_wrong m_deep m_laws m_text m_readBoys m_readMarbles m_readFarms m_boys m_marbles m_farms m_holding m_spills m_acts m_draws m_bestRow m_bestMany m_noted m_hasImage m_tape m_code m_value m_codes m_clauses m_testFrom m_sumFrom m_sumTo m_letters m_stack m_readRule m_readBoy m_readMarble m_readFarm m_rule m_boy m_marble m_farm m_now m_refused m_kept m_notePlace m_noteKind m_noteIs m_toldBy m_image ++ fr) (f_M_landsAt_J124 m_letters m_stack v4) := by
  unfold f_M_landsAt_J124
  refine h_iconst hX dX11_landsAt_124 ki_0 ?_
  refine h_bipush hX dX11_landsAt_125 kb_60 ?_
  refine h_iload hX dX11_landsAt_127 rfl ?_
  refine h_jmin hX dX11_landsAt_129 cm_RX11_297 (by omega) (Nat.le_of_ble_eq_true rfl) ?_
  refine h_jmax hX dX11_landsAt_132 cm_RX11_299 (by omega) (Nat.le_of_ble_eq_true rfl) ?_
  exact h_ret hX (rv := some (.int (jmax 0 (jmin 60 v4)))) dX11_landsAt_135 trivial (fun h => h)
set_option maxRecDepth 4000 in
theorem w_M_landsAt {p0 : Int32} {p1 : Int32} {p2 : Int32} (hX : gOk B X RX11 cX11_landsAt 5 5 (some .int)) : gH B X (fun r : (Int32 × (Nat → Int32) × (Nat → Int32)) => gFin X (some (.int r.1)) (wdM B m_thrown m_size m_at m_wrong m_deep m_laws m_text m_readBoys m_readMarbles m_readFarms m_boys m_marbles m_farms m_holding m_spills m_acts m_draws m_bestRow m_bestMany m_noted m_hasImage m_tape m_code m_value m_codes m_clauses m_testFrom m_sumFrom m_sumTo r.2.1 r.2.2 m_readRule m_readBoy m_readMarble m_readFarm m_rule m_boy m_marble m_farm m_now m_refused m_kept m_notePlace m_noteKind m_noteIs m_toldBy m_image ++ fr)) 0 [(0, .ref (aM B 0)), (1, .int p0), (2, .int p1), (3, .int p2)] [] (wdM B m_thrown m_size m_at m_wrong m_deep m_laws m_text m_readBoys m_readMarbles m_readFarms m_boys m_marbles m_farms m_holding m_spills m_acts m_draws m_bestRow m_bestMany m_noted m_hasImage m_tape m_code m_value m_codes m_clauses m_testFrom m_sumFrom m_sumTo m_letters m_stack m_readRule m_readBoy m_readMarble m_readFarm m_rule m_boy m_marble m_farm m_now m_refused m_kept m_notePlace m_noteKind m_noteIs m_toldBy m_image ++ fr) (f_M_landsAt m_marbles m_holding m_code m_value m_clauses m_testFrom m_sumFrom m_sumTo m_letters m_stack m_boy m_marble m_now p0 p1 p2) := by
  unfold f_M_landsAt
  refine h_iconst hX dX11_landsAt_0 ki_2 ?_
  refine h_iload_n hX dX11_landsAt_1 rfl rfl ?_
  refine h_imul hX dX11_landsAt_2 ?_
  refine h_aload_n hX dX11_landsAt_3 rfl rfl ?_
  refine get_RX11_55_M0 hX dX11_landsAt_4 ?_
  refine h_iconst hX dX11_landsAt_7 ki_2 ?_
  refine h_iload_n hX dX11_landsAt_8 rfl rfl ?_
  refine h_imul hX dX11_landsAt_9 ?_
  refine h_iconst hX dX11_landsAt_10 ki_0 ?_
  refine h_iadd hX dX11_landsAt_11 ?_
  refine ald_M16 hX dX11_landsAt_12 ?_
  refine h_iconst hX dX11_landsAt_13 ki_2 ?_
  refine h_idivc hX dX11_landsAt_14 (by decide) ?_
  refine h_iadd hX dX11_landsAt_15 ?_
  refine h_aload_n hX dX11_landsAt_16 rfl rfl ?_
  refine h_iload_n hX dX11_landsAt_17 rfl rfl ?_
  refine h_iconst hX dX11_landsAt_18 ki_2 ?_
  refine h_callVi hX dX11_landsAt_19 (cv_RX11_267) rc_M0 (As := [.int p1, .int 2]) (st := [.int ((2 * p2) + ((m_boy ((2 * p0) + 0 : Int32).toNatClampNeg) / 2))]) (fun _ h => c_M_of h) rfl rfl (by decide) (Nat.le_of_ble_eq_true rfl) (fun a_1 => ?_)
  refine h_iconst hX dX11_landsAt_22 ki_3 ?_
  refine h_idivc hX dX11_landsAt_23 (by decide) ?_
  refine h_isub hX dX11_landsAt_24 ?_
  refine gH.leti (fun v4_2 => ?_)
  refine h_istore hX dX11_landsAt_25 (by decide) (lv' := [(0, .ref (aM B 0)), (1, .int p0), (2, .int p1), (3, .int p2), (4, .int v4_2)]) rfl ?_
  refine h_aload_n hX dX11_landsAt_27 rfl rfl ?_
  refine get_RX11_70_M0 hX dX11_landsAt_28 ?_
  refine h_iconst hX dX11_landsAt_31 ki_m1 ?_
  refine h_icmp_eq hX dX11_landsAt_32 (tgt := 124) (by decide) (fun _ => ?_) (fun _ => ?_)
  · refine gH.dead [4] rfl ?_
    exact w_M_landsAt_J124 hX
  · refine h_aload_n hX dX11_landsAt_35 rfl rfl ?_
    refine get_RX11_34_M0 hX dX11_landsAt_36 ?_
    refine h_iconst hX dX11_landsAt_39 ki_0 ?_
    refine h_iload_n hX dX11_landsAt_40 rfl rfl ?_
    refine ast_M9 hX dX11_landsAt_41 ?_
    refine gH.letw (w := fun y => wdM B m_thrown m_size m_at m_wrong m_deep m_laws m_text m_readBoys m_readMarbles m_readFarms m_boys m_marbles m_farms m_holding m_spills m_acts m_draws m_bestRow m_bestMany m_noted m_hasImage m_tape m_code m_value m_codes m_clauses m_testFrom m_sumFrom m_sumTo y m_stack m_readRule m_readBoy m_readMarble m_readFarm m_rule m_boy m_marble m_farm m_now m_refused m_kept m_notePlace m_noteKind m_noteIs m_toldBy m_image ++ fr) (fun m_letters_3 => ?_)
    refine h_aload_n hX dX11_landsAt_42 rfl rfl ?_
    refine get_RX11_34_M0 hX dX11_landsAt_43 ?_
    refine h_iconst hX dX11_landsAt_46 ki_1 ?_
    refine h_aload_n hX dX11_landsAt_47 rfl rfl ?_
    refine get_RX11_55_M0 hX dX11_landsAt_48 ?_
    refine h_iconst hX dX11_landsAt_51 ki_2 ?_
    refine h_iload_n hX dX11_landsAt_52 rfl rfl ?_
    refine h_imul hX dX11_landsAt_53 ?_
    refine h_iconst hX dX11_landsAt_54 ki_0 ?_
    refine h_iadd hX dX11_landsAt_55 ?_
    refine ald_M16 hX dX11_landsAt_56 ?_
    refine ast_M9 hX dX11_landsAt_57 ?_
    refine gH.letw (w := fun y => wdM B m_thrown m_size m_at m_wrong m_deep m_laws m_text m_readBoys m_readMarbles m_readFarms m_boys m_marbles m_farms m_holding m_spills m_acts m_draws m_bestRow m_bestMany m_noted m_hasImage m_tape m_code m_value m_codes m_clauses m_testFrom m_sumFrom m_sumTo y m_stack m_readRule m_readBoy m_readMarble m_readFarm m_rule m_boy m_marble m_farm m_now m_refused m_kept m_notePlace m_noteKind m_noteIs m_toldBy m_image ++ fr) (fun m_letters_4 => ?_)
    refine h_aload_n hX dX11_landsAt_58 rfl rfl ?_
    refine get_RX11_34_M0 hX dX11_landsAt_59 ?_
    refine h_iconst hX dX11_landsAt_62 ki_2 ?_
    refine h_aload_n hX dX11_landsAt_63 rfl rfl ?_
    refine h_iload_n hX dX11_landsAt_64 rfl rfl ?_
    refine h_iconst hX dX11_landsAt_65 ki_2 ?_
    refine h_callVi hX dX11_landsAt_66 (cv_RX11_267) rc_M0 (As := [.int p1, .int 2]) (st := [.int 2, .ref (aM B 9)]) (fun _ h => c_M_of h) rfl rfl (by decide) (Nat.le_of_ble_eq_true rfl) (fun a_5 => ?_)
    refine ast_M9 hX dX11_landsAt_69 ?_
    refine gH.letw (w := fun y => wdM B m_thrown m_size m_at m_wrong m_deep m_laws m_text m_readBoys m_readMarbles m_readFarms m_boys m_marbles m_farms m_holding m_spills m_acts m_draws m_bestRow m_bestMany m_noted m_hasImage m_tape m_code m_value m_codes m_clauses m_testFrom m_sumFrom m_sumTo y m_stack m_readRule m_readBoy m_readMarble m_readFarm m_rule m_boy m_marble m_farm m_now m_refused m_kept m_notePlace m_noteKind m_noteIs m_toldBy m_image ++ fr) (fun m_letters_6 => ?_)
    refine h_aload_n hX dX11_landsAt_70 rfl rfl ?_
    refine get_RX11_34_M0 hX dX11_landsAt_71 ?_
    refine h_iconst hX dX11_landsAt_74 ki_3 ?_
    refine h_aload_n hX dX11_landsAt_75 rfl rfl ?_
    refine get_RX11_64_M0 hX dX11_landsAt_76 ?_
    refine h_bipush hX dX11_landsAt_79 kb_6 ?_
    refine ald_M19 hX dX11_landsAt_81 ?_
    refine h_iload_n hX dX11_landsAt_82 rfl rfl ?_
    refine h_ishr hX dX11_landsAt_83 ?_
    refine h_iconst hX dX11_landsAt_84 ki_1 ?_
    refine h_iand hX dX11_landsAt_85 ?_
    refine ast_M9 hX dX11_landsAt_86 ?_
    refine gH.letw (w := fun y => wdM B m_thrown m_size m_at m_wrong m_deep m_laws m_text m_readBoys m_readMarbles m_readFarms m_boys m_marbles m_farms m_holding m_spills m_acts m_draws m_bestRow m_bestMany m_noted m_hasImage m_tape m_code m_value m_codes m_clauses m_testFrom m_sumFrom m_sumTo y m_stack m_readRule m_readBoy m_readMarble m_readFarm m_rule m_boy m_marble m_farm m_now m_refused m_kept m_notePlace m_noteKind m_noteIs m_toldBy m_image ++ fr) (fun m_letters_7 => ?_)
    refine h_aload_n hX dX11_landsAt_87 rfl rfl ?_
    refine get_RX11_34_M0 hX dX11_landsAt_88 ?_
    refine h_iconst hX dX11_landsAt_91 ki_4 ?_
    refine h_aload_n hX dX11_landsAt_92 rfl rfl ?_
    refine h_iload_n hX dX11_landsAt_93 rfl rfl ?_
    refine h_callVi hX dX11_landsAt_94 (cv_RX11_286) rc_M0 (As := [.int p0]) (st := [.int 4, .ref (aM B 9)]) (fun _ h => c_M_handsOf h) rfl rfl (by decide) (Nat.le_of_ble_eq_true rfl) (fun a_8 => ?_)
    refine h_callSi hX dX11_landsAt_97 (cs_RX11_289) (As := [.int a_8]) (st := [.int 4, .ref (aM B 9)]) (fun _ h => c_J_bitCount h) rfl rfl (by decide) (Nat.le_of_ble_eq_true rfl) (fun a_9 => ?_)
    refine ast_M9 hX dX11_landsAt_100 ?_
    refine gH.letw (w := fun y => wdM B m_thrown m_size m_at m_wrong m_deep m_laws m_text m_readBoys m_readMarbles m_readFarms m_boys m_marbles m_farms m_holding m_spills m_acts m_draws m_bestRow m_bestMany m_noted m_hasImage m_tape m_code m_value m_codes m_clauses m_testFrom m_sumFrom m_sumTo y m_stack m_readRule m_readBoy m_readMarble m_readFarm m_rule m_boy m_marble m_farm m_now m_refused m_kept m_notePlace m_noteKind m_noteIs m_toldBy m_image ++ fr) (fun m_letters_10 => ?_)
    refine h_aload_n hX dX11_landsAt_101 rfl rfl ?_
    refine get_RX11_34_M0 hX dX11_landsAt_102 ?_
    refine h_iconst hX dX11_landsAt_105 ki_5 ?_
    refine h_aload_n hX dX11_landsAt_106 rfl rfl ?_
    refine get_RX11_64_M0 hX dX11_landsAt_107 ?_
    refine h_bipush hX dX11_landsAt_110 kb_9 ?_
    refine ald_M19 hX dX11_landsAt_112 ?_
    refine ast_M9 hX dX11_landsAt_113 ?_
    refine gH.letw (w := fun y => wdM B m_thrown m_size m_at m_wrong m_deep m_laws m_text m_readBoys m_readMarbles m_readFarms m_boys m_marbles m_farms m_holding m_spills m_acts m_draws m_bestRow m_bestMany m_noted m_hasImage m_tape m_code m_value m_codes m_clauses m_testFrom m_sumFrom m_sumTo y m_stack m_readRule m_readBoy m_readMarble m_readFarm m_rule m_boy m_marble m_farm m_now m_refused m_kept m_notePlace m_noteKind m_noteIs m_toldBy m_image ++ fr) (fun m_letters_11 => ?_)
    refine h_aload_n hX dX11_landsAt_114 rfl rfl ?_
    refine h_aload_n hX dX11_landsAt_115 rfl rfl ?_
    refine get_RX11_70_M0 hX dX11_landsAt_116 ?_
    refine h_callVi hX dX11_landsAt_119 (cv_RX11_294) rc_M0 (As := [.int m_holding]) (st := []) (fun _ h => c_M_worthOf h) rfl rfl (by decide) (Nat.le_of_ble_eq_true rfl) (fun a_12 => ?_)
    refine h_istore hX dX11_landsAt_122 (by decide) (lv' := [(0, .ref (aM B 0)), (1, .int p0), (2, .int p1), (3, .int p2), (4, .int a_12.1)]) rfl ?_
    refine gH.dead [4] rfl ?_
    exact w_M_landsAt_J124 hX
theorem c_M_landsAt {p0 : Int32} {p1 : Int32} {p2 : Int32} {r : (Int32 × (Nat → Int32) × (Nat → Int32))} (h : f_M_landsAt m_marbles m_holding m_code m_value m_clauses m_testFrom m_sumFrom m_sumTo m_letters m_stack m_boy m_marble m_now p0 p1 p2 = some r) : gMet B 5 yX11_landsAt cX11_landsAt 5 (some .int) [.ref (aM B 0), .int p0, .int p1, .int p2] (wdM B m_thrown m_size m_at m_wrong m_deep m_laws m_text m_readBoys m_readMarbles m_readFarms m_boys m_marbles m_farms m_holding m_spills m_acts m_draws m_bestRow m_bestMany m_noted m_hasImage m_tape m_code m_value m_codes m_clauses m_testFrom m_sumFrom m_sumTo m_letters m_stack m_readRule m_readBoy m_readMarble m_readFarm m_rule m_boy m_marble m_farm m_now m_refused m_kept m_notePlace m_noteKind m_noteIs m_toldBy m_image ++ fr) (some (.int r.1)) (wdM B m_thrown m_size m_at m_wrong m_deep m_laws m_text m_readBoys m_readMarbles m_readFarms m_boys m_marbles m_farms m_holding m_spills m_acts m_draws m_bestRow m_bestMany m_noted m_hasImage m_tape m_code m_value m_codes m_clauses m_testFrom m_sumFrom m_sumTo r.2.1 r.2.2 m_readRule m_readBoy m_readMarble m_readFarm m_rule m_boy m_marble m_farm m_now m_refused m_kept m_notePlace m_noteKind m_noteIs m_toldBy m_image ++ fr) :=
  gMet.of rfl (Nat.le_of_ble_eq_true rfl) (fun X hX hF => w_M_landsAt hX r h hF)
set_option maxRecDepth 4000 in
theorem w_M_isDrain {p0 : Int32} (hX : gOk B X RX11 cX11_isDrain 2 0 (some .boolean)) : gH B X (fun r : Int32 => gFin X (some (.int r)) (wdM B m_thrown m_size m_at m_wrong m_deep m_laws m_text m_readBoys m_readMarbles m_readFarms m_boys m_marbles m_farms m_holding m_spills m_acts m_draws m_bestRow m_bestMany m_noted m_hasImage m_tape m_code m_value m_codes m_clauses m_testFrom m_sumFrom m_sumTo m_letters m_stack m_readRule m_readBoy m_readMarble m_readFarm m_rule m_boy m_marble m_farm m_now m_refused m_kept m_notePlace m_noteKind m_noteIs m_toldBy m_image ++ fr)) 0 [(0, .ref (aM B 0)), (1, .int p0)] [] (wdM B m_thrown m_size m_at m_wrong m_deep m_laws m_text m_readBoys m_readMarbles m_readFarms m_boys m_marbles m_farms m_holding m_spills m_acts m_draws m_bestRow m_bestMany m_noted m_hasImage m_tape m_code m_value m_codes m_clauses m_testFrom m_sumFrom m_sumTo m_letters m_stack m_readRule m_readBoy m_readMarble m_readFarm m_rule m_boy m_marble m_farm m_now m_refused m_kept m_notePlace m_noteKind m_noteIs m_toldBy m_image ++ fr) (f_M_isDrain m_rule p0) := by
  unfold f_M_isDrain
  refine h_iload_n hX dX11_isDrain_0 rfl rfl ?_
  refine h_aload_n hX dX11_isDrain_1 rfl rfl ?_
  refine get_RX11_52_M0 hX dX11_isDrain_2 ?_
  refine h_iconst hX dX11_isDrain_5 ki_0 ?_
  refine ald_M15 hX dX11_isDrain_6 ?_
  refine h_aload_n hX dX11_isDrain_7 rfl rfl ?_
  refine get_RX11_52_M0 hX dX11_isDrain_8 ?_
  refine h_iconst hX dX11_isDrain_11 ki_1 ?_
  refine ald_M15 hX dX11_isDrain_12 ?_
  refine h_iadd hX dX11_isDrain_13 ?_
  refine h_icmp_lt hX dX11_isDrain_14 (tgt := 21) (by decide) (fun _ => ?_) (fun _ => ?_)
  · refine h_iconst hX dX11_isDrain_21 ki_0 ?_
    exact h_ret hX (rv := some (.int 0)) dX11_isDrain_22 rfl (fun h => h)
  · refine h_iconst hX dX11_isDrain_17 ki_1 ?_
    refine h_goto hX dX11_isDrain_18 (tgt := 22) (by decide) ?_
    exact h_ret hX (rv := some (.int 1)) dX11_isDrain_22 rfl (fun h => h)
theorem c_M_isDrain {p0 : Int32} {r : Int32} (h : f_M_isDrain m_rule p0 = some r) : gMet B 0 yX11_isDrain cX11_isDrain 2 (some .boolean) [.ref (aM B 0), .int p0] (wdM B m_thrown m_size m_at m_wrong m_deep m_laws m_text m_readBoys m_readMarbles m_readFarms m_boys m_marbles m_farms m_holding m_spills m_acts m_draws m_bestRow m_bestMany m_noted m_hasImage m_tape m_code m_value m_codes m_clauses m_testFrom m_sumFrom m_sumTo m_letters m_stack m_readRule m_readBoy m_readMarble m_readFarm m_rule m_boy m_marble m_farm m_now m_refused m_kept m_notePlace m_noteKind m_noteIs m_toldBy m_image ++ fr) (some (.int r)) (wdM B m_thrown m_size m_at m_wrong m_deep m_laws m_text m_readBoys m_readMarbles m_readFarms m_boys m_marbles m_farms m_holding m_spills m_acts m_draws m_bestRow m_bestMany m_noted m_hasImage m_tape m_code m_value m_codes m_clauses m_testFrom m_sumFrom m_sumTo m_letters m_stack m_readRule m_readBoy m_readMarble m_readFarm m_rule m_boy m_marble m_farm m_now m_refused m_kept m_notePlace m_noteKind m_noteIs m_toldBy m_image ++ fr) :=
  gMet.of rfl (Nat.le_of_ble_eq_true rfl) (fun X hX hF => w_M_isDrain hX r h hF)
set_option maxRecDepth 4000 in
theorem w_M_offHole {p0 : Int32} (hX : gOk B X RX11 cX11_offHole 2 1 (some .int)) : gH B X (fun r : Int32 => gFin X (some (.int r)) (wdM B m_thrown m_size m_at m_wrong m_deep m_laws m_text m_readBoys m_readMarbles m_readFarms m_boys m_marbles m_farms m_holding m_spills m_acts m_draws m_bestRow m_bestMany m_noted m_hasImage m_tape m_code m_value m_codes m_clauses m_testFrom m_sumFrom m_sumTo m_letters m_stack m_readRule m_readBoy m_readMarble m_readFarm m_rule m_boy m_marble m_farm m_now m_refused m_kept m_notePlace m_noteKind m_noteIs m_toldBy m_image ++ fr)) 0 [(0, .ref (aM B 0)), (1, .int p0)] [] (wdM B m_thrown m_size m_at m_wrong m_deep m_laws m_text m_readBoys m_readMarbles m_readFarms m_boys m_marbles m_farms m_holding m_spills m_acts m_draws m_bestRow m_bestMany m_noted m_hasImage m_tape m_code m_value m_codes m_clauses m_testFrom m_sumFrom m_sumTo m_letters m_stack m_readRule m_readBoy m_readMarble m_readFarm m_rule m_boy m_marble m_farm m_now m_refused m_kept m_notePlace m_noteKind m_noteIs m_toldBy m_image ++ fr) (f_M_offHole m_rule p0) := by
  unfold f_M_offHole
  refine h_iload_n hX dX11_offHole_0 rfl rfl ?_
  refine h_aload_n hX dX11_offHole_1 rfl rfl ?_
  refine get_RX11_52_M0 hX dX11_offHole_2 ?_
  refine h_iconst hX dX11_offHole_5 ki_0 ?_
  refine ald_M15 hX dX11_offHole_6 ?_
  refine h_isub hX dX11_offHole_7 ?_
  refine h_jabs hX dX11_offHole_8 cm_RX11_301 (by omega) (Nat.le_of_ble_eq_true rfl) ?_
  exact h_ret hX (rv := some (.int (jabs (p0 - (m_rule (0 : Int32).toNatClampNeg))))) dX11_offHole_11 trivial (fun h => h)
theorem c_M_offHole {p0 : Int32} {r : Int32} (h : f_M_offHole m_rule p0 = some r) : gMet B 1 yX11_offHole cX11_offHole 2 (some .int) [.ref (aM B 0), .int p0] (wdM B m_thrown m_size m_at m_wrong m_deep m_laws m_text m_readBoys m_readMarbles m_readFarms m_boys m_marbles m_farms m_holding m_spills m_acts m_draws m_bestRow m_bestMany m_noted m_hasImage m_tape m_code m_value m_codes m_clauses m_testFrom m_sumFrom m_sumTo m_letters m_stack m_readRule m_readBoy m_readMarble m_readFarm m_rule m_boy m_marble m_farm m_now m_refused m_kept m_notePlace m_noteKind m_noteIs m_toldBy m_image ++ fr) (some (.int r)) (wdM B m_thrown m_size m_at m_wrong m_deep m_laws m_text m_readBoys m_readMarbles m_readFarms m_boys m_marbles m_farms m_holding m_spills m_acts m_draws m_bestRow m_bestMany m_noted m_hasImage m_tape m_code m_value m_codes m_clauses m_testFrom m_sumFrom m_sumTo m_letters m_stack m_readRule m_readBoy m_readMarble m_readFarm m_rule m_boy m_marble m_farm m_now m_refused m_kept m_notePlace m_noteKind m_noteIs m_toldBy m_image ++ fr) :=
  gMet.of rfl (Nat.le_of_ble_eq_true rfl) (fun X hX hF => w_M_offHole hX r h hF)
set_option maxRecDepth 4000 in
theorem w_M_aimOf_J62 {v1 : Int32} {v2 : Int32} {v4 : Int32} {k0 : Int32} (hX : gOk B X RX11 cX11_aimOf 6 6 (some .int)) : gH B X (Sum.elim (fun s : (Int32 × Int32 × (Nat → Int32) × (Nat → Int32)) => gG B X 5 [(0, .ref (aM B 0)), (1, .int v1), (2, .int v2), (3, .int s.1), (4, .int s.2.1)] [] (wdM B m_thrown m_size m_at m_wrong m_deep m_laws m_text m_readBoys m_readMarbles m_readFarms m_boys m_marbles m_farms m_holding m_spills m_acts m_draws m_bestRow m_bestMany m_noted m_hasImage m_tape m_code m_value m_codes m_clauses m_testFrom m_sumFrom m_sumTo s.2.2.1 s.2.2.2 m_readRule m_readBoy m_readMarble m_readFarm m_rule m_boy m_marble m_farm m_now m_refused m_kept m_notePlace m_noteKind m_noteIs m_toldBy m_image ++ fr)) (fun r : (Int32 × (Nat → Int32) × (Nat → Int32)) => gFin X (some (.int r.1)) (wdM B m_thrown m_size m_at m_wrong m_deep m_laws m_text m_readBoys m_readMarbles m_readFarms m_boys m_marbles m_farms m_holding m_spills m_acts m_draws m_bestRow m_bestMany m_noted m_hasImage m_tape m_code m_value m_codes m_clauses m_testFrom m_sumFrom m_sumTo r.2.1 r.2.2 m_readRule m_readBoy m_readMarble m_readFarm m_rule m_boy m_marble m_farm m_now m_refused m_kept m_notePlace m_noteKind m_noteIs m_toldBy m_image ++ fr))) 62 [(0, .ref (aM B 0)), (1, .int v1), (2, .int v2), (4, .int v4)] [.int k0] (wdM B m_thrown m_size m_at m_wrong m_deep m_laws m_text m_readBoys m_readMarbles m_readFarms m_boys m_marbles m_farms m_holding m_spills m_acts m_draws m_bestRow m_bestMany m_noted m_hasImage m_tape m_code m_value m_codes m_clauses m_testFrom m_sumFrom m_sumTo m_letters m_stack m_readRule m_readBoy m_readMarble m_readFarm m_rule m_boy m_marble m_farm m_now m_refused m_kept m_notePlace m_noteKind m_noteIs m_toldBy m_image ++ fr) (f_M_aimOf_J62 m_letters m_stack v4 k0) := by
  unfold f_M_aimOf_J62
  refine h_istore_n hX dX11_aimOf_62 rfl (by decide) (lv' := [(0, .ref (aM B 0)), (1, .int v1), (2, .int v2), (3, .int k0), (4, .int v4)]) rfl ?_
  refine h_iincc hX dX11_aimOf_63 rfl ki_1 (by decide) (lv' := [(0, .ref (aM B 0)), (1, .int v1), (2, .int v2), (3, .int k0), (4, .int (v4 + 1))]) rfl ?_
  refine h_goto hX dX11_aimOf_66 (tgt := 5) (by decide) ?_
  exact gH.some' (fun h => h)
set_option maxRecDepth 4000 in
theorem w_M_aimOf_J61 {v1 : Int32} {v2 : Int32} {v3 : Int32} {v4 : Int32} (hX : gOk B X RX11 cX11_aimOf 6 6 (some .int)) : gH B X (Sum.elim (fun s : (Int32 × Int32 × (Nat → Int32) × (Nat → Int32)) => gG B X 5 [(0, .ref (aM B 0)), (1, .int v1), (2, .int v2), (3, .int s.1), (4, .int s.2.1)] [] (wdM B m_thrown m_size m_at m_wrong m_deep m_laws m_text m_readBoys m_readMarbles m_readFarms m_boys m_marbles m_farms m_holding m_spills m_acts m_draws m_bestRow m_bestMany m_noted m_hasImage m_tape m_code m_value m_codes m_clauses m_testFrom m_sumFrom m_sumTo s.2.2.1 s.2.2.2 m_readRule m_readBoy m_readMarble m_readFarm m_rule m_boy m_marble m_farm m_now m_refused m_kept m_notePlace m_noteKind m_noteIs m_toldBy m_image ++ fr)) (fun r : (Int32 × (Nat → Int32) × (Nat → Int32)) => gFin X (some (.int r.1)) (wdM B m_thrown m_size m_at m_wrong m_deep m_laws m_text m_readBoys m_readMarbles m_readFarms m_boys m_marbles m_farms m_holding m_spills m_acts m_draws m_bestRow m_bestMany m_noted m_hasImage m_tape m_code m_value m_codes m_clauses m_testFrom m_sumFrom m_sumTo r.2.1 r.2.2 m_readRule m_readBoy m_readMarble m_readFarm m_rule m_boy m_marble m_farm m_now m_refused m_kept m_notePlace m_noteKind m_noteIs m_toldBy m_image ++ fr))) 61 [(0, .ref (aM B 0)), (1, .int v1), (2, .int v2), (3, .int v3), (4, .int v4)] [] (wdM B m_thrown m_size m_at m_wrong m_deep m_laws m_text m_readBoys m_readMarbles m_readFarms m_boys m_marbles m_farms m_holding m_spills m_acts m_draws m_bestRow m_bestMany m_noted m_hasImage m_tape m_code m_value m_codes m_clauses m_testFrom m_sumFrom m_sumTo m_letters m_stack m_readRule m_readBoy m_readMarble m_readFarm m_rule m_boy m_marble m_farm m_now m_refused m_kept m_notePlace m_noteKind m_noteIs m_toldBy m_image ++ fr) (f_M_aimOf_J61 m_letters m_stack v3 v4) := by
  unfold f_M_aimOf_J61
  refine h_iload_n hX dX11_aimOf_61 rfl rfl ?_
  refine gH.dead [0, 1, 2, 4] rfl ?_
  exact w_M_aimOf_J62 hX
set_option maxRecDepth 4000 in
theorem w_M_aimOf_J56 {v1 : Int32} {v2 : Int32} {v4 : Int32} (hX : gOk B X RX11 cX11_aimOf 6 6 (some .int)) : gH B X (Sum.elim (fun s : (Int32 × Int32 × (Nat → Int32) × (Nat → Int32)) => gG B X 5 [(0, .ref (aM B 0)), (1, .int v1), (2, .int v2), (3, .int s.1), (4, .int s.2.1)] [] (wdM B m_thrown m_size m_at m_wrong m_deep m_laws m_text m_readBoys m_readMarbles m_readFarms m_boys m_marbles m_farms m_holding m_spills m_acts m_draws m_bestRow m_bestMany m_noted m_hasImage m_tape m_code m_value m_codes m_clauses m_testFrom m_sumFrom m_sumTo s.2.2.1 s.2.2.2 m_readRule m_readBoy m_readMarble m_readFarm m_rule m_boy m_marble m_farm m_now m_refused m_kept m_notePlace m_noteKind m_noteIs m_toldBy m_image ++ fr)) (fun r : (Int32 × (Nat → Int32) × (Nat → Int32)) => gFin X (some (.int r.1)) (wdM B m_thrown m_size m_at m_wrong m_deep m_laws m_text m_readBoys m_readMarbles m_readFarms m_boys m_marbles m_farms m_holding m_spills m_acts m_draws m_bestRow m_bestMany m_noted m_hasImage m_tape m_code m_value m_codes m_clauses m_testFrom m_sumFrom m_sumTo r.2.1 r.2.2 m_readRule m_readBoy m_readMarble m_readFarm m_rule m_boy m_marble m_farm m_now m_refused m_kept m_notePlace m_noteKind m_noteIs m_toldBy m_image ++ fr))) 56 [(0, .ref (aM B 0)), (1, .int v1), (2, .int v2), (4, .int v4)] [] (wdM B m_thrown m_size m_at m_wrong m_deep m_laws m_text m_readBoys m_readMarbles m_readFarms m_boys m_marbles m_farms m_holding m_spills m_acts m_draws m_bestRow m_bestMany m_noted m_hasImage m_tape m_code m_value m_codes m_clauses m_testFrom m_sumFrom m_sumTo m_letters m_stack m_readRule m_readBoy m_readMarble m_readFarm m_rule m_boy m_marble m_farm m_now m_refused m_kept m_notePlace m_noteKind m_noteIs m_toldBy m_image ++ fr) (f_M_aimOf_J56 m_letters m_stack v4) := by
  unfold f_M_aimOf_J56
  refine h_iload hX dX11_aimOf_56 rfl ?_
  refine h_goto hX dX11_aimOf_58 (tgt := 62) (by decide) ?_
  exact w_M_aimOf_J62 hX
set_option maxRecDepth 4000 in
theorem w_M_aimOf_L5 {v1 : Int32} {v2 : Int32} (hX : gOk B X RX11 cX11_aimOf 6 6 (some .int)) (s : (Int32 × Int32 × (Nat → Int32) × (Nat → Int32))) : gH B X (Sum.elim (fun s : (Int32 × Int32 × (Nat → Int32) × (Nat → Int32)) => gG B X 5 [(0, .ref (aM B 0)), (1, .int v1), (2, .int v2), (3, .int s.1), (4, .int s.2.1)] [] (wdM B m_thrown m_size m_at m_wrong m_deep m_laws m_text m_readBoys m_readMarbles m_readFarms m_boys m_marbles m_farms m_holding m_spills m_acts m_draws m_bestRow m_bestMany m_noted m_hasImage m_tape m_code m_value m_codes m_clauses m_testFrom m_sumFrom m_sumTo s.2.2.1 s.2.2.2 m_readRule m_readBoy m_readMarble m_readFarm m_rule m_boy m_marble m_farm m_now m_refused m_kept m_notePlace m_noteKind m_noteIs m_toldBy m_image ++ fr)) (fun r : (Int32 × (Nat → Int32) × (Nat → Int32)) => gFin X (some (.int r.1)) (wdM B m_thrown m_size m_at m_wrong m_deep m_laws m_text m_readBoys m_readMarbles m_readFarms m_boys m_marbles m_farms m_holding m_spills m_acts m_draws m_bestRow m_bestMany m_noted m_hasImage m_tape m_code m_value m_codes m_clauses m_testFrom m_sumFrom m_sumTo r.2.1 r.2.2 m_readRule m_readBoy m_readMarble m_readFarm m_rule m_boy m_marble m_farm m_now m_refused m_kept m_notePlace m_noteKind m_noteIs m_toldBy m_image ++ fr))) 5 [(0, .ref (aM B 0)), (1, .int v1), (2, .int v2), (3, .int s.1), (4, .int s.2.1)] [] (wdM B m_thrown m_size m_at m_wrong m_deep m_laws m_text m_readBoys m_readMarbles m_readFarms m_boys m_marbles m_farms m_holding m_spills m_acts m_draws m_bestRow m_bestMany m_noted m_hasImage m_tape m_code m_value m_codes m_clauses m_testFrom m_sumFrom m_sumTo s.2.2.1 s.2.2.2 m_readRule m_readBoy m_readMarble m_readFarm m_rule m_boy m_marble m_farm m_now m_refused m_kept m_notePlace m_noteKind m_noteIs m_toldBy m_image ++ fr) (f_M_aimOf_L5 m_marbles m_holding m_code m_value m_clauses m_testFrom m_sumFrom m_sumTo m_rule m_boy m_marble m_now v1 v2 s) := by
  unfold f_M_aimOf_L5
  refine h_iload hX dX11_aimOf_5 rfl ?_
  refine h_bipush hX dX11_aimOf_7 kb_9 ?_
  refine h_icmp_gt hX dX11_aimOf_9 (tgt := 69) (by decide) (fun _ => ?_) (fun _ => ?_)
  · refine h_iload_n hX dX11_aimOf_69 rfl rfl ?_
    exact h_ret hX (rv := some (.int s.1)) dX11_aimOf_70 trivial (fun h => h)
  · refine h_aload_n hX dX11_aimOf_12 rfl rfl ?_
    refine h_iload_n hX dX11_aimOf_13 rfl rfl ?_
    refine h_iload_n hX dX11_aimOf_14 rfl rfl ?_
    refine h_iload hX dX11_aimOf_15 rfl ?_
    refine h_callVi hX dX11_aimOf_17 (cv_RX11_341) rc_M0 (As := [.int v1, .int v2, .int s.2.1]) (st := []) (fun _ h => c_M_landsAt h) rfl rfl (by decide) (Nat.le_of_ble_eq_true rfl) (fun a_1 => ?_)
    refine h_istore hX dX11_aimOf_20 (by decide) (lv' := [(0, .ref (aM B 0)), (1, .int v1), (2, .int v2), (3, .int s.1), (4, .int s.2.1), (5, .int a_1.1)]) rfl ?_
    refine h_aload_n hX dX11_aimOf_22 rfl rfl ?_
    refine h_iload hX dX11_aimOf_23 rfl ?_
    refine h_callVi hX dX11_aimOf_25 (cv_RX11_304) rc_M0 (As := [.int a_1.1]) (st := []) (fun _ h => c_M_isDrain h) rfl rfl (by decide) (Nat.le_of_ble_eq_true rfl) (fun a_2 => ?_)
    refine h_if_ne hX dX11_aimOf_28 (tgt := 61) (by decide) (fun _ => ?_) (fun _ => ?_)
    · refine gH.dead [0, 1, 2, 3, 4] rfl ?_
      exact w_M_aimOf_J61 hX
    · refine h_iload_n hX dX11_aimOf_31 rfl rfl ?_
      refine h_iconst hX dX11_aimOf_32 ki_m1 ?_
      refine h_icmp_eq hX dX11_aimOf_33 (tgt := 56) (by decide) (fun _ => ?_) (fun _ => ?_)
      · refine gH.dead [0, 1, 2, 4] rfl ?_
        exact w_M_aimOf_J56 hX
      · refine h_aload_n hX dX11_aimOf_36 rfl rfl ?_
        refine h_iload hX dX11_aimOf_37 rfl ?_
        refine h_callVi hX dX11_aimOf_39 (cv_RX11_307) rc_M0 (As := [.int a_1.1]) (st := []) (fun _ h => c_M_offHole h) rfl rfl (by decide) (Nat.le_of_ble_eq_true rfl) (fun a_4 => ?_)
        refine h_aload_n hX dX11_aimOf_42 rfl rfl ?_
        refine h_aload_n hX dX11_aimOf_43 rfl rfl ?_
        refine h_iload_n hX dX11_aimOf_44 rfl rfl ?_
        refine h_iload_n hX dX11_aimOf_45 rfl rfl ?_
        refine h_iload_n hX dX11_aimOf_46 rfl rfl ?_
        refine h_callVi hX dX11_aimOf_47 (cv_RX11_341) rc_M0 (As := [.int v1, .int v2, .int s.1]) (st := [.ref (aM B 0), .int a_4]) (fun _ h => c_M_landsAt h) rfl rfl (by decide) (Nat.le_of_ble_eq_true rfl) (fun a_5 => ?_)
        refine h_callVi hX dX11_aimOf_50 (cv_RX11_307) rc_M0 (As := [.int a_5.1]) (st := [.int a_4]) (fun _ h => c_M_offHole h) rfl rfl (by decide) (Nat.le_of_ble_eq_true rfl) (fun a_6 => ?_)
        refine h_icmp_ge hX dX11_aimOf_53 (tgt := 61) (by decide) (fun _ => ?_) (fun _ => ?_)
        · refine gH.dead [0, 1, 2, 3, 4] rfl ?_
          exact w_M_aimOf_J61 hX
        · refine gH.dead [0, 1, 2, 4] rfl ?_
          exact w_M_aimOf_J56 hX
set_option maxRecDepth 4000 in
theorem w_M_aimOf {p0 : Int32} {p1 : Int32} (hX : gOk B X RX11 cX11_aimOf 6 6 (some .int)) : gH B X (fun r : (Int32 × (Nat → Int32) × (Nat → Int32)) => gFin X (some (.int r.1)) (wdM B m_thrown m_size m_at m_wrong m_deep m_laws m_text m_readBoys m_readMarbles m_readFarms m_boys m_marbles m_farms m_holding m_spills m_acts m_draws m_bestRow m_bestMany m_noted m_hasImage m_tape m_code m_value m_codes m_clauses m_testFrom m_sumFrom m_sumTo r.2.1 r.2.2 m_readRule m_readBoy m_readMarble m_readFarm m_rule m_boy m_marble m_farm m_now m_refused m_kept m_notePlace m_noteKind m_noteIs m_toldBy m_image ++ fr)) 0 [(0, .ref (aM B 0)), (1, .int p0), (2, .int p1)] [] (wdM B m_thrown m_size m_at m_wrong m_deep m_laws m_text m_readBoys m_readMarbles m_readFarms m_boys m_marbles m_farms m_holding m_spills m_acts m_draws m_bestRow m_bestMany m_noted m_hasImage m_tape m_code m_value m_codes m_clauses m_testFrom m_sumFrom m_sumTo m_letters m_stack m_readRule m_readBoy m_readMarble m_readFarm m_rule m_boy m_marble m_farm m_now m_refused m_kept m_notePlace m_noteKind m_noteIs m_toldBy m_image ++ fr) (f_M_aimOf m_marbles m_holding m_code m_value m_clauses m_testFrom m_sumFrom m_sumTo m_letters m_stack m_rule m_boy m_marble m_now p0 p1) := by
  unfold f_M_aimOf
  refine h_iconst hX dX11_aimOf_0 ki_m1 ?_
  refine h_istore_n hX dX11_aimOf_1 rfl (by decide) (lv' := [(0, .ref (aM B 0)), (1, .int p0), (2, .int p1), (3, .int ((-1)))]) rfl ?_
  refine h_iconst hX dX11_aimOf_2 ki_1 ?_
  refine h_istore hX dX11_aimOf_3 (by decide) (lv' := [(0, .ref (aM B 0)), (1, .int p0), (2, .int p1), (3, .int ((-1))), (4, .int 1)]) rfl ?_
  exact gH.loop (lvf := fun z : (Int32 × Int32 × (Nat → Int32) × (Nat → Int32)) => [(0, .ref (aM B 0)), (1, .int p0), (2, .int p1), (3, .int z.1), (4, .int z.2.1)]) (wf := fun z : (Int32 × Int32 × (Nat → Int32) × (Nat → Int32)) => wdM B m_thrown m_size m_at m_wrong m_deep m_laws m_text m_readBoys m_readMarbles m_readFarms m_boys m_marbles m_farms m_holding m_spills m_acts m_draws m_bestRow m_bestMany m_noted m_hasImage m_tape m_code m_value m_codes m_clauses m_testFrom m_sumFrom m_sumTo z.2.2.1 z.2.2.2 m_readRule m_readBoy m_readMarble m_readFarm m_rule m_boy m_marble m_farm m_now m_refused m_kept m_notePlace m_noteKind m_noteIs m_toldBy m_image ++ fr) (fun z => w_M_aimOf_L5 hX z) ((-1), 1, m_letters, m_stack)
theorem c_M_aimOf {p0 : Int32} {p1 : Int32} {r : (Int32 × (Nat → Int32) × (Nat → Int32))} (h : f_M_aimOf m_marbles m_holding m_code m_value m_clauses m_testFrom m_sumFrom m_sumTo m_letters m_stack m_rule m_boy m_marble m_now p0 p1 = some r) : gMet B 6 yX11_aimOf cX11_aimOf 6 (some .int) [.ref (aM B 0), .int p0, .int p1] (wdM B m_thrown m_size m_at m_wrong m_deep m_laws m_text m_readBoys m_readMarbles m_readFarms m_boys m_marbles m_farms m_holding m_spills m_acts m_draws m_bestRow m_bestMany m_noted m_hasImage m_tape m_code m_value m_codes m_clauses m_testFrom m_sumFrom m_sumTo m_letters m_stack m_readRule m_readBoy m_readMarble m_readFarm m_rule m_boy m_marble m_farm m_now m_refused m_kept m_notePlace m_noteKind m_noteIs m_toldBy m_image ++ fr) (some (.int r.1)) (wdM B m_thrown m_size m_at m_wrong m_deep m_laws m_text m_readBoys m_readMarbles m_readFarms m_boys m_marbles m_farms m_holding m_spills m_acts m_draws m_bestRow m_bestMany m_noted m_hasImage m_tape m_code m_value m_codes m_clauses m_testFrom m_sumFrom m_sumTo r.2.1 r.2.2 m_readRule m_readBoy m_readMarble m_readFarm m_rule m_boy m_marble m_farm m_now m_refused m_kept m_notePlace m_noteKind m_noteIs m_toldBy m_image ++ fr) :=
  gMet.of rfl (Nat.le_of_ble_eq_true rfl) (fun X hX hF => w_M_aimOf hX r h hF)
set_option maxRecDepth 4000 in
theorem w_M_aim {p0 : Int32} {p1 : Int32} (hX : gOk B X RX11 cX11_aim 3 7 (some .int)) : gH B X (fun r : (Int32 × (Nat → Int32) × (Nat → Int32)) => gFin X (some (.int r.1)) (wdM B m_thrown m_size m_at m_wrong m_deep m_laws m_text m_readBoys m_readMarbles m_readFarms m_boys m_marbles m_farms m_holding m_spills m_acts m_draws m_bestRow m_bestMany m_noted m_hasImage m_tape m_code m_value m_codes m_clauses m_testFrom m_sumFrom m_sumTo r.2.1 r.2.2 m_readRule m_readBoy m_readMarble m_readFarm m_rule m_boy m_marble m_farm m_now m_refused m_kept m_notePlace m_noteKind m_noteIs m_toldBy m_image ++ fr)) 0 [(0, .ref (aM B 0)), (1, .int p0), (2, .int p1)] [] (wdM B m_thrown m_size m_at m_wrong m_deep m_laws m_text m_readBoys m_readMarbles m_readFarms m_boys m_marbles m_farms m_holding m_spills m_acts m_draws m_bestRow m_bestMany m_noted m_hasImage m_tape m_code m_value m_codes m_clauses m_testFrom m_sumFrom m_sumTo m_letters m_stack m_readRule m_readBoy m_readMarble m_readFarm m_rule m_boy m_marble m_farm m_now m_refused m_kept m_notePlace m_noteKind m_noteIs m_toldBy m_image ++ fr) (f_M_aim m_boys m_marbles m_holding m_code m_value m_clauses m_testFrom m_sumFrom m_sumTo m_letters m_stack m_rule m_boy m_marble m_now p0 p1) := by
  unfold f_M_aim
  refine h_aload_n hX dX11_aim_0 rfl rfl ?_
  refine h_iload_n hX dX11_aim_1 rfl rfl ?_
  refine h_callVi hX dX11_aim_2 (cv_RX11_325) rc_M0 (As := [.int p0]) (st := []) (fun _ h => c_M_isBoy h) rfl rfl (by decide) (Nat.le_of_ble_eq_true rfl) (fun a_1 => ?_)
  refine h_if_eq hX dX11_aim_5 (tgt := 25) (by decide) (fun _ => ?_) (fun _ => ?_)
  · refine h_iconst hX dX11_aim_25 ki_m1 ?_
    exact h_ret hX (rv := some (.int ((-1)))) dX11_aim_26 trivial (fun h => h)
  · refine h_aload_n hX dX11_aim_8 rfl rfl ?_
    refine h_iload_n hX dX11_aim_9 rfl rfl ?_
    refine h_callVi hX dX11_aim_10 (cv_RX11_328) rc_M0 (As := [.int p1]) (st := []) (fun _ h => c_M_isMarble h) rfl rfl (by decide) (Nat.le_of_ble_eq_true rfl) (fun a_2 => ?_)
    refine h_if_eq hX dX11_aim_13 (tgt := 25) (by decide) (fun _ => ?_) (fun _ => ?_)
    · refine h_iconst hX dX11_aim_25 ki_m1 ?_
      exact h_ret hX (rv := some (.int ((-1)))) dX11_aim_26 trivial (fun h => h)
    · refine h_aload_n hX dX11_aim_16 rfl rfl ?_
      refine h_iload_n hX dX11_aim_17 rfl rfl ?_
      refine h_iload_n hX dX11_aim_18 rfl rfl ?_
      refine h_callVi hX dX11_aim_19 (cv_RX11_398) rc_M0 (As := [.int p0, .int p1]) (st := []) (fun _ h => c_M_aimOf h) rfl rfl (by decide) (Nat.le_of_ble_eq_true rfl) (fun a_3 => ?_)
      refine h_goto hX dX11_aim_22 (tgt := 26) (by decide) ?_
      exact h_ret hX (rv := some (.int a_3.1)) dX11_aim_26 trivial (fun h => h)
theorem c_M_aim {p0 : Int32} {p1 : Int32} {r : (Int32 × (Nat → Int32) × (Nat → Int32))} (h : f_M_aim m_boys m_marbles m_holding m_code m_value m_clauses m_testFrom m_sumFrom m_sumTo m_letters m_stack m_rule m_boy m_marble m_now p0 p1 = some r) : gMet B 7 yX11_aim cX11_aim 3 (some .int) [.ref (aM B 0), .int p0, .int p1] (wdM B m_thrown m_size m_at m_wrong m_deep m_laws m_text m_readBoys m_readMarbles m_readFarms m_boys m_marbles m_farms m_holding m_spills m_acts m_draws m_bestRow m_bestMany m_noted m_hasImage m_tape m_code m_value m_codes m_clauses m_testFrom m_sumFrom m_sumTo m_letters m_stack m_readRule m_readBoy m_readMarble m_readFarm m_rule m_boy m_marble m_farm m_now m_refused m_kept m_notePlace m_noteKind m_noteIs m_toldBy m_image ++ fr) (some (.int r.1)) (wdM B m_thrown m_size m_at m_wrong m_deep m_laws m_text m_readBoys m_readMarbles m_readFarms m_boys m_marbles m_farms m_holding m_spills m_acts m_draws m_bestRow m_bestMany m_noted m_hasImage m_tape m_code m_value m_codes m_clauses m_testFrom m_sumFrom m_sumTo r.2.1 r.2.2 m_readRule m_readBoy m_readMarble m_readFarm m_rule m_boy m_marble m_farm m_now m_refused m_kept m_notePlace m_noteKind m_noteIs m_toldBy m_image ++ fr) :=
  gMet.of rfl (Nat.le_of_ble_eq_true rfl) (fun X hX hF => w_M_aim hX r h hF)
set_option maxRecDepth 4000 in
theorem w_M_areDays {p0 : Int32} (hX : gOk B X RX11 cX11_areDays 2 1 (some .boolean)) : gH B X (fun r : Int32 => gFin X (some (.int r)) (wdM B m_thrown m_size m_at m_wrong m_deep m_laws m_text m_readBoys m_readMarbles m_readFarms m_boys m_marbles m_farms m_holding m_spills m_acts m_draws m_bestRow m_bestMany m_noted m_hasImage m_tape m_code m_value m_codes m_clauses m_testFrom m_sumFrom m_sumTo m_letters m_stack m_readRule m_readBoy m_readMarble m_readFarm m_rule m_boy m_marble m_farm m_now m_refused m_kept m_notePlace m_noteKind m_noteIs m_toldBy m_image ++ fr)) 0 [(0, .ref (aM B 0)), (1, .int p0)] [] (wdM B m_thrown m_size m_at m_wrong m_deep m_laws m_text m_readBoys m_readMarbles m_readFarms m_boys m_marbles m_farms m_holding m_spills m_acts m_draws m_bestRow m_bestMany m_noted m_hasImage m_tape m_code m_value m_codes m_clauses m_testFrom m_sumFrom m_sumTo m_letters m_stack m_readRule m_readBoy m_readMarble m_readFarm m_rule m_boy m_marble m_farm m_now m_refused m_kept m_notePlace m_noteKind m_noteIs m_toldBy m_image ++ fr) (f_M_areDays m_now p0) := by
  unfold f_M_areDays
  refine h_iload_n hX dX11_areDays_0 rfl rfl ?_
  refine h_iconst hX dX11_areDays_1 ki_1 ?_
  refine h_bipush hX dX11_areDays_2 kb_60 ?_
  refine h_callSi hX dX11_areDays_4 (cs_RX11_208) (As := [.int p0, .int 1, .int 60]) (st := []) (fun _ h => c_M_in h) rfl rfl (by decide) (Nat.le_of_ble_eq_true rfl) (fun a_1 => ?_)
  refine h_if_eq hX dX11_areDays_7 (tgt := 29) (by decide) (fun _ => ?_) (fun _ => ?_)
  · refine h_iconst hX dX11_areDays_29 ki_0 ?_
    exact h_ret hX (rv := some (.int 0)) dX11_areDays_30 rfl (fun h => h)
  · refine h_aload_n hX dX11_areDays_10 rfl rfl ?_
    refine get_RX11_64_M0 hX dX11_areDays_11 ?_
    refine h_bipush hX dX11_areDays_14 kb_9 ?_
    refine ald_M19 hX dX11_areDays_16 ?_
    refine h_iload_n hX dX11_areDays_17 rfl rfl ?_
    refine h_iadd hX dX11_areDays_18 ?_
    refine h_sipush hX dX11_areDays_19 ks_9999 ?_
    refine h_icmp_gt hX dX11_areDays_22 (tgt := 29) (by decide) (fun _ => ?_) (fun _ => ?_)
    · refine h_iconst hX dX11_areDays_29 ki_0 ?_
      exact h_ret hX (rv := some (.int 0)) dX11_areDays_30 rfl (fun h => h)
    · refine h_iconst hX dX11_areDays_25 ki_1 ?_
      refine h_goto hX dX11_areDays_26 (tgt := 30) (by decide) ?_
      exact h_ret hX (rv := some (.int 1)) dX11_areDays_30 rfl (fun h => h)
theorem c_M_areDays {p0 : Int32} {r : Int32} (h : f_M_areDays m_now p0 = some r) : gMet B 1 yX11_areDays cX11_areDays 2 (some .boolean) [.ref (aM B 0), .int p0] (wdM B m_thrown m_size m_at m_wrong m_deep m_laws m_text m_readBoys m_readMarbles m_readFarms m_boys m_marbles m_farms m_holding m_spills m_acts m_draws m_bestRow m_bestMany m_noted m_hasImage m_tape m_code m_value m_codes m_clauses m_testFrom m_sumFrom m_sumTo m_letters m_stack m_readRule m_readBoy m_readMarble m_readFarm m_rule m_boy m_marble m_farm m_now m_refused m_kept m_notePlace m_noteKind m_noteIs m_toldBy m_image ++ fr) (some (.int r)) (wdM B m_thrown m_size m_at m_wrong m_deep m_laws m_text m_readBoys m_readMarbles m_readFarms m_boys m_marbles m_farms m_holding m_spills m_acts m_draws m_bestRow m_bestMany m_noted m_hasImage m_tape m_code m_value m_codes m_clauses m_testFrom m_sumFrom m_sumTo m_letters m_stack m_readRule m_readBoy m_readMarble m_readFarm m_rule m_boy m_marble m_farm m_now m_refused m_kept m_notePlace m_noteKind m_noteIs m_toldBy m_image ++ fr) :=
  gMet.of rfl (Nat.le_of_ble_eq_true rfl) (fun X hX hF => w_M_areDays hX r h hF)
set_option maxRecDepth 4000 in
theorem w_M_ofFarm {p0 : Int32} {p1 : Int32} (hX : gOk B X RX11 cX11_ofFarm 3 0 (some .int)) : gH B X (fun r : Int32 => gFin X (some (.int r)) (wdM B m_thrown m_size m_at m_wrong m_deep m_laws m_text m_readBoys m_readMarbles m_readFarms m_boys m_marbles m_farms m_holding m_spills m_acts m_draws m_bestRow m_bestMany m_noted m_hasImage m_tape m_code m_value m_codes m_clauses m_testFrom m_sumFrom m_sumTo m_letters m_stack m_readRule m_readBoy m_readMarble m_readFarm m_rule m_boy m_marble m_farm m_now m_refused m_kept m_notePlace m_noteKind m_noteIs m_toldBy m_image ++ fr)) 0 [(0, .ref (aM B 0)), (1, .int p0), (2, .int p1)] [] (wdM B m_thrown m_size m_at m_wrong m_deep m_laws m_text m_readBoys m_readMarbles m_readFarms m_boys m_marbles m_farms m_holding m_spills m_acts m_draws m_bestRow m_bestMany m_noted m_hasImage m_tape m_code m_value m_codes m_clauses m_testFrom m_sumFrom m_sumTo m_letters m_stack m_readRule m_readBoy m_readMarble m_readFarm m_rule m_boy m_marble m_farm m_now m_refused m_kept m_notePlace m_noteKind m_noteIs m_toldBy m_image ++ fr) (f_M_ofFarm m_farm p0 p1) := by
  unfold f_M_ofFarm
  refine h_aload_n hX dX11_ofFarm_0 rfl rfl ?_
  refine get_RX11_61_M0 hX dX11_ofFarm_1 ?_
  refine h_iconst hX dX11_ofFarm_4 ki_3 ?_
  refine h_iload_n hX dX11_ofFarm_5 rfl rfl ?_
  refine h_imul hX dX11_ofFarm_6 ?_
  refine h_iload_n hX dX11_ofFarm_7 rfl rfl ?_
  refine h_iadd hX dX11_ofFarm_8 ?_
  refine ald_M18 hX dX11_ofFarm_9 ?_
  exact h_ret hX (rv := some (.int (m_farm ((3 * p0) + p1 : Int32).toNatClampNeg))) dX11_ofFarm_10 trivial (fun h => h)
theorem c_M_ofFarm {p0 : Int32} {p1 : Int32} {r : Int32} (h : f_M_ofFarm m_farm p0 p1 = some r) : gMet B 0 yX11_ofFarm cX11_ofFarm 3 (some .int) [.ref (aM B 0), .int p0, .int p1] (wdM B m_thrown m_size m_at m_wrong m_deep m_laws m_text m_readBoys m_readMarbles m_readFarms m_boys m_marbles m_farms m_holding m_spills m_acts m_draws m_bestRow m_bestMany m_noted m_hasImage m_tape m_code m_value m_codes m_clauses m_testFrom m_sumFrom m_sumTo m_letters m_stack m_readRule m_readBoy m_readMarble m_readFarm m_rule m_boy m_marble m_farm m_now m_refused m_kept m_notePlace m_noteKind m_noteIs m_toldBy m_image ++ fr) (some (.int r)) (wdM B m_thrown m_size m_at m_wrong m_deep m_laws m_text m_readBoys m_readMarbles m_readFarms m_boys m_marbles m_farms m_holding m_spills m_acts m_draws m_bestRow m_bestMany m_noted m_hasImage m_tape m_code m_value m_codes m_clauses m_testFrom m_sumFrom m_sumTo m_letters m_stack m_readRule m_readBoy m_readMarble m_readFarm m_rule m_boy m_marble m_farm m_now m_refused m_kept m_notePlace m_noteKind m_noteIs m_toldBy m_image ++ fr) :=
  gMet.of rfl (Nat.le_of_ble_eq_true rfl) (fun X hX hF => w_M_ofFarm hX r h hF)
set_option maxRecDepth 4000 in
theorem w_M_worthNow_J26 {k0 : Int32} {k1 : Int32} {k2 : Int32} (hX : gOk B X RX11 cX11_worthNow 2 1 (some .int)) : gH B X (fun r : Int32 => gFin X (some (.int r)) (wdM B m_thrown m_size m_at m_wrong m_deep m_laws m_text m_readBoys m_readMarbles m_readFarms m_boys m_marbles m_farms m_holding m_spills m_acts m_draws m_bestRow m_bestMany m_noted m_hasImage m_tape m_code m_value m_codes m_clauses m_testFrom m_sumFrom m_sumTo m_letters m_stack m_readRule m_readBoy m_readMarble m_readFarm m_rule m_boy m_marble m_farm m_now m_refused m_kept m_notePlace m_noteKind m_noteIs m_toldBy m_image ++ fr)) 26 [] [.int k2, .int k1, .int k0] (wdM B m_thrown m_size m_at m_wrong m_deep m_laws m_text m_readBoys m_readMarbles m_readFarms m_boys m_marbles m_farms m_holding m_spills m_acts m_draws m_bestRow m_bestMany m_noted m_hasImage m_tape m_code m_value m_codes m_clauses m_testFrom m_sumFrom m_sumTo m_letters m_stack m_readRule m_readBoy m_readMarble m_readFarm m_rule m_boy m_marble m_farm m_now m_refused m_kept m_notePlace m_noteKind m_noteIs m_toldBy m_image ++ fr) (f_M_worthNow_J26 k0 k1 k2) := by
  unfold f_M_worthNow_J26
  refine h_isub hX dX11_worthNow_26 ?_
  refine h_jmax hX dX11_worthNow_27 cm_RX11_299 (by omega) (Nat.le_of_ble_eq_true rfl) ?_
  exact h_ret hX (rv := some (.int (jmax k0 (k1 - k2)))) dX11_worthNow_30 trivial (fun h => h)
set_option maxRecDepth 4000 in
theorem w_M_worthNow {p0 : Int32} (hX : gOk B X RX11 cX11_worthNow 2 1 (some .int)) : gH B X (fun r : Int32 => gFin X (some (.int r)) (wdM B m_thrown m_size m_at m_wrong m_deep m_laws m_text m_readBoys m_readMarbles m_readFarms m_boys m_marbles m_farms m_holding m_spills m_acts m_draws m_bestRow m_bestMany m_noted m_hasImage m_tape m_code m_value m_codes m_clauses m_testFrom m_sumFrom m_sumTo m_letters m_stack m_readRule m_readBoy m_readMarble m_readFarm m_rule m_boy m_marble m_farm m_now m_refused m_kept m_notePlace m_noteKind m_noteIs m_toldBy m_image ++ fr)) 0 [(0, .ref (aM B 0)), (1, .int p0)] [] (wdM B m_thrown m_size m_at m_wrong m_deep m_laws m_text m_readBoys m_readMarbles m_readFarms m_boys m_marbles m_farms m_holding m_spills m_acts m_draws m_bestRow m_bestMany m_noted m_hasImage m_tape m_code m_value m_codes m_clauses m_testFrom m_sumFrom m_sumTo m_letters m_stack m_readRule m_readBoy m_readMarble m_readFarm m_rule m_boy m_marble m_farm m_now m_refused m_kept m_notePlace m_noteKind m_noteIs m_toldBy m_image ++ fr) (f_M_worthNow m_marble m_now p0) := by
  unfold f_M_worthNow
  refine h_iconst hX dX11_worthNow_0 ki_0 ?_
  refine h_aload_n hX dX11_worthNow_1 rfl rfl ?_
  refine h_iload_n hX dX11_worthNow_2 rfl rfl ?_
  refine h_iconst hX dX11_worthNow_3 ki_2 ?_
  refine h_callVi hX dX11_worthNow_4 (cv_RX11_267) rc_M0 (As := [.int p0, .int 2]) (st := [.int 0]) (fun _ h => c_M_of h) rfl rfl (by decide) (Nat.le_of_ble_eq_true rfl) (fun a_1 => ?_)
  refine h_aload_n hX dX11_worthNow_7 rfl rfl ?_
  refine get_RX11_64_M0 hX dX11_worthNow_8 ?_
  refine h_bipush hX dX11_worthNow_11 kb_6 ?_
  refine ald_M19 hX dX11_worthNow_13 ?_
  refine h_iload_n hX dX11_worthNow_14 rfl rfl ?_
  refine h_callSi hX dX11_worthNow_15 (cs_RX11_219) (As := [.int (m_now (6 : Int32).toNatClampNeg), .int p0]) (st := [.int a_1, .int 0]) (fun _ h => c_M_has h) rfl rfl (by decide) (Nat.le_of_ble_eq_true rfl) (fun a_2 => ?_)
  refine h_if_eq hX dX11_worthNow_18 (tgt := 25) (by decide) (fun _ => ?_) (fun _ => ?_)
  · refine h_iconst hX dX11_worthNow_25 ki_0 ?_
    refine gH.dead [] rfl ?_
    exact w_M_worthNow_J26 hX
  · refine h_iconst hX dX11_worthNow_21 ki_2 ?_
    refine h_goto hX dX11_worthNow_22 (tgt := 26) (by decide) ?_
    refine gH.dead [] rfl ?_
    exact w_M_worthNow_J26 hX
theorem c_M_worthNow {p0 : Int32} {r : Int32} (h : f_M_worthNow m_marble m_now p0 = some r) : gMet B 1 yX11_worthNow cX11_worthNow 2 (some .int) [.ref (aM B 0), .int p0] (wdM B m_thrown m_size m_at m_wrong m_deep m_laws m_text m_readBoys m_readMarbles m_readFarms m_boys m_marbles m_farms m_holding m_spills m_acts m_draws m_bestRow m_bestMany m_noted m_hasImage m_tape m_code m_value m_codes m_clauses m_testFrom m_sumFrom m_sumTo m_letters m_stack m_readRule m_readBoy m_readMarble m_readFarm m_rule m_boy m_marble m_farm m_now m_refused m_kept m_notePlace m_noteKind m_noteIs m_toldBy m_image ++ fr) (some (.int r)) (wdM B m_thrown m_size m_at m_wrong m_deep m_laws m_text m_readBoys m_readMarbles m_readFarms m_boys m_marbles m_farms m_holding m_spills m_acts m_draws m_bestRow m_bestMany m_noted m_hasImage m_tape m_code m_value m_codes m_clauses m_testFrom m_sumFrom m_sumTo m_letters m_stack m_readRule m_readBoy m_readMarble m_readFarm m_rule m_boy m_marble m_farm m_now m_refused m_kept m_notePlace m_noteKind m_noteIs m_toldBy m_image ++ fr) :=
  gMet.of rfl (Nat.le_of_ble_eq_true rfl) (fun X hX hF => w_M_worthNow hX r h hF)
set_option maxRecDepth 4000 in
theorem w_M_strengthOf_J68 {v1 : Int32} {v2 : Int32} {v4 : Int32} {k0 : Int32} {k1 : Int32} (hX : gOk B X RX11 cX11_strengthOf 6 2 (some .int)) : gH B X (Sum.elim (fun s : (Int32 × Int32) => gG B X 5 [(0, .ref (aM B 0)), (1, .int v1), (2, .int v2), (3, .int s.1), (4, .int s.2)] [] (wdM B m_thrown m_size m_at m_wrong m_deep m_laws m_text m_readBoys m_readMarbles m_readFarms m_boys m_marbles m_farms m_holding m_spills m_acts m_draws m_bestRow m_bestMany m_noted m_hasImage m_tape m_code m_value m_codes m_clauses m_testFrom m_sumFrom m_sumTo m_letters m_stack m_readRule m_readBoy m_readMarble m_readFarm m_rule m_boy m_marble m_farm m_now m_refused m_kept m_notePlace m_noteKind m_noteIs m_toldBy m_image ++ fr)) (fun r : Int32 => gFin X (some (.int r)) (wdM B m_thrown m_size m_at m_wrong m_deep m_laws m_text m_readBoys m_readMarbles m_readFarms m_boys m_marbles m_farms m_holding m_spills m_acts m_draws m_bestRow m_bestMany m_noted m_hasImage m_tape m_code m_value m_codes m_clauses m_testFrom m_sumFrom m_sumTo m_letters m_stack m_readRule m_readBoy m_readMarble m_readFarm m_rule m_boy m_marble m_farm m_now m_refused m_kept m_notePlace m_noteKind m_noteIs m_toldBy m_image ++ fr))) 68 [(0, .ref (aM B 0)), (1, .int v1), (2, .int v2), (4, .int v4)] [.int k1, .int k0] (wdM B m_thrown m_size m_at m_wrong m_deep m_laws m_text m_readBoys m_readMarbles m_readFarms m_boys m_marbles m_farms m_holding m_spills m_acts m_draws m_bestRow m_bestMany m_noted m_hasImage m_tape m_code m_value m_codes m_clauses m_testFrom m_sumFrom m_sumTo m_letters m_stack m_readRule m_readBoy m_readMarble m_readFarm m_rule m_boy m_marble m_farm m_now m_refused m_kept m_notePlace m_noteKind m_noteIs m_toldBy m_image ++ fr) (f_M_strengthOf_J68 v4 k0 k1) := by
  unfold f_M_strengthOf_J68
  refine h_iadd hX dX11_strengthOf_68 ?_
  refine gH.leti (fun v3_2 => ?_)
  refine h_istore_n hX dX11_strengthOf_69 rfl (by decide) (lv' := [(0, .ref (aM B 0)), (1, .int v1), (2, .int v2), (3, .int v3_2), (4, .int v4)]) rfl ?_
  refine h_iincc hX dX11_strengthOf_70 rfl ki_1 (by decide) (lv' := [(0, .ref (aM B 0)), (1, .int v1), (2, .int v2), (3, .int v3_2), (4, .int (v4 + 1))]) rfl ?_
  refine h_goto hX dX11_strengthOf_73 (tgt := 5) (by decide) ?_
  exact gH.some' (fun h => h)
set_option maxRecDepth 4000 in
theorem w_M_strengthOf_J67 {v1 : Int32} {v2 : Int32} {v4 : Int32} {k0 : Int32} (hX : gOk B X RX11 cX11_strengthOf 6 2 (some .int)) : gH B X (Sum.elim (fun s : (Int32 × Int32) => gG B X 5 [(0, .ref (aM B 0)), (1, .int v1), (2, .int v2), (3, .int s.1), (4, .int s.2)] [] (wdM B m_thrown m_size m_at m_wrong m_deep m_laws m_text m_readBoys m_readMarbles m_readFarms m_boys m_marbles m_farms m_holding m_spills m_acts m_draws m_bestRow m_bestMany m_noted m_hasImage m_tape m_code m_value m_codes m_clauses m_testFrom m_sumFrom m_sumTo m_letters m_stack m_readRule m_readBoy m_readMarble m_readFarm m_rule m_boy m_marble m_farm m_now m_refused m_kept m_notePlace m_noteKind m_noteIs m_toldBy m_image ++ fr)) (fun r : Int32 => gFin X (some (.int r)) (wdM B m_thrown m_size m_at m_wrong m_deep m_laws m_text m_readBoys m_readMarbles m_readFarms m_boys m_marbles m_farms m_holding m_spills m_acts m_draws m_bestRow m_bestMany m_noted m_hasImage m_tape m_code m_value m_codes m_clauses m_testFrom m_sumFrom m_sumTo m_letters m_stack m_readRule m_readBoy m_readMarble m_readFarm m_rule m_boy m_marble m_farm m_now m_refused m_kept m_notePlace m_noteKind m_noteIs m_toldBy m_image ++ fr))) 67 [(0, .ref (aM B 0)), (1, .int v1), (2, .int v2), (4, .int v4)] [.int k0] (wdM B m_thrown m_size m_at m_wrong m_deep m_laws m_text m_readBoys m_readMarbles m_readFarms m_boys m_marbles m_farms m_holding m_spills m_acts m_draws m_bestRow m_bestMany m_noted m_hasImage m_tape m_code m_value m_codes m_clauses m_testFrom m_sumFrom m_sumTo m_letters m_stack m_readRule m_readBoy m_readMarble m_readFarm m_rule m_boy m_marble m_farm m_now m_refused m_kept m_notePlace m_noteKind m_noteIs m_toldBy m_image ++ fr) (f_M_strengthOf_J67 v4 k0) := by
  unfold f_M_strengthOf_J67
  refine h_iconst hX dX11_strengthOf_67 ki_0 ?_
  exact w_M_strengthOf_J68 hX
set_option maxRecDepth 4000 in
theorem w_M_strengthOf_L5 {v1 : Int32} {v2 : Int32} (hX : gOk B X RX11 cX11_strengthOf 6 2 (some .int)) (s : (Int32 × Int32)) : gH B X (Sum.elim (fun s : (Int32 × Int32) => gG B X 5 [(0, .ref (aM B 0)), (1, .int v1), (2, .int v2), (3, .int s.1), (4, .int s.2)] [] (wdM B m_thrown m_size m_at m_wrong m_deep m_laws m_text m_readBoys m_readMarbles m_readFarms m_boys m_marbles m_farms m_holding m_spills m_acts m_draws m_bestRow m_bestMany m_noted m_hasImage m_tape m_code m_value m_codes m_clauses m_testFrom m_sumFrom m_sumTo m_letters m_stack m_readRule m_readBoy m_readMarble m_readFarm m_rule m_boy m_marble m_farm m_now m_refused m_kept m_notePlace m_noteKind m_noteIs m_toldBy m_image ++ fr)) (fun r : Int32 => gFin X (some (.int r)) (wdM B m_thrown m_size m_at m_wrong m_deep m_laws m_text m_readBoys m_readMarbles m_readFarms m_boys m_marbles m_farms m_holding m_spills m_acts m_draws m_bestRow m_bestMany m_noted m_hasImage m_tape m_code m_value m_codes m_clauses m_testFrom m_sumFrom m_sumTo m_letters m_stack m_readRule m_readBoy m_readMarble m_readFarm m_rule m_boy m_marble m_farm m_now m_refused m_kept m_notePlace m_noteKind m_noteIs m_toldBy m_image ++ fr))) 5 [(0, .ref (aM B 0)), (1, .int v1), (2, .int v2), (3, .int s.1), (4, .int s.2)] [] (wdM B m_thrown m_size m_at m_wrong m_deep m_laws m_text m_readBoys m_readMarbles m_readFarms m_boys m_marbles m_farms m_holding m_spills m_acts m_draws m_bestRow m_bestMany m_noted m_hasImage m_tape m_code m_value m_codes m_clauses m_testFrom m_sumFrom m_sumTo m_letters m_stack m_readRule m_readBoy m_readMarble m_readFarm m_rule m_boy m_marble m_farm m_now m_refused m_kept m_notePlace m_noteKind m_noteIs m_toldBy m_image ++ fr) (f_M_strengthOf_L5 m_marbles m_boy m_marble m_now v1 v2 s) := by
  unfold f_M_strengthOf_L5
  refine h_iload hX dX11_strengthOf_5 rfl ?_
  refine h_aload_n hX dX11_strengthOf_7 rfl rfl ?_
  refine get_RX11_261_M0 hX dX11_strengthOf_8 ?_
  refine h_icmp_ge hX dX11_strengthOf_11 (tgt := 76) (by decide) (fun _ => ?_) (fun _ => ?_)
  · refine h_iload_n hX dX11_strengthOf_76 rfl rfl ?_
    exact h_ret hX (rv := some (.int s.1)) dX11_strengthOf_77 trivial (fun h => h)
  · refine h_aload_n hX dX11_strengthOf_14 rfl rfl ?_
    refine get_RX11_64_M0 hX dX11_strengthOf_15 ?_
    refine h_iconst hX dX11_strengthOf_18 ki_0 ?_
    refine h_iload hX dX11_strengthOf_19 rfl ?_
    refine h_iadd hX dX11_strengthOf_21 ?_
    refine ald_M19 hX dX11_strengthOf_22 ?_
    refine gH.leti (fun v5_1 => ?_)
    refine h_istore hX dX11_strengthOf_23 (by decide) (lv' := [(0, .ref (aM B 0)), (1, .int v1), (2, .int v2), (3, .int s.1), (4, .int s.2), (5, .int v5_1)]) rfl ?_
    refine h_iload_n hX dX11_strengthOf_25 rfl rfl ?_
    refine h_iload hX dX11_strengthOf_26 rfl ?_
    refine h_iconst hX dX11_strengthOf_28 ki_m1 ?_
    refine h_icmp_eq hX dX11_strengthOf_29 (tgt := 67) (by decide) (fun _ => ?_) (fun _ => ?_)
    · refine gH.dead [0, 1, 2, 4] rfl ?_
      exact w_M_strengthOf_J67 hX
    · refine h_aload_n hX dX11_strengthOf_32 rfl rfl ?_
      refine h_iload hX dX11_strengthOf_33 rfl ?_
      refine h_iconst hX dX11_strengthOf_35 ki_1 ?_
      refine h_callVi hX dX11_strengthOf_36 (cv_RX11_267) rc_M0 (As := [.int s.2, .int 1]) (st := [.int s.1]) (fun _ h => c_M_of h) rfl rfl (by decide) (Nat.le_of_ble_eq_true rfl) (fun a_4 => ?_)
      refine h_iload_n hX dX11_strengthOf_39 rfl rfl ?_
      refine h_icmp_ne hX dX11_strengthOf_40 (tgt := 67) (by decide) (fun _ => ?_) (fun _ => ?_)
      · refine gH.dead [0, 1, 2, 4] rfl ?_
        exact w_M_strengthOf_J67 hX
      · refine h_aload_n hX dX11_strengthOf_43 rfl rfl ?_
        refine get_RX11_55_M0 hX dX11_strengthOf_44 ?_
        refine h_iconst hX dX11_strengthOf_47 ki_2 ?_
        refine h_iload hX dX11_strengthOf_48 rfl ?_
        refine h_imul hX dX11_strengthOf_50 ?_
        refine h_iconst hX dX11_strengthOf_51 ki_1 ?_
        refine h_iadd hX dX11_strengthOf_52 ?_
        refine ald_M16 hX dX11_strengthOf_53 ?_
        refine h_iload_n hX dX11_strengthOf_54 rfl rfl ?_
        refine h_icmp_ne hX dX11_strengthOf_55 (tgt := 67) (by decide) (fun _ => ?_) (fun _ => ?_)
        · refine gH.dead [0, 1, 2, 4] rfl ?_
          exact w_M_strengthOf_J67 hX
        · refine h_aload_n hX dX11_strengthOf_58 rfl rfl ?_
          refine h_iload hX dX11_strengthOf_59 rfl ?_
          refine h_callVi hX dX11_strengthOf_61 (cv_RX11_310) rc_M0 (As := [.int s.2]) (st := [.int s.1]) (fun _ h => c_M_worthNow h) rfl rfl (by decide) (Nat.le_of_ble_eq_true rfl) (fun a_5 => ?_)
          refine h_goto hX dX11_strengthOf_64 (tgt := 68) (by decide) ?_
          refine gH.dead [0, 1, 2, 4] rfl ?_
          exact w_M_strengthOf_J68 hX
set_option maxRecDepth 4000 in
theorem w_M_strengthOf {p0 : Int32} {p1 : Int32} (hX : gOk B X RX11 cX11_strengthOf 6 2 (some .int)) : gH B X (fun r : Int32 => gFin X (some (.int r)) (wdM B m_thrown m_size m_at m_wrong m_deep m_laws m_text m_readBoys m_readMarbles m_readFarms m_boys m_marbles m_farms m_holding m_spills m_acts m_draws m_bestRow m_bestMany m_noted m_hasImage m_tape m_code m_value m_codes m_clauses m_testFrom m_sumFrom m_sumTo m_letters m_stack m_readRule m_readBoy m_readMarble m_readFarm m_rule m_boy m_marble m_farm m_now m_refused m_kept m_notePlace m_noteKind m_noteIs m_toldBy m_image ++ fr)) 0 [(0, .ref (aM B 0)), (1, .int p0), (2, .int p1)] [] (wdM B m_thrown m_size m_at m_wrong m_deep m_laws m_text m_readBoys m_readMarbles m_readFarms m_boys m_marbles m_farms m_holding m_spills m_acts m_draws m_bestRow m_bestMany m_noted m_hasImage m_tape m_code m_value m_codes m_clauses m_testFrom m_sumFrom m_sumTo m_letters m_stack m_readRule m_readBoy m_readMarble m_readFarm m_rule m_boy m_marble m_farm m_now m_refused m_kept m_notePlace m_noteKind m_noteIs m_toldBy m_image ++ fr) (f_M_strengthOf m_marbles m_boy m_marble m_now p0 p1) := by
  unfold f_M_strengthOf
  refine h_iconst hX dX11_strengthOf_0 ki_0 ?_
  refine h_istore_n hX dX11_strengthOf_1 rfl (by decide) (lv' := [(0, .ref (aM B 0)), (1, .int p0), (2, .int p1), (3, .int 0)]) rfl ?_
  refine h_iconst hX dX11_strengthOf_2 ki_0 ?_
  refine h_istore hX dX11_strengthOf_3 (by decide) (lv' := [(0, .ref (aM B 0)), (1, .int p0), (2, .int p1), (3, .int 0), (4, .int 0)]) rfl ?_
  exact gH.loop (lvf := fun z : (Int32 × Int32) => [(0, .ref (aM B 0)), (1, .int p0), (2, .int p1), (3, .int z.1), (4, .int z.2)]) (wf := fun z : (Int32 × Int32) => wdM B m_thrown m_size m_at m_wrong m_deep m_laws m_text m_readBoys m_readMarbles m_readFarms m_boys m_marbles m_farms m_holding m_spills m_acts m_draws m_bestRow m_bestMany m_noted m_hasImage m_tape m_code m_value m_codes m_clauses m_testFrom m_sumFrom m_sumTo m_letters m_stack m_readRule m_readBoy m_readMarble m_readFarm m_rule m_boy m_marble m_farm m_now m_refused m_kept m_notePlace m_noteKind m_noteIs m_toldBy m_image ++ fr) (fun z => w_M_strengthOf_L5 hX z) (0, 0)
theorem c_M_strengthOf {p0 : Int32} {p1 : Int32} {r : Int32} (h : f_M_strengthOf m_marbles m_boy m_marble m_now p0 p1 = some r) : gMet B 2 yX11_strengthOf cX11_strengthOf 6 (some .int) [.ref (aM B 0), .int p0, .int p1] (wdM B m_thrown m_size m_at m_wrong m_deep m_laws m_text m_readBoys m_readMarbles m_readFarms m_boys m_marbles m_farms m_holding m_spills m_acts m_draws m_bestRow m_bestMany m_noted m_hasImage m_tape m_code m_value m_codes m_clauses m_testFrom m_sumFrom m_sumTo m_letters m_stack m_readRule m_readBoy m_readMarble m_readFarm m_rule m_boy m_marble m_farm m_now m_refused m_kept m_notePlace m_noteKind m_noteIs m_toldBy m_image ++ fr) (some (.int r)) (wdM B m_thrown m_size m_at m_wrong m_deep m_laws m_text m_readBoys m_readMarbles m_readFarms m_boys m_marbles m_farms m_holding m_spills m_acts m_draws m_bestRow m_bestMany m_noted m_hasImage m_tape m_code m_value m_codes m_clauses m_testFrom m_sumFrom m_sumTo m_letters m_stack m_readRule m_readBoy m_readMarble m_readFarm m_rule m_boy m_marble m_farm m_now m_refused m_kept m_notePlace m_noteKind m_noteIs m_toldBy m_image ++ fr) :=
  gMet.of rfl (Nat.le_of_ble_eq_true rfl) (fun X hX hF => w_M_strengthOf hX r h hF)
set_option maxRecDepth 4000 in
theorem w_M_weatherOf_J35 {v1 : Int32} {v3 : Int32} {v4 : Int32} {v5 : Int32} {k0 : Int32} (hX : gOk B X RX11 cX11_weatherOf 6 3 (some .int)) : gH B X (Sum.elim (fun s : (Int32 × Int32 × Int32) => gG B X 7 [(0, .ref (aM B 0)), (1, .int v1), (2, .int s.1), (3, .int s.2.1), (4, .int s.2.2)] [] (wdM B m_thrown m_size m_at m_wrong m_deep m_laws m_text m_readBoys m_readMarbles m_readFarms m_boys m_marbles m_farms m_holding m_spills m_acts m_draws m_bestRow m_bestMany m_noted m_hasImage m_tape m_code m_value m_codes m_clauses m_testFrom m_sumFrom m_sumTo m_letters m_stack m_readRule m_readBoy m_readMarble m_readFarm m_rule m_boy m_marble m_farm m_now m_refused m_kept m_notePlace m_noteKind m_noteIs m_toldBy m_image ++ fr)) (fun r : Int32 => gFin X (some (.int r)) (wdM B m_thrown m_size m_at m_wrong m_deep m_laws m_text m_readBoys m_readMarbles m_readFarms m_boys m_marbles m_farms m_holding m_spills m_acts m_draws m_bestRow m_bestMany m_noted m_hasImage m_tape m_code m_value m_codes m_clauses m_testFrom m_sumFrom m_sumTo m_letters m_stack m_readRule m_readBoy m_readMarble m_readFarm m_rule m_boy m_marble m_farm m_now m_refused m_kept m_notePlace m_noteKind m_noteIs m_toldBy m_image ++ fr))) 35 [(0, .ref (aM B 0)), (1, .int v1), (3, .int v3), (4, .int v4), (5, .int v5)] [.int k0] (wdM B m_thrown m_size m_at m_wrong m_deep m_laws m_text m_readBoys m_readMarbles m_readFarms m_boys m_marbles m_farms m_holding m_spills m_acts m_draws m_bestRow m_bestMany m_noted m_hasImage m_tape m_code m_value m_codes m_clauses m_testFrom m_sumFrom m_sumTo m_letters m_stack m_readRule m_readBoy m_readMarble m_readFarm m_rule m_boy m_marble m_farm m_now m_refused m_kept m_notePlace m_noteKind m_noteIs m_toldBy m_image ++ fr) (f_M_weatherOf_J35 v3 v4 v5 k0) := by
  unfold f_M_weatherOf_J35
  refine h_istore_n hX dX11_weatherOf_35 rfl (by decide) (lv' := [(0, .ref (aM B 0)), (1, .int v1), (2, .int k0), (3, .int v3), (4, .int v4), (5, .int v5)]) rfl ?_
  refine h_iload_n hX dX11_weatherOf_36 rfl rfl ?_
  refine h_iload hX dX11_weatherOf_37 rfl ?_
  refine h_jmax hX dX11_weatherOf_39 cm_RX11_299 (by omega) (Nat.le_of_ble_eq_true rfl) ?_
  refine gH.leti (fun v3_2 => ?_)
  refine h_istore_n hX dX11_weatherOf_42 rfl (by decide) (lv' := [(0, .ref (aM B 0)), (1, .int v1), (2, .int k0), (3, .int v3_2), (4, .int v4), (5, .int v5)]) rfl ?_
  refine h_iincc hX dX11_weatherOf_43 rfl ki_1 (by decide) (lv' := [(0, .ref (aM B 0)), (1, .int v1), (2, .int k0), (3, .int v3_2), (4, .int (v4 + 1)), (5, .int v5)]) rfl ?_
  refine h_goto hX dX11_weatherOf_46 (tgt := 7) (by decide) ?_
  refine gH.dead [0, 1, 2, 3, 4] rfl ?_
  exact gH.some' (fun h => h)
set_option maxRecDepth 4000 in
theorem w_M_weatherOf_L7 {v1 : Int32} (hX : gOk B X RX11 cX11_weatherOf 6 3 (some .int)) (s : (Int32 × Int32 × Int32)) : gH B X (Sum.elim (fun s : (Int32 × Int32 × Int32) => gG B X 7 [(0, .ref (aM B 0)), (1, .int v1), (2, .int s.1), (3, .int s.2.1), (4, .int s.2.2)] [] (wdM B m_thrown m_size m_at m_wrong m_deep m_laws m_text m_readBoys m_readMarbles m_readFarms m_boys m_marbles m_farms m_holding m_spills m_acts m_draws m_bestRow m_bestMany m_noted m_hasImage m_tape m_code m_value m_codes m_clauses m_testFrom m_sumFrom m_sumTo m_letters m_stack m_readRule m_readBoy m_readMarble m_readFarm m_rule m_boy m_marble m_farm m_now m_refused m_kept m_notePlace m_noteKind m_noteIs m_toldBy m_image ++ fr)) (fun r : Int32 => gFin X (some (.int r)) (wdM B m_thrown m_size m_at m_wrong m_deep m_laws m_text m_readBoys m_readMarbles m_readFarms m_boys m_marbles m_farms m_holding m_spills m_acts m_draws m_bestRow m_bestMany m_noted m_hasImage m_tape m_code m_value m_codes m_clauses m_testFrom m_sumFrom m_sumTo m_letters m_stack m_readRule m_readBoy m_readMarble m_readFarm m_rule m_boy m_marble m_farm m_now m_refused m_kept m_notePlace m_noteKind m_noteIs m_toldBy m_image ++ fr))) 7 [(0, .ref (aM B 0)), (1, .int v1), (2, .int s.1), (3, .int s.2.1), (4, .int s.2.2)] [] (wdM B m_thrown m_size m_at m_wrong m_deep m_laws m_text m_readBoys m_readMarbles m_readFarms m_boys m_marbles m_farms m_holding m_spills m_acts m_draws m_bestRow m_bestMany m_noted m_hasImage m_tape m_code m_value m_codes m_clauses m_testFrom m_sumFrom m_sumTo m_letters m_stack m_readRule m_readBoy m_readMarble m_readFarm m_rule m_boy m_marble m_farm m_now m_refused m_kept m_notePlace m_noteKind m_noteIs m_toldBy m_image ++ fr) (f_M_weatherOf_L7 m_marbles m_boy m_marble m_now v1 s) := by
  unfold f_M_weatherOf_L7
  refine h_iload hX dX11_weatherOf_7 rfl ?_
  refine h_bipush hX dX11_weatherOf_9 kb_6 ?_
  refine h_icmp_ge hX dX11_weatherOf_11 (tgt := 49) (by decide) (fun _ => ?_) (fun _ => ?_)
  · refine h_iload_n hX dX11_weatherOf_49 rfl rfl ?_
    exact h_ret hX (rv := some (.int s.1)) dX11_weatherOf_50 trivial (fun h => h)
  · refine h_aload_n hX dX11_weatherOf_14 rfl rfl ?_
    refine h_iload_n hX dX11_weatherOf_15 rfl rfl ?_
    refine h_iload hX dX11_weatherOf_16 rfl ?_
    refine h_callVi hX dX11_weatherOf_18 (cv_RX11_313) rc_M0 (As := [.int v1, .int s.2.2]) (st := []) (fun _ h => c_M_strengthOf h) rfl rfl (by decide) (Nat.le_of_ble_eq_true rfl) (fun a_1 => ?_)
    refine h_istore hX dX11_weatherOf_21 (by decide) (lv' := [(0, .ref (aM B 0)), (1, .int v1), (2, .int s.1), (3, .int s.2.1), (4, .int s.2.2), (5, .int a_1)]) rfl ?_
    refine h_iload hX dX11_weatherOf_23 rfl ?_
    refine h_iload_n hX dX11_weatherOf_25 rfl rfl ?_
    refine h_icmp_le hX dX11_weatherOf_26 (tgt := 34) (by decide) (fun _ => ?_) (fun _ => ?_)
    · refine h_iload_n hX dX11_weatherOf_34 rfl rfl ?_
      refine gH.dead [0, 1, 3, 4, 5] rfl ?_
      exact w_M_weatherOf_J35 hX
    · refine h_iload hX dX11_weatherOf_29 rfl ?_
      refine h_goto hX dX11_weatherOf_31 (tgt := 35) (by decide) ?_
      refine gH.dead [0, 1, 3, 4, 5] rfl ?_
      exact w_M_weatherOf_J35 hX
set_option maxRecDepth 4000 in
theorem w_M_weatherOf {p0 : Int32} (hX : gOk B X RX11 cX11_weatherOf 6 3 (some .int)) : gH B X (fun r : Int32 => gFin X (some (.int r)) (wdM B m_thrown m_size m_at m_wrong m_deep m_laws m_text m_readBoys m_readMarbles m_readFarms m_boys m_marbles m_farms m_holding m_spills m_acts m_draws m_bestRow m_bestMany m_noted m_hasImage m_tape m_code m_value m_codes m_clauses m_testFrom m_sumFrom m_sumTo m_letters m_stack m_readRule m_readBoy m_readMarble m_readFarm m_rule m_boy m_marble m_farm m_now m_refused m_kept m_notePlace m_noteKind m_noteIs m_toldBy m_image ++ fr)) 0 [(0, .ref (aM B 0)), (1, .int p0)] [] (wdM B m_thrown m_size m_at m_wrong m_deep m_laws m_text m_readBoys m_readMarbles m_readFarms m_boys m_marbles m_farms m_holding m_spills m_acts m_draws m_bestRow m_bestMany m_noted m_hasImage m_tape m_code m_value m_codes m_clauses m_testFrom m_sumFrom m_sumTo m_letters m_stack m_readRule m_readBoy m_readMarble m_readFarm m_rule m_boy m_marble m_farm m_now m_refused m_kept m_notePlace m_noteKind m_noteIs m_toldBy m_image ++ fr) (f_M_weatherOf m_marbles m_boy m_marble m_now p0) := by
  unfold f_M_weatherOf
  refine h_iconst hX dX11_weatherOf_0 ki_m1 ?_
  refine h_istore_n hX dX11_weatherOf_1 rfl (by decide) (lv' := [(0, .ref (aM B 0)), (1, .int p0), (2, .int ((-1)))]) rfl ?_
  refine h_iconst hX dX11_weatherOf_2 ki_0 ?_
  refine h_istore_n hX dX11_weatherOf_3 rfl (by decide) (lv' := [(0, .ref (aM B 0)), (1, .int p0), (2, .int ((-1))), (3, .int 0)]) rfl ?_
  refine h_iconst hX dX11_weatherOf_4 ki_0 ?_
  refine h_istore hX dX11_weatherOf_5 (by decide) (lv' := [(0, .ref (aM B 0)), (1, .int p0), (2, .int ((-1))), (3, .int 0), (4, .int 0)]) rfl ?_
  exact gH.loop (lvf := fun z : (Int32 × Int32 × Int32) => [(0, .ref (aM B 0)), (1, .int p0), (2, .int z.1), (3, .int z.2.1), (4, .int z.2.2)]) (wf := fun z : (Int32 × Int32 × Int32) => wdM B m_thrown m_size m_at m_wrong m_deep m_laws m_text m_readBoys m_readMarbles m_readFarms m_boys m_marbles m_farms m_holding m_spills m_acts m_draws m_bestRow m_bestMany m_noted m_hasImage m_tape m_code m_value m_codes m_clauses m_testFrom m_sumFrom m_sumTo m_letters m_stack m_readRule m_readBoy m_readMarble m_readFarm m_rule m_boy m_marble m_farm m_now m_refused m_kept m_notePlace m_noteKind m_noteIs m_toldBy m_image ++ fr) (fun z => w_M_weatherOf_L7 hX z) ((-1), 0, 0)
theorem c_M_weatherOf {p0 : Int32} {r : Int32} (h : f_M_weatherOf m_marbles m_boy m_marble m_now p0 = some r) : gMet B 3 yX11_weatherOf cX11_weatherOf 6 (some .int) [.ref (aM B 0), .int p0] (wdM B m_thrown m_size m_at m_wrong m_deep m_laws m_text m_readBoys m_readMarbles m_readFarms m_boys m_marbles m_farms m_holding m_spills m_acts m_draws m_bestRow m_bestMany m_noted m_hasImage m_tape m_code m_value m_codes m_clauses m_testFrom m_sumFrom m_sumTo m_letters m_stack m_readRule m_readBoy m_readMarble m_readFarm m_rule m_boy m_marble m_farm m_now m_refused m_kept m_notePlace m_noteKind m_noteIs m_toldBy m_image ++ fr) (some (.int r)) (wdM B m_thrown m_size m_at m_wrong m_deep m_laws m_text m_readBoys m_readMarbles m_readFarms m_boys m_marbles m_farms m_holding m_spills m_acts m_draws m_bestRow m_bestMany m_noted m_hasImage m_tape m_code m_value m_codes m_clauses m_testFrom m_sumFrom m_sumTo m_letters m_stack m_readRule m_readBoy m_readMarble m_readFarm m_rule m_boy m_marble m_farm m_now m_refused m_kept m_notePlace m_noteKind m_noteIs m_toldBy m_image ++ fr) :=
  gMet.of rfl (Nat.le_of_ble_eq_true rfl) (fun X hX hF => w_M_weatherOf hX r h hF)
set_option maxRecDepth 4000 in
theorem w_M_isContent {p0 : Int32} (hX : gOk B X RX11 cX11_isContent 2 4 (some .boolean)) : gH B X (fun r : Int32 => gFin X (some (.int r)) (wdM B m_thrown m_size m_at m_wrong m_deep m_laws m_text m_readBoys m_readMarbles m_readFarms m_boys m_marbles m_farms m_holding m_spills m_acts m_draws m_bestRow m_bestMany m_noted m_hasImage m_tape m_code m_value m_codes m_clauses m_testFrom m_sumFrom m_sumTo m_letters m_stack m_readRule m_readBoy m_readMarble m_readFarm m_rule m_boy m_marble m_farm m_now m_refused m_kept m_notePlace m_noteKind m_noteIs m_toldBy m_image ++ fr)) 0 [(0, .ref (aM B 0)), (1, .int p0)] [] (wdM B m_thrown m_size m_at m_wrong m_deep m_laws m_text m_readBoys m_readMarbles m_readFarms m_boys m_marbles m_farms m_holding m_spills m_acts m_draws m_bestRow m_bestMany m_noted m_hasImage m_tape m_code m_value m_codes m_clauses m_testFrom m_sumFrom m_sumTo m_letters m_stack m_readRule m_readBoy m_readMarble m_readFarm m_rule m_boy m_marble m_farm m_now m_refused m_kept m_notePlace m_noteKind m_noteIs m_toldBy m_image ++ fr) (f_M_isContent m_marbles m_boy m_marble m_farm m_now p0) := by
  unfold f_M_isContent
  refine h_aload_n hX dX11_isContent_0 rfl rfl ?_
  refine h_aload_n hX dX11_isContent_1 rfl rfl ?_
  refine h_iload_n hX dX11_isContent_2 rfl rfl ?_
  refine h_iconst hX dX11_isContent_3 ki_0 ?_
  refine h_callVi hX dX11_isContent_4 (cv_RX11_316) rc_M0 (As := [.int p0, .int 0]) (st := [.ref (aM B 0)]) (fun _ h => c_M_ofFarm h) rfl rfl (by decide) (Nat.le_of_ble_eq_true rfl) (fun a_1 => ?_)
  refine h_callVi hX dX11_isContent_7 (cv_RX11_319) rc_M0 (As := [.int a_1]) (st := []) (fun _ h => c_M_weatherOf h) rfl rfl (by decide) (Nat.le_of_ble_eq_true rfl) (fun a_2 => ?_)
  refine h_aload_n hX dX11_isContent_10 rfl rfl ?_
  refine h_iload_n hX dX11_isContent_11 rfl rfl ?_
  refine h_iconst hX dX11_isContent_12 ki_1 ?_
  refine h_callVi hX dX11_isContent_13 (cv_RX11_316) rc_M0 (As := [.int p0, .int 1]) (st := [.int a_2]) (fun _ h => c_M_ofFarm h) rfl rfl (by decide) (Nat.le_of_ble_eq_true rfl) (fun a_3 => ?_)
  refine h_icmp_ne hX dX11_isContent_16 (tgt := 23) (by decide) (fun _ => ?_) (fun _ => ?_)
  · refine h_iconst hX dX11_isContent_23 ki_0 ?_
    exact h_ret hX (rv := some (.int 0)) dX11_isContent_24 rfl (fun h => h)
  · refine h_iconst hX dX11_isContent_19 ki_1 ?_
    refine h_goto hX dX11_isContent_20 (tgt := 24) (by decide) ?_
    exact h_ret hX (rv := some (.int 1)) dX11_isContent_24 rfl (fun h => h)
theorem c_M_isContent {p0 : Int32} {r : Int32} (h : f_M_isContent m_marbles m_boy m_marble m_farm m_now p0 = some r) : gMet B 4 yX11_isContent cX11_isContent 2 (some .boolean) [.ref (aM B 0), .int p0] (wdM B m_thrown m_size m_at m_wrong m_deep m_laws m_text m_readBoys m_readMarbles m_readFarms m_boys m_marbles m_farms m_holding m_spills m_acts m_draws m_bestRow m_bestMany m_noted m_hasImage m_tape m_code m_value m_codes m_clauses m_testFrom m_sumFrom m_sumTo m_letters m_stack m_readRule m_readBoy m_readMarble m_readFarm m_rule m_boy m_marble m_farm m_now m_refused m_kept m_notePlace m_noteKind m_noteIs m_toldBy m_image ++ fr) (some (.int r)) (wdM B m_thrown m_size m_at m_wrong m_deep m_laws m_text m_readBoys m_readMarbles m_readFarms m_boys m_marbles m_farms m_holding m_spills m_acts m_draws m_bestRow m_bestMany m_noted m_hasImage m_tape m_code m_value m_codes m_clauses m_testFrom m_sumFrom m_sumTo m_letters m_stack m_readRule m_readBoy m_readMarble m_readFarm m_rule m_boy m_marble m_farm m_now m_refused m_kept m_notePlace m_noteKind m_noteIs m_toldBy m_image ++ fr) :=
  gMet.of rfl (Nat.le_of_ble_eq_true rfl) (fun X hX hF => w_M_isContent hX r h hF)
set_option maxRecDepth 4000 in
theorem w_M_contents_J28 {v2 : Int32} {k0 : Int32} {k1 : Int32} (hX : gOk B X RX11 cX11_contents 3 5 (some .int)) : gH B X (Sum.elim (fun s : (Int32 × Int32) => gG B X 4 [(0, .ref (aM B 0)), (1, .int s.1), (2, .int s.2)] [] (wdM B m_thrown m_size m_at m_wrong m_deep m_laws m_text m_readBoys m_readMarbles m_readFarms m_boys m_marbles m_farms m_holding m_spills m_acts m_draws m_bestRow m_bestMany m_noted m_hasImage m_tape m_code m_value m_codes m_clauses m_testFrom m_sumFrom m_sumTo m_letters m_stack m_readRule m_readBoy m_readMarble m_readFarm m_rule m_boy m_marble m_farm m_now m_refused m_kept m_notePlace m_noteKind m_noteIs m_toldBy m_image ++ fr)) (fun r : Int32 => gFin X (some (.int r)) (wdM B m_thrown m_size m_at m_wrong m_deep m_laws m_text m_readBoys m_readMarbles m_readFarms m_boys m_marbles m_farms m_holding m_spills m_acts m_draws m_bestRow m_bestMany m_noted m_hasImage m_tape m_code m_value m_codes m_clauses m_testFrom m_sumFrom m_sumTo m_letters m_stack m_readRule m_readBoy m_readMarble m_readFarm m_rule m_boy m_marble m_farm m_now m_refused m_kept m_notePlace m_noteKind m_noteIs m_toldBy m_image ++ fr))) 28 [(0, .ref (aM B 0)), (2, .int v2)] [.int k1, .int k0] (wdM B m_thrown m_size m_at m_wrong m_deep m_laws m_text m_readBoys m_readMarbles m_readFarms m_boys m_marbles m_farms m_holding m_spills m_acts m_draws m_bestRow m_bestMany m_noted m_hasImage m_tape m_code m_value m_codes m_clauses m_testFrom m_sumFrom m_sumTo m_letters m_stack m_readRule m_readBoy m_readMarble m_readFarm m_rule m_boy m_marble m_farm m_now m_refused m_kept m_notePlace m_noteKind m_noteIs m_toldBy m_image ++ fr) (f_M_contents_J28 v2 k0 k1) := by
  unfold f_M_contents_J28
  refine h_ior hX dX11_contents_28 ?_
  refine gH.leti (fun v1_2 => ?_)
  refine h_istore_n hX dX11_contents_29 rfl (by decide) (lv' := [(0, .ref (aM B 0)), (1, .int v1_2), (2, .int v2)]) rfl ?_
  refine h_iincc hX dX11_contents_30 rfl ki_1 (by decide) (lv' := [(0, .ref (aM B 0)), (1, .int v1_2), (2, .int (v2 + 1))]) rfl ?_
  refine h_goto hX dX11_contents_33 (tgt := 4) (by decide) ?_
  exact gH.some' (fun h => h)
set_option maxRecDepth 4000 in
theorem w_M_contents_L4 (hX : gOk B X RX11 cX11_contents 3 5 (some .int)) (s : (Int32 × Int32)) : gH B X (Sum.elim (fun s : (Int32 × Int32) => gG B X 4 [(0, .ref (aM B 0)), (1, .int s.1), (2, .int s.2)] [] (wdM B m_thrown m_size m_at m_wrong m_deep m_laws m_text m_readBoys m_readMarbles m_readFarms m_boys m_marbles m_farms m_holding m_spills m_acts m_draws m_bestRow m_bestMany m_noted m_hasImage m_tape m_code m_value m_codes m_clauses m_testFrom m_sumFrom m_sumTo m_letters m_stack m_readRule m_readBoy m_readMarble m_readFarm m_rule m_boy m_marble m_farm m_now m_refused m_kept m_notePlace m_noteKind m_noteIs m_toldBy m_image ++ fr)) (fun r : Int32 => gFin X (some (.int r)) (wdM B m_thrown m_size m_at m_wrong m_deep m_laws m_text m_readBoys m_readMarbles m_readFarms m_boys m_marbles m_farms m_holding m_spills m_acts m_draws m_bestRow m_bestMany m_noted m_hasImage m_tape m_code m_value m_codes m_clauses m_testFrom m_sumFrom m_sumTo m_letters m_stack m_readRule m_readBoy m_readMarble m_readFarm m_rule m_boy m_marble m_farm m_now m_refused m_kept m_notePlace m_noteKind m_noteIs m_toldBy m_image ++ fr))) 4 [(0, .ref (aM B 0)), (1, .int s.1), (2, .int s.2)] [] (wdM B m_thrown m_size m_at m_wrong m_deep m_laws m_text m_readBoys m_readMarbles m_readFarms m_boys m_marbles m_farms m_holding m_spills m_acts m_draws m_bestRow m_bestMany m_noted m_hasImage m_tape m_code m_value m_codes m_clauses m_testFrom m_sumFrom m_sumTo m_letters m_stack m_readRule m_readBoy m_readMarble m_readFarm m_rule m_boy m_marble m_farm m_now m_refused m_kept m_notePlace m_noteKind m_noteIs m_toldBy m_image ++ fr) (f_M_contents_L4 m_marbles m_farms m_boy m_marble m_farm m_now s) := by
  unfold f_M_contents_L4
  refine h_iload_n hX dX11_contents_4 rfl rfl ?_
  refine h_aload_n hX dX11_contents_5 rfl rfl ?_
  refine get_RX11_264_M0 hX dX11_contents_6 ?_
  refine h_icmp_ge hX dX11_contents_9 (tgt := 36) (by decide) (fun _ => ?_) (fun _ => ?_)
  · refine h_iload_n hX dX11_contents_36 rfl rfl ?_
    exact h_ret hX (rv := some (.int s.1)) dX11_contents_37 trivial (fun h => h)
  · refine h_iload_n hX dX11_contents_12 rfl rfl ?_
    refine h_aload_n hX dX11_contents_13 rfl rfl ?_
    refine h_iload_n hX dX11_contents_14 rfl rfl ?_
    refine h_callVi hX dX11_contents_15 (cv_RX11_322) rc_M0 (As := [.int s.2]) (st := [.int s.1]) (fun _ h => c_M_isContent h) rfl rfl (by decide) (Nat.le_of_ble_eq_true rfl) (fun a_1 => ?_)
    refine h_if_eq hX dX11_contents_18 (tgt := 27) (by decide) (fun _ => ?_) (fun _ => ?_)
    · refine h_iconst hX dX11_contents_27 ki_0 ?_
      refine gH.dead [0, 2] rfl ?_
      exact w_M_contents_J28 hX
    · refine h_iconst hX dX11_contents_21 ki_1 ?_
      refine h_iload_n hX dX11_contents_22 rfl rfl ?_
      refine h_ishl hX dX11_contents_23 ?_
      refine h_goto hX dX11_contents_24 (tgt := 28) (by decide) ?_
      refine gH.dead [0, 2] rfl ?_
      exact w_M_contents_J28 hX
set_option maxRecDepth 4000 in
theorem w_M_contents (hX : gOk B X RX11 cX11_contents 3 5 (some .int)) : gH B X (fun r : Int32 => gFin X (some (.int r)) (wdM B m_thrown m_size m_at m_wrong m_deep m_laws m_text m_readBoys m_readMarbles m_readFarms m_boys m_marbles m_farms m_holding m_spills m_acts m_draws m_bestRow m_bestMany m_noted m_hasImage m_tape m_code m_value m_codes m_clauses m_testFrom m_sumFrom m_sumTo m_letters m_stack m_readRule m_readBoy m_readMarble m_readFarm m_rule m_boy m_marble m_farm m_now m_refused m_kept m_notePlace m_noteKind m_noteIs m_toldBy m_image ++ fr)) 0 [(0, .ref (aM B 0))] [] (wdM B m_thrown m_size m_at m_wrong m_deep m_laws m_text m_readBoys m_readMarbles m_readFarms m_boys m_marbles m_farms m_holding m_spills m_acts m_draws m_bestRow m_bestMany m_noted m_hasImage m_tape m_code m_value m_codes m_clauses m_testFrom m_sumFrom m_sumTo m_letters m_stack m_readRule m_readBoy m_readMarble m_readFarm m_rule m_boy m_marble m_farm m_now m_refused m_kept m_notePlace m_noteKind m_noteIs m_toldBy m_image ++ fr) (f_M_contents m_marbles m_farms m_boy m_marble m_farm m_now) := by
  unfold f_M_contents
  refine h_iconst hX dX11_contents_0 ki_0 ?_
  refine h_istore_n hX dX11_contents_1 rfl (by decide) (lv' := [(0, .ref (aM B 0)), (1, .int 0)]) rfl ?_
  refine h_iconst hX dX11_contents_2 ki_0 ?_
  refine h_istore_n hX dX11_contents_3 rfl (by decide) (lv' := [(0, .ref (aM B 0)), (1, .int 0), (2, .int 0)]) rfl ?_
  exact gH.loop (lvf := fun z : (Int32 × Int32) => [(0, .ref (aM B 0)), (1, .int z.1), (2, .int z.2)]) (wf := fun z : (Int32 × Int32) => wdM B m_thrown m_size m_at m_wrong m_deep m_laws m_text m_readBoys m_readMarbles m_readFarms m_boys m_marbles m_farms m_holding m_spills m_acts m_draws m_bestRow m_bestMany m_noted m_hasImage m_tape m_code m_value m_codes m_clauses m_testFrom m_sumFrom m_sumTo m_letters m_stack m_readRule m_readBoy m_readMarble m_readFarm m_rule m_boy m_marble m_farm m_now m_refused m_kept m_notePlace m_noteKind m_noteIs m_toldBy m_image ++ fr) (fun z => w_M_contents_L4 hX z) (0, 0)
theorem c_M_contents {r : Int32} (h : f_M_contents m_marbles m_farms m_boy m_marble m_farm m_now = some r) : gMet B 5 yX11_contents cX11_contents 3 (some .int) [.ref (aM B 0)] (wdM B m_thrown m_size m_at m_wrong m_deep m_laws m_text m_readBoys m_readMarbles m_readFarms m_boys m_marbles m_farms m_holding m_spills m_acts m_draws m_bestRow m_bestMany m_noted m_hasImage m_tape m_code m_value m_codes m_clauses m_testFrom m_sumFrom m_sumTo m_letters m_stack m_readRule m_readBoy m_readMarble m_readFarm m_rule m_boy m_marble m_farm m_now m_refused m_kept m_notePlace m_noteKind m_noteIs m_toldBy m_image ++ fr) (some (.int r)) (wdM B m_thrown m_size m_at m_wrong m_deep m_laws m_text m_readBoys m_readMarbles m_readFarms m_boys m_marbles m_farms m_holding m_spills m_acts m_draws m_bestRow m_bestMany m_noted m_hasImage m_tape m_code m_value m_codes m_clauses m_testFrom m_sumFrom m_sumTo m_letters m_stack m_readRule m_readBoy m_readMarble m_readFarm m_rule m_boy m_marble m_farm m_now m_refused m_kept m_notePlace m_noteKind m_noteIs m_toldBy m_image ++ fr) :=
  gMet.of rfl (Nat.le_of_ble_eq_true rfl) (fun X hX hF => w_M_contents hX r h hF)
