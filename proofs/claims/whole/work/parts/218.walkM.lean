variable {B : gB} {X : gX} {fr : va_W} {m_thrown : Int32} {m_size : Int32} {m_at : Int32} {m_wrong : Int32} {m_deep : Int32} {m_laws : Int32} {m_text : Int32} {m_readBoys : Int32} {m_readMarbles : Int32} {m_readFarms : Int32} {m_boys : Int32} {m_marbles : Int32} {m_farms : Int32} {m_holding : Int32} {m_spills : Int32} {m_acts : Int32} {m_draws : Int64} {m_bestRow : Int32} {m_bestMany : Int32} {m_noted : Int32} {m_hasImage : Int32} {m_tape : Nat → Int32} {m_code : Nat → Int32} {m_value : Nat → Int32} {m_codes : Nat → Int32} {m_clauses : Nat → Int32} {m_testFrom : Nat → Int32} {m_sumFrom : Nat → Int32} {m_sumTo : Nat → Int32} {m_letters : Nat → Int32} {m_stack : Nat → Int32} {m_readRule : Nat → Int32} {m_readBoy : Nat → Int32} {m_readMarble : Nat → Int32} {m_readFarm : Nat → Int32} {m_rule : Nat → Int32} {m_boy : Nat → Int32} {m_marble : Nat → Int32} {m_farm : Nat → Int32} {m_now : Nat → Int32} {m_refused : Nat → Int32} {m_kept : Nat → Int32} {m_notePlace : Nat → Int32} {m_noteKind : Nat → Int32} {m_noteIs : Nat → Int32} {m_toldBy : Nat → Int32} {m_image : Nat → Int32}
set_option maxRecDepth 4000 in
theorem w_M_richest_J36 {v2 : Int32} {k0 : Int32} (hX : gOk B X RX11 cX11_richest 3 1 (some .int)) : gH B X (Sum.elim (fun s : (Int32 × Int32) => gG B X 4 [(0, .ref (aM B 0)), (1, .int s.1), (2, .int s.2)] [] (wdM B m_thrown m_size m_at m_wrong m_deep m_laws m_text m_readBoys m_readMarbles m_readFarms m_boys m_marbles m_farms m_holding m_spills m_acts m_draws m_bestRow m_bestMany m_noted m_hasImage m_tape m_code m_value m_codes m_clauses m_testFrom m_sumFrom m_sumTo m_letters m_stack m_readRule m_readBoy m_readMarble m_readFarm m_rule m_boy m_marble m_farm m_now m_refused m_kept m_notePlace m_noteKind m_noteIs m_toldBy m_image ++ fr)) (fun r : Int32 => gFin X (some (.int r)) (wdM B m_thrown m_size m_at m_wrong m_deep m_laws m_text m_readBoys m_readMarbles m_readFarms m_boys m_marbles m_farms m_holding m_spills m_acts m_draws m_bestRow m_bestMany m_noted m_hasImage m_tape m_code m_value m_codes m_clauses m_testFrom m_sumFrom m_sumTo m_letters m_stack m_readRule m_readBoy m_readMarble m_readFarm m_rule m_boy m_marble m_farm m_now m_refused m_kept m_notePlace m_noteKind m_noteIs m_toldBy m_image ++ fr))) 36 [(0, .ref (aM B 0)), (2, .int v2)] [.int k0] (wdM B m_thrown m_size m_at m_wrong m_deep m_laws m_text m_readBoys m_readMarbles m_readFarms m_boys m_marbles m_farms m_holding m_spills m_acts m_draws m_bestRow m_bestMany m_noted m_hasImage m_tape m_code m_value m_codes m_clauses m_testFrom m_sumFrom m_sumTo m_letters m_stack m_readRule m_readBoy m_readMarble m_readFarm m_rule m_boy m_marble m_farm m_now m_refused m_kept m_notePlace m_noteKind m_noteIs m_toldBy m_image ++ fr) (f_M_richest_J36 v2 k0) := by
  unfold f_M_richest_J36
  refine h_istore_n hX dX11_richest_36 rfl (by decide) (lv' := [(0, .ref (aM B 0)), (1, .int k0), (2, .int v2)]) rfl ?_
  refine h_iincc hX dX11_richest_37 rfl ki_1 (by decide) (lv' := [(0, .ref (aM B 0)), (1, .int k0), (2, .int (v2 + 1))]) rfl ?_
  refine h_goto hX dX11_richest_40 (tgt := 4) (by decide) ?_
  exact gH.some' (fun h => h)
set_option maxRecDepth 4000 in
theorem w_M_richest_L4 (hX : gOk B X RX11 cX11_richest 3 1 (some .int)) (s : (Int32 × Int32)) : gH B X (Sum.elim (fun s : (Int32 × Int32) => gG B X 4 [(0, .ref (aM B 0)), (1, .int s.1), (2, .int s.2)] [] (wdM B m_thrown m_size m_at m_wrong m_deep m_laws m_text m_readBoys m_readMarbles m_readFarms m_boys m_marbles m_farms m_holding m_spills m_acts m_draws m_bestRow m_bestMany m_noted m_hasImage m_tape m_code m_value m_codes m_clauses m_testFrom m_sumFrom m_sumTo m_letters m_stack m_readRule m_readBoy m_readMarble m_readFarm m_rule m_boy m_marble m_farm m_now m_refused m_kept m_notePlace m_noteKind m_noteIs m_toldBy m_image ++ fr)) (fun r : Int32 => gFin X (some (.int r)) (wdM B m_thrown m_size m_at m_wrong m_deep m_laws m_text m_readBoys m_readMarbles m_readFarms m_boys m_marbles m_farms m_holding m_spills m_acts m_draws m_bestRow m_bestMany m_noted m_hasImage m_tape m_code m_value m_codes m_clauses m_testFrom m_sumFrom m_sumTo m_letters m_stack m_readRule m_readBoy m_readMarble m_readFarm m_rule m_boy m_marble m_farm m_now m_refused m_kept m_notePlace m_noteKind m_noteIs m_toldBy m_image ++ fr))) 4 [(0, .ref (aM B 0)), (1, .int s.1), (2, .int s.2)] [] (wdM B m_thrown m_size m_at m_wrong m_deep m_laws m_text m_readBoys m_readMarbles m_readFarms m_boys m_marbles m_farms m_holding m_spills m_acts m_draws m_bestRow m_bestMany m_noted m_hasImage m_tape m_code m_value m_codes m_clauses m_testFrom m_sumFrom m_sumTo m_letters m_stack m_readRule m_readBoy m_readMarble m_readFarm m_rule m_boy m_marble m_farm m_now m_refused m_kept m_notePlace m_noteKind m_noteIs m_toldBy m_image ++ fr) (f_M_richest_L4 m_boys m_marbles m_now s) := by
  unfold f_M_richest_L4
  refine h_iload_n hX dX11_richest_4 rfl rfl ?_
  refine h_aload_n hX dX11_richest_5 rfl rfl ?_
  refine get_RX11_258_M0 hX dX11_richest_6 ?_
  refine h_icmp_ge hX dX11_richest_9 (tgt := 43) (by decide) (fun _ => ?_) (fun _ => ?_)
  · refine h_iload_n hX dX11_richest_43 rfl rfl ?_
    exact h_ret hX (rv := some (.int s.1)) dX11_richest_44 trivial (fun h => h)
  · refine h_aload_n hX dX11_richest_12 rfl rfl ?_
    refine h_iload_n hX dX11_richest_13 rfl rfl ?_
    refine h_callVi hX dX11_richest_14 (cv_RX11_286) rc_M0 (As := [.int s.2]) (st := []) (fun _ h => c_M_handsOf h) rfl rfl (by decide) (Nat.le_of_ble_eq_true rfl) (fun a_1 => ?_)
    refine h_callSi hX dX11_richest_17 (cs_RX11_289) (As := [.int a_1]) (st := []) (fun _ h => c_J_bitCount h) rfl rfl (by decide) (Nat.le_of_ble_eq_true rfl) (fun a_2 => ?_)
    refine h_aload_n hX dX11_richest_20 rfl rfl ?_
    refine h_iload_n hX dX11_richest_21 rfl rfl ?_
    refine h_callVi hX dX11_richest_22 (cv_RX11_286) rc_M0 (As := [.int s.1]) (st := [.int a_2]) (fun _ h => c_M_handsOf h) rfl rfl (by decide) (Nat.le_of_ble_eq_true rfl) (fun a_3 => ?_)
    refine h_callSi hX dX11_richest_25 (cs_RX11_289) (As := [.int a_3]) (st := [.int a_2]) (fun _ h => c_J_bitCount h) rfl rfl (by decide) (Nat.le_of_ble_eq_true rfl) (fun a_4 => ?_)
    refine h_icmp_le hX dX11_richest_28 (tgt := 35) (by decide) (fun _ => ?_) (fun _ => ?_)
    · refine h_iload_n hX dX11_richest_35 rfl rfl ?_
      refine gH.dead [0, 2] rfl ?_
      exact w_M_richest_J36 hX
    · refine h_iload_n hX dX11_richest_31 rfl rfl ?_
      refine h_goto hX dX11_richest_32 (tgt := 36) (by decide) ?_
      refine gH.dead [0, 2] rfl ?_
      exact w_M_richest_J36 hX
set_option maxRecDepth 4000 in
theorem w_M_richest (hX : gOk B X RX11 cX11_richest 3 1 (some .int)) : gH B X (fun r : Int32 => gFin X (some (.int r)) (wdM B m_thrown m_size m_at m_wrong m_deep m_laws m_text m_readBoys m_readMarbles m_readFarms m_boys m_marbles m_farms m_holding m_spills m_acts m_draws m_bestRow m_bestMany m_noted m_hasImage m_tape m_code m_value m_codes m_clauses m_testFrom m_sumFrom m_sumTo m_letters m_stack m_readRule m_readBoy m_readMarble m_readFarm m_rule m_boy m_marble m_farm m_now m_refused m_kept m_notePlace m_noteKind m_noteIs m_toldBy m_image ++ fr)) 0 [(0, .ref (aM B 0))] [] (wdM B m_thrown m_size m_at m_wrong m_deep m_laws m_text m_readBoys m_readMarbles m_readFarms m_boys m_marbles m_farms m_holding m_spills m_acts m_draws m_bestRow m_bestMany m_noted m_hasImage m_tape m_code m_value m_codes m_clauses m_testFrom m_sumFrom m_sumTo m_letters m_stack m_readRule m_readBoy m_readMarble m_readFarm m_rule m_boy m_marble m_farm m_now m_refused m_kept m_notePlace m_noteKind m_noteIs m_toldBy m_image ++ fr) (f_M_richest m_boys m_marbles m_now) := by
  unfold f_M_richest
  refine h_iconst hX dX11_richest_0 ki_0 ?_
  refine h_istore_n hX dX11_richest_1 rfl (by decide) (lv' := [(0, .ref (aM B 0)), (1, .int 0)]) rfl ?_
  refine h_iconst hX dX11_richest_2 ki_1 ?_
  refine h_istore_n hX dX11_richest_3 rfl (by decide) (lv' := [(0, .ref (aM B 0)), (1, .int 0), (2, .int 1)]) rfl ?_
  exact gH.loop (lvf := fun z : (Int32 × Int32) => [(0, .ref (aM B 0)), (1, .int z.1), (2, .int z.2)]) (wf := fun z : (Int32 × Int32) => wdM B m_thrown m_size m_at m_wrong m_deep m_laws m_text m_readBoys m_readMarbles m_readFarms m_boys m_marbles m_farms m_holding m_spills m_acts m_draws m_bestRow m_bestMany m_noted m_hasImage m_tape m_code m_value m_codes m_clauses m_testFrom m_sumFrom m_sumTo m_letters m_stack m_readRule m_readBoy m_readMarble m_readFarm m_rule m_boy m_marble m_farm m_now m_refused m_kept m_notePlace m_noteKind m_noteIs m_toldBy m_image ++ fr) (fun z => w_M_richest_L4 hX z) (0, 1)
theorem c_M_richest {r : Int32} (h : f_M_richest m_boys m_marbles m_now = some r) : gMet B 1 yX11_richest cX11_richest 3 (some .int) [.ref (aM B 0)] (wdM B m_thrown m_size m_at m_wrong m_deep m_laws m_text m_readBoys m_readMarbles m_readFarms m_boys m_marbles m_farms m_holding m_spills m_acts m_draws m_bestRow m_bestMany m_noted m_hasImage m_tape m_code m_value m_codes m_clauses m_testFrom m_sumFrom m_sumTo m_letters m_stack m_readRule m_readBoy m_readMarble m_readFarm m_rule m_boy m_marble m_farm m_now m_refused m_kept m_notePlace m_noteKind m_noteIs m_toldBy m_image ++ fr) (some (.int r)) (wdM B m_thrown m_size m_at m_wrong m_deep m_laws m_text m_readBoys m_readMarbles m_readFarms m_boys m_marbles m_farms m_holding m_spills m_acts m_draws m_bestRow m_bestMany m_noted m_hasImage m_tape m_code m_value m_codes m_clauses m_testFrom m_sumFrom m_sumTo m_letters m_stack m_readRule m_readBoy m_readMarble m_readFarm m_rule m_boy m_marble m_farm m_now m_refused m_kept m_notePlace m_noteKind m_noteIs m_toldBy m_image ++ fr) :=
  gMet.of rfl (Nat.le_of_ble_eq_true rfl) (fun X hX hF => w_M_richest hX r h hF)
set_option maxRecDepth 4000 in
theorem w_M_most_J45 {v1 : Int32} {v3 : Int32} {k0 : Int32} {k1 : Int32} (hX : gOk B X RX11 cX11_most 4 8 (some .int)) : gH B X (Sum.elim (fun s : (Int32 × Int32) => gG B X 22 [(0, .ref (aM B 0)), (1, .int v1), (2, .int s.1), (3, .int s.2)] [] (wdM B m_thrown m_size m_at m_wrong m_deep m_laws m_text m_readBoys m_readMarbles m_readFarms m_boys m_marbles m_farms m_holding m_spills m_acts m_draws m_bestRow m_bestMany m_noted m_hasImage m_tape m_code m_value m_codes m_clauses m_testFrom m_sumFrom m_sumTo m_letters m_stack m_readRule m_readBoy m_readMarble m_readFarm m_rule m_boy m_marble m_farm m_now m_refused m_kept m_notePlace m_noteKind m_noteIs m_toldBy m_image ++ fr)) (fun r : (Int32 × (Nat → Int32) × (Nat → Int32)) => gFin X (some (.int r.1)) (wdM B m_thrown m_size m_at m_wrong m_deep m_laws m_text m_readBoys m_readMarbles m_readFarms m_boys m_marbles m_farms m_holding m_spills m_acts m_draws m_bestRow m_bestMany m_noted m_hasImage m_tape m_code m_value m_codes m_clauses m_testFrom m_sumFrom m_sumTo r.2.1 r.2.2 m_readRule m_readBoy m_readMarble m_readFarm m_rule m_boy m_marble m_farm m_now m_refused m_kept m_notePlace m_noteKind m_noteIs m_toldBy m_image ++ fr))) 45 [(0, .ref (aM B 0)), (1, .int v1), (3, .int v3)] [.int k1, .int k0] (wdM B m_thrown m_size m_at m_wrong m_deep m_laws m_text m_readBoys m_readMarbles m_readFarms m_boys m_marbles m_farms m_holding m_spills m_acts m_draws m_bestRow m_bestMany m_noted m_hasImage m_tape m_code m_value m_codes m_clauses m_testFrom m_sumFrom m_sumTo m_letters m_stack m_readRule m_readBoy m_readMarble m_readFarm m_rule m_boy m_marble m_farm m_now m_refused m_kept m_notePlace m_noteKind m_noteIs m_toldBy m_image ++ fr) (f_M_most_J45 v3 k0 k1) := by
  unfold f_M_most_J45
  refine h_ior hX dX11_most_45 ?_
  refine gH.leti (fun v2_7 => ?_)
  refine h_istore_n hX dX11_most_46 rfl (by decide) (lv' := [(0, .ref (aM B 0)), (1, .int v1), (2, .int v2_7), (3, .int v3)]) rfl ?_
  refine h_iincc hX dX11_most_47 rfl ki_1 (by decide) (lv' := [(0, .ref (aM B 0)), (1, .int v1), (2, .int v2_7), (3, .int (v3 + 1))]) rfl ?_
  refine h_goto hX dX11_most_50 (tgt := 22) (by decide) ?_
  exact gH.some' (fun h => h)
set_option maxRecDepth 4000 in
theorem w_M_most_L22 {v1 : Int32} (hX : gOk B X RX11 cX11_most 4 8 (some .int)) (s : (Int32 × Int32)) : gH B X (Sum.elim (fun s : (Int32 × Int32) => gG B X 22 [(0, .ref (aM B 0)), (1, .int v1), (2, .int s.1), (3, .int s.2)] [] (wdM B m_thrown m_size m_at m_wrong m_deep m_laws m_text m_readBoys m_readMarbles m_readFarms m_boys m_marbles m_farms m_holding m_spills m_acts m_draws m_bestRow m_bestMany m_noted m_hasImage m_tape m_code m_value m_codes m_clauses m_testFrom m_sumFrom m_sumTo m_letters m_stack m_readRule m_readBoy m_readMarble m_readFarm m_rule m_boy m_marble m_farm m_now m_refused m_kept m_notePlace m_noteKind m_noteIs m_toldBy m_image ++ fr)) (fun r : (Int32 × (Nat → Int32) × (Nat → Int32)) => gFin X (some (.int r.1)) (wdM B m_thrown m_size m_at m_wrong m_deep m_laws m_text m_readBoys m_readMarbles m_readFarms m_boys m_marbles m_farms m_holding m_spills m_acts m_draws m_bestRow m_bestMany m_noted m_hasImage m_tape m_code m_value m_codes m_clauses m_testFrom m_sumFrom m_sumTo r.2.1 r.2.2 m_readRule m_readBoy m_readMarble m_readFarm m_rule m_boy m_marble m_farm m_now m_refused m_kept m_notePlace m_noteKind m_noteIs m_toldBy m_image ++ fr))) 22 [(0, .ref (aM B 0)), (1, .int v1), (2, .int s.1), (3, .int s.2)] [] (wdM B m_thrown m_size m_at m_wrong m_deep m_laws m_text m_readBoys m_readMarbles m_readFarms m_boys m_marbles m_farms m_holding m_spills m_acts m_draws m_bestRow m_bestMany m_noted m_hasImage m_tape m_code m_value m_codes m_clauses m_testFrom m_sumFrom m_sumTo m_letters m_stack m_readRule m_readBoy m_readMarble m_readFarm m_rule m_boy m_marble m_farm m_now m_refused m_kept m_notePlace m_noteKind m_noteIs m_toldBy m_image ++ fr) (f_M_most_L22 m_boys m_marbles m_holding m_code m_value m_clauses m_testFrom m_sumFrom m_sumTo m_letters m_stack m_rule m_boy m_marble m_now v1 s) := by
  unfold f_M_most_L22
  refine h_iload_n hX dX11_most_22 rfl rfl ?_
  refine h_bipush hX dX11_most_23 kb_10 ?_
  refine h_icmp_ge hX dX11_most_25 (tgt := 53) (by decide) (fun _ => ?_) (fun _ => ?_)
  · refine gH.inr ?_
    refine h_iload_n hX dX11_most_53 rfl rfl ?_
    refine h_if_ne hX dX11_most_54 (tgt := 64) (by decide) (fun _ => ?_) (fun _ => ?_)
    · refine h_iload_n hX dX11_most_64 rfl rfl ?_
      refine h_iconst hX dX11_most_65 ki_1 ?_
      refine h_icmp_ne hX dX11_most_66 (tgt := 91) (by decide) (fun _ => ?_) (fun _ => ?_)
      · refine h_iload_n hX dX11_most_91 rfl rfl ?_
        refine h_iconst hX dX11_most_92 ki_2 ?_
        refine h_icmp_ne hX dX11_most_93 (tgt := 100) (by decide) (fun _ => ?_) (fun _ => ?_)
        · refine h_aload_n hX dX11_most_100 rfl rfl ?_
          refine h_callVi hX dX11_most_101 (cv_RX11_466) rc_M0 (As := []) (st := []) (fun _ h => c_M_champion h) rfl rfl (by decide) (Nat.le_of_ble_eq_true rfl) (fun a_2 => ?_)
          exact h_ret hX (rv := some (.int a_2.1)) dX11_most_104 trivial (fun h => h)
        · refine h_iload_n hX dX11_most_96 rfl rfl ?_
          refine h_goto hX dX11_most_97 (tgt := 104) (by decide) ?_
          exact h_ret hX (rv := some (.int s.1)) dX11_most_104 trivial (fun h => h)
      · refine h_aload_n hX dX11_most_69 rfl rfl ?_
        refine h_iconst hX dX11_most_70 ki_1 ?_
        refine h_aload_n hX dX11_most_71 rfl rfl ?_
        refine get_RX11_261_M0 hX dX11_most_72 ?_
        refine h_ishl hX dX11_most_75 ?_
        refine h_iconst hX dX11_most_76 ki_1 ?_
        refine h_isub hX dX11_most_77 ?_
        refine h_aload_n hX dX11_most_78 rfl rfl ?_
        refine h_callVi hX dX11_most_79 (cv_RX11_454) rc_M0 (As := []) (st := [.int ((1 <<< (m_marbles &&& 31)) - 1), .ref (aM B 0)]) (fun _ h => c_M_drained h) rfl rfl (by decide) (Nat.le_of_ble_eq_true rfl) (fun a_3 => ?_)
        refine h_iconst hX dX11_most_82 ki_m1 ?_
        refine h_ixor hX dX11_most_83 ?_
        refine h_iand hX dX11_most_84 ?_
        refine h_callVi hX dX11_most_85 (cv_RX11_460) rc_M0 (As := [.int (((1 <<< (m_marbles &&& 31)) - 1) &&& (a_3 ^^^ ((-1))))]) (st := []) (fun _ h => c_M_strongest h) rfl rfl (by decide) (Nat.le_of_ble_eq_true rfl) (fun a_4 => ?_)
        refine h_goto hX dX11_most_88 (tgt := 104) (by decide) ?_
        exact h_ret hX (rv := some (.int a_4)) dX11_most_104 trivial (fun h => h)
    · refine h_aload_n hX dX11_most_57 rfl rfl ?_
      refine h_callVi hX dX11_most_58 (cv_RX11_463) rc_M0 (As := []) (st := []) (fun _ h => c_M_richest h) rfl rfl (by decide) (Nat.le_of_ble_eq_true rfl) (fun a_5 => ?_)
      refine h_goto hX dX11_most_61 (tgt := 104) (by decide) ?_
      exact h_ret hX (rv := some (.int a_5)) dX11_most_104 trivial (fun h => h)
  · refine h_iload_n hX dX11_most_28 rfl rfl ?_
    refine h_aload_n hX dX11_most_29 rfl rfl ?_
    refine h_iload_n hX dX11_most_30 rfl rfl ?_
    refine h_callVi hX dX11_most_31 (cv_RX11_319) rc_M0 (As := [.int s.2]) (st := [.int s.1]) (fun _ h => c_M_weatherOf h) rfl rfl (by decide) (Nat.le_of_ble_eq_true rfl) (fun a_6 => ?_)
    refine h_iconst hX dX11_most_34 ki_m1 ?_
    refine h_icmp_ne hX dX11_most_35 (tgt := 44) (by decide) (fun _ => ?_) (fun _ => ?_)
    · refine h_iconst hX dX11_most_44 ki_0 ?_
      refine gH.dead [0, 1, 3] rfl ?_
      exact w_M_most_J45 hX
    · refine h_iconst hX dX11_most_38 ki_1 ?_
      refine h_iload_n hX dX11_most_39 rfl rfl ?_
      refine h_ishl hX dX11_most_40 ?_
      refine h_goto hX dX11_most_41 (tgt := 45) (by decide) ?_
      refine gH.dead [0, 1, 3] rfl ?_
      exact w_M_most_J45 hX
set_option maxRecDepth 4000 in
theorem w_M_most {p0 : Int32} (hX : gOk B X RX11 cX11_most 4 8 (some .int)) : gH B X (fun r : (Int32 × (Nat → Int32) × (Nat → Int32)) => gFin X (some (.int r.1)) (wdM B m_thrown m_size m_at m_wrong m_deep m_laws m_text m_readBoys m_readMarbles m_readFarms m_boys m_marbles m_farms m_holding m_spills m_acts m_draws m_bestRow m_bestMany m_noted m_hasImage m_tape m_code m_value m_codes m_clauses m_testFrom m_sumFrom m_sumTo r.2.1 r.2.2 m_readRule m_readBoy m_readMarble m_readFarm m_rule m_boy m_marble m_farm m_now m_refused m_kept m_notePlace m_noteKind m_noteIs m_toldBy m_image ++ fr)) 0 [(0, .ref (aM B 0)), (1, .int p0)] [] (wdM B m_thrown m_size m_at m_wrong m_deep m_laws m_text m_readBoys m_readMarbles m_readFarms m_boys m_marbles m_farms m_holding m_spills m_acts m_draws m_bestRow m_bestMany m_noted m_hasImage m_tape m_code m_value m_codes m_clauses m_testFrom m_sumFrom m_sumTo m_letters m_stack m_readRule m_readBoy m_readMarble m_readFarm m_rule m_boy m_marble m_farm m_now m_refused m_kept m_notePlace m_noteKind m_noteIs m_toldBy m_image ++ fr) (f_M_most m_boys m_marbles m_holding m_code m_value m_clauses m_testFrom m_sumFrom m_sumTo m_letters m_stack m_rule m_boy m_marble m_now p0) := by
  unfold f_M_most
  refine h_aload_n hX dX11_most_0 rfl rfl ?_
  refine get_RX11_261_M0 hX dX11_most_1 ?_
  refine h_if_eq hX dX11_most_4 (tgt := 16) (by decide) (fun _ => ?_) (fun _ => ?_)
  · refine h_iconst hX dX11_most_16 ki_m1 ?_
    exact h_ret hX (rv := some (.int ((-1)))) dX11_most_17 trivial (fun h => h)
  · refine h_iload_n hX dX11_most_7 rfl rfl ?_
    refine h_iconst hX dX11_most_8 ki_0 ?_
    refine h_iconst hX dX11_most_9 ki_3 ?_
    refine h_callSi hX dX11_most_10 (cs_RX11_208) (As := [.int p0, .int 0, .int 3]) (st := []) (fun _ h => c_M_in h) rfl rfl (by decide) (Nat.le_of_ble_eq_true rfl) (fun a_1 => ?_)
    refine h_if_ne hX dX11_most_13 (tgt := 18) (by decide) (fun _ => ?_) (fun _ => ?_)
    · refine h_iconst hX dX11_most_18 ki_0 ?_
      refine h_istore_n hX dX11_most_19 rfl (by decide) (lv' := [(0, .ref (aM B 0)), (1, .int p0), (2, .int 0)]) rfl ?_
      refine h_iconst hX dX11_most_20 ki_0 ?_
      refine h_istore_n hX dX11_most_21 rfl (by decide) (lv' := [(0, .ref (aM B 0)), (1, .int p0), (2, .int 0), (3, .int 0)]) rfl ?_
      exact gH.loop (lvf := fun z : (Int32 × Int32) => [(0, .ref (aM B 0)), (1, .int p0), (2, .int z.1), (3, .int z.2)]) (wf := fun z : (Int32 × Int32) => wdM B m_thrown m_size m_at m_wrong m_deep m_laws m_text m_readBoys m_readMarbles m_readFarms m_boys m_marbles m_farms m_holding m_spills m_acts m_draws m_bestRow m_bestMany m_noted m_hasImage m_tape m_code m_value m_codes m_clauses m_testFrom m_sumFrom m_sumTo m_letters m_stack m_readRule m_readBoy m_readMarble m_readFarm m_rule m_boy m_marble m_farm m_now m_refused m_kept m_notePlace m_noteKind m_noteIs m_toldBy m_image ++ fr) (fun z => w_M_most_L22 hX z) (0, 0)
    · refine h_iconst hX dX11_most_16 ki_m1 ?_
      exact h_ret hX (rv := some (.int ((-1)))) dX11_most_17 trivial (fun h => h)
theorem c_M_most {p0 : Int32} {r : (Int32 × (Nat → Int32) × (Nat → Int32))} (h : f_M_most m_boys m_marbles m_holding m_code m_value m_clauses m_testFrom m_sumFrom m_sumTo m_letters m_stack m_rule m_boy m_marble m_now p0 = some r) : gMet B 8 yX11_most cX11_most 4 (some .int) [.ref (aM B 0), .int p0] (wdM B m_thrown m_size m_at m_wrong m_deep m_laws m_text m_readBoys m_readMarbles m_readFarms m_boys m_marbles m_farms m_holding m_spills m_acts m_draws m_bestRow m_bestMany m_noted m_hasImage m_tape m_code m_value m_codes m_clauses m_testFrom m_sumFrom m_sumTo m_letters m_stack m_readRule m_readBoy m_readMarble m_readFarm m_rule m_boy m_marble m_farm m_now m_refused m_kept m_notePlace m_noteKind m_noteIs m_toldBy m_image ++ fr) (some (.int r.1)) (wdM B m_thrown m_size m_at m_wrong m_deep m_laws m_text m_readBoys m_readMarbles m_readFarms m_boys m_marbles m_farms m_holding m_spills m_acts m_draws m_bestRow m_bestMany m_noted m_hasImage m_tape m_code m_value m_codes m_clauses m_testFrom m_sumFrom m_sumTo r.2.1 r.2.2 m_readRule m_readBoy m_readMarble m_readFarm m_rule m_boy m_marble m_farm m_now m_refused m_kept m_notePlace m_noteKind m_noteIs m_toldBy m_image ++ fr) :=
  gMet.of rfl (Nat.le_of_ble_eq_true rfl) (fun X hX hF => w_M_most hX r h hF)
set_option maxRecDepth 4000 in
theorem w_M_odds_J113 {v5 : Int32} {v6 : Int32} {v7 : Int32} {v9 : Int32} {v10 : Int32} {v11 : Int32} {k0 : Int32} {k1 : Int32} (hX : gOk B X RX11 cX11_odds 12 7 (some .int)) : gH B X (Sum.elim (fun s : (Int32 × Int32) => gG B X 70 [(0, .ref (aM B 0)), (5, .int v5), (6, .int v6), (7, .int v7), (8, .int s.1), (9, .int v9), (10, .int v10), (11, .int s.2)] [] (wdM B m_thrown m_size m_at m_wrong m_deep m_laws m_text m_readBoys m_readMarbles m_readFarms m_boys m_marbles m_farms m_holding m_spills m_acts m_draws m_bestRow m_bestMany m_noted m_hasImage m_tape m_code m_value m_codes m_clauses m_testFrom m_sumFrom m_sumTo m_letters m_stack m_readRule m_readBoy m_readMarble m_readFarm m_rule m_boy m_marble m_farm m_now m_refused m_kept m_notePlace m_noteKind m_noteIs m_toldBy m_image ++ fr)) (Sum.elim (fun s : (Int32 × Int32) => gG B X 49 [(0, .ref (aM B 0)), (5, .int v5), (6, .int v6), (7, .int v7), (8, .int s.1), (9, .int s.2)] [] (wdM B m_thrown m_size m_at m_wrong m_deep m_laws m_text m_readBoys m_readMarbles m_readFarms m_boys m_marbles m_farms m_holding m_spills m_acts m_draws m_bestRow m_bestMany m_noted m_hasImage m_tape m_code m_value m_codes m_clauses m_testFrom m_sumFrom m_sumTo m_letters m_stack m_readRule m_readBoy m_readMarble m_readFarm m_rule m_boy m_marble m_farm m_now m_refused m_kept m_notePlace m_noteKind m_noteIs m_toldBy m_image ++ fr)) (fun r : (Int32 × (Nat → Int32) × (Nat → Int32)) => gFin X (some (.int r.1)) (wdM B m_thrown m_size m_at m_wrong m_deep m_laws m_text m_readBoys m_readMarbles m_readFarms m_boys m_marbles m_farms m_holding m_spills m_acts m_draws m_bestRow m_bestMany m_noted m_hasImage m_tape m_code m_value m_codes m_clauses m_testFrom m_sumFrom m_sumTo r.2.1 r.2.2 m_readRule m_readBoy m_readMarble m_readFarm m_rule m_boy m_marble m_farm m_now m_refused m_kept m_notePlace m_noteKind m_noteIs m_toldBy m_image ++ fr)))) 113 [(0, .ref (aM B 0)), (5, .int v5), (6, .int v6), (7, .int v7), (9, .int v9), (10, .int v10), (11, .int v11)] [.int k1, .int k0] (wdM B m_thrown m_size m_at m_wrong m_deep m_laws m_text m_readBoys m_readMarbles m_readFarms m_boys m_marbles m_farms m_holding m_spills m_acts m_draws m_bestRow m_bestMany m_noted m_hasImage m_tape m_code m_value m_codes m_clauses m_testFrom m_sumFrom m_sumTo m_letters m_stack m_readRule m_readBoy m_readMarble m_readFarm m_rule m_boy m_marble m_farm m_now m_refused m_kept m_notePlace m_noteKind m_noteIs m_toldBy m_image ++ fr) (f_M_odds_J113 v11 k0 k1) := by
  unfold f_M_odds_J113
  refine h_iadd hX dX11_odds_113 ?_
  refine gH.leti (fun v8_10 => ?_)
  refine h_istore hX dX11_odds_114 (by decide) (lv' := [(0, .ref (aM B 0)), (5, .int v5), (6, .int v6), (7, .int v7), (8, .int v8_10), (9, .int v9), (10, .int v10), (11, .int v11)]) rfl ?_
  refine h_iincc hX dX11_odds_116 rfl ki_1 (by decide) (lv' := [(0, .ref (aM B 0)), (5, .int v5), (6, .int v6), (7, .int v7), (8, .int v8_10), (9, .int v9), (10, .int v10), (11, .int (v11 + 1))]) rfl ?_
  refine h_goto hX dX11_odds_119 (tgt := 70) (by decide) ?_
  exact gH.some' (fun h => h)
set_option maxRecDepth 4000 in
theorem w_M_odds_L70 {v5 : Int32} {v6 : Int32} {v7 : Int32} {v9 : Int32} {v10 : Int32} (hX : gOk B X RX11 cX11_odds 12 7 (some .int)) (s : (Int32 × Int32)) : gH B X (Sum.elim (fun s : (Int32 × Int32) => gG B X 70 [(0, .ref (aM B 0)), (5, .int v5), (6, .int v6), (7, .int v7), (8, .int s.1), (9, .int v9), (10, .int v10), (11, .int s.2)] [] (wdM B m_thrown m_size m_at m_wrong m_deep m_laws m_text m_readBoys m_readMarbles m_readFarms m_boys m_marbles m_farms m_holding m_spills m_acts m_draws m_bestRow m_bestMany m_noted m_hasImage m_tape m_code m_value m_codes m_clauses m_testFrom m_sumFrom m_sumTo m_letters m_stack m_readRule m_readBoy m_readMarble m_readFarm m_rule m_boy m_marble m_farm m_now m_refused m_kept m_notePlace m_noteKind m_noteIs m_toldBy m_image ++ fr)) (Sum.elim (fun s : (Int32 × Int32) => gG B X 49 [(0, .ref (aM B 0)), (5, .int v5), (6, .int v6), (7, .int v7), (8, .int s.1), (9, .int s.2)] [] (wdM B m_thrown m_size m_at m_wrong m_deep m_laws m_text m_readBoys m_readMarbles m_readFarms m_boys m_marbles m_farms m_holding m_spills m_acts m_draws m_bestRow m_bestMany m_noted m_hasImage m_tape m_code m_value m_codes m_clauses m_testFrom m_sumFrom m_sumTo m_letters m_stack m_readRule m_readBoy m_readMarble m_readFarm m_rule m_boy m_marble m_farm m_now m_refused m_kept m_notePlace m_noteKind m_noteIs m_toldBy m_image ++ fr)) (fun r : (Int32 × (Nat → Int32) × (Nat → Int32)) => gFin X (some (.int r.1)) (wdM B m_thrown m_size m_at m_wrong m_deep m_laws m_text m_readBoys m_readMarbles m_readFarms m_boys m_marbles m_farms m_holding m_spills m_acts m_draws m_bestRow m_bestMany m_noted m_hasImage m_tape m_code m_value m_codes m_clauses m_testFrom m_sumFrom m_sumTo r.2.1 r.2.2 m_readRule m_readBoy m_readMarble m_readFarm m_rule m_boy m_marble m_farm m_now m_refused m_kept m_notePlace m_noteKind m_noteIs m_toldBy m_image ++ fr)))) 70 [(0, .ref (aM B 0)), (5, .int v5), (6, .int v6), (7, .int v7), (8, .int s.1), (9, .int v9), (10, .int v10), (11, .int s.2)] [] (wdM B m_thrown m_size m_at m_wrong m_deep m_laws m_text m_readBoys m_readMarbles m_readFarms m_boys m_marbles m_farms m_holding m_spills m_acts m_draws m_bestRow m_bestMany m_noted m_hasImage m_tape m_code m_value m_codes m_clauses m_testFrom m_sumFrom m_sumTo m_letters m_stack m_readRule m_readBoy m_readMarble m_readFarm m_rule m_boy m_marble m_farm m_now m_refused m_kept m_notePlace m_noteKind m_noteIs m_toldBy m_image ++ fr) (f_M_odds_L70 m_rule v5 v6 v7 v9 v10 s) := by
  unfold f_M_odds_L70
  refine h_iload hX dX11_odds_70 rfl ?_
  refine h_iconst hX dX11_odds_72 ki_3 ?_
  refine h_icmp_ge hX dX11_odds_73 (tgt := 122) (by decide) (fun _ => ?_) (fun _ => ?_)
  · refine gH.inr ?_
    refine h_iincc hX dX11_odds_122 rfl ki_1 (by decide) (lv' := [(0, .ref (aM B 0)), (5, .int v5), (6, .int v6), (7, .int v7), (8, .int s.1), (9, .int (v9 + 1)), (10, .int v10), (11, .int s.2)]) rfl ?_
    refine h_goto hX dX11_odds_125 (tgt := 49) (by decide) ?_
    refine gH.dead [0, 1, 2, 3, 4, 5] rfl ?_
    exact gH.some' (fun h => h)
  · refine h_iload hX dX11_odds_76 rfl ?_
    refine h_aload_n hX dX11_odds_78 rfl rfl ?_
    refine h_iload hX dX11_odds_79 rfl ?_
    refine h_iload hX dX11_odds_81 rfl ?_
    refine h_callSi hX dX11_odds_83 (cs_RX11_451) (As := [.int v6, .int v9]) (st := [.ref (aM B 0), .int s.1]) (fun _ h => c_M_cellBy h) rfl rfl (by decide) (Nat.le_of_ble_eq_true rfl) (fun a_7 => ?_)
    refine h_iload hX dX11_odds_86 rfl ?_
    refine h_iload hX dX11_odds_88 rfl ?_
    refine h_callSi hX dX11_odds_90 (cs_RX11_451) (As := [.int v7, .int s.2]) (st := [.int a_7, .ref (aM B 0), .int s.1]) (fun _ h => c_M_cellBy h) rfl rfl (by decide) (Nat.le_of_ble_eq_true rfl) (fun a_8 => ?_)
    refine h_callVi hX dX11_odds_93 (cv_RX11_347) rc_M0 (As := [.int a_7, .int a_8]) (st := [.int s.1]) (fun _ h => c_M_winner h) rfl rfl (by decide) (Nat.le_of_ble_eq_true rfl) (fun a_9 => ?_)
    refine h_iconst hX dX11_odds_96 ki_1 ?_
    refine h_icmp_ne hX dX11_odds_97 (tgt := 112) (by decide) (fun _ => ?_) (fun _ => ?_)
    · refine h_iconst hX dX11_odds_112 ki_0 ?_
      refine gH.dead [0, 1, 2, 3, 5, 6, 7] rfl ?_
      exact w_M_odds_J113 hX
    · refine h_iload hX dX11_odds_100 rfl ?_
      refine h_iload hX dX11_odds_102 rfl ?_
      refine h_iload hX dX11_odds_104 rfl ?_
      refine h_callSi hX dX11_odds_106 (cs_RX11_448) (As := [.int v10, .int v5, .int s.2]) (st := [.int s.1]) (fun _ h => c_M_partBy h) rfl rfl (by decide) (Nat.le_of_ble_eq_true rfl) (fun a_12 => ?_)
      refine h_goto hX dX11_odds_109 (tgt := 113) (by decide) ?_
      refine gH.dead [0, 1, 2, 3, 5, 6, 7] rfl ?_
      exact w_M_odds_J113 hX
set_option maxRecDepth 4000 in
theorem w_M_odds_L49 {v5 : Int32} {v6 : Int32} {v7 : Int32} (hX : gOk B X RX11 cX11_odds 12 7 (some .int)) (s : (Int32 × Int32)) : gH B X (Sum.elim (fun s : (Int32 × Int32) => gG B X 49 [(0, .ref (aM B 0)), (5, .int v5), (6, .int v6), (7, .int v7), (8, .int s.1), (9, .int s.2)] [] (wdM B m_thrown m_size m_at m_wrong m_deep m_laws m_text m_readBoys m_readMarbles m_readFarms m_boys m_marbles m_farms m_holding m_spills m_acts m_draws m_bestRow m_bestMany m_noted m_hasImage m_tape m_code m_value m_codes m_clauses m_testFrom m_sumFrom m_sumTo m_letters m_stack m_readRule m_readBoy m_readMarble m_readFarm m_rule m_boy m_marble m_farm m_now m_refused m_kept m_notePlace m_noteKind m_noteIs m_toldBy m_image ++ fr)) (fun r : (Int32 × (Nat → Int32) × (Nat → Int32)) => gFin X (some (.int r.1)) (wdM B m_thrown m_size m_at m_wrong m_deep m_laws m_text m_readBoys m_readMarbles m_readFarms m_boys m_marbles m_farms m_holding m_spills m_acts m_draws m_bestRow m_bestMany m_noted m_hasImage m_tape m_code m_value m_codes m_clauses m_testFrom m_sumFrom m_sumTo r.2.1 r.2.2 m_readRule m_readBoy m_readMarble m_readFarm m_rule m_boy m_marble m_farm m_now m_refused m_kept m_notePlace m_noteKind m_noteIs m_toldBy m_image ++ fr))) 49 [(0, .ref (aM B 0)), (5, .int v5), (6, .int v6), (7, .int v7), (8, .int s.1), (9, .int s.2)] [] (wdM B m_thrown m_size m_at m_wrong m_deep m_laws m_text m_readBoys m_readMarbles m_readFarms m_boys m_marbles m_farms m_holding m_spills m_acts m_draws m_bestRow m_bestMany m_noted m_hasImage m_tape m_code m_value m_codes m_clauses m_testFrom m_sumFrom m_sumTo m_letters m_stack m_readRule m_readBoy m_readMarble m_readFarm m_rule m_boy m_marble m_farm m_now m_refused m_kept m_notePlace m_noteKind m_noteIs m_toldBy m_image ++ fr) (f_M_odds_L49 m_letters m_stack m_rule v5 v6 v7 s) := by
  unfold f_M_odds_L49
  refine h_iload hX dX11_odds_49 rfl ?_
  refine h_iconst hX dX11_odds_51 ki_3 ?_
  refine h_icmp_ge hX dX11_odds_52 (tgt := 128) (by decide) (fun _ => ?_) (fun _ => ?_)
  · refine h_iload hX dX11_odds_128 rfl ?_
    exact h_ret hX (rv := some (.int s.1)) dX11_odds_130 trivial (fun h => h)
  · refine h_ldcw hX dX11_odds_55 cst_RX11_447 ?_
    refine h_iload hX dX11_odds_58 rfl ?_
    refine h_iload hX dX11_odds_60 rfl ?_
    refine h_callSi hX dX11_odds_62 (cs_RX11_448) (As := [.int 1000000000, .int v5, .int s.2]) (st := []) (fun _ h => c_M_partBy h) rfl rfl (by decide) (Nat.le_of_ble_eq_true rfl) (fun a_5 => ?_)
    refine h_istore hX dX11_odds_65 (by decide) (lv' := [(0, .ref (aM B 0)), (5, .int v5), (6, .int v6), (7, .int v7), (8, .int s.1), (9, .int s.2), (10, .int a_5)]) rfl ?_
    refine h_iconst hX dX11_odds_67 ki_0 ?_
    refine h_istore hX dX11_odds_68 (by decide) (lv' := [(0, .ref (aM B 0)), (5, .int v5), (6, .int v6), (7, .int v7), (8, .int s.1), (9, .int s.2), (10, .int a_5), (11, .int 0)]) rfl ?_
    exact gH.loop (lvf := fun z : (Int32 × Int32) => [(0, .ref (aM B 0)), (5, .int v5), (6, .int v6), (7, .int v7), (8, .int z.1), (9, .int s.2), (10, .int a_5), (11, .int z.2)]) (wf := fun z : (Int32 × Int32) => wdM B m_thrown m_size m_at m_wrong m_deep m_laws m_text m_readBoys m_readMarbles m_readFarms m_boys m_marbles m_farms m_holding m_spills m_acts m_draws m_bestRow m_bestMany m_noted m_hasImage m_tape m_code m_value m_codes m_clauses m_testFrom m_sumFrom m_sumTo m_letters m_stack m_readRule m_readBoy m_readMarble m_readFarm m_rule m_boy m_marble m_farm m_now m_refused m_kept m_notePlace m_noteKind m_noteIs m_toldBy m_image ++ fr) (fun z => w_M_odds_L70 hX z) (s.1, 0)
set_option maxRecDepth 4000 in
theorem w_M_odds {p0 : Int32} {p1 : Int32} {p2 : Int32} {p3 : Int32} {p4 : Int32} (hX : gOk B X RX11 cX11_odds 12 7 (some .int)) : gH B X (fun r : (Int32 × (Nat → Int32) × (Nat → Int32)) => gFin X (some (.int r.1)) (wdM B m_thrown m_size m_at m_wrong m_deep m_laws m_text m_readBoys m_readMarbles m_readFarms m_boys m_marbles m_farms m_holding m_spills m_acts m_draws m_bestRow m_bestMany m_noted m_hasImage m_tape m_code m_value m_codes m_clauses m_testFrom m_sumFrom m_sumTo r.2.1 r.2.2 m_readRule m_readBoy m_readMarble m_readFarm m_rule m_boy m_marble m_farm m_now m_refused m_kept m_notePlace m_noteKind m_noteIs m_toldBy m_image ++ fr)) 0 [(0, .ref (aM B 0)), (1, .int p0), (2, .int p1), (3, .int p2), (4, .int p3), (5, .int p4)] [] (wdM B m_thrown m_size m_at m_wrong m_deep m_laws m_text m_readBoys m_readMarbles m_readFarms m_boys m_marbles m_farms m_holding m_spills m_acts m_draws m_bestRow m_bestMany m_noted m_hasImage m_tape m_code m_value m_codes m_clauses m_testFrom m_sumFrom m_sumTo m_letters m_stack m_readRule m_readBoy m_readMarble m_readFarm m_rule m_boy m_marble m_farm m_now m_refused m_kept m_notePlace m_noteKind m_noteIs m_toldBy m_image ++ fr) (f_M_odds m_marbles m_holding m_code m_value m_clauses m_testFrom m_sumFrom m_sumTo m_letters m_stack m_rule m_boy m_marble m_now p0 p1 p2 p3 p4) := by
  unfold f_M_odds
  refine h_aload_n hX dX11_odds_0 rfl rfl ?_
  refine h_iload_n hX dX11_odds_1 rfl rfl ?_
  refine h_iload_n hX dX11_odds_2 rfl rfl ?_
  refine h_iload_n hX dX11_odds_3 rfl rfl ?_
  refine h_iload hX dX11_odds_4 rfl ?_
  refine h_callVi hX dX11_odds_6 (cv_RX11_350) rc_M0 (As := [.int p0, .int p1, .int p2, .int p3]) (st := []) (fun _ h => c_M_whyNotPlay h) rfl rfl (by decide) (Nat.le_of_ble_eq_true rfl) (fun a_1 => ?_)
  refine h_iconst hX dX11_odds_9 ki_m1 ?_
  refine h_icmp_ne hX dX11_odds_10 (tgt := 24) (by decide) (fun _ => ?_) (fun _ => ?_)
  · refine h_iconst hX dX11_odds_24 ki_m1 ?_
    exact h_ret hX (rv := some (.int ((-1)))) dX11_odds_25 trivial (fun h => h)
  · refine h_iload hX dX11_odds_13 rfl ?_
    refine h_iconst hX dX11_odds_15 ki_0 ?_
    refine h_bipush hX dX11_odds_16 kb_100 ?_
    refine h_callSi hX dX11_odds_18 (cs_RX11_208) (As := [.int p4, .int 0, .int 100]) (st := []) (fun _ h => c_M_in h) rfl rfl (by decide) (Nat.le_of_ble_eq_true rfl) (fun a_2 => ?_)
    refine h_if_ne hX dX11_odds_21 (tgt := 26) (by decide) (fun _ => ?_) (fun _ => ?_)
    · refine h_aload_n hX dX11_odds_26 rfl rfl ?_
      refine h_iload_n hX dX11_odds_27 rfl rfl ?_
      refine h_iload_n hX dX11_odds_28 rfl rfl ?_
      refine h_callVi hX dX11_odds_29 (cv_RX11_344) rc_M0 (As := [.int p0, .int p1]) (st := []) (fun _ h => c_M_cellOf h) rfl rfl (by decide) (Nat.le_of_ble_eq_true rfl) (fun a_3 => ?_)
      refine h_istore hX dX11_odds_32 (by decide) (lv' := [(0, .ref (aM B 0)), (1, .int p0), (2, .int p1), (3, .int p2), (4, .int p3), (5, .int p4), (6, .int a_3.1)]) rfl ?_
      refine h_aload_n hX dX11_odds_34 rfl rfl ?_
      refine h_iload_n hX dX11_odds_35 rfl rfl ?_
      refine h_iload hX dX11_odds_36 rfl ?_
      refine h_callVi hX dX11_odds_38 (cv_RX11_344) rc_M0 (As := [.int p2, .int p3]) (st := []) (fun _ h => c_M_cellOf h) rfl rfl (by decide) (Nat.le_of_ble_eq_true rfl) (fun a_4 => ?_)
      refine h_istore hX dX11_odds_41 (by decide) (lv' := [(0, .ref (aM B 0)), (1, .int p0), (2, .int p1), (3, .int p2), (4, .int p3), (5, .int p4), (6, .int a_3.1), (7, .int a_4.1)]) rfl ?_
      refine h_iconst hX dX11_odds_43 ki_0 ?_
      refine h_istore hX dX11_odds_44 (by decide) (lv' := [(0, .ref (aM B 0)), (1, .int p0), (2, .int p1), (3, .int p2), (4, .int p3), (5, .int p4), (6, .int a_3.1), (7, .int a_4.1), (8, .int 0)]) rfl ?_
      refine h_iconst hX dX11_odds_46 ki_0 ?_
      refine h_istore hX dX11_odds_47 (by decide) (lv' := [(0, .ref (aM B 0)), (1, .int p0), (2, .int p1), (3, .int p2), (4, .int p3), (5, .int p4), (6, .int a_3.1), (7, .int a_4.1), (8, .int 0), (9, .int 0)]) rfl ?_
      refine gH.dead [0, 5, 6, 7, 8, 9] rfl ?_
      exact gH.loop (lvf := fun z : (Int32 × Int32) => [(0, .ref (aM B 0)), (5, .int p4), (6, .int a_3.1), (7, .int a_4.1), (8, .int z.1), (9, .int z.2)]) (wf := fun z : (Int32 × Int32) => wdM B m_thrown m_size m_at m_wrong m_deep m_laws m_text m_readBoys m_readMarbles m_readFarms m_boys m_marbles m_farms m_holding m_spills m_acts m_draws m_bestRow m_bestMany m_noted m_hasImage m_tape m_code m_value m_codes m_clauses m_testFrom m_sumFrom m_sumTo a_4.2.1 a_4.2.2 m_readRule m_readBoy m_readMarble m_readFarm m_rule m_boy m_marble m_farm m_now m_refused m_kept m_notePlace m_noteKind m_noteIs m_toldBy m_image ++ fr) (fun z => w_M_odds_L49 hX z) (0, 0)
    · refine h_iconst hX dX11_odds_24 ki_m1 ?_
      exact h_ret hX (rv := some (.int ((-1)))) dX11_odds_25 trivial (fun h => h)
theorem c_M_odds {p0 : Int32} {p1 : Int32} {p2 : Int32} {p3 : Int32} {p4 : Int32} {r : (Int32 × (Nat → Int32) × (Nat → Int32))} (h : f_M_odds m_marbles m_holding m_code m_value m_clauses m_testFrom m_sumFrom m_sumTo m_letters m_stack m_rule m_boy m_marble m_now p0 p1 p2 p3 p4 = some r) : gMet B 7 yX11_odds cX11_odds 12 (some .int) [.ref (aM B 0), .int p0, .int p1, .int p2, .int p3, .int p4] (wdM B m_thrown m_size m_at m_wrong m_deep m_laws m_text m_readBoys m_readMarbles m_readFarms m_boys m_marbles m_farms m_holding m_spills m_acts m_draws m_bestRow m_bestMany m_noted m_hasImage m_tape m_code m_value m_codes m_clauses m_testFrom m_sumFrom m_sumTo m_letters m_stack m_readRule m_readBoy m_readMarble m_readFarm m_rule m_boy m_marble m_farm m_now m_refused m_kept m_notePlace m_noteKind m_noteIs m_toldBy m_image ++ fr) (some (.int r.1)) (wdM B m_thrown m_size m_at m_wrong m_deep m_laws m_text m_readBoys m_readMarbles m_readFarms m_boys m_marbles m_farms m_holding m_spills m_acts m_draws m_bestRow m_bestMany m_noted m_hasImage m_tape m_code m_value m_codes m_clauses m_testFrom m_sumFrom m_sumTo r.2.1 r.2.2 m_readRule m_readBoy m_readMarble m_readFarm m_rule m_boy m_marble m_farm m_now m_refused m_kept m_notePlace m_noteKind m_noteIs m_toldBy m_image ++ fr) :=
  gMet.of rfl (Nat.le_of_ble_eq_true rfl) (fun X hX hF => w_M_odds hX r h hF)
set_option maxRecDepth 4000 in
theorem w_M_pays (hX : gOk B X RX11 cX11_pays 1 6 (some .int)) : gH B X (fun r : Int32 => gFin X (some (.int r)) (wdM B m_thrown m_size m_at m_wrong m_deep m_laws m_text m_readBoys m_readMarbles m_readFarms m_boys m_marbles m_farms m_holding m_spills m_acts m_draws m_bestRow m_bestMany m_noted m_hasImage m_tape m_code m_value m_codes m_clauses m_testFrom m_sumFrom m_sumTo m_letters m_stack m_readRule m_readBoy m_readMarble m_readFarm m_rule m_boy m_marble m_farm m_now m_refused m_kept m_notePlace m_noteKind m_noteIs m_toldBy m_image ++ fr)) 0 [(0, .ref (aM B 0))] [] (wdM B m_thrown m_size m_at m_wrong m_deep m_laws m_text m_readBoys m_readMarbles m_readFarms m_boys m_marbles m_farms m_holding m_spills m_acts m_draws m_bestRow m_bestMany m_noted m_hasImage m_tape m_code m_value m_codes m_clauses m_testFrom m_sumFrom m_sumTo m_letters m_stack m_readRule m_readBoy m_readMarble m_readFarm m_rule m_boy m_marble m_farm m_now m_refused m_kept m_notePlace m_noteKind m_noteIs m_toldBy m_image ++ fr) (f_M_pays m_marbles m_farms m_boy m_marble m_farm m_now) := by
  unfold f_M_pays
  refine h_aload_n hX dX11_pays_0 rfl rfl ?_
  refine get_RX11_261_M0 hX dX11_pays_1 ?_
  refine h_if_ne hX dX11_pays_4 (tgt := 11) (by decide) (fun _ => ?_) (fun _ => ?_)
  · refine h_aload_n hX dX11_pays_11 rfl rfl ?_
    refine h_aload_n hX dX11_pays_12 rfl rfl ?_
    refine h_callVi hX dX11_pays_13 (cv_RX11_369) rc_M0 (As := []) (st := [.ref (aM B 0)]) (fun _ h => c_M_contents h) rfl rfl (by decide) (Nat.le_of_ble_eq_true rfl) (fun a_1 => ?_)
    refine h_callVi hX dX11_pays_16 (cv_RX11_372) rc_M0 (As := [.int a_1]) (st := []) (fun _ h => c_M_payOf h) rfl rfl (by decide) (Nat.le_of_ble_eq_true rfl) (fun a_2 => ?_)
    exact h_ret hX (rv := some (.int a_2)) dX11_pays_19 trivial (fun h => h)
  · refine h_iconst hX dX11_pays_7 ki_m1 ?_
    refine h_goto hX dX11_pays_8 (tgt := 19) (by decide) ?_
    exact h_ret hX (rv := some (.int ((-1)))) dX11_pays_19 trivial (fun h => h)
theorem c_M_pays {r : Int32} (h : f_M_pays m_marbles m_farms m_boy m_marble m_farm m_now = some r) : gMet B 6 yX11_pays cX11_pays 1 (some .int) [.ref (aM B 0)] (wdM B m_thrown m_size m_at m_wrong m_deep m_laws m_text m_readBoys m_readMarbles m_readFarms m_boys m_marbles m_farms m_holding m_spills m_acts m_draws m_bestRow m_bestMany m_noted m_hasImage m_tape m_code m_value m_codes m_clauses m_testFrom m_sumFrom m_sumTo m_letters m_stack m_readRule m_readBoy m_readMarble m_readFarm m_rule m_boy m_marble m_farm m_now m_refused m_kept m_notePlace m_noteKind m_noteIs m_toldBy m_image ++ fr) (some (.int r)) (wdM B m_thrown m_size m_at m_wrong m_deep m_laws m_text m_readBoys m_readMarbles m_readFarms m_boys m_marbles m_farms m_holding m_spills m_acts m_draws m_bestRow m_bestMany m_noted m_hasImage m_tape m_code m_value m_codes m_clauses m_testFrom m_sumFrom m_sumTo m_letters m_stack m_readRule m_readBoy m_readMarble m_readFarm m_rule m_boy m_marble m_farm m_now m_refused m_kept m_notePlace m_noteKind m_noteIs m_toldBy m_image ++ fr) :=
  gMet.of rfl (Nat.le_of_ble_eq_true rfl) (fun X hX hF => w_M_pays hX r h hF)
set_option maxRecDepth 4000 in
theorem w_M_play {p0 : Int32} {p1 : Int32} {p2 : Int32} {p3 : Int32} (hX : gOk B X RX11 cX11_play 5 8 (some .int)) : gH B X (fun r : (Int32 × Int32 × (Nat → Int32) × (Nat → Int32) × (Nat → Int32) × (Nat → Int32) × (Nat → Int32)) => gFin X (some (.int r.1)) (wdM B m_thrown m_size m_at m_wrong m_deep m_laws m_text m_readBoys m_readMarbles m_readFarms m_boys m_marbles m_farms m_holding m_spills r.2.1 m_draws m_bestRow m_bestMany m_noted m_hasImage m_tape m_code m_value m_codes m_clauses m_testFrom m_sumFrom m_sumTo r.2.2.1 r.2.2.2.1 m_readRule m_readBoy m_readMarble m_readFarm m_rule m_boy m_marble m_farm r.2.2.2.2.1 r.2.2.2.2.2.1 r.2.2.2.2.2.2 m_notePlace m_noteKind m_noteIs m_toldBy m_image ++ fr)) 0 [(0, .ref (aM B 0)), (1, .int p0), (2, .int p1), (3, .int p2), (4, .int p3)] [] (wdM B m_thrown m_size m_at m_wrong m_deep m_laws m_text m_readBoys m_readMarbles m_readFarms m_boys m_marbles m_farms m_holding m_spills m_acts m_draws m_bestRow m_bestMany m_noted m_hasImage m_tape m_code m_value m_codes m_clauses m_testFrom m_sumFrom m_sumTo m_letters m_stack m_readRule m_readBoy m_readMarble m_readFarm m_rule m_boy m_marble m_farm m_now m_refused m_kept m_notePlace m_noteKind m_noteIs m_toldBy m_image ++ fr) (f_M_play m_marbles m_holding m_acts m_code m_value m_clauses m_testFrom m_sumFrom m_sumTo m_letters m_stack m_rule m_boy m_marble m_now m_refused m_kept p0 p1 p2 p3) := by
  unfold f_M_play
  refine h_aload_n hX dX11_play_0 rfl rfl ?_
  refine h_aload_n hX dX11_play_1 rfl rfl ?_
  refine h_iload_n hX dX11_play_2 rfl rfl ?_
  refine h_iload_n hX dX11_play_3 rfl rfl ?_
  refine h_iload_n hX dX11_play_4 rfl rfl ?_
  refine h_iload hX dX11_play_5 rfl ?_
  refine h_callVi hX dX11_play_7 (cv_RX11_350) rc_M0 (As := [.int p0, .int p1, .int p2, .int p3]) (st := [.ref (aM B 0)]) (fun _ h => c_M_whyNotPlay h) rfl rfl (by decide) (Nat.le_of_ble_eq_true rfl) (fun a_1 => ?_)
  refine h_callVi hX dX11_play_10 (cv_RX11_354) rc_M0 (As := [.int a_1]) (st := []) (fun _ h => c_M_isRefused h) rfl rfl (by decide) (Nat.le_of_ble_eq_true rfl) (fun a_2 => ?_)
  refine h_if_eq hX dX11_play_13 (tgt := 18) (by decide) (fun _ => ?_) (fun _ => ?_)
  · refine h_aload_n hX dX11_play_18 rfl rfl ?_
    refine h_callVv hX dX11_play_19 (cv_RX11_357) rc_M0 (As := []) (st := []) (fun _ h => c_M_keep h) rfl rfl (by decide) (Nat.le_of_ble_eq_true rfl) (fun a_3 => ?_)
    refine h_aload_n hX dX11_play_22 rfl rfl ?_
    refine h_iload_n hX dX11_play_23 rfl rfl ?_
    refine h_iload_n hX dX11_play_24 rfl rfl ?_
    refine h_iload_n hX dX11_play_25 rfl rfl ?_
    refine h_iload hX dX11_play_26 rfl ?_
    refine h_callVi hX dX11_play_28 (cv_RX11_360) rc_M0 (As := [.int p0, .int p1, .int p2, .int p3]) (st := []) (fun _ h => c_M_playNow h) rfl rfl (by decide) (Nat.le_of_ble_eq_true rfl) (fun a_4 => ?_)
    exact h_ret hX (rv := some (.int a_4.1)) dX11_play_31 trivial (fun h => h)
  · refine h_iconst hX dX11_play_16 ki_m1 ?_
    exact h_ret hX (rv := some (.int ((-1)))) dX11_play_17 trivial (fun h => h)
theorem c_M_play {p0 : Int32} {p1 : Int32} {p2 : Int32} {p3 : Int32} {r : (Int32 × Int32 × (Nat → Int32) × (Nat → Int32) × (Nat → Int32) × (Nat → Int32) × (Nat → Int32))} (h : f_M_play m_marbles m_holding m_acts m_code m_value m_clauses m_testFrom m_sumFrom m_sumTo m_letters m_stack m_rule m_boy m_marble m_now m_refused m_kept p0 p1 p2 p3 = some r) : gMet B 8 yX11_play cX11_play 5 (some .int) [.ref (aM B 0), .int p0, .int p1, .int p2, .int p3] (wdM B m_thrown m_size m_at m_wrong m_deep m_laws m_text m_readBoys m_readMarbles m_readFarms m_boys m_marbles m_farms m_holding m_spills m_acts m_draws m_bestRow m_bestMany m_noted m_hasImage m_tape m_code m_value m_codes m_clauses m_testFrom m_sumFrom m_sumTo m_letters m_stack m_readRule m_readBoy m_readMarble m_readFarm m_rule m_boy m_marble m_farm m_now m_refused m_kept m_notePlace m_noteKind m_noteIs m_toldBy m_image ++ fr) (some (.int r.1)) (wdM B m_thrown m_size m_at m_wrong m_deep m_laws m_text m_readBoys m_readMarbles m_readFarms m_boys m_marbles m_farms m_holding m_spills r.2.1 m_draws m_bestRow m_bestMany m_noted m_hasImage m_tape m_code m_value m_codes m_clauses m_testFrom m_sumFrom m_sumTo r.2.2.1 r.2.2.2.1 m_readRule m_readBoy m_readMarble m_readFarm m_rule m_boy m_marble m_farm r.2.2.2.2.1 r.2.2.2.2.2.1 r.2.2.2.2.2.2 m_notePlace m_noteKind m_noteIs m_toldBy m_image ++ fr) :=
  gMet.of rfl (Nat.le_of_ble_eq_true rfl) (fun X hX hF => w_M_play hX r h hF)
set_option maxRecDepth 4000 in
theorem w_M_rests_J71 {v1 : Int32} {v2 : Int32} {v3 : Int32} {v4 : Int32} {v5 : Int32} {v6 : Int32} (hX : gOk B X RX11 cX11_rests 7 9 (some .int)) : gH B X (Sum.elim (fun s : (Int32 × Int32 × (Nat → Int32) × (Nat → Int32)) => gG B X 33 [(0, .ref (aM B 0)), (1, .int v1), (2, .int v2), (3, .int v3), (4, .int s.1), (5, .int v5), (6, .int s.2.1)] [] (wdM B m_thrown m_size m_at m_wrong m_deep m_laws m_text m_readBoys m_readMarbles m_readFarms m_boys m_marbles m_farms m_holding m_spills m_acts m_draws m_bestRow m_bestMany m_noted m_hasImage m_tape m_code m_value m_codes m_clauses m_testFrom m_sumFrom m_sumTo s.2.2.1 s.2.2.2 m_readRule m_readBoy m_readMarble m_readFarm m_rule m_boy m_marble m_farm m_now m_refused m_kept m_notePlace m_noteKind m_noteIs m_toldBy m_image ++ fr)) (Sum.elim (fun s : (Int32 × Int32 × (Nat → Int32) × (Nat → Int32)) => gG B X 23 [(0, .ref (aM B 0)), (1, .int v1), (2, .int v2), (3, .int v3), (4, .int s.1), (5, .int s.2.1)] [] (wdM B m_thrown m_size m_at m_wrong m_deep m_laws m_text m_readBoys m_readMarbles m_readFarms m_boys m_marbles m_farms m_holding m_spills m_acts m_draws m_bestRow m_bestMany m_noted m_hasImage m_tape m_code m_value m_codes m_clauses m_testFrom m_sumFrom m_sumTo s.2.2.1 s.2.2.2 m_readRule m_readBoy m_readMarble m_readFarm m_rule m_boy m_marble m_farm m_now m_refused m_kept m_notePlace m_noteKind m_noteIs m_toldBy m_image ++ fr)) (fun r : (Int32 × (Nat → Int32) × (Nat → Int32)) => gFin X (some (.int r.1)) (wdM B m_thrown m_size m_at m_wrong m_deep m_laws m_text m_readBoys m_readMarbles m_readFarms m_boys m_marbles m_farms m_holding m_spills m_acts m_draws m_bestRow m_bestMany m_noted m_hasImage m_tape m_code m_value m_codes m_clauses m_testFrom m_sumFrom m_sumTo r.2.1 r.2.2 m_readRule m_readBoy m_readMarble m_readFarm m_rule m_boy m_marble m_farm m_now m_refused m_kept m_notePlace m_noteKind m_noteIs m_toldBy m_image ++ fr)))) 71 [(0, .ref (aM B 0)), (1, .int v1), (2, .int v2), (3, .int v3), (4, .int v4), (5, .int v5), (6, .int v6)] [] (wdM B m_thrown m_size m_at m_wrong m_deep m_laws m_text m_readBoys m_readMarbles m_readFarms m_boys m_marbles m_farms m_holding m_spills m_acts m_draws m_bestRow m_bestMany m_noted m_hasImage m_tape m_code m_value m_codes m_clauses m_testFrom m_sumFrom m_sumTo m_letters m_stack m_readRule m_readBoy m_readMarble m_readFarm m_rule m_boy m_marble m_farm m_now m_refused m_kept m_notePlace m_noteKind m_noteIs m_toldBy m_image ++ fr) (f_M_rests_J71 m_letters m_stack v4 v6) := by
  unfold f_M_rests_J71
  refine h_iincc hX dX11_rests_71 rfl ki_1 (by decide) (lv' := [(0, .ref (aM B 0)), (1, .int v1), (2, .int v2), (3, .int v3), (4, .int v4), (5, .int v5), (6, .int (v6 + 1))]) rfl ?_
  refine h_goto hX dX11_rests_74 (tgt := 33) (by decide) ?_
  exact gH.some' (fun h => h)
set_option maxRecDepth 4000 in
theorem w_M_rests_L33 {v1 : Int32} {v2 : Int32} {v3 : Int32} {v5 : Int32} (hX : gOk B X RX11 cX11_rests 7 9 (some .int)) (s : (Int32 × Int32 × (Nat → Int32) × (Nat → Int32))) : gH B X (Sum.elim (fun s : (Int32 × Int32 × (Nat → Int32) × (Nat → Int32)) => gG B X 33 [(0, .ref (aM B 0)), (1, .int v1), (2, .int v2), (3, .int v3), (4, .int s.1), (5, .int v5), (6, .int s.2.1)] [] (wdM B m_thrown m_size m_at m_wrong m_deep m_laws m_text m_readBoys m_readMarbles m_readFarms m_boys m_marbles m_farms m_holding m_spills m_acts m_draws m_bestRow m_bestMany m_noted m_hasImage m_tape m_code m_value m_codes m_clauses m_testFrom m_sumFrom m_sumTo s.2.2.1 s.2.2.2 m_readRule m_readBoy m_readMarble m_readFarm m_rule m_boy m_marble m_farm m_now m_refused m_kept m_notePlace m_noteKind m_noteIs m_toldBy m_image ++ fr)) (Sum.elim (fun s : (Int32 × Int32 × (Nat → Int32) × (Nat → Int32)) => gG B X 23 [(0, .ref (aM B 0)), (1, .int v1), (2, .int v2), (3, .int v3), (4, .int s.1), (5, .int s.2.1)] [] (wdM B m_thrown m_size m_at m_wrong m_deep m_laws m_text m_readBoys m_readMarbles m_readFarms m_boys m_marbles m_farms m_holding m_spills m_acts m_draws m_bestRow m_bestMany m_noted m_hasImage m_tape m_code m_value m_codes m_clauses m_testFrom m_sumFrom m_sumTo s.2.2.1 s.2.2.2 m_readRule m_readBoy m_readMarble m_readFarm m_rule m_boy m_marble m_farm m_now m_refused m_kept m_notePlace m_noteKind m_noteIs m_toldBy m_image ++ fr)) (fun r : (Int32 × (Nat → Int32) × (Nat → Int32)) => gFin X (some (.int r.1)) (wdM B m_thrown m_size m_at m_wrong m_deep m_laws m_text m_readBoys m_readMarbles m_readFarms m_boys m_marbles m_farms m_holding m_spills m_acts m_draws m_bestRow m_bestMany m_noted m_hasImage m_tape m_code m_value m_codes m_clauses m_testFrom m_sumFrom m_sumTo r.2.1 r.2.2 m_readRule m_readBoy m_readMarble m_readFarm m_rule m_boy m_marble m_farm m_now m_refused m_kept m_notePlace m_noteKind m_noteIs m_toldBy m_image ++ fr)))) 33 [(0, .ref (aM B 0)), (1, .int v1), (2, .int v2), (3, .int v3), (4, .int s.1), (5, .int v5), (6, .int s.2.1)] [] (wdM B m_thrown m_size m_at m_wrong m_deep m_laws m_text m_readBoys m_readMarbles m_readFarms m_boys m_marbles m_farms m_holding m_spills m_acts m_draws m_bestRow m_bestMany m_noted m_hasImage m_tape m_code m_value m_codes m_clauses m_testFrom m_sumFrom m_sumTo s.2.2.1 s.2.2.2 m_readRule m_readBoy m_readMarble m_readFarm m_rule m_boy m_marble m_farm m_now m_refused m_kept m_notePlace m_noteKind m_noteIs m_toldBy m_image ++ fr) (f_M_rests_L33 m_marbles m_holding m_code m_value m_clauses m_testFrom m_sumFrom m_sumTo m_rule m_boy m_marble m_now v1 v2 v3 v5 s) := by
  unfold f_M_rests_L33
  refine h_iload hX dX11_rests_33 rfl ?_
  refine h_bipush hX dX11_rests_35 kb_9 ?_
  refine h_icmp_gt hX dX11_rests_37 (tgt := 77) (by decide) (fun _ => ?_) (fun _ => ?_)
  · refine gH.inr ?_
    refine h_iincc hX dX11_rests_77 rfl ki_1 (by decide) (lv' := [(0, .ref (aM B 0)), (1, .int v1), (2, .int v2), (3, .int v3), (4, .int s.1), (5, .int (v5 + 1)), (6, .int s.2.1)]) rfl ?_
    refine h_goto hX dX11_rests_80 (tgt := 23) (by decide) ?_
    refine gH.dead [0, 1, 2, 3, 4, 5] rfl ?_
    exact gH.some' (fun h => h)
  · refine h_aload_n hX dX11_rests_40 rfl rfl ?_
    refine h_iload_n hX dX11_rests_41 rfl rfl ?_
    refine h_iload hX dX11_rests_42 rfl ?_
    refine h_iload_n hX dX11_rests_44 rfl rfl ?_
    refine h_iload hX dX11_rests_45 rfl ?_
    refine h_callVi hX dX11_rests_47 (cv_RX11_435) rc_M0 (As := [.int v1, .int v5, .int v2, .int s.2.1]) (st := []) (fun _ h => c_M_isRest h) rfl rfl (by decide) (Nat.le_of_ble_eq_true rfl) (fun a_3 => ?_)
    refine h_if_eq hX dX11_rests_50 (tgt := 71) (by decide) (fun _ => ?_) (fun _ => ?_)
    · exact w_M_rests_J71 hX
    · refine h_iload hX dX11_rests_53 rfl ?_
      refine h_iload_n hX dX11_rests_55 rfl rfl ?_
      refine h_icmp_ne hX dX11_rests_56 (tgt := 68) (by decide) (fun _ => ?_) (fun _ => ?_)
      · refine h_iincc hX dX11_rests_68 rfl ki_1 (by decide) (lv' := [(0, .ref (aM B 0)), (1, .int v1), (2, .int v2), (3, .int v3), (4, .int (s.1 + 1)), (5, .int v5), (6, .int s.2.1)]) rfl ?_
        exact w_M_rests_J71 hX
      · refine h_bipush hX dX11_rests_59 kb_10 ?_
        refine h_iload hX dX11_rests_61 rfl ?_
        refine h_imul hX dX11_rests_63 ?_
        refine h_iload hX dX11_rests_64 rfl ?_
        refine h_iadd hX dX11_rests_66 ?_
        exact h_ret hX (rv := some (.int ((10 * v5) + s.2.1))) dX11_rests_67 trivial (fun h => h)
set_option maxRecDepth 4000 in
theorem w_M_rests_L23 {v1 : Int32} {v2 : Int32} {v3 : Int32} (hX : gOk B X RX11 cX11_rests 7 9 (some .int)) (s : (Int32 × Int32 × (Nat → Int32) × (Nat → Int32))) : gH B X (Sum.elim (fun s : (Int32 × Int32 × (Nat → Int32) × (Nat → Int32)) => gG B X 23 [(0, .ref (aM B 0)), (1, .int v1), (2, .int v2), (3, .int v3), (4, .int s.1), (5, .int s.2.1)] [] (wdM B m_thrown m_size m_at m_wrong m_deep m_laws m_text m_readBoys m_readMarbles m_readFarms m_boys m_marbles m_farms m_holding m_spills m_acts m_draws m_bestRow m_bestMany m_noted m_hasImage m_tape m_code m_value m_codes m_clauses m_testFrom m_sumFrom m_sumTo s.2.2.1 s.2.2.2 m_readRule m_readBoy m_readMarble m_readFarm m_rule m_boy m_marble m_farm m_now m_refused m_kept m_notePlace m_noteKind m_noteIs m_toldBy m_image ++ fr)) (fun r : (Int32 × (Nat → Int32) × (Nat → Int32)) => gFin X (some (.int r.1)) (wdM B m_thrown m_size m_at m_wrong m_deep m_laws m_text m_readBoys m_readMarbles m_readFarms m_boys m_marbles m_farms m_holding m_spills m_acts m_draws m_bestRow m_bestMany m_noted m_hasImage m_tape m_code m_value m_codes m_clauses m_testFrom m_sumFrom m_sumTo r.2.1 r.2.2 m_readRule m_readBoy m_readMarble m_readFarm m_rule m_boy m_marble m_farm m_now m_refused m_kept m_notePlace m_noteKind m_noteIs m_toldBy m_image ++ fr))) 23 [(0, .ref (aM B 0)), (1, .int v1), (2, .int v2), (3, .int v3), (4, .int s.1), (5, .int s.2.1)] [] (wdM B m_thrown m_size m_at m_wrong m_deep m_laws m_text m_readBoys m_readMarbles m_readFarms m_boys m_marbles m_farms m_holding m_spills m_acts m_draws m_bestRow m_bestMany m_noted m_hasImage m_tape m_code m_value m_codes m_clauses m_testFrom m_sumFrom m_sumTo s.2.2.1 s.2.2.2 m_readRule m_readBoy m_readMarble m_readFarm m_rule m_boy m_marble m_farm m_now m_refused m_kept m_notePlace m_noteKind m_noteIs m_toldBy m_image ++ fr) (f_M_rests_L23 m_marbles m_holding m_code m_value m_clauses m_testFrom m_sumFrom m_sumTo m_rule m_boy m_marble m_now v1 v2 v3 s) := by
  unfold f_M_rests_L23
  refine h_iload hX dX11_rests_23 rfl ?_
  refine h_bipush hX dX11_rests_25 kb_9 ?_
  refine h_icmp_gt hX dX11_rests_27 (tgt := 83) (by decide) (fun _ => ?_) (fun _ => ?_)
  · refine gH.inr ?_
    refine h_iload_n hX dX11_rests_83 rfl rfl ?_
    refine h_iconst hX dX11_rests_84 ki_m1 ?_
    refine h_icmp_ne hX dX11_rests_85 (tgt := 93) (by decide) (fun _ => ?_) (fun _ => ?_)
    · refine h_iconst hX dX11_rests_93 ki_m1 ?_
      exact h_ret hX (rv := some (.int ((-1)))) dX11_rests_94 trivial (fun h => h)
    · refine h_iload hX dX11_rests_88 rfl ?_
      refine h_goto hX dX11_rests_90 (tgt := 94) (by decide) ?_
      exact h_ret hX (rv := some (.int s.1)) dX11_rests_94 trivial (fun h => h)
  · refine h_iconst hX dX11_rests_30 ki_1 ?_
    refine h_istore hX dX11_rests_31 (by decide) (lv' := [(0, .ref (aM B 0)), (1, .int v1), (2, .int v2), (3, .int v3), (4, .int s.1), (5, .int s.2.1), (6, .int 1)]) rfl ?_
    exact gH.loop (lvf := fun z : (Int32 × Int32 × (Nat → Int32) × (Nat → Int32)) => [(0, .ref (aM B 0)), (1, .int v1), (2, .int v2), (3, .int v3), (4, .int z.1), (5, .int s.2.1), (6, .int z.2.1)]) (wf := fun z : (Int32 × Int32 × (Nat → Int32) × (Nat → Int32)) => wdM B m_thrown m_size m_at m_wrong m_deep m_laws m_text m_readBoys m_readMarbles m_readFarms m_boys m_marbles m_farms m_holding m_spills m_acts m_draws m_bestRow m_bestMany m_noted m_hasImage m_tape m_code m_value m_codes m_clauses m_testFrom m_sumFrom m_sumTo z.2.2.1 z.2.2.2 m_readRule m_readBoy m_readMarble m_readFarm m_rule m_boy m_marble m_farm m_now m_refused m_kept m_notePlace m_noteKind m_noteIs m_toldBy m_image ++ fr) (fun z => w_M_rests_L33 hX z) (s.1, 1, s.2.2.1, s.2.2.2)
set_option maxRecDepth 4000 in
theorem w_M_rests {p0 : Int32} {p1 : Int32} {p2 : Int32} (hX : gOk B X RX11 cX11_rests 7 9 (some .int)) : gH B X (fun r : (Int32 × (Nat → Int32) × (Nat → Int32)) => gFin X (some (.int r.1)) (wdM B m_thrown m_size m_at m_wrong m_deep m_laws m_text m_readBoys m_readMarbles m_readFarms m_boys m_marbles m_farms m_holding m_spills m_acts m_draws m_bestRow m_bestMany m_noted m_hasImage m_tape m_code m_value m_codes m_clauses m_testFrom m_sumFrom m_sumTo r.2.1 r.2.2 m_readRule m_readBoy m_readMarble m_readFarm m_rule m_boy m_marble m_farm m_now m_refused m_kept m_notePlace m_noteKind m_noteIs m_toldBy m_image ++ fr)) 0 [(0, .ref (aM B 0)), (1, .int p0), (2, .int p1), (3, .int p2)] [] (wdM B m_thrown m_size m_at m_wrong m_deep m_laws m_text m_readBoys m_readMarbles m_readFarms m_boys m_marbles m_farms m_holding m_spills m_acts m_draws m_bestRow m_bestMany m_noted m_hasImage m_tape m_code m_value m_codes m_clauses m_testFrom m_sumFrom m_sumTo m_letters m_stack m_readRule m_readBoy m_readMarble m_readFarm m_rule m_boy m_marble m_farm m_now m_refused m_kept m_notePlace m_noteKind m_noteIs m_toldBy m_image ++ fr) (f_M_rests m_marbles m_holding m_code m_value m_clauses m_testFrom m_sumFrom m_sumTo m_letters m_stack m_rule m_boy m_marble m_now p0 p1 p2) := by
  unfold f_M_rests
  refine h_aload_n hX dX11_rests_0 rfl rfl ?_
  refine h_iload_n hX dX11_rests_1 rfl rfl ?_
  refine h_iload_n hX dX11_rests_2 rfl rfl ?_
  refine h_callVi hX dX11_rests_3 (cv_RX11_335) rc_M0 (As := [.int p0, .int p1]) (st := []) (fun _ h => c_M_whyNot h) rfl rfl (by decide) (Nat.le_of_ble_eq_true rfl) (fun a_1 => ?_)
  refine h_iconst hX dX11_rests_6 ki_m1 ?_
  refine h_icmp_ne hX dX11_rests_7 (tgt := 15) (by decide) (fun _ => ?_) (fun _ => ?_)
  · refine h_iconst hX dX11_rests_15 ki_m1 ?_
    exact h_ret hX (rv := some (.int ((-1)))) dX11_rests_16 trivial (fun h => h)
  · refine h_iload_n hX dX11_rests_10 rfl rfl ?_
    refine h_iconst hX dX11_rests_11 ki_m1 ?_
    refine h_icmp_ge hX dX11_rests_12 (tgt := 17) (by decide) (fun _ => ?_) (fun _ => ?_)
    · refine h_iconst hX dX11_rests_17 ki_0 ?_
      refine h_istore hX dX11_rests_18 (by decide) (lv' := [(0, .ref (aM B 0)), (1, .int p0), (2, .int p1), (3, .int p2), (4, .int 0)]) rfl ?_
      refine h_iconst hX dX11_rests_20 ki_1 ?_
      refine h_istore hX dX11_rests_21 (by decide) (lv' := [(0, .ref (aM B 0)), (1, .int p0), (2, .int p1), (3, .int p2), (4, .int 0), (5, .int 1)]) rfl ?_
      exact gH.loop (lvf := fun z : (Int32 × Int32 × (Nat → Int32) × (Nat → Int32)) => [(0, .ref (aM B 0)), (1, .int p0), (2, .int p1), (3, .int p2), (4, .int z.1), (5, .int z.2.1)]) (wf := fun z : (Int32 × Int32 × (Nat → Int32) × (Nat → Int32)) => wdM B m_thrown m_size m_at m_wrong m_deep m_laws m_text m_readBoys m_readMarbles m_readFarms m_boys m_marbles m_farms m_holding m_spills m_acts m_draws m_bestRow m_bestMany m_noted m_hasImage m_tape m_code m_value m_codes m_clauses m_testFrom m_sumFrom m_sumTo z.2.2.1 z.2.2.2 m_readRule m_readBoy m_readMarble m_readFarm m_rule m_boy m_marble m_farm m_now m_refused m_kept m_notePlace m_noteKind m_noteIs m_toldBy m_image ++ fr) (fun z => w_M_rests_L23 hX z) (0, 1, m_letters, m_stack)
    · refine h_iconst hX dX11_rests_15 ki_m1 ?_
      exact h_ret hX (rv := some (.int ((-1)))) dX11_rests_16 trivial (fun h => h)
theorem c_M_rests {p0 : Int32} {p1 : Int32} {p2 : Int32} {r : (Int32 × (Nat → Int32) × (Nat → Int32))} (h : f_M_rests m_marbles m_holding m_code m_value m_clauses m_testFrom m_sumFrom m_sumTo m_letters m_stack m_rule m_boy m_marble m_now p0 p1 p2 = some r) : gMet B 9 yX11_rests cX11_rests 7 (some .int) [.ref (aM B 0), .int p0, .int p1, .int p2] (wdM B m_thrown m_size m_at m_wrong m_deep m_laws m_text m_readBoys m_readMarbles m_readFarms m_boys m_marbles m_farms m_holding m_spills m_acts m_draws m_bestRow m_bestMany m_noted m_hasImage m_tape m_code m_value m_codes m_clauses m_testFrom m_sumFrom m_sumTo m_letters m_stack m_readRule m_readBoy m_readMarble m_readFarm m_rule m_boy m_marble m_farm m_now m_refused m_kept m_notePlace m_noteKind m_noteIs m_toldBy m_image ++ fr) (some (.int r.1)) (wdM B m_thrown m_size m_at m_wrong m_deep m_laws m_text m_readBoys m_readMarbles m_readFarms m_boys m_marbles m_farms m_holding m_spills m_acts m_draws m_bestRow m_bestMany m_noted m_hasImage m_tape m_code m_value m_codes m_clauses m_testFrom m_sumFrom m_sumTo r.2.1 r.2.2 m_readRule m_readBoy m_readMarble m_readFarm m_rule m_boy m_marble m_farm m_now m_refused m_kept m_notePlace m_noteKind m_noteIs m_toldBy m_image ++ fr) :=
  gMet.of rfl (Nat.le_of_ble_eq_true rfl) (fun X hX hF => w_M_rests hX r h hF)
set_option maxRecDepth 4000 in
theorem w_M_rule {p0 : Int32} (hX : gOk B X RX11 cX11_rule 2 1 (some .int)) : gH B X (fun r : Int32 => gFin X (some (.int r)) (wdM B m_thrown m_size m_at m_wrong m_deep m_laws m_text m_readBoys m_readMarbles m_readFarms m_boys m_marbles m_farms m_holding m_spills m_acts m_draws m_bestRow m_bestMany m_noted m_hasImage m_tape m_code m_value m_codes m_clauses m_testFrom m_sumFrom m_sumTo m_letters m_stack m_readRule m_readBoy m_readMarble m_readFarm m_rule m_boy m_marble m_farm m_now m_refused m_kept m_notePlace m_noteKind m_noteIs m_toldBy m_image ++ fr)) 0 [(0, .ref (aM B 0)), (1, .int p0)] [] (wdM B m_thrown m_size m_at m_wrong m_deep m_laws m_text m_readBoys m_readMarbles m_readFarms m_boys m_marbles m_farms m_holding m_spills m_acts m_draws m_bestRow m_bestMany m_noted m_hasImage m_tape m_code m_value m_codes m_clauses m_testFrom m_sumFrom m_sumTo m_letters m_stack m_readRule m_readBoy m_readMarble m_readFarm m_rule m_boy m_marble m_farm m_now m_refused m_kept m_notePlace m_noteKind m_noteIs m_toldBy m_image ++ fr) (f_M_rule m_marbles m_rule m_now p0) := by
  unfold f_M_rule
  refine h_aload_n hX dX11_rule_0 rfl rfl ?_
  refine get_RX11_261_M0 hX dX11_rule_1 ?_
  refine h_if_eq hX dX11_rule_4 (tgt := 16) (by decide) (fun _ => ?_) (fun _ => ?_)
  · refine h_iconst hX dX11_rule_16 ki_m1 ?_
    refine h_goto hX dX11_rule_17 (tgt := 41) (by decide) ?_
    exact h_ret hX (rv := some (.int ((-1)))) dX11_rule_41 trivial (fun h => h)
  · refine h_iload_n hX dX11_rule_7 rfl rfl ?_
    refine h_iconst hX dX11_rule_8 ki_0 ?_
    refine h_iconst hX dX11_rule_9 ki_2 ?_
    refine h_callSi hX dX11_rule_10 (cs_RX11_208) (As := [.int p0, .int 0, .int 2]) (st := []) (fun _ h => c_M_in h) rfl rfl (by decide) (Nat.le_of_ble_eq_true rfl) (fun a_1 => ?_)
    refine h_if_ne hX dX11_rule_13 (tgt := 20) (by decide) (fun _ => ?_) (fun _ => ?_)
    · refine h_iload_n hX dX11_rule_20 rfl rfl ?_
      refine h_iconst hX dX11_rule_21 ki_2 ?_
      refine h_icmp_ne hX dX11_rule_22 (tgt := 35) (by decide) (fun _ => ?_) (fun _ => ?_)
      · refine h_aload_n hX dX11_rule_35 rfl rfl ?_
        refine get_RX11_52_M0 hX dX11_rule_36 ?_
        refine h_iload_n hX dX11_rule_39 rfl rfl ?_
        refine ald_M15 hX dX11_rule_40 ?_
        exact h_ret hX (rv := some (.int (m_rule p0.toNatClampNeg))) dX11_rule_41 trivial (fun h => h)
      · refine h_aload_n hX dX11_rule_25 rfl rfl ?_
        refine get_RX11_64_M0 hX dX11_rule_26 ?_
        refine h_bipush hX dX11_rule_29 kb_8 ?_
        refine ald_M19 hX dX11_rule_31 ?_
        refine h_goto hX dX11_rule_32 (tgt := 41) (by decide) ?_
        exact h_ret hX (rv := some (.int (m_now (8 : Int32).toNatClampNeg))) dX11_rule_41 trivial (fun h => h)
    · refine h_iconst hX dX11_rule_16 ki_m1 ?_
      refine h_goto hX dX11_rule_17 (tgt := 41) (by decide) ?_
      exact h_ret hX (rv := some (.int ((-1)))) dX11_rule_41 trivial (fun h => h)
theorem c_M_rule {p0 : Int32} {r : Int32} (h : f_M_rule m_marbles m_rule m_now p0 = some r) : gMet B 1 yX11_rule cX11_rule 2 (some .int) [.ref (aM B 0), .int p0] (wdM B m_thrown m_size m_at m_wrong m_deep m_laws m_text m_readBoys m_readMarbles m_readFarms m_boys m_marbles m_farms m_holding m_spills m_acts m_draws m_bestRow m_bestMany m_noted m_hasImage m_tape m_code m_value m_codes m_clauses m_testFrom m_sumFrom m_sumTo m_letters m_stack m_readRule m_readBoy m_readMarble m_readFarm m_rule m_boy m_marble m_farm m_now m_refused m_kept m_notePlace m_noteKind m_noteIs m_toldBy m_image ++ fr) (some (.int r)) (wdM B m_thrown m_size m_at m_wrong m_deep m_laws m_text m_readBoys m_readMarbles m_readFarms m_boys m_marbles m_farms m_holding m_spills m_acts m_draws m_bestRow m_bestMany m_noted m_hasImage m_tape m_code m_value m_codes m_clauses m_testFrom m_sumFrom m_sumTo m_letters m_stack m_readRule m_readBoy m_readMarble m_readFarm m_rule m_boy m_marble m_farm m_now m_refused m_kept m_notePlace m_noteKind m_noteIs m_toldBy m_image ++ fr) :=
  gMet.of rfl (Nat.le_of_ble_eq_true rfl) (fun X hX hF => w_M_rule hX r h hF)
set_option maxRecDepth 4000 in
theorem w_M_saves_L31 {v1 : Int32} {v2 : Int32} (hX : gOk B X RX11 cX11_saves 4 6 (some .int)) (s : Int32) : gH B X (Sum.elim (fun s : Int32 => gG B X 31 [(0, .ref (aM B 0)), (1, .int v1), (2, .int v2), (3, .int s)] [] (wdM B m_thrown m_size m_at m_wrong m_deep m_laws m_text m_readBoys m_readMarbles m_readFarms m_boys m_marbles m_farms m_holding m_spills m_acts m_draws m_bestRow m_bestMany m_noted m_hasImage m_tape m_code m_value m_codes m_clauses m_testFrom m_sumFrom m_sumTo m_letters m_stack m_readRule m_readBoy m_readMarble m_readFarm m_rule m_boy m_marble m_farm m_now m_refused m_kept m_notePlace m_noteKind m_noteIs m_toldBy m_image ++ fr)) (fun r : Int32 => gFin X (some (.int r)) (wdM B m_thrown m_size m_at m_wrong m_deep m_laws m_text m_readBoys m_readMarbles m_readFarms m_boys m_marbles m_farms m_holding m_spills m_acts m_draws m_bestRow m_bestMany m_noted m_hasImage m_tape m_code m_value m_codes m_clauses m_testFrom m_sumFrom m_sumTo m_letters m_stack m_readRule m_readBoy m_readMarble m_readFarm m_rule m_boy m_marble m_farm m_now m_refused m_kept m_notePlace m_noteKind m_noteIs m_toldBy m_image ++ fr))) 31 [(0, .ref (aM B 0)), (1, .int v1), (2, .int v2), (3, .int s)] [] (wdM B m_thrown m_size m_at m_wrong m_deep m_laws m_text m_readBoys m_readMarbles m_readFarms m_boys m_marbles m_farms m_holding m_spills m_acts m_draws m_bestRow m_bestMany m_noted m_hasImage m_tape m_code m_value m_codes m_clauses m_testFrom m_sumFrom m_sumTo m_letters m_stack m_readRule m_readBoy m_readMarble m_readFarm m_rule m_boy m_marble m_farm m_now m_refused m_kept m_notePlace m_noteKind m_noteIs m_toldBy m_image ++ fr) (f_M_saves_L31 m_now v1 v2 s) := by
  unfold f_M_saves_L31
  refine h_iload_n hX dX11_saves_31 rfl rfl ?_
  refine h_bipush hX dX11_saves_32 kb_60 ?_
  refine h_icmp_gt hX dX11_saves_34 (tgt := 60) (by decide) (fun _ => ?_) (fun _ => ?_)
  · refine h_iconst hX dX11_saves_60 ki_m1 ?_
    exact h_ret hX (rv := some (.int ((-1)))) dX11_saves_61 trivial (fun h => h)
  · refine h_aload_n hX dX11_saves_37 rfl rfl ?_
    refine get_RX11_64_M0 hX dX11_saves_38 ?_
    refine h_bipush hX dX11_saves_41 kb_8 ?_
    refine ald_M19 hX dX11_saves_43 ?_
    refine h_iload_n hX dX11_saves_44 rfl rfl ?_
    refine h_iload_n hX dX11_saves_45 rfl rfl ?_
    refine h_imul hX dX11_saves_46 ?_
    refine h_iadd hX dX11_saves_47 ?_
    refine h_iload_n hX dX11_saves_48 rfl rfl ?_
    refine h_icmp_lt hX dX11_saves_49 (tgt := 54) (by decide) (fun _ => ?_) (fun _ => ?_)
    · refine h_iincc hX dX11_saves_54 rfl ki_1 (by decide) (lv' := [(0, .ref (aM B 0)), (1, .int v1), (2, .int v2), (3, .int (s + 1))]) rfl ?_
      refine h_goto hX dX11_saves_57 (tgt := 31) (by decide) ?_
      exact gH.some' (fun h => h)
    · refine h_iload_n hX dX11_saves_52 rfl rfl ?_
      exact h_ret hX (rv := some (.int s)) dX11_saves_53 trivial (fun h => h)
set_option maxRecDepth 4000 in
theorem w_M_saves {p0 : Int32} (hX : gOk B X RX11 cX11_saves 4 6 (some .int)) : gH B X (fun r : Int32 => gFin X (some (.int r)) (wdM B m_thrown m_size m_at m_wrong m_deep m_laws m_text m_readBoys m_readMarbles m_readFarms m_boys m_marbles m_farms m_holding m_spills m_acts m_draws m_bestRow m_bestMany m_noted m_hasImage m_tape m_code m_value m_codes m_clauses m_testFrom m_sumFrom m_sumTo m_letters m_stack m_readRule m_readBoy m_readMarble m_readFarm m_rule m_boy m_marble m_farm m_now m_refused m_kept m_notePlace m_noteKind m_noteIs m_toldBy m_image ++ fr)) 0 [(0, .ref (aM B 0)), (1, .int p0)] [] (wdM B m_thrown m_size m_at m_wrong m_deep m_laws m_text m_readBoys m_readMarbles m_readFarms m_boys m_marbles m_farms m_holding m_spills m_acts m_draws m_bestRow m_bestMany m_noted m_hasImage m_tape m_code m_value m_codes m_clauses m_testFrom m_sumFrom m_sumTo m_letters m_stack m_readRule m_readBoy m_readMarble m_readFarm m_rule m_boy m_marble m_farm m_now m_refused m_kept m_notePlace m_noteKind m_noteIs m_toldBy m_image ++ fr) (f_M_saves m_marbles m_farms m_boy m_marble m_farm m_now p0) := by
  unfold f_M_saves
  refine h_aload_n hX dX11_saves_0 rfl rfl ?_
  refine get_RX11_261_M0 hX dX11_saves_1 ?_
  refine h_if_eq hX dX11_saves_4 (tgt := 18) (by decide) (fun _ => ?_) (fun _ => ?_)
  · refine h_iconst hX dX11_saves_18 ki_m1 ?_
    exact h_ret hX (rv := some (.int ((-1)))) dX11_saves_19 trivial (fun h => h)
  · refine h_iload_n hX dX11_saves_7 rfl rfl ?_
    refine h_iconst hX dX11_saves_8 ki_1 ?_
    refine h_sipush hX dX11_saves_9 ks_999 ?_
    refine h_callSi hX dX11_saves_12 (cs_RX11_208) (As := [.int p0, .int 1, .int 999]) (st := []) (fun _ h => c_M_in h) rfl rfl (by decide) (Nat.le_of_ble_eq_true rfl) (fun a_1 => ?_)
    refine h_if_ne hX dX11_saves_15 (tgt := 20) (by decide) (fun _ => ?_) (fun _ => ?_)
    · refine h_aload_n hX dX11_saves_20 rfl rfl ?_
      refine h_aload_n hX dX11_saves_21 rfl rfl ?_
      refine h_callVi hX dX11_saves_22 (cv_RX11_369) rc_M0 (As := []) (st := [.ref (aM B 0)]) (fun _ h => c_M_contents h) rfl rfl (by decide) (Nat.le_of_ble_eq_true rfl) (fun a_2 => ?_)
      refine h_callVi hX dX11_saves_25 (cv_RX11_372) rc_M0 (As := [.int a_2]) (st := []) (fun _ h => c_M_payOf h) rfl rfl (by decide) (Nat.le_of_ble_eq_true rfl) (fun a_3 => ?_)
      refine h_istore_n hX dX11_saves_28 rfl (by decide) (lv' := [(0, .ref (aM B 0)), (1, .int p0), (2, .int a_3)]) rfl ?_
      refine h_iconst hX dX11_saves_29 ki_0 ?_
      refine h_istore_n hX dX11_saves_30 rfl (by decide) (lv' := [(0, .ref (aM B 0)), (1, .int p0), (2, .int a_3), (3, .int 0)]) rfl ?_
      exact gH.loop (lvf := fun z : Int32 => [(0, .ref (aM B 0)), (1, .int p0), (2, .int a_3), (3, .int z)]) (wf := fun z : Int32 => wdM B m_thrown m_size m_at m_wrong m_deep m_laws m_text m_readBoys m_readMarbles m_readFarms m_boys m_marbles m_farms m_holding m_spills m_acts m_draws m_bestRow m_bestMany m_noted m_hasImage m_tape m_code m_value m_codes m_clauses m_testFrom m_sumFrom m_sumTo m_letters m_stack m_readRule m_readBoy m_readMarble m_readFarm m_rule m_boy m_marble m_farm m_now m_refused m_kept m_notePlace m_noteKind m_noteIs m_toldBy m_image ++ fr) (fun z => w_M_saves_L31 hX z) 0
    · refine h_iconst hX dX11_saves_18 ki_m1 ?_
      exact h_ret hX (rv := some (.int ((-1)))) dX11_saves_19 trivial (fun h => h)
theorem c_M_saves {p0 : Int32} {r : Int32} (h : f_M_saves m_marbles m_farms m_boy m_marble m_farm m_now p0 = some r) : gMet B 6 yX11_saves cX11_saves 4 (some .int) [.ref (aM B 0), .int p0] (wdM B m_thrown m_size m_at m_wrong m_deep m_laws m_text m_readBoys m_readMarbles m_readFarms m_boys m_marbles m_farms m_holding m_spills m_acts m_draws m_bestRow m_bestMany m_noted m_hasImage m_tape m_code m_value m_codes m_clauses m_testFrom m_sumFrom m_sumTo m_letters m_stack m_readRule m_readBoy m_readMarble m_readFarm m_rule m_boy m_marble m_farm m_now m_refused m_kept m_notePlace m_noteKind m_noteIs m_toldBy m_image ++ fr) (some (.int r)) (wdM B m_thrown m_size m_at m_wrong m_deep m_laws m_text m_readBoys m_readMarbles m_readFarms m_boys m_marbles m_farms m_holding m_spills m_acts m_draws m_bestRow m_bestMany m_noted m_hasImage m_tape m_code m_value m_codes m_clauses m_testFrom m_sumFrom m_sumTo m_letters m_stack m_readRule m_readBoy m_readMarble m_readFarm m_rule m_boy m_marble m_farm m_now m_refused m_kept m_notePlace m_noteKind m_noteIs m_toldBy m_image ++ fr) :=
  gMet.of rfl (Nat.le_of_ble_eq_true rfl) (fun X hX hF => w_M_saves hX r h hF)
set_option maxRecDepth 4000 in
theorem w_M_seen {p0 : Int32} {p1 : Int32} {p2 : Int32} (hX : gOk B X RX11 cX11_seen 4 2 (some .int)) : gH B X (fun r : (Int32 × Int32 × (Nat → Int32) × (Nat → Int32) × (Nat → Int32)) => gFin X (some (.int r.1)) (wdM B m_thrown m_size m_at m_wrong m_deep m_laws m_text m_readBoys m_readMarbles m_readFarms m_boys m_marbles m_farms m_holding m_spills m_acts m_draws m_bestRow m_bestMany r.2.1 m_hasImage m_tape m_code m_value m_codes m_clauses m_testFrom m_sumFrom m_sumTo m_letters m_stack m_readRule m_readBoy m_readMarble m_readFarm m_rule m_boy m_marble m_farm m_now m_refused m_kept r.2.2.1 r.2.2.2.1 r.2.2.2.2 m_toldBy m_image ++ fr)) 0 [(0, .ref (aM B 0)), (1, .int p0), (2, .int p1), (3, .int p2)] [] (wdM B m_thrown m_size m_at m_wrong m_deep m_laws m_text m_readBoys m_readMarbles m_readFarms m_boys m_marbles m_farms m_holding m_spills m_acts m_draws m_bestRow m_bestMany m_noted m_hasImage m_tape m_code m_value m_codes m_clauses m_testFrom m_sumFrom m_sumTo m_letters m_stack m_readRule m_readBoy m_readMarble m_readFarm m_rule m_boy m_marble m_farm m_now m_refused m_kept m_notePlace m_noteKind m_noteIs m_toldBy m_image ++ fr) (f_M_seen m_marbles m_noted m_notePlace m_noteKind m_noteIs p0 p1 p2) := by
  unfold f_M_seen
  refine h_aload_n hX dX11_seen_0 rfl rfl ?_
  refine get_RX11_261_M0 hX dX11_seen_1 ?_
  refine h_if_eq hX dX11_seen_4 (tgt := 30) (by decide) (fun _ => ?_) (fun _ => ?_)
  · refine h_iconst hX dX11_seen_30 ki_m1 ?_
    exact h_ret hX (rv := some (.int ((-1)))) dX11_seen_31 trivial (fun h => h)
  · refine h_iload_n hX dX11_seen_7 rfl rfl ?_
    refine h_callSi hX dX11_seen_8 (cs_RX11_401) (As := [.int p0]) (st := []) (fun _ h => c_M_isPlace h) rfl rfl (by decide) (Nat.le_of_ble_eq_true rfl) (fun a_1 => ?_)
    refine h_if_eq hX dX11_seen_11 (tgt := 30) (by decide) (fun _ => ?_) (fun _ => ?_)
    · refine h_iconst hX dX11_seen_30 ki_m1 ?_
      exact h_ret hX (rv := some (.int ((-1)))) dX11_seen_31 trivial (fun h => h)
    · refine h_iload_n hX dX11_seen_14 rfl rfl ?_
      refine h_callSi hX dX11_seen_15 (cs_RX11_404) (As := [.int p1]) (st := []) (fun _ h => c_M_isKind h) rfl rfl (by decide) (Nat.le_of_ble_eq_true rfl) (fun a_2 => ?_)
      refine h_if_eq hX dX11_seen_18 (tgt := 30) (by decide) (fun _ => ?_) (fun _ => ?_)
      · refine h_iconst hX dX11_seen_30 ki_m1 ?_
        exact h_ret hX (rv := some (.int ((-1)))) dX11_seen_31 trivial (fun h => h)
      · refine h_aload_n hX dX11_seen_21 rfl rfl ?_
        refine get_RX11_270_M0 hX dX11_seen_22 ?_
        refine h_bipush hX dX11_seen_25 kb_10 ?_
        refine h_icmp_ne hX dX11_seen_27 (tgt := 32) (by decide) (fun _ => ?_) (fun _ => ?_)
        · refine h_aload_n hX dX11_seen_32 rfl rfl ?_
          refine get_RX11_77_M0 hX dX11_seen_33 ?_
          refine h_aload_n hX dX11_seen_36 rfl rfl ?_
          refine get_RX11_270_M0 hX dX11_seen_37 ?_
          refine h_iload_n hX dX11_seen_40 rfl rfl ?_
          refine ast_M22 hX dX11_seen_41 ?_
          refine gH.letw (w := fun y => wdM B m_thrown m_size m_at m_wrong m_deep m_laws m_text m_readBoys m_readMarbles m_readFarms m_boys m_marbles m_farms m_holding m_spills m_acts m_draws m_bestRow m_bestMany m_noted m_hasImage m_tape m_code m_value m_codes m_clauses m_testFrom m_sumFrom m_sumTo m_letters m_stack m_readRule m_readBoy m_readMarble m_readFarm m_rule m_boy m_marble m_farm m_now m_refused m_kept y m_noteKind m_noteIs m_toldBy m_image ++ fr) (fun m_notePlace_3 => ?_)
          refine h_aload_n hX dX11_seen_42 rfl rfl ?_
          refine get_RX11_80_M0 hX dX11_seen_43 ?_
          refine h_aload_n hX dX11_seen_46 rfl rfl ?_
          refine get_RX11_270_M0 hX dX11_seen_47 ?_
          refine h_iload_n hX dX11_seen_50 rfl rfl ?_
          refine ast_M23 hX dX11_seen_51 ?_
          refine gH.letw (w := fun y => wdM B m_thrown m_size m_at m_wrong m_deep m_laws m_text m_readBoys m_readMarbles m_readFarms m_boys m_marbles m_farms m_holding m_spills m_acts m_draws m_bestRow m_bestMany m_noted m_hasImage m_tape m_code m_value m_codes m_clauses m_testFrom m_sumFrom m_sumTo m_letters m_stack m_readRule m_readBoy m_readMarble m_readFarm m_rule m_boy m_marble m_farm m_now m_refused m_kept m_notePlace_3 y m_noteIs m_toldBy m_image ++ fr) (fun m_noteKind_4 => ?_)
          refine h_aload_n hX dX11_seen_52 rfl rfl ?_
          refine get_RX11_83_M0 hX dX11_seen_53 ?_
          refine h_aload_n hX dX11_seen_56 rfl rfl ?_
          refine get_RX11_270_M0 hX dX11_seen_57 ?_
          refine h_iload_n hX dX11_seen_60 rfl rfl ?_
          refine ast_M24 hX dX11_seen_61 ?_
          refine gH.letw (w := fun y => wdM B m_thrown m_size m_at m_wrong m_deep m_laws m_text m_readBoys m_readMarbles m_readFarms m_boys m_marbles m_farms m_holding m_spills m_acts m_draws m_bestRow m_bestMany m_noted m_hasImage m_tape m_code m_value m_codes m_clauses m_testFrom m_sumFrom m_sumTo m_letters m_stack m_readRule m_readBoy m_readMarble m_readFarm m_rule m_boy m_marble m_farm m_now m_refused m_kept m_notePlace_3 m_noteKind_4 y m_toldBy m_image ++ fr) (fun m_noteIs_5 => ?_)
          refine h_aload_n hX dX11_seen_62 rfl rfl ?_
          refine h_dup hX dX11_seen_63 rfl ?_
          refine get_RX11_270_M0 hX dX11_seen_64 ?_
          refine h_iconst hX dX11_seen_67 ki_1 ?_
          refine h_iadd hX dX11_seen_68 ?_
          refine put_RX11_270_M0 hX dX11_seen_69 ?_
          refine gH.letw (w := fun y => wdM B m_thrown m_size m_at m_wrong m_deep m_laws m_text m_readBoys m_readMarbles m_readFarms m_boys m_marbles m_farms m_holding m_spills m_acts m_draws m_bestRow m_bestMany y m_hasImage m_tape m_code m_value m_codes m_clauses m_testFrom m_sumFrom m_sumTo m_letters m_stack m_readRule m_readBoy m_readMarble m_readFarm m_rule m_boy m_marble m_farm m_now m_refused m_kept m_notePlace_3 m_noteKind_4 m_noteIs_5 m_toldBy m_image ++ fr) (fun m_noted_6 => ?_)
          refine h_aload_n hX dX11_seen_72 rfl rfl ?_
          refine get_RX11_270_M0 hX dX11_seen_73 ?_
          exact h_ret hX (rv := some (.int m_noted_6)) dX11_seen_76 trivial (fun h => h)
        · refine h_iconst hX dX11_seen_30 ki_m1 ?_
          exact h_ret hX (rv := some (.int ((-1)))) dX11_seen_31 trivial (fun h => h)
theorem c_M_seen {p0 : Int32} {p1 : Int32} {p2 : Int32} {r : (Int32 × Int32 × (Nat → Int32) × (Nat → Int32) × (Nat → Int32))} (h : f_M_seen m_marbles m_noted m_notePlace m_noteKind m_noteIs p0 p1 p2 = some r) : gMet B 2 yX11_seen cX11_seen 4 (some .int) [.ref (aM B 0), .int p0, .int p1, .int p2] (wdM B m_thrown m_size m_at m_wrong m_deep m_laws m_text m_readBoys m_readMarbles m_readFarms m_boys m_marbles m_farms m_holding m_spills m_acts m_draws m_bestRow m_bestMany m_noted m_hasImage m_tape m_code m_value m_codes m_clauses m_testFrom m_sumFrom m_sumTo m_letters m_stack m_readRule m_readBoy m_readMarble m_readFarm m_rule m_boy m_marble m_farm m_now m_refused m_kept m_notePlace m_noteKind m_noteIs m_toldBy m_image ++ fr) (some (.int r.1)) (wdM B m_thrown m_size m_at m_wrong m_deep m_laws m_text m_readBoys m_readMarbles m_readFarms m_boys m_marbles m_farms m_holding m_spills m_acts m_draws m_bestRow m_bestMany r.2.1 m_hasImage m_tape m_code m_value m_codes m_clauses m_testFrom m_sumFrom m_sumTo m_letters m_stack m_readRule m_readBoy m_readMarble m_readFarm m_rule m_boy m_marble m_farm m_now m_refused m_kept r.2.2.1 r.2.2.2.1 r.2.2.2.2 m_toldBy m_image ++ fr) :=
  gMet.of rfl (Nat.le_of_ble_eq_true rfl) (fun X hX hF => w_M_seen hX r h hF)
set_option maxRecDepth 4000 in
theorem w_M_sizesOf_J31 {v1 : Int32} {v3 : Int32} {k0 : Int32} {k1 : Int32} (hX : gOk B X RX11 cX11_sizesOf 4 1 (some .int)) : gH B X (Sum.elim (fun s : (Int32 × Int32) => gG B X 4 [(0, .ref (aM B 0)), (1, .int v1), (2, .int s.1), (3, .int s.2)] [] (wdM B m_thrown m_size m_at m_wrong m_deep m_laws m_text m_readBoys m_readMarbles m_readFarms m_boys m_marbles m_farms m_holding m_spills m_acts m_draws m_bestRow m_bestMany m_noted m_hasImage m_tape m_code m_value m_codes m_clauses m_testFrom m_sumFrom m_sumTo m_letters m_stack m_readRule m_readBoy m_readMarble m_readFarm m_rule m_boy m_marble m_farm m_now m_refused m_kept m_notePlace m_noteKind m_noteIs m_toldBy m_image ++ fr)) (fun r : Int32 => gFin X (some (.int r)) (wdM B m_thrown m_size m_at m_wrong m_deep m_laws m_text m_readBoys m_readMarbles m_readFarms m_boys m_marbles m_farms m_holding m_spills m_acts m_draws m_bestRow m_bestMany m_noted m_hasImage m_tape m_code m_value m_codes m_clauses m_testFrom m_sumFrom m_sumTo m_letters m_stack m_readRule m_readBoy m_readMarble m_readFarm m_rule m_boy m_marble m_farm m_now m_refused m_kept m_notePlace m_noteKind m_noteIs m_toldBy m_image ++ fr))) 31 [(0, .ref (aM B 0)), (1, .int v1), (3, .int v3)] [.int k1, .int k0] (wdM B m_thrown m_size m_at m_wrong m_deep m_laws m_text m_readBoys m_readMarbles m_readFarms m_boys m_marbles m_farms m_holding m_spills m_acts m_draws m_bestRow m_bestMany m_noted m_hasImage m_tape m_code m_value m_codes m_clauses m_testFrom m_sumFrom m_sumTo m_letters m_stack m_readRule m_readBoy m_readMarble m_readFarm m_rule m_boy m_marble m_farm m_now m_refused m_kept m_notePlace m_noteKind m_noteIs m_toldBy m_image ++ fr) (f_M_sizesOf_J31 v3 k0 k1) := by
  unfold f_M_sizesOf_J31
  refine h_iadd hX dX11_sizesOf_31 ?_
  refine gH.leti (fun v2_2 => ?_)
  refine h_istore_n hX dX11_sizesOf_32 rfl (by decide) (lv' := [(0, .ref (aM B 0)), (1, .int v1), (2, .int v2_2), (3, .int v3)]) rfl ?_
  refine h_iincc hX dX11_sizesOf_33 rfl ki_1 (by decide) (lv' := [(0, .ref (aM B 0)), (1, .int v1), (2, .int v2_2), (3, .int (v3 + 1))]) rfl ?_
  refine h_goto hX dX11_sizesOf_36 (tgt := 4) (by decide) ?_
  exact gH.some' (fun h => h)
set_option maxRecDepth 4000 in
theorem w_M_sizesOf_L4 {v1 : Int32} (hX : gOk B X RX11 cX11_sizesOf 4 1 (some .int)) (s : (Int32 × Int32)) : gH B X (Sum.elim (fun s : (Int32 × Int32) => gG B X 4 [(0, .ref (aM B 0)), (1, .int v1), (2, .int s.1), (3, .int s.2)] [] (wdM B m_thrown m_size m_at m_wrong m_deep m_laws m_text m_readBoys m_readMarbles m_readFarms m_boys m_marbles m_farms m_holding m_spills m_acts m_draws m_bestRow m_bestMany m_noted m_hasImage m_tape m_code m_value m_codes m_clauses m_testFrom m_sumFrom m_sumTo m_letters m_stack m_readRule m_readBoy m_readMarble m_readFarm m_rule m_boy m_marble m_farm m_now m_refused m_kept m_notePlace m_noteKind m_noteIs m_toldBy m_image ++ fr)) (fun r : Int32 => gFin X (some (.int r)) (wdM B m_thrown m_size m_at m_wrong m_deep m_laws m_text m_readBoys m_readMarbles m_readFarms m_boys m_marbles m_farms m_holding m_spills m_acts m_draws m_bestRow m_bestMany m_noted m_hasImage m_tape m_code m_value m_codes m_clauses m_testFrom m_sumFrom m_sumTo m_letters m_stack m_readRule m_readBoy m_readMarble m_readFarm m_rule m_boy m_marble m_farm m_now m_refused m_kept m_notePlace m_noteKind m_noteIs m_toldBy m_image ++ fr))) 4 [(0, .ref (aM B 0)), (1, .int v1), (2, .int s.1), (3, .int s.2)] [] (wdM B m_thrown m_size m_at m_wrong m_deep m_laws m_text m_readBoys m_readMarbles m_readFarms m_boys m_marbles m_farms m_holding m_spills m_acts m_draws m_bestRow m_bestMany m_noted m_hasImage m_tape m_code m_value m_codes m_clauses m_testFrom m_sumFrom m_sumTo m_letters m_stack m_readRule m_readBoy m_readMarble m_readFarm m_rule m_boy m_marble m_farm m_now m_refused m_kept m_notePlace m_noteKind m_noteIs m_toldBy m_image ++ fr) (f_M_sizesOf_L4 m_marbles m_marble v1 s) := by
  unfold f_M_sizesOf_L4
  refine h_iload_n hX dX11_sizesOf_4 rfl rfl ?_
  refine h_aload_n hX dX11_sizesOf_5 rfl rfl ?_
  refine get_RX11_261_M0 hX dX11_sizesOf_6 ?_
  refine h_icmp_ge hX dX11_sizesOf_9 (tgt := 39) (by decide) (fun _ => ?_) (fun _ => ?_)
  · refine h_iload_n hX dX11_sizesOf_39 rfl rfl ?_
    exact h_ret hX (rv := some (.int s.1)) dX11_sizesOf_40 trivial (fun h => h)
  · refine h_iload_n hX dX11_sizesOf_12 rfl rfl ?_
    refine h_iload_n hX dX11_sizesOf_13 rfl rfl ?_
    refine h_iload_n hX dX11_sizesOf_14 rfl rfl ?_
    refine h_callSi hX dX11_sizesOf_15 (cs_RX11_219) (As := [.int v1, .int s.2]) (st := [.int s.1]) (fun _ h => c_M_has h) rfl rfl (by decide) (Nat.le_of_ble_eq_true rfl) (fun a_1 => ?_)
    refine h_if_eq hX dX11_sizesOf_18 (tgt := 30) (by decide) (fun _ => ?_) (fun _ => ?_)
    · refine h_iconst hX dX11_sizesOf_30 ki_0 ?_
      refine gH.dead [0, 1, 3] rfl ?_
      exact w_M_sizesOf_J31 hX
    · refine h_aload_n hX dX11_sizesOf_21 rfl rfl ?_
      refine h_iload_n hX dX11_sizesOf_22 rfl rfl ?_
      refine h_iconst hX dX11_sizesOf_23 ki_2 ?_
      refine h_callVi hX dX11_sizesOf_24 (cv_RX11_267) rc_M0 (As := [.int s.2, .int 2]) (st := [.int s.1]) (fun _ h => c_M_of h) rfl rfl (by decide) (Nat.le_of_ble_eq_true rfl) (fun a_4 => ?_)
      refine h_goto hX dX11_sizesOf_27 (tgt := 31) (by decide) ?_
      refine gH.dead [0, 1, 3] rfl ?_
      exact w_M_sizesOf_J31 hX
set_option maxRecDepth 4000 in
theorem w_M_sizesOf {p0 : Int32} (hX : gOk B X RX11 cX11_sizesOf 4 1 (some .int)) : gH B X (fun r : Int32 => gFin X (some (.int r)) (wdM B m_thrown m_size m_at m_wrong m_deep m_laws m_text m_readBoys m_readMarbles m_readFarms m_boys m_marbles m_farms m_holding m_spills m_acts m_draws m_bestRow m_bestMany m_noted m_hasImage m_tape m_code m_value m_codes m_clauses m_testFrom m_sumFrom m_sumTo m_letters m_stack m_readRule m_readBoy m_readMarble m_readFarm m_rule m_boy m_marble m_farm m_now m_refused m_kept m_notePlace m_noteKind m_noteIs m_toldBy m_image ++ fr)) 0 [(0, .ref (aM B 0)), (1, .int p0)] [] (wdM B m_thrown m_size m_at m_wrong m_deep m_laws m_text m_readBoys m_readMarbles m_readFarms m_boys m_marbles m_farms m_holding m_spills m_acts m_draws m_bestRow m_bestMany m_noted m_hasImage m_tape m_code m_value m_codes m_clauses m_testFrom m_sumFrom m_sumTo m_letters m_stack m_readRule m_readBoy m_readMarble m_readFarm m_rule m_boy m_marble m_farm m_now m_refused m_kept m_notePlace m_noteKind m_noteIs m_toldBy m_image ++ fr) (f_M_sizesOf m_marbles m_marble p0) := by
  unfold f_M_sizesOf
  refine h_iconst hX dX11_sizesOf_0 ki_0 ?_
  refine h_istore_n hX dX11_sizesOf_1 rfl (by decide) (lv' := [(0, .ref (aM B 0)), (1, .int p0), (2, .int 0)]) rfl ?_
  refine h_iconst hX dX11_sizesOf_2 ki_0 ?_
  refine h_istore_n hX dX11_sizesOf_3 rfl (by decide) (lv' := [(0, .ref (aM B 0)), (1, .int p0), (2, .int 0), (3, .int 0)]) rfl ?_
  exact gH.loop (lvf := fun z : (Int32 × Int32) => [(0, .ref (aM B 0)), (1, .int p0), (2, .int z.1), (3, .int z.2)]) (wf := fun z : (Int32 × Int32) => wdM B m_thrown m_size m_at m_wrong m_deep m_laws m_text m_readBoys m_readMarbles m_readFarms m_boys m_marbles m_farms m_holding m_spills m_acts m_draws m_bestRow m_bestMany m_noted m_hasImage m_tape m_code m_value m_codes m_clauses m_testFrom m_sumFrom m_sumTo m_letters m_stack m_readRule m_readBoy m_readMarble m_readFarm m_rule m_boy m_marble m_farm m_now m_refused m_kept m_notePlace m_noteKind m_noteIs m_toldBy m_image ++ fr) (fun z => w_M_sizesOf_L4 hX z) (0, 0)
theorem c_M_sizesOf {p0 : Int32} {r : Int32} (h : f_M_sizesOf m_marbles m_marble p0 = some r) : gMet B 1 yX11_sizesOf cX11_sizesOf 4 (some .int) [.ref (aM B 0), .int p0] (wdM B m_thrown m_size m_at m_wrong m_deep m_laws m_text m_readBoys m_readMarbles m_readFarms m_boys m_marbles m_farms m_holding m_spills m_acts m_draws m_bestRow m_bestMany m_noted m_hasImage m_tape m_code m_value m_codes m_clauses m_testFrom m_sumFrom m_sumTo m_letters m_stack m_readRule m_readBoy m_readMarble m_readFarm m_rule m_boy m_marble m_farm m_now m_refused m_kept m_notePlace m_noteKind m_noteIs m_toldBy m_image ++ fr) (some (.int r)) (wdM B m_thrown m_size m_at m_wrong m_deep m_laws m_text m_readBoys m_readMarbles m_readFarms m_boys m_marbles m_farms m_holding m_spills m_acts m_draws m_bestRow m_bestMany m_noted m_hasImage m_tape m_code m_value m_codes m_clauses m_testFrom m_sumFrom m_sumTo m_letters m_stack m_readRule m_readBoy m_readMarble m_readFarm m_rule m_boy m_marble m_farm m_now m_refused m_kept m_notePlace m_noteKind m_noteIs m_toldBy m_image ++ fr) :=
  gMet.of rfl (Nat.le_of_ble_eq_true rfl) (fun X hX hF => w_M_sizesOf hX r h hF)
set_option maxRecDepth 4000 in
theorem w_M_shares {p0 : Int32} {p1 : Int32} (hX : gOk B X RX11 cX11_shares 4 2 (some .int)) : gH B X (fun r : Int32 => gFin X (some (.int r)) (wdM B m_thrown m_size m_at m_wrong m_deep m_laws m_text m_readBoys m_readMarbles m_readFarms m_boys m_marbles m_farms m_holding m_spills m_acts m_draws m_bestRow m_bestMany m_noted m_hasImage m_tape m_code m_value m_codes m_clauses m_testFrom m_sumFrom m_sumTo m_letters m_stack m_readRule m_readBoy m_readMarble m_readFarm m_rule m_boy m_marble m_farm m_now m_refused m_kept m_notePlace m_noteKind m_noteIs m_toldBy m_image ++ fr)) 0 [(0, .ref (aM B 0)), (1, .int p0), (2, .int p1)] [] (wdM B m_thrown m_size m_at m_wrong m_deep m_laws m_text m_readBoys m_readMarbles m_readFarms m_boys m_marbles m_farms m_holding m_spills m_acts m_draws m_bestRow m_bestMany m_noted m_hasImage m_tape m_code m_value m_codes m_clauses m_testFrom m_sumFrom m_sumTo m_letters m_stack m_readRule m_readBoy m_readMarble m_readFarm m_rule m_boy m_marble m_farm m_now m_refused m_kept m_notePlace m_noteKind m_noteIs m_toldBy m_image ++ fr) (f_M_shares m_boys m_marbles m_marble m_now p0 p1) := by
  unfold f_M_shares
  refine h_aload_n hX dX11_shares_0 rfl rfl ?_
  refine h_iload_n hX dX11_shares_1 rfl rfl ?_
  refine h_callVi hX dX11_shares_2 (cv_RX11_325) rc_M0 (As := [.int p0]) (st := []) (fun _ h => c_M_isBoy h) rfl rfl (by decide) (Nat.le_of_ble_eq_true rfl) (fun a_1 => ?_)
  refine h_if_eq hX dX11_shares_5 (tgt := 19) (by decide) (fun _ => ?_) (fun _ => ?_)
  · refine h_iconst hX dX11_shares_19 ki_m1 ?_
    exact h_ret hX (rv := some (.int ((-1)))) dX11_shares_20 trivial (fun h => h)
  · refine h_iload_n hX dX11_shares_8 rfl rfl ?_
    refine h_iconst hX dX11_shares_9 ki_0 ?_
    refine h_sipush hX dX11_shares_10 ks_999 ?_
    refine h_callSi hX dX11_shares_13 (cs_RX11_208) (As := [.int p1, .int 0, .int 999]) (st := []) (fun _ h => c_M_in h) rfl rfl (by decide) (Nat.le_of_ble_eq_true rfl) (fun a_2 => ?_)
    refine h_if_ne hX dX11_shares_16 (tgt := 21) (by decide) (fun _ => ?_) (fun _ => ?_)
    · refine h_aload_n hX dX11_shares_21 rfl rfl ?_
      refine h_iconst hX dX11_shares_22 ki_1 ?_
      refine h_aload_n hX dX11_shares_23 rfl rfl ?_
      refine get_RX11_261_M0 hX dX11_shares_24 ?_
      refine h_ishl hX dX11_shares_27 ?_
      refine h_iconst hX dX11_shares_28 ki_1 ?_
      refine h_isub hX dX11_shares_29 ?_
      refine h_aload_n hX dX11_shares_30 rfl rfl ?_
      refine h_callVi hX dX11_shares_31 (cv_RX11_454) rc_M0 (As := []) (st := [.int ((1 <<< (m_marbles &&& 31)) - 1), .ref (aM B 0)]) (fun _ h => c_M_drained h) rfl rfl (by decide) (Nat.le_of_ble_eq_true rfl) (fun a_3 => ?_)
      refine h_iconst hX dX11_shares_34 ki_m1 ?_
      refine h_ixor hX dX11_shares_35 ?_
      refine h_iand hX dX11_shares_36 ?_
      refine h_callVi hX dX11_shares_37 (cv_RX11_457) rc_M0 (As := [.int (((1 <<< (m_marbles &&& 31)) - 1) &&& (a_3 ^^^ ((-1))))]) (st := []) (fun _ h => c_M_sizesOf h) rfl rfl (by decide) (Nat.le_of_ble_eq_true rfl) (fun a_4 => ?_)
      refine h_istore_n hX dX11_shares_40 rfl (by decide) (lv' := [(0, .ref (aM B 0)), (1, .int p0), (2, .int p1), (3, .int a_4)]) rfl ?_
      refine h_iload_n hX dX11_shares_41 rfl rfl ?_
      refine h_if_ne hX dX11_shares_42 (tgt := 49) (by decide) (fun _ => ?_) (fun _ => ?_)
      · refine h_iload_n hX dX11_shares_49 rfl rfl ?_
        refine h_aload_n hX dX11_shares_50 rfl rfl ?_
        refine h_aload_n hX dX11_shares_51 rfl rfl ?_
        refine h_iload_n hX dX11_shares_52 rfl rfl ?_
        refine h_callVi hX dX11_shares_53 (cv_RX11_286) rc_M0 (As := [.int p0]) (st := [.ref (aM B 0), .int p1]) (fun _ h => c_M_handsOf h) rfl rfl (by decide) (Nat.le_of_ble_eq_true rfl) (fun a_5 => ?_)
        refine h_callVi hX dX11_shares_56 (cv_RX11_457) rc_M0 (As := [.int a_5]) (st := [.int p1]) (fun _ h => c_M_sizesOf h) rfl rfl (by decide) (Nat.le_of_ble_eq_true rfl) (fun a_6 => ?_)
        refine h_imul hX dX11_shares_59 ?_
        refine h_iload_n hX dX11_shares_60 rfl rfl ?_
        refine h_idiv hX dX11_shares_61 ?_
        exact h_ret hX (rv := some (.int ((p1 * a_6) / a_4))) dX11_shares_62 trivial (fun h => h)
      · refine h_iconst hX dX11_shares_45 ki_0 ?_
        refine h_goto hX dX11_shares_46 (tgt := 62) (by decide) ?_
        exact h_ret hX (rv := some (.int 0)) dX11_shares_62 trivial (fun h => h)
    · refine h_iconst hX dX11_shares_19 ki_m1 ?_
      exact h_ret hX (rv := some (.int ((-1)))) dX11_shares_20 trivial (fun h => h)
theorem c_M_shares {p0 : Int32} {p1 : Int32} {r : Int32} (h : f_M_shares m_boys m_marbles m_marble m_now p0 p1 = some r) : gMet B 2 yX11_shares cX11_shares 4 (some .int) [.ref (aM B 0), .int p0, .int p1] (wdM B m_thrown m_size m_at m_wrong m_deep m_laws m_text m_readBoys m_readMarbles m_readFarms m_boys m_marbles m_farms m_holding m_spills m_acts m_draws m_bestRow m_bestMany m_noted m_hasImage m_tape m_code m_value m_codes m_clauses m_testFrom m_sumFrom m_sumTo m_letters m_stack m_readRule m_readBoy m_readMarble m_readFarm m_rule m_boy m_marble m_farm m_now m_refused m_kept m_notePlace m_noteKind m_noteIs m_toldBy m_image ++ fr) (some (.int r)) (wdM B m_thrown m_size m_at m_wrong m_deep m_laws m_text m_readBoys m_readMarbles m_readFarms m_boys m_marbles m_farms m_holding m_spills m_acts m_draws m_bestRow m_bestMany m_noted m_hasImage m_tape m_code m_value m_codes m_clauses m_testFrom m_sumFrom m_sumTo m_letters m_stack m_readRule m_readBoy m_readMarble m_readFarm m_rule m_boy m_marble m_farm m_now m_refused m_kept m_notePlace m_noteKind m_noteIs m_toldBy m_image ++ fr) :=
  gMet.of rfl (Nat.le_of_ble_eq_true rfl) (fun X hX hF => w_M_shares hX r h hF)
set_option maxRecDepth 4000 in
theorem w_M_spell {p0 : Int32} {p1 : Int32} (hX : gOk B X RX11 cX11_spell 3 3 (some .int)) : gH B X (fun r : Int32 => gFin X (some (.int r)) (wdM B m_thrown m_size m_at m_wrong m_deep m_laws m_text m_readBoys m_readMarbles m_readFarms m_boys m_marbles m_farms m_holding m_spills m_acts m_draws m_bestRow m_bestMany m_noted m_hasImage m_tape m_code m_value m_codes m_clauses m_testFrom m_sumFrom m_sumTo m_letters m_stack m_readRule m_readBoy m_readMarble m_readFarm m_rule m_boy m_marble m_farm m_now m_refused m_kept m_notePlace m_noteKind m_noteIs m_toldBy m_image ++ fr)) 0 [(0, .ref (aM B 0)), (1, .int p0), (2, .int p1)] [] (wdM B m_thrown m_size m_at m_wrong m_deep m_laws m_text m_readBoys m_readMarbles m_readFarms m_boys m_marbles m_farms m_holding m_spills m_acts m_draws m_bestRow m_bestMany m_noted m_hasImage m_tape m_code m_value m_codes m_clauses m_testFrom m_sumFrom m_sumTo m_letters m_stack m_readRule m_readBoy m_readMarble m_readFarm m_rule m_boy m_marble m_farm m_now m_refused m_kept m_notePlace m_noteKind m_noteIs m_toldBy m_image ++ fr) (f_M_spell m_marbles m_boy m_marble m_now p0 p1) := by
  unfold f_M_spell
  refine h_aload_n hX dX11_spell_0 rfl rfl ?_
  refine get_RX11_261_M0 hX dX11_spell_1 ?_
  refine h_if_le hX dX11_spell_4 (tgt := 30) (by decide) (fun _ => ?_) (fun _ => ?_)
  · refine h_iconst hX dX11_spell_30 ki_m1 ?_
    exact h_ret hX (rv := some (.int ((-1)))) dX11_spell_31 trivial (fun h => h)
  · refine h_iload_n hX dX11_spell_7 rfl rfl ?_
    refine h_callSi hX dX11_spell_8 (cs_RX11_401) (As := [.int p0]) (st := []) (fun _ h => c_M_isPlace h) rfl rfl (by decide) (Nat.le_of_ble_eq_true rfl) (fun a_1 => ?_)
    refine h_if_eq hX dX11_spell_11 (tgt := 30) (by decide) (fun _ => ?_) (fun _ => ?_)
    · refine h_iconst hX dX11_spell_30 ki_m1 ?_
      exact h_ret hX (rv := some (.int ((-1)))) dX11_spell_31 trivial (fun h => h)
    · refine h_iload_n hX dX11_spell_14 rfl rfl ?_
      refine h_callSi hX dX11_spell_15 (cs_RX11_404) (As := [.int p1]) (st := []) (fun _ h => c_M_isKind h) rfl rfl (by decide) (Nat.le_of_ble_eq_true rfl) (fun a_2 => ?_)
      refine h_if_eq hX dX11_spell_18 (tgt := 30) (by decide) (fun _ => ?_) (fun _ => ?_)
      · refine h_iconst hX dX11_spell_30 ki_m1 ?_
        exact h_ret hX (rv := some (.int ((-1)))) dX11_spell_31 trivial (fun h => h)
      · refine h_aload_n hX dX11_spell_21 rfl rfl ?_
        refine h_iload_n hX dX11_spell_22 rfl rfl ?_
        refine h_iload_n hX dX11_spell_23 rfl rfl ?_
        refine h_callVi hX dX11_spell_24 (cv_RX11_313) rc_M0 (As := [.int p0, .int p1]) (st := []) (fun _ h => c_M_strengthOf h) rfl rfl (by decide) (Nat.le_of_ble_eq_true rfl) (fun a_3 => ?_)
        refine h_goto hX dX11_spell_27 (tgt := 31) (by decide) ?_
        exact h_ret hX (rv := some (.int a_3)) dX11_spell_31 trivial (fun h => h)
theorem c_M_spell {p0 : Int32} {p1 : Int32} {r : Int32} (h : f_M_spell m_marbles m_boy m_marble m_now p0 p1 = some r) : gMet B 3 yX11_spell cX11_spell 3 (some .int) [.ref (aM B 0), .int p0, .int p1] (wdM B m_thrown m_size m_at m_wrong m_deep m_laws m_text m_readBoys m_readMarbles m_readFarms m_boys m_marbles m_farms m_holding m_spills m_acts m_draws m_bestRow m_bestMany m_noted m_hasImage m_tape m_code m_value m_codes m_clauses m_testFrom m_sumFrom m_sumTo m_letters m_stack m_readRule m_readBoy m_readMarble m_readFarm m_rule m_boy m_marble m_farm m_now m_refused m_kept m_notePlace m_noteKind m_noteIs m_toldBy m_image ++ fr) (some (.int r)) (wdM B m_thrown m_size m_at m_wrong m_deep m_laws m_text m_readBoys m_readMarbles m_readFarms m_boys m_marbles m_farms m_holding m_spills m_acts m_draws m_bestRow m_bestMany m_noted m_hasImage m_tape m_code m_value m_codes m_clauses m_testFrom m_sumFrom m_sumTo m_letters m_stack m_readRule m_readBoy m_readMarble m_readFarm m_rule m_boy m_marble m_farm m_now m_refused m_kept m_notePlace m_noteKind m_noteIs m_toldBy m_image ++ fr) :=
  gMet.of rfl (Nat.le_of_ble_eq_true rfl) (fun X hX hF => w_M_spell hX r h hF)
set_option maxRecDepth 4000 in
theorem w_M_spills {p0 : Int32} (hX : gOk B X RX11 cX11_spills 2 1 (some .boolean)) : gH B X (fun r : (Int32 × Int32) => gFin X (some (.int r.1)) (wdM B m_thrown m_size m_at m_wrong m_deep m_laws m_text m_readBoys m_readMarbles m_readFarms m_boys m_marbles m_farms m_holding r.2 m_acts m_draws m_bestRow m_bestMany m_noted m_hasImage m_tape m_code m_value m_codes m_clauses m_testFrom m_sumFrom m_sumTo m_letters m_stack m_readRule m_readBoy m_readMarble m_readFarm m_rule m_boy m_marble m_farm m_now m_refused m_kept m_notePlace m_noteKind m_noteIs m_toldBy m_image ++ fr)) 0 [(0, .ref (aM B 0)), (1, .int p0)] [] (wdM B m_thrown m_size m_at m_wrong m_deep m_laws m_text m_readBoys m_readMarbles m_readFarms m_boys m_marbles m_farms m_holding m_spills m_acts m_draws m_bestRow m_bestMany m_noted m_hasImage m_tape m_code m_value m_codes m_clauses m_testFrom m_sumFrom m_sumTo m_letters m_stack m_readRule m_readBoy m_readMarble m_readFarm m_rule m_boy m_marble m_farm m_now m_refused m_kept m_notePlace m_noteKind m_noteIs m_toldBy m_image ++ fr) (f_M_spills m_spills p0) := by
  unfold f_M_spills
  refine h_iload_n hX dX11_spills_0 rfl rfl ?_
  refine h_iconst hX dX11_spills_1 ki_0 ?_
  refine h_bipush hX dX11_spills_2 kb_9 ?_
  refine h_callSi hX dX11_spills_4 (cs_RX11_208) (As := [.int p0, .int 0, .int 9]) (st := []) (fun _ h => c_M_in h) rfl rfl (by decide) (Nat.le_of_ble_eq_true rfl) (fun a_1 => ?_)
  refine h_if_eq hX dX11_spills_7 (tgt := 18) (by decide) (fun _ => ?_) (fun _ => ?_)
  · refine h_iconst hX dX11_spills_18 ki_0 ?_
    exact h_ret hX (rv := some (.int 0)) dX11_spills_19 rfl (fun h => h)
  · refine h_iload_n hX dX11_spills_10 rfl rfl ?_
    refine h_aload_n hX dX11_spills_11 rfl rfl ?_
    refine get_RX11_381_M0 hX dX11_spills_12 ?_
    refine h_icmp_ne hX dX11_spills_15 (tgt := 20) (by decide) (fun _ => ?_) (fun _ => ?_)
    · refine h_aload_n hX dX11_spills_20 rfl rfl ?_
      refine h_iload_n hX dX11_spills_21 rfl rfl ?_
      refine put_RX11_381_M0 hX dX11_spills_22 ?_
      refine h_iconst hX dX11_spills_25 ki_1 ?_
      exact h_ret hX (rv := some (.int 1)) dX11_spills_26 rfl (fun h => h)
    · refine h_iconst hX dX11_spills_18 ki_0 ?_
      exact h_ret hX (rv := some (.int 0)) dX11_spills_19 rfl (fun h => h)
theorem c_M_spills {p0 : Int32} {r : (Int32 × Int32)} (h : f_M_spills m_spills p0 = some r) : gMet B 1 yX11_spills cX11_spills 2 (some .boolean) [.ref (aM B 0), .int p0] (wdM B m_thrown m_size m_at m_wrong m_deep m_laws m_text m_readBoys m_readMarbles m_readFarms m_boys m_marbles m_farms m_holding m_spills m_acts m_draws m_bestRow m_bestMany m_noted m_hasImage m_tape m_code m_value m_codes m_clauses m_testFrom m_sumFrom m_sumTo m_letters m_stack m_readRule m_readBoy m_readMarble m_readFarm m_rule m_boy m_marble m_farm m_now m_refused m_kept m_notePlace m_noteKind m_noteIs m_toldBy m_image ++ fr) (some (.int r.1)) (wdM B m_thrown m_size m_at m_wrong m_deep m_laws m_text m_readBoys m_readMarbles m_readFarms m_boys m_marbles m_farms m_holding r.2 m_acts m_draws m_bestRow m_bestMany m_noted m_hasImage m_tape m_code m_value m_codes m_clauses m_testFrom m_sumFrom m_sumTo m_letters m_stack m_readRule m_readBoy m_readMarble m_readFarm m_rule m_boy m_marble m_farm m_now m_refused m_kept m_notePlace m_noteKind m_noteIs m_toldBy m_image ++ fr) :=
  gMet.of rfl (Nat.le_of_ble_eq_true rfl) (fun X hX hF => w_M_spills hX r h hF)
set_option maxRecDepth 4000 in
theorem w_M_status {p0 : Int32} (hX : gOk B X RX11 cX11_status 2 1 (some .int)) : gH B X (fun r : Int32 => gFin X (some (.int r)) (wdM B m_thrown m_size m_at m_wrong m_deep m_laws m_text m_readBoys m_readMarbles m_readFarms m_boys m_marbles m_farms m_holding m_spills m_acts m_draws m_bestRow m_bestMany m_noted m_hasImage m_tape m_code m_value m_codes m_clauses m_testFrom m_sumFrom m_sumTo m_letters m_stack m_readRule m_readBoy m_readMarble m_readFarm m_rule m_boy m_marble m_farm m_now m_refused m_kept m_notePlace m_noteKind m_noteIs m_toldBy m_image ++ fr)) 0 [(0, .ref (aM B 0)), (1, .int p0)] [] (wdM B m_thrown m_size m_at m_wrong m_deep m_laws m_text m_readBoys m_readMarbles m_readFarms m_boys m_marbles m_farms m_holding m_spills m_acts m_draws m_bestRow m_bestMany m_noted m_hasImage m_tape m_code m_value m_codes m_clauses m_testFrom m_sumFrom m_sumTo m_letters m_stack m_readRule m_readBoy m_readMarble m_readFarm m_rule m_boy m_marble m_farm m_now m_refused m_kept m_notePlace m_noteKind m_noteIs m_toldBy m_image ++ fr) (f_M_status m_refused p0) := by
  unfold f_M_status
  refine h_iload_n hX dX11_status_0 rfl rfl ?_
  refine h_iconst hX dX11_status_1 ki_0 ?_
  refine h_iconst hX dX11_status_2 ki_4 ?_
  refine h_callSi hX dX11_status_3 (cs_RX11_208) (As := [.int p0, .int 0, .int 4]) (st := []) (fun _ h => c_M_in h) rfl rfl (by decide) (Nat.le_of_ble_eq_true rfl) (fun a_1 => ?_)
  refine h_if_eq hX dX11_status_6 (tgt := 18) (by decide) (fun _ => ?_) (fun _ => ?_)
  · refine h_iconst hX dX11_status_18 ki_m1 ?_
    exact h_ret hX (rv := some (.int ((-1)))) dX11_status_19 trivial (fun h => h)
  · refine h_aload_n hX dX11_status_9 rfl rfl ?_
    refine get_RX11_67_M0 hX dX11_status_10 ?_
    refine h_iload_n hX dX11_status_13 rfl rfl ?_
    refine ald_M20 hX dX11_status_14 ?_
    refine h_goto hX dX11_status_15 (tgt := 19) (by decide) ?_
    exact h_ret hX (rv := some (.int (m_refused p0.toNatClampNeg))) dX11_status_19 trivial (fun h => h)
theorem c_M_status {p0 : Int32} {r : Int32} (h : f_M_status m_refused p0 = some r) : gMet B 1 yX11_status cX11_status 2 (some .int) [.ref (aM B 0), .int p0] (wdM B m_thrown m_size m_at m_wrong m_deep m_laws m_text m_readBoys m_readMarbles m_readFarms m_boys m_marbles m_farms m_holding m_spills m_acts m_draws m_bestRow m_bestMany m_noted m_hasImage m_tape m_code m_value m_codes m_clauses m_testFrom m_sumFrom m_sumTo m_letters m_stack m_readRule m_readBoy m_readMarble m_readFarm m_rule m_boy m_marble m_farm m_now m_refused m_kept m_notePlace m_noteKind m_noteIs m_toldBy m_image ++ fr) (some (.int r)) (wdM B m_thrown m_size m_at m_wrong m_deep m_laws m_text m_readBoys m_readMarbles m_readFarms m_boys m_marbles m_farms m_holding m_spills m_acts m_draws m_bestRow m_bestMany m_noted m_hasImage m_tape m_code m_value m_codes m_clauses m_testFrom m_sumFrom m_sumTo m_letters m_stack m_readRule m_readBoy m_readMarble m_readFarm m_rule m_boy m_marble m_farm m_now m_refused m_kept m_notePlace m_noteKind m_noteIs m_toldBy m_image ++ fr) :=
  gMet.of rfl (Nat.le_of_ble_eq_true rfl) (fun X hX hF => w_M_status hX r h hF)
set_option maxRecDepth 4000 in
theorem w_M_swallow {p0 : Int32} (hX : gOk B X RX11 cX11_swallow 2 3 (some .int)) : gH B X (fun r : (Int32 × Int32 × (Nat → Int32) × (Nat → Int32) × (Nat → Int32)) => gFin X (some (.int r.1)) (wdM B m_thrown m_size m_at m_wrong m_deep m_laws m_text m_readBoys m_readMarbles m_readFarms m_boys m_marbles m_farms m_holding m_spills r.2.1 m_draws m_bestRow m_bestMany m_noted m_hasImage m_tape m_code m_value m_codes m_clauses m_testFrom m_sumFrom m_sumTo m_letters m_stack m_readRule m_readBoy m_readMarble m_readFarm m_rule m_boy m_marble m_farm r.2.2.1 r.2.2.2.1 r.2.2.2.2 m_notePlace m_noteKind m_noteIs m_toldBy m_image ++ fr)) 0 [(0, .ref (aM B 0)), (1, .int p0)] [] (wdM B m_thrown m_size m_at m_wrong m_deep m_laws m_text m_readBoys m_readMarbles m_readFarms m_boys m_marbles m_farms m_holding m_spills m_acts m_draws m_bestRow m_bestMany m_noted m_hasImage m_tape m_code m_value m_codes m_clauses m_testFrom m_sumFrom m_sumTo m_letters m_stack m_readRule m_readBoy m_readMarble m_readFarm m_rule m_boy m_marble m_farm m_now m_refused m_kept m_notePlace m_noteKind m_noteIs m_toldBy m_image ++ fr) (f_M_swallow m_marbles m_acts m_now m_refused m_kept p0) := by
  unfold f_M_swallow
  refine h_aload_n hX dX11_swallow_0 rfl rfl ?_
  refine h_bipush hX dX11_swallow_1 kb_7 ?_
  refine h_iload_n hX dX11_swallow_3 rfl rfl ?_
  refine h_callVi hX dX11_swallow_4 (cv_RX11_366) rc_M0 (As := [.int 7, .int p0]) (st := []) (fun _ h => c_M_mark h) rfl rfl (by decide) (Nat.le_of_ble_eq_true rfl) (fun a_1 => ?_)
  exact h_ret hX (rv := some (.int a_1.1)) dX11_swallow_7 trivial (fun h => h)
theorem c_M_swallow {p0 : Int32} {r : (Int32 × Int32 × (Nat → Int32) × (Nat → Int32) × (Nat → Int32))} (h : f_M_swallow m_marbles m_acts m_now m_refused m_kept p0 = some r) : gMet B 3 yX11_swallow cX11_swallow 2 (some .int) [.ref (aM B 0), .int p0] (wdM B m_thrown m_size m_at m_wrong m_deep m_laws m_text m_readBoys m_readMarbles m_readFarms m_boys m_marbles m_farms m_holding m_spills m_acts m_draws m_bestRow m_bestMany m_noted m_hasImage m_tape m_code m_value m_codes m_clauses m_testFrom m_sumFrom m_sumTo m_letters m_stack m_readRule m_readBoy m_readMarble m_readFarm m_rule m_boy m_marble m_farm m_now m_refused m_kept m_notePlace m_noteKind m_noteIs m_toldBy m_image ++ fr) (some (.int r.1)) (wdM B m_thrown m_size m_at m_wrong m_deep m_laws m_text m_readBoys m_readMarbles m_readFarms m_boys m_marbles m_farms m_holding m_spills r.2.1 m_draws m_bestRow m_bestMany m_noted m_hasImage m_tape m_code m_value m_codes m_clauses m_testFrom m_sumFrom m_sumTo m_letters m_stack m_readRule m_readBoy m_readMarble m_readFarm m_rule m_boy m_marble m_farm r.2.2.1 r.2.2.2.1 r.2.2.2.2 m_notePlace m_noteKind m_noteIs m_toldBy m_image ++ fr) :=
  gMet.of rfl (Nat.le_of_ble_eq_true rfl) (fun X hX hF => w_M_swallow hX r h hF)
set_option maxRecDepth 4000 in
theorem w_M_swapNow {p0 : Int32} {p1 : Int32} (hX : gOk B X RX11 cX11_swapNow 4 0 none) : gH B X (fun r : (Nat → Int32) => gFin X (none) (wdM B m_thrown m_size m_at m_wrong m_deep m_laws m_text m_readBoys m_readMarbles m_readFarms m_boys m_marbles m_farms m_holding m_spills m_acts m_draws m_bestRow m_bestMany m_noted m_hasImage m_tape m_code m_value m_codes m_clauses m_testFrom m_sumFrom m_sumTo m_letters m_stack m_readRule m_readBoy m_readMarble m_readFarm m_rule m_boy m_marble m_farm r m_refused m_kept m_notePlace m_noteKind m_noteIs m_toldBy m_image ++ fr)) 0 [(0, .ref (aM B 0)), (1, .int p0), (2, .int p1)] [] (wdM B m_thrown m_size m_at m_wrong m_deep m_laws m_text m_readBoys m_readMarbles m_readFarms m_boys m_marbles m_farms m_holding m_spills m_acts m_draws m_bestRow m_bestMany m_noted m_hasImage m_tape m_code m_value m_codes m_clauses m_testFrom m_sumFrom m_sumTo m_letters m_stack m_readRule m_readBoy m_readMarble m_readFarm m_rule m_boy m_marble m_farm m_now m_refused m_kept m_notePlace m_noteKind m_noteIs m_toldBy m_image ++ fr) (f_M_swapNow m_now p0 p1) := by
  unfold f_M_swapNow
  refine h_aload_n hX dX11_swapNow_0 rfl rfl ?_
  refine get_RX11_64_M0 hX dX11_swapNow_1 ?_
  refine h_iconst hX dX11_swapNow_4 ki_0 ?_
  refine h_iload_n hX dX11_swapNow_5 rfl rfl ?_
  refine h_iadd hX dX11_swapNow_6 ?_
  refine ald_M19 hX dX11_swapNow_7 ?_
  refine gH.leti (fun v3_1 => ?_)
  refine h_istore_n hX dX11_swapNow_8 rfl (by decide) (lv' := [(0, .ref (aM B 0)), (1, .int p0), (2, .int p1), (3, .int v3_1)]) rfl ?_
  refine h_aload_n hX dX11_swapNow_9 rfl rfl ?_
  refine get_RX11_64_M0 hX dX11_swapNow_10 ?_
  refine h_iconst hX dX11_swapNow_13 ki_0 ?_
  refine h_iload_n hX dX11_swapNow_14 rfl rfl ?_
  refine h_iadd hX dX11_swapNow_15 ?_
  refine h_aload_n hX dX11_swapNow_16 rfl rfl ?_
  refine get_RX11_64_M0 hX dX11_swapNow_17 ?_
  refine h_iconst hX dX11_swapNow_20 ki_0 ?_
  refine h_iload_n hX dX11_swapNow_21 rfl rfl ?_
  refine h_iadd hX dX11_swapNow_22 ?_
  refine ald_M19 hX dX11_swapNow_23 ?_
  refine ast_M19 hX dX11_swapNow_24 ?_
  refine gH.letw (w := fun y => wdM B m_thrown m_size m_at m_wrong m_deep m_laws m_text m_readBoys m_readMarbles m_readFarms m_boys m_marbles m_farms m_holding m_spills m_acts m_draws m_bestRow m_bestMany m_noted m_hasImage m_tape m_code m_value m_codes m_clauses m_testFrom m_sumFrom m_sumTo m_letters m_stack m_readRule m_readBoy m_readMarble m_readFarm m_rule m_boy m_marble m_farm y m_refused m_kept m_notePlace m_noteKind m_noteIs m_toldBy m_image ++ fr) (fun m_now_2 => ?_)
  refine h_aload_n hX dX11_swapNow_25 rfl rfl ?_
  refine get_RX11_64_M0 hX dX11_swapNow_26 ?_
  refine h_iconst hX dX11_swapNow_29 ki_0 ?_
  refine h_iload_n hX dX11_swapNow_30 rfl rfl ?_
  refine h_iadd hX dX11_swapNow_31 ?_
  refine h_iload_n hX dX11_swapNow_32 rfl rfl ?_
  refine ast_M19 hX dX11_swapNow_33 ?_
  refine gH.letw (w := fun y => wdM B m_thrown m_size m_at m_wrong m_deep m_laws m_text m_readBoys m_readMarbles m_readFarms m_boys m_marbles m_farms m_holding m_spills m_acts m_draws m_bestRow m_bestMany m_noted m_hasImage m_tape m_code m_value m_codes m_clauses m_testFrom m_sumFrom m_sumTo m_letters m_stack m_readRule m_readBoy m_readMarble m_readFarm m_rule m_boy m_marble m_farm y m_refused m_kept m_notePlace m_noteKind m_noteIs m_toldBy m_image ++ fr) (fun m_now_3 => ?_)
  exact h_ret hX (rv := none) dX11_swapNow_34 trivial (fun h => h)
theorem c_M_swapNow {p0 : Int32} {p1 : Int32} {r : (Nat → Int32)} (h : f_M_swapNow m_now p0 p1 = some r) : gMet B 0 yX11_swapNow cX11_swapNow 4 none [.ref (aM B 0), .int p0, .int p1] (wdM B m_thrown m_size m_at m_wrong m_deep m_laws m_text m_readBoys m_readMarbles m_readFarms m_boys m_marbles m_farms m_holding m_spills m_acts m_draws m_bestRow m_bestMany m_noted m_hasImage m_tape m_code m_value m_codes m_clauses m_testFrom m_sumFrom m_sumTo m_letters m_stack m_readRule m_readBoy m_readMarble m_readFarm m_rule m_boy m_marble m_farm m_now m_refused m_kept m_notePlace m_noteKind m_noteIs m_toldBy m_image ++ fr) (none) (wdM B m_thrown m_size m_at m_wrong m_deep m_laws m_text m_readBoys m_readMarbles m_readFarms m_boys m_marbles m_farms m_holding m_spills m_acts m_draws m_bestRow m_bestMany m_noted m_hasImage m_tape m_code m_value m_codes m_clauses m_testFrom m_sumFrom m_sumTo m_letters m_stack m_readRule m_readBoy m_readMarble m_readFarm m_rule m_boy m_marble m_farm r m_refused m_kept m_notePlace m_noteKind m_noteIs m_toldBy m_image ++ fr) :=
  gMet.of rfl (Nat.le_of_ble_eq_true rfl) (fun X hX hF => w_M_swapNow hX r h hF)
set_option maxRecDepth 4000 in
theorem w_M_swap {p0 : Int32} {p1 : Int32} (hX : gOk B X RX11 cX11_swap 3 3 (some .int)) : gH B X (fun r : (Int32 × Int32 × (Nat → Int32) × (Nat → Int32) × (Nat → Int32)) => gFin X (some (.int r.1)) (wdM B m_thrown m_size m_at m_wrong m_deep m_laws m_text m_readBoys m_readMarbles m_readFarms m_boys m_marbles m_farms m_holding m_spills r.2.1 m_draws m_bestRow m_bestMany m_noted m_hasImage m_tape m_code m_value m_codes m_clauses m_testFrom m_sumFrom m_sumTo m_letters m_stack m_readRule m_readBoy m_readMarble m_readFarm m_rule m_boy m_marble m_farm r.2.2.1 r.2.2.2.1 r.2.2.2.2 m_notePlace m_noteKind m_noteIs m_toldBy m_image ++ fr)) 0 [(0, .ref (aM B 0)), (1, .int p0), (2, .int p1)] [] (wdM B m_thrown m_size m_at m_wrong m_deep m_laws m_text m_readBoys m_readMarbles m_readFarms m_boys m_marbles m_farms m_holding m_spills m_acts m_draws m_bestRow m_bestMany m_noted m_hasImage m_tape m_code m_value m_codes m_clauses m_testFrom m_sumFrom m_sumTo m_letters m_stack m_readRule m_readBoy m_readMarble m_readFarm m_rule m_boy m_marble m_farm m_now m_refused m_kept m_notePlace m_noteKind m_noteIs m_toldBy m_image ++ fr) (f_M_swap m_marbles m_acts m_now m_refused m_kept p0 p1) := by
  unfold f_M_swap
  refine h_aload_n hX dX11_swap_0 rfl rfl ?_
  refine h_aload_n hX dX11_swap_1 rfl rfl ?_
  refine h_iload_n hX dX11_swap_2 rfl rfl ?_
  refine h_iload_n hX dX11_swap_3 rfl rfl ?_
  refine h_callVi hX dX11_swap_4 (cv_RX11_335) rc_M0 (As := [.int p0, .int p1]) (st := [.ref (aM B 0)]) (fun _ h => c_M_whyNot h) rfl rfl (by decide) (Nat.le_of_ble_eq_true rfl) (fun a_1 => ?_)
  refine h_callVi hX dX11_swap_7 (cv_RX11_354) rc_M0 (As := [.int a_1]) (st := []) (fun _ h => c_M_isRefused h) rfl rfl (by decide) (Nat.le_of_ble_eq_true rfl) (fun a_2 => ?_)
  refine h_if_eq hX dX11_swap_10 (tgt := 15) (by decide) (fun _ => ?_) (fun _ => ?_)
  · refine h_aload_n hX dX11_swap_15 rfl rfl ?_
    refine h_callVv hX dX11_swap_16 (cv_RX11_357) rc_M0 (As := []) (st := []) (fun _ h => c_M_keep h) rfl rfl (by decide) (Nat.le_of_ble_eq_true rfl) (fun a_3 => ?_)
    refine h_aload_n hX dX11_swap_19 rfl rfl ?_
    refine h_iload_n hX dX11_swap_20 rfl rfl ?_
    refine h_iload_n hX dX11_swap_21 rfl rfl ?_
    refine h_callVv hX dX11_swap_22 (cv_RX11_363) rc_M0 (As := [.int p0, .int p1]) (st := []) (fun _ h => c_M_swapNow h) rfl rfl (by decide) (Nat.le_of_ble_eq_true rfl) (fun a_4 => ?_)
    refine h_aload_n hX dX11_swap_25 rfl rfl ?_
    refine get_RX11_64_M0 hX dX11_swap_26 ?_
    refine h_iconst hX dX11_swap_29 ki_0 ?_
    refine h_iload_n hX dX11_swap_30 rfl rfl ?_
    refine h_iadd hX dX11_swap_31 ?_
    refine ald_M19 hX dX11_swap_32 ?_
    exact h_ret hX (rv := some (.int (a_4 (0 + p0 : Int32).toNatClampNeg))) dX11_swap_33 trivial (fun h => h)
  · refine h_iconst hX dX11_swap_13 ki_m1 ?_
    exact h_ret hX (rv := some (.int ((-1)))) dX11_swap_14 trivial (fun h => h)
theorem c_M_swap {p0 : Int32} {p1 : Int32} {r : (Int32 × Int32 × (Nat → Int32) × (Nat → Int32) × (Nat → Int32))} (h : f_M_swap m_marbles m_acts m_now m_refused m_kept p0 p1 = some r) : gMet B 3 yX11_swap cX11_swap 3 (some .int) [.ref (aM B 0), .int p0, .int p1] (wdM B m_thrown m_size m_at m_wrong m_deep m_laws m_text m_readBoys m_readMarbles m_readFarms m_boys m_marbles m_farms m_holding m_spills m_acts m_draws m_bestRow m_bestMany m_noted m_hasImage m_tape m_code m_value m_codes m_clauses m_testFrom m_sumFrom m_sumTo m_letters m_stack m_readRule m_readBoy m_readMarble m_readFarm m_rule m_boy m_marble m_farm m_now m_refused m_kept m_notePlace m_noteKind m_noteIs m_toldBy m_image ++ fr) (some (.int r.1)) (wdM B m_thrown m_size m_at m_wrong m_deep m_laws m_text m_readBoys m_readMarbles m_readFarms m_boys m_marbles m_farms m_holding m_spills r.2.1 m_draws m_bestRow m_bestMany m_noted m_hasImage m_tape m_code m_value m_codes m_clauses m_testFrom m_sumFrom m_sumTo m_letters m_stack m_readRule m_readBoy m_readMarble m_readFarm m_rule m_boy m_marble m_farm r.2.2.1 r.2.2.2.1 r.2.2.2.2 m_notePlace m_noteKind m_noteIs m_toldBy m_image ++ fr) :=
  gMet.of rfl (Nat.le_of_ble_eq_true rfl) (fun X hX hF => w_M_swap hX r h hF)
set_option maxRecDepth 4000 in
theorem w_M_takeYard_L137 (hX : gOk B X RX11 cX11_takeYard 2 1 (some .int)) (s : (Int32 × (Nat → Int32))) : gH B X (Sum.elim (fun s : (Int32 × (Nat → Int32)) => gG B X 137 [(0, .ref (aM B 0)), (1, .int s.1)] [] (wdM B m_thrown m_size m_at m_wrong m_deep m_laws m_text m_readBoys m_readMarbles m_readFarms m_boys m_marbles m_farms m_holding m_spills m_acts m_draws m_bestRow m_bestMany m_noted m_hasImage m_tape m_code m_value m_codes m_clauses m_testFrom m_sumFrom m_sumTo m_letters m_stack m_readRule m_readBoy m_readMarble m_readFarm m_rule m_boy m_marble m_farm s.2 m_refused m_kept m_notePlace m_noteKind m_noteIs m_toldBy m_image ++ fr)) (fun r : (Int32 × Int32 × Int32 × Int32 × Int32 × Int32 × Int32 × (Nat → Int32) × (Nat → Int32) × (Nat → Int32) × (Nat → Int32) × (Nat → Int32)) => gFin X (some (.int r.1)) (wdM B m_thrown m_size m_at m_wrong m_deep m_laws m_text m_readBoys m_readMarbles m_readFarms r.2.1 r.2.2.1 r.2.2.2.1 m_holding m_spills r.2.2.2.2.1 m_draws m_bestRow m_bestMany r.2.2.2.2.2.1 r.2.2.2.2.2.2.1 m_tape m_code m_value m_codes m_clauses m_testFrom m_sumFrom m_sumTo m_letters m_stack m_readRule m_readBoy m_readMarble m_readFarm r.2.2.2.2.2.2.2.1 r.2.2.2.2.2.2.2.2.1 r.2.2.2.2.2.2.2.2.2.1 r.2.2.2.2.2.2.2.2.2.2.1 r.2.2.2.2.2.2.2.2.2.2.2 m_refused m_kept m_notePlace m_noteKind m_noteIs m_toldBy m_image ++ fr))) 137 [(0, .ref (aM B 0)), (1, .int s.1)] [] (wdM B m_thrown m_size m_at m_wrong m_deep m_laws m_text m_readBoys m_readMarbles m_readFarms m_boys m_marbles m_farms m_holding m_spills m_acts m_draws m_bestRow m_bestMany m_noted m_hasImage m_tape m_code m_value m_codes m_clauses m_testFrom m_sumFrom m_sumTo m_letters m_stack m_readRule m_readBoy m_readMarble m_readFarm m_rule m_boy m_marble m_farm s.2 m_refused m_kept m_notePlace m_noteKind m_noteIs m_toldBy m_image ++ fr) (f_M_takeYard_L137 m_boys m_marbles m_farms m_rule m_boy m_marble m_farm s) := by
  unfold f_M_takeYard_L137
  refine h_iload_n hX dX11_takeYard_137 rfl rfl ?_
  refine h_aload_n hX dX11_takeYard_138 rfl rfl ?_
  refine get_RX11_261_M0 hX dX11_takeYard_139 ?_
  refine h_icmp_ge hX dX11_takeYard_142 (tgt := 165) (by decide) (fun _ => ?_) (fun _ => ?_)
  · refine gH.inr ?_
    refine h_aload_n hX dX11_takeYard_165 rfl rfl ?_
    refine get_RX11_64_M0 hX dX11_takeYard_166 ?_
    refine h_bipush hX dX11_takeYard_169 kb_8 ?_
    refine h_aload_n hX dX11_takeYard_171 rfl rfl ?_
    refine get_RX11_52_M0 hX dX11_takeYard_172 ?_
    refine h_iconst hX dX11_takeYard_175 ki_2 ?_
    refine ald_M15 hX dX11_takeYard_176 ?_
    refine ast_M19 hX dX11_takeYard_177 ?_
    refine gH.letw (w := fun y => wdM B m_thrown m_size m_at m_wrong m_deep m_laws m_text m_readBoys m_readMarbles m_readFarms m_boys m_marbles m_farms m_holding m_spills m_acts m_draws m_bestRow m_bestMany m_noted m_hasImage m_tape m_code m_value m_codes m_clauses m_testFrom m_sumFrom m_sumTo m_letters m_stack m_readRule m_readBoy m_readMarble m_readFarm m_rule m_boy m_marble m_farm y m_refused m_kept m_notePlace m_noteKind m_noteIs m_toldBy m_image ++ fr) (fun m_now_1 => ?_)
    refine h_aload_n hX dX11_takeYard_178 rfl rfl ?_
    refine h_iconst hX dX11_takeYard_179 ki_0 ?_
    refine put_RX11_270_M0 hX dX11_takeYard_180 ?_
    refine h_aload_n hX dX11_takeYard_183 rfl rfl ?_
    refine h_iconst hX dX11_takeYard_184 ki_0 ?_
    refine put_RX11_273_M0 hX dX11_takeYard_185 ?_
    refine h_aload_n hX dX11_takeYard_188 rfl rfl ?_
    refine h_iconst hX dX11_takeYard_189 ki_0 ?_
    refine put_RX11_276_M0 hX dX11_takeYard_190 rfl rfl ?_
    refine h_aload_n hX dX11_takeYard_193 rfl rfl ?_
    refine get_RX11_261_M0 hX dX11_takeYard_194 ?_
    exact h_ret hX (rv := some (.int m_marbles)) dX11_takeYard_197 trivial (fun h => h)
  · refine h_aload_n hX dX11_takeYard_145 rfl rfl ?_
    refine get_RX11_64_M0 hX dX11_takeYard_146 ?_
    refine h_iconst hX dX11_takeYard_149 ki_0 ?_
    refine h_iload_n hX dX11_takeYard_150 rfl rfl ?_
    refine h_iadd hX dX11_takeYard_151 ?_
    refine h_aload_n hX dX11_takeYard_152 rfl rfl ?_
    refine h_iload_n hX dX11_takeYard_153 rfl rfl ?_
    refine h_iconst hX dX11_takeYard_154 ki_0 ?_
    refine h_callVi hX dX11_takeYard_155 (cv_RX11_267) rc_M0 (As := [.int s.1, .int 0]) (st := [.int (0 + s.1), .ref (aM B 19)]) (fun _ h => c_M_of h) rfl rfl (by decide) (Nat.le_of_ble_eq_true rfl) (fun a_2 => ?_)
    refine ast_M19 hX dX11_takeYard_158 ?_
    refine gH.letw (w := fun y => wdM B m_thrown m_size m_at m_wrong m_deep m_laws m_text m_readBoys m_readMarbles m_readFarms m_boys m_marbles m_farms m_holding m_spills m_acts m_draws m_bestRow m_bestMany m_noted m_hasImage m_tape m_code m_value m_codes m_clauses m_testFrom m_sumFrom m_sumTo m_letters m_stack m_readRule m_readBoy m_readMarble m_readFarm m_rule m_boy m_marble m_farm y m_refused m_kept m_notePlace m_noteKind m_noteIs m_toldBy m_image ++ fr) (fun m_now_3 => ?_)
    refine h_iincc hX dX11_takeYard_159 rfl ki_1 (by decide) (lv' := [(0, .ref (aM B 0)), (1, .int (s.1 + 1))]) rfl ?_
    refine h_goto hX dX11_takeYard_162 (tgt := 137) (by decide) ?_
    exact gH.some' (fun h => h)
set_option maxRecDepth 4000 in
theorem w_M_takeYard_L115 (hX : gOk B X RX11 cX11_takeYard 2 1 (some .int)) (s : (Int32 × (Nat → Int32))) : gH B X (Sum.elim (fun s : (Int32 × (Nat → Int32)) => gG B X 115 [(0, .ref (aM B 0)), (1, .int s.1)] [] (wdM B m_thrown m_size m_at m_wrong m_deep m_laws m_text m_readBoys m_readMarbles m_readFarms m_boys m_marbles m_farms m_holding m_spills m_acts m_draws m_bestRow m_bestMany m_noted m_hasImage m_tape m_code m_value m_codes m_clauses m_testFrom m_sumFrom m_sumTo m_letters m_stack m_readRule m_readBoy m_readMarble m_readFarm m_rule m_boy m_marble m_farm s.2 m_refused m_kept m_notePlace m_noteKind m_noteIs m_toldBy m_image ++ fr)) (fun r : (Int32 × Int32 × Int32 × Int32 × Int32 × Int32 × Int32 × (Nat → Int32) × (Nat → Int32) × (Nat → Int32) × (Nat → Int32) × (Nat → Int32)) => gFin X (some (.int r.1)) (wdM B m_thrown m_size m_at m_wrong m_deep m_laws m_text m_readBoys m_readMarbles m_readFarms r.2.1 r.2.2.1 r.2.2.2.1 m_holding m_spills r.2.2.2.2.1 m_draws m_bestRow m_bestMany r.2.2.2.2.2.1 r.2.2.2.2.2.2.1 m_tape m_code m_value m_codes m_clauses m_testFrom m_sumFrom m_sumTo m_letters m_stack m_readRule m_readBoy m_readMarble m_readFarm r.2.2.2.2.2.2.2.1 r.2.2.2.2.2.2.2.2.1 r.2.2.2.2.2.2.2.2.2.1 r.2.2.2.2.2.2.2.2.2.2.1 r.2.2.2.2.2.2.2.2.2.2.2 m_refused m_kept m_notePlace m_noteKind m_noteIs m_toldBy m_image ++ fr))) 115 [(0, .ref (aM B 0)), (1, .int s.1)] [] (wdM B m_thrown m_size m_at m_wrong m_deep m_laws m_text m_readBoys m_readMarbles m_readFarms m_boys m_marbles m_farms m_holding m_spills m_acts m_draws m_bestRow m_bestMany m_noted m_hasImage m_tape m_code m_value m_codes m_clauses m_testFrom m_sumFrom m_sumTo m_letters m_stack m_readRule m_readBoy m_readMarble m_readFarm m_rule m_boy m_marble m_farm s.2 m_refused m_kept m_notePlace m_noteKind m_noteIs m_toldBy m_image ++ fr) (f_M_takeYard_L115 m_boys m_marbles m_farms m_rule m_boy m_marble m_farm s) := by
  unfold f_M_takeYard_L115
  refine h_iload_n hX dX11_takeYard_115 rfl rfl ?_
  refine h_sipush hX dX11_takeYard_116 ks_131 ?_
  refine h_icmp_ge hX dX11_takeYard_119 (tgt := 135) (by decide) (fun _ => ?_) (fun _ => ?_)
  · refine gH.inr ?_
    refine h_iconst hX dX11_takeYard_135 ki_0 ?_
    refine h_istore_n hX dX11_takeYard_136 rfl (by decide) (lv' := [(0, .ref (aM B 0)), (1, .int 0)]) rfl ?_
    exact gH.loop (lvf := fun z : (Int32 × (Nat → Int32)) => [(0, .ref (aM B 0)), (1, .int z.1)]) (wf := fun z : (Int32 × (Nat → Int32)) => wdM B m_thrown m_size m_at m_wrong m_deep m_laws m_text m_readBoys m_readMarbles m_readFarms m_boys m_marbles m_farms m_holding m_spills m_acts m_draws m_bestRow m_bestMany m_noted m_hasImage m_tape m_code m_value m_codes m_clauses m_testFrom m_sumFrom m_sumTo m_letters m_stack m_readRule m_readBoy m_readMarble m_readFarm m_rule m_boy m_marble m_farm z.2 m_refused m_kept m_notePlace m_noteKind m_noteIs m_toldBy m_image ++ fr) (fun z => w_M_takeYard_L137 hX z) (0, s.2)
  · refine h_aload_n hX dX11_takeYard_122 rfl rfl ?_
    refine get_RX11_64_M0 hX dX11_takeYard_123 ?_
    refine h_iload_n hX dX11_takeYard_126 rfl rfl ?_
    refine h_iconst hX dX11_takeYard_127 ki_0 ?_
    refine ast_M19 hX dX11_takeYard_128 ?_
    refine gH.letw (w := fun y => wdM B m_thrown m_size m_at m_wrong m_deep m_laws m_text m_readBoys m_readMarbles m_readFarms m_boys m_marbles m_farms m_holding m_spills m_acts m_draws m_bestRow m_bestMany m_noted m_hasImage m_tape m_code m_value m_codes m_clauses m_testFrom m_sumFrom m_sumTo m_letters m_stack m_readRule m_readBoy m_readMarble m_readFarm m_rule m_boy m_marble m_farm y m_refused m_kept m_notePlace m_noteKind m_noteIs m_toldBy m_image ++ fr) (fun m_now_5 => ?_)
    refine h_iincc hX dX11_takeYard_129 rfl ki_1 (by decide) (lv' := [(0, .ref (aM B 0)), (1, .int (s.1 + 1))]) rfl ?_
    refine h_goto hX dX11_takeYard_132 (tgt := 115) (by decide) ?_
    exact gH.some' (fun h => h)
set_option maxRecDepth 4000 in
theorem w_M_takeYard_L77 (hX : gOk B X RX11 cX11_takeYard 2 1 (some .int)) (s : (Int32 × (Nat → Int32) × (Nat → Int32))) : gH B X (Sum.elim (fun s : (Int32 × (Nat → Int32) × (Nat → Int32)) => gG B X 77 [(0, .ref (aM B 0)), (1, .int s.1)] [] (wdM B m_thrown m_size m_at m_wrong m_deep m_laws m_text m_readBoys m_readMarbles m_readFarms m_boys m_marbles m_farms m_holding m_spills m_acts m_draws m_bestRow m_bestMany m_noted m_hasImage m_tape m_code m_value m_codes m_clauses m_testFrom m_sumFrom m_sumTo m_letters m_stack m_readRule m_readBoy m_readMarble m_readFarm m_rule m_boy s.2.1 s.2.2 m_now m_refused m_kept m_notePlace m_noteKind m_noteIs m_toldBy m_image ++ fr)) (fun r : (Int32 × Int32 × Int32 × Int32 × Int32 × Int32 × Int32 × (Nat → Int32) × (Nat → Int32) × (Nat → Int32) × (Nat → Int32) × (Nat → Int32)) => gFin X (some (.int r.1)) (wdM B m_thrown m_size m_at m_wrong m_deep m_laws m_text m_readBoys m_readMarbles m_readFarms r.2.1 r.2.2.1 r.2.2.2.1 m_holding m_spills r.2.2.2.2.1 m_draws m_bestRow m_bestMany r.2.2.2.2.2.1 r.2.2.2.2.2.2.1 m_tape m_code m_value m_codes m_clauses m_testFrom m_sumFrom m_sumTo m_letters m_stack m_readRule m_readBoy m_readMarble m_readFarm r.2.2.2.2.2.2.2.1 r.2.2.2.2.2.2.2.2.1 r.2.2.2.2.2.2.2.2.2.1 r.2.2.2.2.2.2.2.2.2.2.1 r.2.2.2.2.2.2.2.2.2.2.2 m_refused m_kept m_notePlace m_noteKind m_noteIs m_toldBy m_image ++ fr))) 77 [(0, .ref (aM B 0)), (1, .int s.1)] [] (wdM B m_thrown m_size m_at m_wrong m_deep m_laws m_text m_readBoys m_readMarbles m_readFarms m_boys m_marbles m_farms m_holding m_spills m_acts m_draws m_bestRow m_bestMany m_noted m_hasImage m_tape m_code m_value m_codes m_clauses m_testFrom m_sumFrom m_sumTo m_letters m_stack m_readRule m_readBoy m_readMarble m_readFarm m_rule m_boy s.2.1 s.2.2 m_now m_refused m_kept m_notePlace m_noteKind m_noteIs m_toldBy m_image ++ fr) (f_M_takeYard_L77 m_boys m_marbles m_farms m_readMarble m_readFarm m_rule m_boy m_now s) := by
  unfold f_M_takeYard_L77
  refine h_iload_n hX dX11_takeYard_77 rfl rfl ?_
  refine h_bipush hX dX11_takeYard_78 kb_18 ?_
  refine h_icmp_ge hX dX11_takeYard_80 (tgt := 113) (by decide) (fun _ => ?_) (fun _ => ?_)
  · refine gH.inr ?_
    refine h_iconst hX dX11_takeYard_113 ki_0 ?_
    refine h_istore_n hX dX11_takeYard_114 rfl (by decide) (lv' := [(0, .ref (aM B 0)), (1, .int 0)]) rfl ?_
    exact gH.loop (lvf := fun z : (Int32 × (Nat → Int32)) => [(0, .ref (aM B 0)), (1, .int z.1)]) (wf := fun z : (Int32 × (Nat → Int32)) => wdM B m_thrown m_size m_at m_wrong m_deep m_laws m_text m_readBoys m_readMarbles m_readFarms m_boys m_marbles m_farms m_holding m_spills m_acts m_draws m_bestRow m_bestMany m_noted m_hasImage m_tape m_code m_value m_codes m_clauses m_testFrom m_sumFrom m_sumTo m_letters m_stack m_readRule m_readBoy m_readMarble m_readFarm m_rule m_boy s.2.1 s.2.2 z.2 m_refused m_kept m_notePlace m_noteKind m_noteIs m_toldBy m_image ++ fr) (fun z => w_M_takeYard_L115 hX z) (0, m_now)
  · refine h_aload_n hX dX11_takeYard_83 rfl rfl ?_
    refine get_RX11_58_M0 hX dX11_takeYard_84 ?_
    refine h_iload_n hX dX11_takeYard_87 rfl rfl ?_
    refine h_aload_n hX dX11_takeYard_88 rfl rfl ?_
    refine get_RX11_46_M0 hX dX11_takeYard_89 ?_
    refine h_iload_n hX dX11_takeYard_92 rfl rfl ?_
    refine ald_M13 hX dX11_takeYard_93 ?_
    refine ast_M17 hX dX11_takeYard_94 ?_
    refine gH.letw (w := fun y => wdM B m_thrown m_size m_at m_wrong m_deep m_laws m_text m_readBoys m_readMarbles m_readFarms m_boys m_marbles m_farms m_holding m_spills m_acts m_draws m_bestRow m_bestMany m_noted m_hasImage m_tape m_code m_value m_codes m_clauses m_testFrom m_sumFrom m_sumTo m_letters m_stack m_readRule m_readBoy m_readMarble m_readFarm m_rule m_boy y s.2.2 m_now m_refused m_kept m_notePlace m_noteKind m_noteIs m_toldBy m_image ++ fr) (fun m_marble_7 => ?_)
    refine h_aload_n hX dX11_takeYard_95 rfl rfl ?_
    refine get_RX11_61_M0 hX dX11_takeYard_96 ?_
    refine h_iload_n hX dX11_takeYard_99 rfl rfl ?_
    refine h_aload_n hX dX11_takeYard_100 rfl rfl ?_
    refine get_RX11_49_M0 hX dX11_takeYard_101 ?_
    refine h_iload_n hX dX11_takeYard_104 rfl rfl ?_
    refine ald_M14 hX dX11_takeYard_105 ?_
    refine ast_M18 hX dX11_takeYard_106 ?_
    refine gH.letw (w := fun y => wdM B m_thrown m_size m_at m_wrong m_deep m_laws m_text m_readBoys m_readMarbles m_readFarms m_boys m_marbles m_farms m_holding m_spills m_acts m_draws m_bestRow m_bestMany m_noted m_hasImage m_tape m_code m_value m_codes m_clauses m_testFrom m_sumFrom m_sumTo m_letters m_stack m_readRule m_readBoy m_readMarble m_readFarm m_rule m_boy m_marble_7 y m_now m_refused m_kept m_notePlace m_noteKind m_noteIs m_toldBy m_image ++ fr) (fun m_farm_8 => ?_)
    refine h_iincc hX dX11_takeYard_107 rfl ki_1 (by decide) (lv' := [(0, .ref (aM B 0)), (1, .int (s.1 + 1))]) rfl ?_
    refine h_goto hX dX11_takeYard_110 (tgt := 77) (by decide) ?_
    exact gH.some' (fun h => h)
set_option maxRecDepth 4000 in
theorem w_M_takeYard_L51 (hX : gOk B X RX11 cX11_takeYard 2 1 (some .int)) (s : (Int32 × (Nat → Int32))) : gH B X (Sum.elim (fun s : (Int32 × (Nat → Int32)) => gG B X 51 [(0, .ref (aM B 0)), (1, .int s.1)] [] (wdM B m_thrown m_size m_at m_wrong m_deep m_laws m_text m_readBoys m_readMarbles m_readFarms m_boys m_marbles m_farms m_holding m_spills m_acts m_draws m_bestRow m_bestMany m_noted m_hasImage m_tape m_code m_value m_codes m_clauses m_testFrom m_sumFrom m_sumTo m_letters m_stack m_readRule m_readBoy m_readMarble m_readFarm m_rule s.2 m_marble m_farm m_now m_refused m_kept m_notePlace m_noteKind m_noteIs m_toldBy m_image ++ fr)) (fun r : (Int32 × Int32 × Int32 × Int32 × Int32 × Int32 × Int32 × (Nat → Int32) × (Nat → Int32) × (Nat → Int32) × (Nat → Int32) × (Nat → Int32)) => gFin X (some (.int r.1)) (wdM B m_thrown m_size m_at m_wrong m_deep m_laws m_text m_readBoys m_readMarbles m_readFarms r.2.1 r.2.2.1 r.2.2.2.1 m_holding m_spills r.2.2.2.2.1 m_draws m_bestRow m_bestMany r.2.2.2.2.2.1 r.2.2.2.2.2.2.1 m_tape m_code m_value m_codes m_clauses m_testFrom m_sumFrom m_sumTo m_letters m_stack m_readRule m_readBoy m_readMarble m_readFarm r.2.2.2.2.2.2.2.1 r.2.2.2.2.2.2.2.2.1 r.2.2.2.2.2.2.2.2.2.1 r.2.2.2.2.2.2.2.2.2.2.1 r.2.2.2.2.2.2.2.2.2.2.2 m_refused m_kept m_notePlace m_noteKind m_noteIs m_toldBy m_image ++ fr))) 51 [(0, .ref (aM B 0)), (1, .int s.1)] [] (wdM B m_thrown m_size m_at m_wrong m_deep m_laws m_text m_readBoys m_readMarbles m_readFarms m_boys m_marbles m_farms m_holding m_spills m_acts m_draws m_bestRow m_bestMany m_noted m_hasImage m_tape m_code m_value m_codes m_clauses m_testFrom m_sumFrom m_sumTo m_letters m_stack m_readRule m_readBoy m_readMarble m_readFarm m_rule s.2 m_marble m_farm m_now m_refused m_kept m_notePlace m_noteKind m_noteIs m_toldBy m_image ++ fr) (f_M_takeYard_L51 m_boys m_marbles m_farms m_readBoy m_readMarble m_readFarm m_rule m_marble m_farm m_now s) := by
  unfold f_M_takeYard_L51
  refine h_iload_n hX dX11_takeYard_51 rfl rfl ?_
  refine h_bipush hX dX11_takeYard_52 kb_10 ?_
  refine h_icmp_ge hX dX11_takeYard_54 (tgt := 75) (by decide) (fun _ => ?_) (fun _ => ?_)
  · refine gH.inr ?_
    refine h_iconst hX dX11_takeYard_75 ki_0 ?_
    refine h_istore_n hX dX11_takeYard_76 rfl (by decide) (lv' := [(0, .ref (aM B 0)), (1, .int 0)]) rfl ?_
    exact gH.loop (lvf := fun z : (Int32 × (Nat → Int32) × (Nat → Int32)) => [(0, .ref (aM B 0)), (1, .int z.1)]) (wf := fun z : (Int32 × (Nat → Int32) × (Nat → Int32)) => wdM B m_thrown m_size m_at m_wrong m_deep m_laws m_text m_readBoys m_readMarbles m_readFarms m_boys m_marbles m_farms m_holding m_spills m_acts m_draws m_bestRow m_bestMany m_noted m_hasImage m_tape m_code m_value m_codes m_clauses m_testFrom m_sumFrom m_sumTo m_letters m_stack m_readRule m_readBoy m_readMarble m_readFarm m_rule s.2 z.2.1 z.2.2 m_now m_refused m_kept m_notePlace m_noteKind m_noteIs m_toldBy m_image ++ fr) (fun z => w_M_takeYard_L77 hX z) (0, m_marble, m_farm)
  · refine h_aload_n hX dX11_takeYard_57 rfl rfl ?_
    refine get_RX11_55_M0 hX dX11_takeYard_58 ?_
    refine h_iload_n hX dX11_takeYard_61 rfl rfl ?_
    refine h_aload_n hX dX11_takeYard_62 rfl rfl ?_
    refine get_RX11_43_M0 hX dX11_takeYard_63 ?_
    refine h_iload_n hX dX11_takeYard_66 rfl rfl ?_
    refine ald_M12 hX dX11_takeYard_67 ?_
    refine ast_M16 hX dX11_takeYard_68 ?_
    refine gH.letw (w := fun y => wdM B m_thrown m_size m_at m_wrong m_deep m_laws m_text m_readBoys m_readMarbles m_readFarms m_boys m_marbles m_farms m_holding m_spills m_acts m_draws m_bestRow m_bestMany m_noted m_hasImage m_tape m_code m_value m_codes m_clauses m_testFrom m_sumFrom m_sumTo m_letters m_stack m_readRule m_readBoy m_readMarble m_readFarm m_rule y m_marble m_farm m_now m_refused m_kept m_notePlace m_noteKind m_noteIs m_toldBy m_image ++ fr) (fun m_boy_10 => ?_)
    refine h_iincc hX dX11_takeYard_69 rfl ki_1 (by decide) (lv' := [(0, .ref (aM B 0)), (1, .int (s.1 + 1))]) rfl ?_
    refine h_goto hX dX11_takeYard_72 (tgt := 51) (by decide) ?_
    exact gH.some' (fun h => h)
set_option maxRecDepth 4000 in
theorem w_M_takeYard_L26 (hX : gOk B X RX11 cX11_takeYard 2 1 (some .int)) (s : (Int32 × (Nat → Int32))) : gH B X (Sum.elim (fun s : (Int32 × (Nat → Int32)) => gG B X 26 [(0, .ref (aM B 0)), (1, .int s.1)] [] (wdM B m_thrown m_size m_at m_wrong m_deep m_laws m_text m_readBoys m_readMarbles m_readFarms m_boys m_marbles m_farms m_holding m_spills m_acts m_draws m_bestRow m_bestMany m_noted m_hasImage m_tape m_code m_value m_codes m_clauses m_testFrom m_sumFrom m_sumTo m_letters m_stack m_readRule m_readBoy m_readMarble m_readFarm s.2 m_boy m_marble m_farm m_now m_refused m_kept m_notePlace m_noteKind m_noteIs m_toldBy m_image ++ fr)) (fun r : (Int32 × Int32 × Int32 × Int32 × Int32 × Int32 × Int32 × (Nat → Int32) × (Nat → Int32) × (Nat → Int32) × (Nat → Int32) × (Nat → Int32)) => gFin X (some (.int r.1)) (wdM B m_thrown m_size m_at m_wrong m_deep m_laws m_text m_readBoys m_readMarbles m_readFarms r.2.1 r.2.2.1 r.2.2.2.1 m_holding m_spills r.2.2.2.2.1 m_draws m_bestRow m_bestMany r.2.2.2.2.2.1 r.2.2.2.2.2.2.1 m_tape m_code m_value m_codes m_clauses m_testFrom m_sumFrom m_sumTo m_letters m_stack m_readRule m_readBoy m_readMarble m_readFarm r.2.2.2.2.2.2.2.1 r.2.2.2.2.2.2.2.2.1 r.2.2.2.2.2.2.2.2.2.1 r.2.2.2.2.2.2.2.2.2.2.1 r.2.2.2.2.2.2.2.2.2.2.2 m_refused m_kept m_notePlace m_noteKind m_noteIs m_toldBy m_image ++ fr))) 26 [(0, .ref (aM B 0)), (1, .int s.1)] [] (wdM B m_thrown m_size m_at m_wrong m_deep m_laws m_text m_readBoys m_readMarbles m_readFarms m_boys m_marbles m_farms m_holding m_spills m_acts m_draws m_bestRow m_bestMany m_noted m_hasImage m_tape m_code m_value m_codes m_clauses m_testFrom m_sumFrom m_sumTo m_letters m_stack m_readRule m_readBoy m_readMarble m_readFarm s.2 m_boy m_marble m_farm m_now m_refused m_kept m_notePlace m_noteKind m_noteIs m_toldBy m_image ++ fr) (f_M_takeYard_L26 m_boys m_marbles m_farms m_readRule m_readBoy m_readMarble m_readFarm m_boy m_marble m_farm m_now s) := by
  unfold f_M_takeYard_L26
  refine h_iload_n hX dX11_takeYard_26 rfl rfl ?_
  refine h_iconst hX dX11_takeYard_27 ki_3 ?_
  refine h_icmp_ge hX dX11_takeYard_28 (tgt := 49) (by decide) (fun _ => ?_) (fun _ => ?_)
  · refine gH.inr ?_
    refine h_iconst hX dX11_takeYard_49 ki_0 ?_
    refine h_istore_n hX dX11_takeYard_50 rfl (by decide) (lv' := [(0, .ref (aM B 0)), (1, .int 0)]) rfl ?_
    exact gH.loop (lvf := fun z : (Int32 × (Nat → Int32)) => [(0, .ref (aM B 0)), (1, .int z.1)]) (wf := fun z : (Int32 × (Nat → Int32)) => wdM B m_thrown m_size m_at m_wrong m_deep m_laws m_text m_readBoys m_readMarbles m_readFarms m_boys m_marbles m_farms m_holding m_spills m_acts m_draws m_bestRow m_bestMany m_noted m_hasImage m_tape m_code m_value m_codes m_clauses m_testFrom m_sumFrom m_sumTo m_letters m_stack m_readRule m_readBoy m_readMarble m_readFarm s.2 z.2 m_marble m_farm m_now m_refused m_kept m_notePlace m_noteKind m_noteIs m_toldBy m_image ++ fr) (fun z => w_M_takeYard_L51 hX z) (0, m_boy)
  · refine h_aload_n hX dX11_takeYard_31 rfl rfl ?_
    refine get_RX11_52_M0 hX dX11_takeYard_32 ?_
    refine h_iload_n hX dX11_takeYard_35 rfl rfl ?_
    refine h_aload_n hX dX11_takeYard_36 rfl rfl ?_
    refine get_RX11_40_M0 hX dX11_takeYard_37 ?_
    refine h_iload_n hX dX11_takeYard_40 rfl rfl ?_
    refine ald_M11 hX dX11_takeYard_41 ?_
    refine ast_M15 hX dX11_takeYard_42 ?_
    refine gH.letw (w := fun y => wdM B m_thrown m_size m_at m_wrong m_deep m_laws m_text m_readBoys m_readMarbles m_readFarms m_boys m_marbles m_farms m_holding m_spills m_acts m_draws m_bestRow m_bestMany m_noted m_hasImage m_tape m_code m_value m_codes m_clauses m_testFrom m_sumFrom m_sumTo m_letters m_stack m_readRule m_readBoy m_readMarble m_readFarm y m_boy m_marble m_farm m_now m_refused m_kept m_notePlace m_noteKind m_noteIs m_toldBy m_image ++ fr) (fun m_rule_12 => ?_)
    refine h_iincc hX dX11_takeYard_43 rfl ki_1 (by decide) (lv' := [(0, .ref (aM B 0)), (1, .int (s.1 + 1))]) rfl ?_
    refine h_goto hX dX11_takeYard_46 (tgt := 26) (by decide) ?_
    exact gH.some' (fun h => h)
set_option maxRecDepth 4000 in
theorem w_M_takeYard (hX : gOk B X RX11 cX11_takeYard 2 1 (some .int)) : gH B X (fun r : (Int32 × Int32 × Int32 × Int32 × Int32 × Int32 × Int32 × (Nat → Int32) × (Nat → Int32) × (Nat → Int32) × (Nat → Int32) × (Nat → Int32)) => gFin X (some (.int r.1)) (wdM B m_thrown m_size m_at m_wrong m_deep m_laws m_text m_readBoys m_readMarbles m_readFarms r.2.1 r.2.2.1 r.2.2.2.1 m_holding m_spills r.2.2.2.2.1 m_draws m_bestRow m_bestMany r.2.2.2.2.2.1 r.2.2.2.2.2.2.1 m_tape m_code m_value m_codes m_clauses m_testFrom m_sumFrom m_sumTo m_letters m_stack m_readRule m_readBoy m_readMarble m_readFarm r.2.2.2.2.2.2.2.1 r.2.2.2.2.2.2.2.2.1 r.2.2.2.2.2.2.2.2.2.1 r.2.2.2.2.2.2.2.2.2.2.1 r.2.2.2.2.2.2.2.2.2.2.2 m_refused m_kept m_notePlace m_noteKind m_noteIs m_toldBy m_image ++ fr)) 0 [(0, .ref (aM B 0))] [] (wdM B m_thrown m_size m_at m_wrong m_deep m_laws m_text m_readBoys m_readMarbles m_readFarms m_boys m_marbles m_farms m_holding m_spills m_acts m_draws m_bestRow m_bestMany m_noted m_hasImage m_tape m_code m_value m_codes m_clauses m_testFrom m_sumFrom m_sumTo m_letters m_stack m_readRule m_readBoy m_readMarble m_readFarm m_rule m_boy m_marble m_farm m_now m_refused m_kept m_notePlace m_noteKind m_noteIs m_toldBy m_image ++ fr) (f_M_takeYard m_readBoys m_readMarbles m_readFarms m_boys m_marbles m_farms m_acts m_noted m_hasImage m_readRule m_readBoy m_readMarble m_readFarm m_rule m_boy m_marble m_farm m_now) := by
  unfold f_M_takeYard
  refine h_aload_n hX dX11_takeYard_0 rfl rfl ?_
  refine h_aload_n hX dX11_takeYard_1 rfl rfl ?_
  refine get_RX11_236_M0 hX dX11_takeYard_2 ?_
  refine put_RX11_258_M0 hX dX11_takeYard_5 ?_
  refine h_aload_n hX dX11_takeYard_8 rfl rfl ?_
  refine h_aload_n hX dX11_takeYard_9 rfl rfl ?_
  refine get_RX11_239_M0 hX dX11_takeYard_10 ?_
  refine put_RX11_261_M0 hX dX11_takeYard_13 ?_
  refine h_aload_n hX dX11_takeYard_16 rfl rfl ?_
  refine h_aload_n hX dX11_takeYard_17 rfl rfl ?_
  refine get_RX11_242_M0 hX dX11_takeYard_18 ?_
  refine put_RX11_264_M0 hX dX11_takeYard_21 ?_
  refine h_iconst hX dX11_takeYard_24 ki_0 ?_
  refine h_istore_n hX dX11_takeYard_25 rfl (by decide) (lv' := [(0, .ref (aM B 0)), (1, .int 0)]) rfl ?_
  exact gH.loop (lvf := fun z : (Int32 × (Nat → Int32)) => [(0, .ref (aM B 0)), (1, .int z.1)]) (wf := fun z : (Int32 × (Nat → Int32)) => wdM B m_thrown m_size m_at m_wrong m_deep m_laws m_text m_readBoys m_readMarbles m_readFarms m_readBoys m_readMarbles m_readFarms m_holding m_spills m_acts m_draws m_bestRow m_bestMany m_noted m_hasImage m_tape m_code m_value m_codes m_clauses m_testFrom m_sumFrom m_sumTo m_letters m_stack m_readRule m_readBoy m_readMarble m_readFarm z.2 m_boy m_marble m_farm m_now m_refused m_kept m_notePlace m_noteKind m_noteIs m_toldBy m_image ++ fr) (fun z => w_M_takeYard_L26 hX z) (0, m_rule)
theorem c_M_takeYard {r : (Int32 × Int32 × Int32 × Int32 × Int32 × Int32 × Int32 × (Nat → Int32) × (Nat → Int32) × (Nat → Int32) × (Nat → Int32) × (Nat → Int32))} (h : f_M_takeYard m_readBoys m_readMarbles m_readFarms m_boys m_marbles m_farms m_acts m_noted m_hasImage m_readRule m_readBoy m_readMarble m_readFarm m_rule m_boy m_marble m_farm m_now = some r) : gMet B 1 yX11_takeYard cX11_takeYard 2 (some .int) [.ref (aM B 0)] (wdM B m_thrown m_size m_at m_wrong m_deep m_laws m_text m_readBoys m_readMarbles m_readFarms m_boys m_marbles m_farms m_holding m_spills m_acts m_draws m_bestRow m_bestMany m_noted m_hasImage m_tape m_code m_value m_codes m_clauses m_testFrom m_sumFrom m_sumTo m_letters m_stack m_readRule m_readBoy m_readMarble m_readFarm m_rule m_boy m_marble m_farm m_now m_refused m_kept m_notePlace m_noteKind m_noteIs m_toldBy m_image ++ fr) (some (.int r.1)) (wdM B m_thrown m_size m_at m_wrong m_deep m_laws m_text m_readBoys m_readMarbles m_readFarms r.2.1 r.2.2.1 r.2.2.2.1 m_holding m_spills r.2.2.2.2.1 m_draws m_bestRow m_bestMany r.2.2.2.2.2.1 r.2.2.2.2.2.2.1 m_tape m_code m_value m_codes m_clauses m_testFrom m_sumFrom m_sumTo m_letters m_stack m_readRule m_readBoy m_readMarble m_readFarm r.2.2.2.2.2.2.2.1 r.2.2.2.2.2.2.2.2.1 r.2.2.2.2.2.2.2.2.2.1 r.2.2.2.2.2.2.2.2.2.2.1 r.2.2.2.2.2.2.2.2.2.2.2 m_refused m_kept m_notePlace m_noteKind m_noteIs m_toldBy m_image ++ fr) :=
  gMet.of rfl (Nat.le_of_ble_eq_true rfl) (fun X hX hF => w_M_takeYard hX r h hF)
