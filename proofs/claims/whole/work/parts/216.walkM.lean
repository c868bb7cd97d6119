variable {B : gB} {X : gX} {fr : va_W} {m_thrown : Int32} {m_size : Int32} {m_at : Int32} {m_wrong : Int32} {m_deep : Int32} {m_laws : Int32} {m_text : Int32} {m_readBoys : Int32} {m_readMarbles : Int32} {m_readFarms : Int32} {m_boys : Int32} {m_marbles : Int32} {m_farms : Int32} {m_holding : Int32} {m_spills : Int32} {m_acts : Int32} {m_draws : Int64} {m_bestRow : Int32} {m_bestMany : Int32} {m_noted : Int32} {m_hasImage : Int32} {m_tape : Nat → Int32} {m_code : Nat → Int32} {m_value : Nat → Int32} {m_codes : Nat → Int32} {m_clauses : Nat → Int32} {m_testFrom : Nat → Int32} {m_sumFrom : Nat → Int32} {m_sumTo : Nat → Int32} {m_letters : Nat → Int32} {m_stack : Nat → Int32} {m_readRule : Nat → Int32} {m_readBoy : Nat → Int32} {m_readMarble : Nat → Int32} {m_readFarm : Nat → Int32} {m_rule : Nat → Int32} {m_boy : Nat → Int32} {m_marble : Nat → Int32} {m_farm : Nat → Int32} {m_now : Nat → Int32} {m_refused : Nat → Int32} {m_kept : Nat → Int32} {m_notePlace : Nat → Int32} {m_noteKind : Nat → Int32} {m_noteIs : Nat → Int32} {m_toldBy : Nat → Int32} {m_image : Nat → Int32}
set_option maxRecDepth 4000 in
theorem w_M_drained_J32 {v2 : Int32} {k0 : Int32} {k1 : Int32} (hX : gOk B X RX11 cX11_drained 3 0 (some .int)) : gH B X (Sum.elim (fun s : (Int32 × Int32) => gG B X 4 [(0, .ref (aM B 0)), (1, .int s.1), (2, .int s.2)] [] (wdM B m_thrown m_size m_at m_wrong m_deep m_laws m_text m_readBoys m_readMarbles m_readFarms m_boys m_marbles m_farms m_holding m_spills m_acts m_draws m_bestRow m_bestMany m_noted m_hasImage m_tape m_code m_value m_codes m_clauses m_testFrom m_sumFrom m_sumTo m_letters m_stack m_readRule m_readBoy m_readMarble m_readFarm m_rule m_boy m_marble m_farm m_now m_refused m_kept m_notePlace m_noteKind m_noteIs m_toldBy m_image ++ fr)) (fun r : Int32 => gFin X (some (.int r)) (wdM B m_thrown m_size m_at m_wrong m_deep m_laws m_text m_readBoys m_readMarbles m_readFarms m_boys m_marbles m_farms m_holding m_spills m_acts m_draws m_bestRow m_bestMany m_noted m_hasImage m_tape m_code m_value m_codes m_clauses m_testFrom m_sumFrom m_sumTo m_letters m_stack m_readRule m_readBoy m_readMarble m_readFarm m_rule m_boy m_marble m_farm m_now m_refused m_kept m_notePlace m_noteKind m_noteIs m_toldBy m_image ++ fr))) 32 [(0, .ref (aM B 0)), (2, .int v2)] [.int k1, .int k0] (wdM B m_thrown m_size m_at m_wrong m_deep m_laws m_text m_readBoys m_readMarbles m_readFarms m_boys m_marbles m_farms m_holding m_spills m_acts m_draws m_bestRow m_bestMany m_noted m_hasImage m_tape m_code m_value m_codes m_clauses m_testFrom m_sumFrom m_sumTo m_letters m_stack m_readRule m_readBoy m_readMarble m_readFarm m_rule m_boy m_marble m_farm m_now m_refused m_kept m_notePlace m_noteKind m_noteIs m_toldBy m_image ++ fr) (f_M_drained_J32 v2 k0 k1) := by
  unfold f_M_drained_J32
  refine h_ior hX dX11_drained_32 ?_
  refine gH.leti (fun v1_1 => ?_)
  refine h_istore_n hX dX11_drained_33 rfl (by decide) (lv' := [(0, .ref (aM B 0)), (1, .int v1_1), (2, .int v2)]) rfl ?_
  refine h_iincc hX dX11_drained_34 rfl ki_1 (by decide) (lv' := [(0, .ref (aM B 0)), (1, .int v1_1), (2, .int (v2 + 1))]) rfl ?_
  refine h_goto hX dX11_drained_37 (tgt := 4) (by decide) ?_
  exact gH.some' (fun h => h)
set_option maxRecDepth 4000 in
theorem w_M_drained_L4 (hX : gOk B X RX11 cX11_drained 3 0 (some .int)) (s : (Int32 × Int32)) : gH B X (Sum.elim (fun s : (Int32 × Int32) => gG B X 4 [(0, .ref (aM B 0)), (1, .int s.1), (2, .int s.2)] [] (wdM B m_thrown m_size m_at m_wrong m_deep m_laws m_text m_readBoys m_readMarbles m_readFarms m_boys m_marbles m_farms m_holding m_spills m_acts m_draws m_bestRow m_bestMany m_noted m_hasImage m_tape m_code m_value m_codes m_clauses m_testFrom m_sumFrom m_sumTo m_letters m_stack m_readRule m_readBoy m_readMarble m_readFarm m_rule m_boy m_marble m_farm m_now m_refused m_kept m_notePlace m_noteKind m_noteIs m_toldBy m_image ++ fr)) (fun r : Int32 => gFin X (some (.int r)) (wdM B m_thrown m_size m_at m_wrong m_deep m_laws m_text m_readBoys m_readMarbles m_readFarms m_boys m_marbles m_farms m_holding m_spills m_acts m_draws m_bestRow m_bestMany m_noted m_hasImage m_tape m_code m_value m_codes m_clauses m_testFrom m_sumFrom m_sumTo m_letters m_stack m_readRule m_readBoy m_readMarble m_readFarm m_rule m_boy m_marble m_farm m_now m_refused m_kept m_notePlace m_noteKind m_noteIs m_toldBy m_image ++ fr))) 4 [(0, .ref (aM B 0)), (1, .int s.1), (2, .int s.2)] [] (wdM B m_thrown m_size m_at m_wrong m_deep m_laws m_text m_readBoys m_readMarbles m_readFarms m_boys m_marbles m_farms m_holding m_spills m_acts m_draws m_bestRow m_bestMany m_noted m_hasImage m_tape m_code m_value m_codes m_clauses m_testFrom m_sumFrom m_sumTo m_letters m_stack m_readRule m_readBoy m_readMarble m_readFarm m_rule m_boy m_marble m_farm m_now m_refused m_kept m_notePlace m_noteKind m_noteIs m_toldBy m_image ++ fr) (f_M_drained_L4 m_marbles m_now s) := by
  unfold f_M_drained_L4
  refine h_iload_n hX dX11_drained_4 rfl rfl ?_
  refine h_aload_n hX dX11_drained_5 rfl rfl ?_
  refine get_RX11_261_M0 hX dX11_drained_6 ?_
  refine h_icmp_ge hX dX11_drained_9 (tgt := 40) (by decide) (fun _ => ?_) (fun _ => ?_)
  · refine h_iload_n hX dX11_drained_40 rfl rfl ?_
    exact h_ret hX (rv := some (.int s.1)) dX11_drained_41 trivial (fun h => h)
  · refine h_iload_n hX dX11_drained_12 rfl rfl ?_
    refine h_aload_n hX dX11_drained_13 rfl rfl ?_
    refine get_RX11_64_M0 hX dX11_drained_14 ?_
    refine h_iconst hX dX11_drained_17 ki_0 ?_
    refine h_iload_n hX dX11_drained_18 rfl rfl ?_
    refine h_iadd hX dX11_drained_19 ?_
    refine ald_M19 hX dX11_drained_20 ?_
    refine h_iconst hX dX11_drained_21 ki_m1 ?_
    refine h_icmp_ne hX dX11_drained_22 (tgt := 31) (by decide) (fun _ => ?_) (fun _ => ?_)
    · refine h_iconst hX dX11_drained_31 ki_0 ?_
      refine gH.dead [0, 2] rfl ?_
      exact w_M_drained_J32 hX
    · refine h_iconst hX dX11_drained_25 ki_1 ?_
      refine h_iload_n hX dX11_drained_26 rfl rfl ?_
      refine h_ishl hX dX11_drained_27 ?_
      refine h_goto hX dX11_drained_28 (tgt := 32) (by decide) ?_
      refine gH.dead [0, 2] rfl ?_
      exact w_M_drained_J32 hX
set_option maxRecDepth 4000 in
theorem w_M_drained (hX : gOk B X RX11 cX11_drained 3 0 (some .int)) : gH B X (fun r : Int32 => gFin X (some (.int r)) (wdM B m_thrown m_size m_at m_wrong m_deep m_laws m_text m_readBoys m_readMarbles m_readFarms m_boys m_marbles m_farms m_holding m_spills m_acts m_draws m_bestRow m_bestMany m_noted m_hasImage m_tape m_code m_value m_codes m_clauses m_testFrom m_sumFrom m_sumTo m_letters m_stack m_readRule m_readBoy m_readMarble m_readFarm m_rule m_boy m_marble m_farm m_now m_refused m_kept m_notePlace m_noteKind m_noteIs m_toldBy m_image ++ fr)) 0 [(0, .ref (aM B 0))] [] (wdM B m_thrown m_size m_at m_wrong m_deep m_laws m_text m_readBoys m_readMarbles m_readFarms m_boys m_marbles m_farms m_holding m_spills m_acts m_draws m_bestRow m_bestMany m_noted m_hasImage m_tape m_code m_value m_codes m_clauses m_testFrom m_sumFrom m_sumTo m_letters m_stack m_readRule m_readBoy m_readMarble m_readFarm m_rule m_boy m_marble m_farm m_now m_refused m_kept m_notePlace m_noteKind m_noteIs m_toldBy m_image ++ fr) (f_M_drained m_marbles m_now) := by
  unfold f_M_drained
  refine h_iconst hX dX11_drained_0 ki_0 ?_
  refine h_istore_n hX dX11_drained_1 rfl (by decide) (lv' := [(0, .ref (aM B 0)), (1, .int 0)]) rfl ?_
  refine h_iconst hX dX11_drained_2 ki_0 ?_
  refine h_istore_n hX dX11_drained_3 rfl (by decide) (lv' := [(0, .ref (aM B 0)), (1, .int 0), (2, .int 0)]) rfl ?_
  exact gH.loop (lvf := fun z : (Int32 × Int32) => [(0, .ref (aM B 0)), (1, .int z.1), (2, .int z.2)]) (wf := fun z : (Int32 × Int32) => wdM B m_thrown m_size m_at m_wrong m_deep m_laws m_text m_readBoys m_readMarbles m_readFarms m_boys m_marbles m_farms m_holding m_spills m_acts m_draws m_bestRow m_bestMany m_noted m_hasImage m_tape m_code m_value m_codes m_clauses m_testFrom m_sumFrom m_sumTo m_letters m_stack m_readRule m_readBoy m_readMarble m_readFarm m_rule m_boy m_marble m_farm m_now m_refused m_kept m_notePlace m_noteKind m_noteIs m_toldBy m_image ++ fr) (fun z => w_M_drained_L4 hX z) (0, 0)
theorem c_M_drained {r : Int32} (h : f_M_drained m_marbles m_now = some r) : gMet B 0 yX11_drained cX11_drained 3 (some .int) [.ref (aM B 0)] (wdM B m_thrown m_size m_at m_wrong m_deep m_laws m_text m_readBoys m_readMarbles m_readFarms m_boys m_marbles m_farms m_holding m_spills m_acts m_draws m_bestRow m_bestMany m_noted m_hasImage m_tape m_code m_value m_codes m_clauses m_testFrom m_sumFrom m_sumTo m_letters m_stack m_readRule m_readBoy m_readMarble m_readFarm m_rule m_boy m_marble m_farm m_now m_refused m_kept m_notePlace m_noteKind m_noteIs m_toldBy m_image ++ fr) (some (.int r)) (wdM B m_thrown m_size m_at m_wrong m_deep m_laws m_text m_readBoys m_readMarbles m_readFarms m_boys m_marbles m_farms m_holding m_spills m_acts m_draws m_bestRow m_bestMany m_noted m_hasImage m_tape m_code m_value m_codes m_clauses m_testFrom m_sumFrom m_sumTo m_letters m_stack m_readRule m_readBoy m_readMarble m_readFarm m_rule m_boy m_marble m_farm m_now m_refused m_kept m_notePlace m_noteKind m_noteIs m_toldBy m_image ++ fr) :=
  gMet.of rfl (Nat.le_of_ble_eq_true rfl) (fun X hX hF => w_M_drained hX r h hF)
set_option maxRecDepth 4000 in
theorem w_M_count {p0 : Int32} (hX : gOk B X RX11 cX11_count 2 6 (some .int)) : gH B X (fun r : Int32 => gFin X (some (.int r)) (wdM B m_thrown m_size m_at m_wrong m_deep m_laws m_text m_readBoys m_readMarbles m_readFarms m_boys m_marbles m_farms m_holding m_spills m_acts m_draws m_bestRow m_bestMany m_noted m_hasImage m_tape m_code m_value m_codes m_clauses m_testFrom m_sumFrom m_sumTo m_letters m_stack m_readRule m_readBoy m_readMarble m_readFarm m_rule m_boy m_marble m_farm m_now m_refused m_kept m_notePlace m_noteKind m_noteIs m_toldBy m_image ++ fr)) 0 [(0, .ref (aM B 0)), (1, .int p0)] [] (wdM B m_thrown m_size m_at m_wrong m_deep m_laws m_text m_readBoys m_readMarbles m_readFarms m_boys m_marbles m_farms m_holding m_spills m_acts m_draws m_bestRow m_bestMany m_noted m_hasImage m_tape m_code m_value m_codes m_clauses m_testFrom m_sumFrom m_sumTo m_letters m_stack m_readRule m_readBoy m_readMarble m_readFarm m_rule m_boy m_marble m_farm m_now m_refused m_kept m_notePlace m_noteKind m_noteIs m_toldBy m_image ++ fr) (f_M_count m_size m_laws m_boys m_marbles m_farms m_holding m_spills m_acts m_noted m_boy m_marble m_farm m_now p0) := by
  unfold f_M_count
  refine h_iload_n hX dX11_count_0 rfl rfl ?_
  refine gH.ite (fun hc0 => ?_) (fun hc0 => ?_)
  · refine h_tsin hX dX11_count_1 hc0 (by decide) (by decide) rfl (tgt := 68) (by decide) ?_
    refine h_aload_n hX dX11_count_68 rfl rfl ?_
    refine get_RX11_261_M0 hX dX11_count_69 ?_
    exact h_ret hX (rv := some (.int m_marbles)) dX11_count_72 trivial (fun h => h)
  refine gH.ite (fun hc1 => ?_) (fun hc1 => ?_)
  · refine h_tsin hX dX11_count_1 hc1 (by decide) (by decide) rfl (tgt := 73) (by decide) ?_
    refine h_aload_n hX dX11_count_73 rfl rfl ?_
    refine get_RX11_258_M0 hX dX11_count_74 ?_
    exact h_ret hX (rv := some (.int m_boys)) dX11_count_77 trivial (fun h => h)
  refine gH.ite (fun hc2 => ?_) (fun hc2 => ?_)
  · refine h_tsin hX dX11_count_1 hc2 (by decide) (by decide) rfl (tgt := 78) (by decide) ?_
    refine h_aload_n hX dX11_count_78 rfl rfl ?_
    refine get_RX11_264_M0 hX dX11_count_79 ?_
    exact h_ret hX (rv := some (.int m_farms)) dX11_count_82 trivial (fun h => h)
  refine gH.ite (fun hc3 => ?_) (fun hc3 => ?_)
  · refine h_tsin hX dX11_count_1 hc3 (by decide) (by decide) rfl (tgt := 83) (by decide) ?_
    refine h_aload_n hX dX11_count_83 rfl rfl ?_
    refine get_RX11_283_M0 hX dX11_count_84 ?_
    exact h_ret hX (rv := some (.int m_laws)) dX11_count_87 trivial (fun h => h)
  refine gH.ite (fun hc4 => ?_) (fun hc4 => ?_)
  · refine h_tsin hX dX11_count_1 hc4 (by decide) (by decide) rfl (tgt := 88) (by decide) ?_
    refine h_aload_n hX dX11_count_88 rfl rfl ?_
    refine get_RX11_100_M0 hX dX11_count_89 ?_
    exact h_ret hX (rv := some (.int m_size)) dX11_count_92 trivial (fun h => h)
  refine gH.ite (fun hc5 => ?_) (fun hc5 => ?_)
  · refine h_tsin hX dX11_count_1 hc5 (by decide) (by decide) rfl (tgt := 93) (by decide) ?_
    refine h_aload_n hX dX11_count_93 rfl rfl ?_
    refine get_RX11_70_M0 hX dX11_count_94 ?_
    exact h_ret hX (rv := some (.int m_holding)) dX11_count_97 trivial (fun h => h)
  refine gH.ite (fun hc6 => ?_) (fun hc6 => ?_)
  · refine h_tsin hX dX11_count_1 hc6 (by decide) (by decide) rfl (tgt := 98) (by decide) ?_
    refine h_aload_n hX dX11_count_98 rfl rfl ?_
    refine get_RX11_64_M0 hX dX11_count_99 ?_
    refine h_bipush hX dX11_count_102 kb_9 ?_
    refine ald_M19 hX dX11_count_104 ?_
    exact h_ret hX (rv := some (.int (m_now (9 : Int32).toNatClampNeg))) dX11_count_105 trivial (fun h => h)
  refine gH.ite (fun hc7 => ?_) (fun hc7 => ?_)
  · refine h_tsin hX dX11_count_1 hc7 (by decide) (by decide) rfl (tgt := 106) (by decide) ?_
    refine h_aload_n hX dX11_count_106 rfl rfl ?_
    refine h_callVi hX dX11_count_107 (cv_RX11_369) rc_M0 (As := []) (st := []) (fun _ h => c_M_contents h) rfl rfl (by decide) (Nat.le_of_ble_eq_true rfl) (fun a_1 => ?_)
    exact h_ret hX (rv := some (.int a_1)) dX11_count_110 trivial (fun h => h)
  refine gH.ite (fun hc8 => ?_) (fun hc8 => ?_)
  · refine h_tsin hX dX11_count_1 hc8 (by decide) (by decide) rfl (tgt := 111) (by decide) ?_
    refine h_aload_n hX dX11_count_111 rfl rfl ?_
    refine h_callVi hX dX11_count_112 (cv_RX11_454) rc_M0 (As := []) (st := []) (fun _ h => c_M_drained h) rfl rfl (by decide) (Nat.le_of_ble_eq_true rfl) (fun a_2 => ?_)
    exact h_ret hX (rv := some (.int a_2)) dX11_count_115 trivial (fun h => h)
  refine gH.ite (fun hc9 => ?_) (fun hc9 => ?_)
  · refine h_tsin hX dX11_count_1 hc9 (by decide) (by decide) rfl (tgt := 116) (by decide) ?_
    refine h_aload_n hX dX11_count_116 rfl rfl ?_
    refine get_RX11_381_M0 hX dX11_count_117 ?_
    exact h_ret hX (rv := some (.int m_spills)) dX11_count_120 trivial (fun h => h)
  refine gH.ite (fun hc10 => ?_) (fun hc10 => ?_)
  · refine h_tsin hX dX11_count_1 hc10 (by decide) (by decide) rfl (tgt := 121) (by decide) ?_
    refine h_aload_n hX dX11_count_121 rfl rfl ?_
    refine get_RX11_270_M0 hX dX11_count_122 ?_
    exact h_ret hX (rv := some (.int m_noted)) dX11_count_125 trivial (fun h => h)
  refine gH.ite (fun hc11 => ?_) (fun hc11 => ?_)
  · refine h_tsin hX dX11_count_1 hc11 (by decide) (by decide) rfl (tgt := 126) (by decide) ?_
    refine h_aload_n hX dX11_count_126 rfl rfl ?_
    refine get_RX11_64_M0 hX dX11_count_127 ?_
    refine h_bipush hX dX11_count_130 kb_10 ?_
    refine ald_M19 hX dX11_count_132 ?_
    exact h_ret hX (rv := some (.int (m_now (10 : Int32).toNatClampNeg))) dX11_count_133 trivial (fun h => h)
  refine gH.ite (fun hc12 => ?_) (fun hc12 => ?_)
  · refine h_tsin hX dX11_count_1 hc12 (by decide) (by decide) rfl (tgt := 134) (by decide) ?_
    refine h_aload_n hX dX11_count_134 rfl rfl ?_
    refine get_RX11_273_M0 hX dX11_count_135 ?_
    exact h_ret hX (rv := some (.int m_acts)) dX11_count_138 trivial (fun h => h)
  refine h_tsdef hX dX11_count_1 (cs := [0, 1, 2, 3, 4, 5, 6, 7, 8, 9, 10, 11, 12]) (by decide) (by decide) (List.forall_mem_cons.mpr ⟨hc0, (List.forall_mem_cons.mpr ⟨hc1, (List.forall_mem_cons.mpr ⟨hc2, (List.forall_mem_cons.mpr ⟨hc3, (List.forall_mem_cons.mpr ⟨hc4, (List.forall_mem_cons.mpr ⟨hc5, (List.forall_mem_cons.mpr ⟨hc6, (List.forall_mem_cons.mpr ⟨hc7, (List.forall_mem_cons.mpr ⟨hc8, (List.forall_mem_cons.mpr ⟨hc9, (List.forall_mem_cons.mpr ⟨hc10, (List.forall_mem_cons.mpr ⟨hc11, (List.forall_mem_cons.mpr ⟨hc12, fun _ h => absurd h List.not_mem_nil⟩)⟩)⟩)⟩)⟩)⟩)⟩)⟩)⟩)⟩)⟩)⟩)⟩) (tgt := 139) (by decide) ?_
  refine h_ldcw hX dX11_count_139 cst_RX11_331 ?_
  exact h_ret hX (rv := some (.int ((-1000000)))) dX11_count_142 trivial (fun h => h)
theorem c_M_count {p0 : Int32} {r : Int32} (h : f_M_count m_size m_laws m_boys m_marbles m_farms m_holding m_spills m_acts m_noted m_boy m_marble m_farm m_now p0 = some r) : gMet B 6 yX11_count cX11_count 2 (some .int) [.ref (aM B 0), .int p0] (wdM B m_thrown m_size m_at m_wrong m_deep m_laws m_text m_readBoys m_readMarbles m_readFarms m_boys m_marbles m_farms m_holding m_spills m_acts m_draws m_bestRow m_bestMany m_noted m_hasImage m_tape m_code m_value m_codes m_clauses m_testFrom m_sumFrom m_sumTo m_letters m_stack m_readRule m_readBoy m_readMarble m_readFarm m_rule m_boy m_marble m_farm m_now m_refused m_kept m_notePlace m_noteKind m_noteIs m_toldBy m_image ++ fr) (some (.int r)) (wdM B m_thrown m_size m_at m_wrong m_deep m_laws m_text m_readBoys m_readMarbles m_readFarms m_boys m_marbles m_farms m_holding m_spills m_acts m_draws m_bestRow m_bestMany m_noted m_hasImage m_tape m_code m_value m_codes m_clauses m_testFrom m_sumFrom m_sumTo m_letters m_stack m_readRule m_readBoy m_readMarble m_readFarm m_rule m_boy m_marble m_farm m_now m_refused m_kept m_notePlace m_noteKind m_noteIs m_toldBy m_image ++ fr) :=
  gMet.of rfl (Nat.le_of_ble_eq_true rfl) (fun X hX hF => w_M_count hX r h hF)
set_option maxRecDepth 4000 in
theorem w_M_payOf_J31 {v1 : Int32} {v3 : Int32} {k0 : Int32} {k1 : Int32} (hX : gOk B X RX11 cX11_payOf 4 1 (some .int)) : gH B X (Sum.elim (fun s : (Int32 × Int32) => gG B X 4 [(0, .ref (aM B 0)), (1, .int v1), (2, .int s.1), (3, .int s.2)] [] (wdM B m_thrown m_size m_at m_wrong m_deep m_laws m_text m_readBoys m_readMarbles m_readFarms m_boys m_marbles m_farms m_holding m_spills m_acts m_draws m_bestRow m_bestMany m_noted m_hasImage m_tape m_code m_value m_codes m_clauses m_testFrom m_sumFrom m_sumTo m_letters m_stack m_readRule m_readBoy m_readMarble m_readFarm m_rule m_boy m_marble m_farm m_now m_refused m_kept m_notePlace m_noteKind m_noteIs m_toldBy m_image ++ fr)) (fun r : Int32 => gFin X (some (.int r)) (wdM B m_thrown m_size m_at m_wrong m_deep m_laws m_text m_readBoys m_readMarbles m_readFarms m_boys m_marbles m_farms m_holding m_spills m_acts m_draws m_bestRow m_bestMany m_noted m_hasImage m_tape m_code m_value m_codes m_clauses m_testFrom m_sumFrom m_sumTo m_letters m_stack m_readRule m_readBoy m_readMarble m_readFarm m_rule m_boy m_marble m_farm m_now m_refused m_kept m_notePlace m_noteKind m_noteIs m_toldBy m_image ++ fr))) 31 [(0, .ref (aM B 0)), (1, .int v1), (3, .int v3)] [.int k1, .int k0] (wdM B m_thrown m_size m_at m_wrong m_deep m_laws m_text m_readBoys m_readMarbles m_readFarms m_boys m_marbles m_farms m_holding m_spills m_acts m_draws m_bestRow m_bestMany m_noted m_hasImage m_tape m_code m_value m_codes m_clauses m_testFrom m_sumFrom m_sumTo m_letters m_stack m_readRule m_readBoy m_readMarble m_readFarm m_rule m_boy m_marble m_farm m_now m_refused m_kept m_notePlace m_noteKind m_noteIs m_toldBy m_image ++ fr) (f_M_payOf_J31 v3 k0 k1) := by
  unfold f_M_payOf_J31
  refine h_iadd hX dX11_payOf_31 ?_
  refine gH.leti (fun v2_2 => ?_)
  refine h_istore_n hX dX11_payOf_32 rfl (by decide) (lv' := [(0, .ref (aM B 0)), (1, .int v1), (2, .int v2_2), (3, .int v3)]) rfl ?_
  refine h_iincc hX dX11_payOf_33 rfl ki_1 (by decide) (lv' := [(0, .ref (aM B 0)), (1, .int v1), (2, .int v2_2), (3, .int (v3 + 1))]) rfl ?_
  refine h_goto hX dX11_payOf_36 (tgt := 4) (by decide) ?_
  exact gH.some' (fun h => h)
set_option maxRecDepth 4000 in
theorem w_M_payOf_L4 {v1 : Int32} (hX : gOk B X RX11 cX11_payOf 4 1 (some .int)) (s : (Int32 × Int32)) : gH B X (Sum.elim (fun s : (Int32 × Int32) => gG B X 4 [(0, .ref (aM B 0)), (1, .int v1), (2, .int s.1), (3, .int s.2)] [] (wdM B m_thrown m_size m_at m_wrong m_deep m_laws m_text m_readBoys m_readMarbles m_readFarms m_boys m_marbles m_farms m_holding m_spills m_acts m_draws m_bestRow m_bestMany m_noted m_hasImage m_tape m_code m_value m_codes m_clauses m_testFrom m_sumFrom m_sumTo m_letters m_stack m_readRule m_readBoy m_readMarble m_readFarm m_rule m_boy m_marble m_farm m_now m_refused m_kept m_notePlace m_noteKind m_noteIs m_toldBy m_image ++ fr)) (fun r : Int32 => gFin X (some (.int r)) (wdM B m_thrown m_size m_at m_wrong m_deep m_laws m_text m_readBoys m_readMarbles m_readFarms m_boys m_marbles m_farms m_holding m_spills m_acts m_draws m_bestRow m_bestMany m_noted m_hasImage m_tape m_code m_value m_codes m_clauses m_testFrom m_sumFrom m_sumTo m_letters m_stack m_readRule m_readBoy m_readMarble m_readFarm m_rule m_boy m_marble m_farm m_now m_refused m_kept m_notePlace m_noteKind m_noteIs m_toldBy m_image ++ fr))) 4 [(0, .ref (aM B 0)), (1, .int v1), (2, .int s.1), (3, .int s.2)] [] (wdM B m_thrown m_size m_at m_wrong m_deep m_laws m_text m_readBoys m_readMarbles m_readFarms m_boys m_marbles m_farms m_holding m_spills m_acts m_draws m_bestRow m_bestMany m_noted m_hasImage m_tape m_code m_value m_codes m_clauses m_testFrom m_sumFrom m_sumTo m_letters m_stack m_readRule m_readBoy m_readMarble m_readFarm m_rule m_boy m_marble m_farm m_now m_refused m_kept m_notePlace m_noteKind m_noteIs m_toldBy m_image ++ fr) (f_M_payOf_L4 m_farms m_farm v1 s) := by
  unfold f_M_payOf_L4
  refine h_iload_n hX dX11_payOf_4 rfl rfl ?_
  refine h_aload_n hX dX11_payOf_5 rfl rfl ?_
  refine get_RX11_264_M0 hX dX11_payOf_6 ?_
  refine h_icmp_ge hX dX11_payOf_9 (tgt := 39) (by decide) (fun _ => ?_) (fun _ => ?_)
  · refine h_iload_n hX dX11_payOf_39 rfl rfl ?_
    exact h_ret hX (rv := some (.int s.1)) dX11_payOf_40 trivial (fun h => h)
  · refine h_iload_n hX dX11_payOf_12 rfl rfl ?_
    refine h_iload_n hX dX11_payOf_13 rfl rfl ?_
    refine h_iload_n hX dX11_payOf_14 rfl rfl ?_
    refine h_callSi hX dX11_payOf_15 (cs_RX11_219) (As := [.int v1, .int s.2]) (st := [.int s.1]) (fun _ h => c_M_has h) rfl rfl (by decide) (Nat.le_of_ble_eq_true rfl) (fun a_1 => ?_)
    refine h_if_eq hX dX11_payOf_18 (tgt := 30) (by decide) (fun _ => ?_) (fun _ => ?_)
    · refine h_iconst hX dX11_payOf_30 ki_0 ?_
      refine gH.dead [0, 1, 3] rfl ?_
      exact w_M_payOf_J31 hX
    · refine h_aload_n hX dX11_payOf_21 rfl rfl ?_
      refine h_iload_n hX dX11_payOf_22 rfl rfl ?_
      refine h_iconst hX dX11_payOf_23 ki_2 ?_
      refine h_callVi hX dX11_payOf_24 (cv_RX11_316) rc_M0 (As := [.int s.2, .int 2]) (st := [.int s.1]) (fun _ h => c_M_ofFarm h) rfl rfl (by decide) (Nat.le_of_ble_eq_true rfl) (fun a_4 => ?_)
      refine h_goto hX dX11_payOf_27 (tgt := 31) (by decide) ?_
      refine gH.dead [0, 1, 3] rfl ?_
      exact w_M_payOf_J31 hX
set_option maxRecDepth 4000 in
theorem w_M_payOf {p0 : Int32} (hX : gOk B X RX11 cX11_payOf 4 1 (some .int)) : gH B X (fun r : Int32 => gFin X (some (.int r)) (wdM B m_thrown m_size m_at m_wrong m_deep m_laws m_text m_readBoys m_readMarbles m_readFarms m_boys m_marbles m_farms m_holding m_spills m_acts m_draws m_bestRow m_bestMany m_noted m_hasImage m_tape m_code m_value m_codes m_clauses m_testFrom m_sumFrom m_sumTo m_letters m_stack m_readRule m_readBoy m_readMarble m_readFarm m_rule m_boy m_marble m_farm m_now m_refused m_kept m_notePlace m_noteKind m_noteIs m_toldBy m_image ++ fr)) 0 [(0, .ref (aM B 0)), (1, .int p0)] [] (wdM B m_thrown m_size m_at m_wrong m_deep m_laws m_text m_readBoys m_readMarbles m_readFarms m_boys m_marbles m_farms m_holding m_spills m_acts m_draws m_bestRow m_bestMany m_noted m_hasImage m_tape m_code m_value m_codes m_clauses m_testFrom m_sumFrom m_sumTo m_letters m_stack m_readRule m_readBoy m_readMarble m_readFarm m_rule m_boy m_marble m_farm m_now m_refused m_kept m_notePlace m_noteKind m_noteIs m_toldBy m_image ++ fr) (f_M_payOf m_farms m_farm p0) := by
  unfold f_M_payOf
  refine h_iconst hX dX11_payOf_0 ki_0 ?_
  refine h_istore_n hX dX11_payOf_1 rfl (by decide) (lv' := [(0, .ref (aM B 0)), (1, .int p0), (2, .int 0)]) rfl ?_
  refine h_iconst hX dX11_payOf_2 ki_0 ?_
  refine h_istore_n hX dX11_payOf_3 rfl (by decide) (lv' := [(0, .ref (aM B 0)), (1, .int p0), (2, .int 0), (3, .int 0)]) rfl ?_
  exact gH.loop (lvf := fun z : (Int32 × Int32) => [(0, .ref (aM B 0)), (1, .int p0), (2, .int z.1), (3, .int z.2)]) (wf := fun z : (Int32 × Int32) => wdM B m_thrown m_size m_at m_wrong m_deep m_laws m_text m_readBoys m_readMarbles m_readFarms m_boys m_marbles m_farms m_holding m_spills m_acts m_draws m_bestRow m_bestMany m_noted m_hasImage m_tape m_code m_value m_codes m_clauses m_testFrom m_sumFrom m_sumTo m_letters m_stack m_readRule m_readBoy m_readMarble m_readFarm m_rule m_boy m_marble m_farm m_now m_refused m_kept m_notePlace m_noteKind m_noteIs m_toldBy m_image ++ fr) (fun z => w_M_payOf_L4 hX z) (0, 0)
theorem c_M_payOf {p0 : Int32} {r : Int32} (h : f_M_payOf m_farms m_farm p0 = some r) : gMet B 1 yX11_payOf cX11_payOf 4 (some .int) [.ref (aM B 0), .int p0] (wdM B m_thrown m_size m_at m_wrong m_deep m_laws m_text m_readBoys m_readMarbles m_readFarms m_boys m_marbles m_farms m_holding m_spills m_acts m_draws m_bestRow m_bestMany m_noted m_hasImage m_tape m_code m_value m_codes m_clauses m_testFrom m_sumFrom m_sumTo m_letters m_stack m_readRule m_readBoy m_readMarble m_readFarm m_rule m_boy m_marble m_farm m_now m_refused m_kept m_notePlace m_noteKind m_noteIs m_toldBy m_image ++ fr) (some (.int r)) (wdM B m_thrown m_size m_at m_wrong m_deep m_laws m_text m_readBoys m_readMarbles m_readFarms m_boys m_marbles m_farms m_holding m_spills m_acts m_draws m_bestRow m_bestMany m_noted m_hasImage m_tape m_code m_value m_codes m_clauses m_testFrom m_sumFrom m_sumTo m_letters m_stack m_readRule m_readBoy m_readMarble m_readFarm m_rule m_boy m_marble m_farm m_now m_refused m_kept m_notePlace m_noteKind m_noteIs m_toldBy m_image ++ fr) :=
  gMet.of rfl (Nat.le_of_ble_eq_true rfl) (fun X hX hF => w_M_payOf hX r h hF)
set_option maxRecDepth 4000 in
theorem w_M_passDay_J99 {v1 : Int32} (hX : gOk B X RX11 cX11_passDay 3 6 none) : gH B X (fun r : (Nat → Int32) => gFin X (none) (wdM B m_thrown m_size m_at m_wrong m_deep m_laws m_text m_readBoys m_readMarbles m_readFarms m_boys m_marbles m_farms m_holding m_spills m_acts m_draws m_bestRow m_bestMany m_noted m_hasImage m_tape m_code m_value m_codes m_clauses m_testFrom m_sumFrom m_sumTo m_letters m_stack m_readRule m_readBoy m_readMarble m_readFarm m_rule m_boy m_marble m_farm r m_refused m_kept m_notePlace m_noteKind m_noteIs m_toldBy m_image ++ fr)) 99 [(0, .ref (aM B 0)), (1, .int v1)] [] (wdM B m_thrown m_size m_at m_wrong m_deep m_laws m_text m_readBoys m_readMarbles m_readFarms m_boys m_marbles m_farms m_holding m_spills m_acts m_draws m_bestRow m_bestMany m_noted m_hasImage m_tape m_code m_value m_codes m_clauses m_testFrom m_sumFrom m_sumTo m_letters m_stack m_readRule m_readBoy m_readMarble m_readFarm m_rule m_boy m_marble m_farm m_now m_refused m_kept m_notePlace m_noteKind m_noteIs m_toldBy m_image ++ fr) (f_M_passDay_J99 m_now v1) := by
  unfold f_M_passDay_J99
  refine h_aload_n hX dX11_passDay_99 rfl rfl ?_
  refine get_RX11_64_M0 hX dX11_passDay_100 ?_
  refine h_bipush hX dX11_passDay_103 kb_11 ?_
  refine h_iconst hX dX11_passDay_105 ki_2 ?_
  refine h_aload_n hX dX11_passDay_106 rfl rfl ?_
  refine get_RX11_64_M0 hX dX11_passDay_107 ?_
  refine h_bipush hX dX11_passDay_110 kb_10 ?_
  refine ald_M19 hX dX11_passDay_112 ?_
  refine h_imul hX dX11_passDay_113 ?_
  refine h_iadd hX dX11_passDay_114 ?_
  refine h_aload_n hX dX11_passDay_115 rfl rfl ?_
  refine get_RX11_64_M0 hX dX11_passDay_116 ?_
  refine h_bipush hX dX11_passDay_119 kb_8 ?_
  refine ald_M19 hX dX11_passDay_121 ?_
  refine ast_M19 hX dX11_passDay_122 ?_
  refine gH.letw (w := fun y => wdM B m_thrown m_size m_at m_wrong m_deep m_laws m_text m_readBoys m_readMarbles m_readFarms m_boys m_marbles m_farms m_holding m_spills m_acts m_draws m_bestRow m_bestMany m_noted m_hasImage m_tape m_code m_value m_codes m_clauses m_testFrom m_sumFrom m_sumTo m_letters m_stack m_readRule m_readBoy m_readMarble m_readFarm m_rule m_boy m_marble m_farm y m_refused m_kept m_notePlace m_noteKind m_noteIs m_toldBy m_image ++ fr) (fun m_now_5 => ?_)
  refine h_aload_n hX dX11_passDay_123 rfl rfl ?_
  refine get_RX11_64_M0 hX dX11_passDay_124 ?_
  refine h_bipush hX dX11_passDay_127 kb_11 ?_
  refine h_iconst hX dX11_passDay_129 ki_2 ?_
  refine h_aload_n hX dX11_passDay_130 rfl rfl ?_
  refine get_RX11_64_M0 hX dX11_passDay_131 ?_
  refine h_bipush hX dX11_passDay_134 kb_10 ?_
  refine ald_M19 hX dX11_passDay_136 ?_
  refine h_imul hX dX11_passDay_137 ?_
  refine h_iadd hX dX11_passDay_138 ?_
  refine h_iconst hX dX11_passDay_139 ki_1 ?_
  refine h_iadd hX dX11_passDay_140 ?_
  refine h_iload_n hX dX11_passDay_141 rfl rfl ?_
  refine ast_M19 hX dX11_passDay_142 ?_
  refine gH.letw (w := fun y => wdM B m_thrown m_size m_at m_wrong m_deep m_laws m_text m_readBoys m_readMarbles m_readFarms m_boys m_marbles m_farms m_holding m_spills m_acts m_draws m_bestRow m_bestMany m_noted m_hasImage m_tape m_code m_value m_codes m_clauses m_testFrom m_sumFrom m_sumTo m_letters m_stack m_readRule m_readBoy m_readMarble m_readFarm m_rule m_boy m_marble m_farm y m_refused m_kept m_notePlace m_noteKind m_noteIs m_toldBy m_image ++ fr) (fun m_now_6 => ?_)
  refine h_aload_n hX dX11_passDay_143 rfl rfl ?_
  refine get_RX11_64_M0 hX dX11_passDay_144 ?_
  refine h_bipush hX dX11_passDay_147 kb_10 ?_
  refine h_dup2 hX dX11_passDay_149 rfl rfl ?_
  refine ald_M19 hX dX11_passDay_150 ?_
  refine h_iconst hX dX11_passDay_151 ki_1 ?_
  refine h_iadd hX dX11_passDay_152 ?_
  refine ast_M19 hX dX11_passDay_153 ?_
  refine gH.letw (w := fun y => wdM B m_thrown m_size m_at m_wrong m_deep m_laws m_text m_readBoys m_readMarbles m_readFarms m_boys m_marbles m_farms m_holding m_spills m_acts m_draws m_bestRow m_bestMany m_noted m_hasImage m_tape m_code m_value m_codes m_clauses m_testFrom m_sumFrom m_sumTo m_letters m_stack m_readRule m_readBoy m_readMarble m_readFarm m_rule m_boy m_marble m_farm y m_refused m_kept m_notePlace m_noteKind m_noteIs m_toldBy m_image ++ fr) (fun m_now_7 => ?_)
  exact h_ret hX (rv := none) dX11_passDay_154 trivial (fun h => h)
set_option maxRecDepth 4000 in
theorem w_M_passDay_L56 {v1 : Int32} (hX : gOk B X RX11 cX11_passDay 3 6 none) (s : (Int32 × (Nat → Int32))) : gH B X (Sum.elim (fun s : (Int32 × (Nat → Int32)) => gG B X 56 [(0, .ref (aM B 0)), (1, .int v1), (2, .int s.1)] [] (wdM B m_thrown m_size m_at m_wrong m_deep m_laws m_text m_readBoys m_readMarbles m_readFarms m_boys m_marbles m_farms m_holding m_spills m_acts m_draws m_bestRow m_bestMany m_noted m_hasImage m_tape m_code m_value m_codes m_clauses m_testFrom m_sumFrom m_sumTo m_letters m_stack m_readRule m_readBoy m_readMarble m_readFarm m_rule m_boy m_marble m_farm s.2 m_refused m_kept m_notePlace m_noteKind m_noteIs m_toldBy m_image ++ fr)) (fun r : (Nat → Int32) => gFin X (none) (wdM B m_thrown m_size m_at m_wrong m_deep m_laws m_text m_readBoys m_readMarbles m_readFarms m_boys m_marbles m_farms m_holding m_spills m_acts m_draws m_bestRow m_bestMany m_noted m_hasImage m_tape m_code m_value m_codes m_clauses m_testFrom m_sumFrom m_sumTo m_letters m_stack m_readRule m_readBoy m_readMarble m_readFarm m_rule m_boy m_marble m_farm r m_refused m_kept m_notePlace m_noteKind m_noteIs m_toldBy m_image ++ fr))) 56 [(0, .ref (aM B 0)), (1, .int v1), (2, .int s.1)] [] (wdM B m_thrown m_size m_at m_wrong m_deep m_laws m_text m_readBoys m_readMarbles m_readFarms m_boys m_marbles m_farms m_holding m_spills m_acts m_draws m_bestRow m_bestMany m_noted m_hasImage m_tape m_code m_value m_codes m_clauses m_testFrom m_sumFrom m_sumTo m_letters m_stack m_readRule m_readBoy m_readMarble m_readFarm m_rule m_boy m_marble m_farm s.2 m_refused m_kept m_notePlace m_noteKind m_noteIs m_toldBy m_image ++ fr) (f_M_passDay_L56 v1 s) := by
  unfold f_M_passDay_L56
  refine h_iload_n hX dX11_passDay_56 rfl rfl ?_
  refine h_bipush hX dX11_passDay_57 kb_120 ?_
  refine h_icmp_ge hX dX11_passDay_59 (tgt := 88) (by decide) (fun _ => ?_) (fun _ => ?_)
  · refine gH.inr ?_
    refine h_aload_n hX dX11_passDay_88 rfl rfl ?_
    refine get_RX11_64_M0 hX dX11_passDay_89 ?_
    refine h_bipush hX dX11_passDay_92 kb_10 ?_
    refine h_dup2 hX dX11_passDay_94 rfl rfl ?_
    refine ald_M19 hX dX11_passDay_95 ?_
    refine h_iconst hX dX11_passDay_96 ki_1 ?_
    refine h_isub hX dX11_passDay_97 ?_
    refine ast_M19 hX dX11_passDay_98 ?_
    refine gH.letw (w := fun y => wdM B m_thrown m_size m_at m_wrong m_deep m_laws m_text m_readBoys m_readMarbles m_readFarms m_boys m_marbles m_farms m_holding m_spills m_acts m_draws m_bestRow m_bestMany m_noted m_hasImage m_tape m_code m_value m_codes m_clauses m_testFrom m_sumFrom m_sumTo m_letters m_stack m_readRule m_readBoy m_readMarble m_readFarm m_rule m_boy m_marble m_farm y m_refused m_kept m_notePlace m_noteKind m_noteIs m_toldBy m_image ++ fr) (fun m_now_8 => ?_)
    refine gH.dead [0, 1] rfl ?_
    exact w_M_passDay_J99 hX
  · refine h_aload_n hX dX11_passDay_62 rfl rfl ?_
    refine get_RX11_64_M0 hX dX11_passDay_63 ?_
    refine h_bipush hX dX11_passDay_66 kb_11 ?_
    refine h_iload_n hX dX11_passDay_68 rfl rfl ?_
    refine h_iadd hX dX11_passDay_69 ?_
    refine h_iconst hX dX11_passDay_70 ki_2 ?_
    refine h_isub hX dX11_passDay_71 ?_
    refine h_aload_n hX dX11_passDay_72 rfl rfl ?_
    refine get_RX11_64_M0 hX dX11_passDay_73 ?_
    refine h_bipush hX dX11_passDay_76 kb_11 ?_
    refine h_iload_n hX dX11_passDay_78 rfl rfl ?_
    refine h_iadd hX dX11_passDay_79 ?_
    refine ald_M19 hX dX11_passDay_80 ?_
    refine ast_M19 hX dX11_passDay_81 ?_
    refine gH.letw (w := fun y => wdM B m_thrown m_size m_at m_wrong m_deep m_laws m_text m_readBoys m_readMarbles m_readFarms m_boys m_marbles m_farms m_holding m_spills m_acts m_draws m_bestRow m_bestMany m_noted m_hasImage m_tape m_code m_value m_codes m_clauses m_testFrom m_sumFrom m_sumTo m_letters m_stack m_readRule m_readBoy m_readMarble m_readFarm m_rule m_boy m_marble m_farm y m_refused m_kept m_notePlace m_noteKind m_noteIs m_toldBy m_image ++ fr) (fun m_now_9 => ?_)
    refine h_iincc hX dX11_passDay_82 rfl ki_1 (by decide) (lv' := [(0, .ref (aM B 0)), (1, .int v1), (2, .int (s.1 + 1))]) rfl ?_
    refine h_goto hX dX11_passDay_85 (tgt := 56) (by decide) ?_
    exact gH.some' (fun h => h)
set_option maxRecDepth 4000 in
theorem w_M_passDay (hX : gOk B X RX11 cX11_passDay 3 6 none) : gH B X (fun r : (Nat → Int32) => gFin X (none) (wdM B m_thrown m_size m_at m_wrong m_deep m_laws m_text m_readBoys m_readMarbles m_readFarms m_boys m_marbles m_farms m_holding m_spills m_acts m_draws m_bestRow m_bestMany m_noted m_hasImage m_tape m_code m_value m_codes m_clauses m_testFrom m_sumFrom m_sumTo m_letters m_stack m_readRule m_readBoy m_readMarble m_readFarm m_rule m_boy m_marble m_farm r m_refused m_kept m_notePlace m_noteKind m_noteIs m_toldBy m_image ++ fr)) 0 [(0, .ref (aM B 0))] [] (wdM B m_thrown m_size m_at m_wrong m_deep m_laws m_text m_readBoys m_readMarbles m_readFarms m_boys m_marbles m_farms m_holding m_spills m_acts m_draws m_bestRow m_bestMany m_noted m_hasImage m_tape m_code m_value m_codes m_clauses m_testFrom m_sumFrom m_sumTo m_letters m_stack m_readRule m_readBoy m_readMarble m_readFarm m_rule m_boy m_marble m_farm m_now m_refused m_kept m_notePlace m_noteKind m_noteIs m_toldBy m_image ++ fr) (f_M_passDay m_marbles m_farms m_boy m_marble m_farm m_now) := by
  unfold f_M_passDay
  refine h_aload_n hX dX11_passDay_0 rfl rfl ?_
  refine h_callVi hX dX11_passDay_1 (cv_RX11_369) rc_M0 (As := []) (st := []) (fun _ h => c_M_contents h) rfl rfl (by decide) (Nat.le_of_ble_eq_true rfl) (fun a_1 => ?_)
  refine h_istore_n hX dX11_passDay_4 rfl (by decide) (lv' := [(0, .ref (aM B 0)), (1, .int a_1)]) rfl ?_
  refine h_aload_n hX dX11_passDay_5 rfl rfl ?_
  refine get_RX11_64_M0 hX dX11_passDay_6 ?_
  refine h_bipush hX dX11_passDay_9 kb_8 ?_
  refine h_sipush hX dX11_passDay_11 ks_999 ?_
  refine h_aload_n hX dX11_passDay_14 rfl rfl ?_
  refine get_RX11_64_M0 hX dX11_passDay_15 ?_
  refine h_bipush hX dX11_passDay_18 kb_8 ?_
  refine ald_M19 hX dX11_passDay_20 ?_
  refine h_aload_n hX dX11_passDay_21 rfl rfl ?_
  refine h_iload_n hX dX11_passDay_22 rfl rfl ?_
  refine h_callVi hX dX11_passDay_23 (cv_RX11_372) rc_M0 (As := [.int a_1]) (st := [.int (m_now (8 : Int32).toNatClampNeg), .int 999, .int 8, .ref (aM B 19)]) (fun _ h => c_M_payOf h) rfl rfl (by decide) (Nat.le_of_ble_eq_true rfl) (fun a_2 => ?_)
  refine h_iadd hX dX11_passDay_26 ?_
  refine h_jmin hX dX11_passDay_27 cm_RX11_297 (by omega) (Nat.le_of_ble_eq_true rfl) ?_
  refine ast_M19 hX dX11_passDay_30 ?_
  refine gH.letw (w := fun y => wdM B m_thrown m_size m_at m_wrong m_deep m_laws m_text m_readBoys m_readMarbles m_readFarms m_boys m_marbles m_farms m_holding m_spills m_acts m_draws m_bestRow m_bestMany m_noted m_hasImage m_tape m_code m_value m_codes m_clauses m_testFrom m_sumFrom m_sumTo m_letters m_stack m_readRule m_readBoy m_readMarble m_readFarm m_rule m_boy m_marble m_farm y m_refused m_kept m_notePlace m_noteKind m_noteIs m_toldBy m_image ++ fr) (fun m_now_3 => ?_)
  refine h_aload_n hX dX11_passDay_31 rfl rfl ?_
  refine get_RX11_64_M0 hX dX11_passDay_32 ?_
  refine h_bipush hX dX11_passDay_35 kb_9 ?_
  refine h_dup2 hX dX11_passDay_37 rfl rfl ?_
  refine ald_M19 hX dX11_passDay_38 ?_
  refine h_iconst hX dX11_passDay_39 ki_1 ?_
  refine h_iadd hX dX11_passDay_40 ?_
  refine ast_M19 hX dX11_passDay_41 ?_
  refine gH.letw (w := fun y => wdM B m_thrown m_size m_at m_wrong m_deep m_laws m_text m_readBoys m_readMarbles m_readFarms m_boys m_marbles m_farms m_holding m_spills m_acts m_draws m_bestRow m_bestMany m_noted m_hasImage m_tape m_code m_value m_codes m_clauses m_testFrom m_sumFrom m_sumTo m_letters m_stack m_readRule m_readBoy m_readMarble m_readFarm m_rule m_boy m_marble m_farm y m_refused m_kept m_notePlace m_noteKind m_noteIs m_toldBy m_image ++ fr) (fun m_now_4 => ?_)
  refine h_aload_n hX dX11_passDay_42 rfl rfl ?_
  refine get_RX11_64_M0 hX dX11_passDay_43 ?_
  refine h_bipush hX dX11_passDay_46 kb_10 ?_
  refine ald_M19 hX dX11_passDay_48 ?_
  refine h_bipush hX dX11_passDay_49 kb_60 ?_
  refine h_icmp_ne hX dX11_passDay_51 (tgt := 99) (by decide) (fun _ => ?_) (fun _ => ?_)
  · exact w_M_passDay_J99 hX
  · refine h_iconst hX dX11_passDay_54 ki_2 ?_
    refine h_istore_n hX dX11_passDay_55 rfl (by decide) (lv' := [(0, .ref (aM B 0)), (1, .int a_1), (2, .int 2)]) rfl ?_
    exact gH.loop (lvf := fun z : (Int32 × (Nat → Int32)) => [(0, .ref (aM B 0)), (1, .int a_1), (2, .int z.1)]) (wf := fun z : (Int32 × (Nat → Int32)) => wdM B m_thrown m_size m_at m_wrong m_deep m_laws m_text m_readBoys m_readMarbles m_readFarms m_boys m_marbles m_farms m_holding m_spills m_acts m_draws m_bestRow m_bestMany m_noted m_hasImage m_tape m_code m_value m_codes m_clauses m_testFrom m_sumFrom m_sumTo m_letters m_stack m_readRule m_readBoy m_readMarble m_readFarm m_rule m_boy m_marble m_farm z.2 m_refused m_kept m_notePlace m_noteKind m_noteIs m_toldBy m_image ++ fr) (fun z => w_M_passDay_L56 hX z) (2, m_now_4)
theorem c_M_passDay {r : (Nat → Int32)} (h : f_M_passDay m_marbles m_farms m_boy m_marble m_farm m_now = some r) : gMet B 6 yX11_passDay cX11_passDay 3 none [.ref (aM B 0)] (wdM B m_thrown m_size m_at m_wrong m_deep m_laws m_text m_readBoys m_readMarbles m_readFarms m_boys m_marbles m_farms m_holding m_spills m_acts m_draws m_bestRow m_bestMany m_noted m_hasImage m_tape m_code m_value m_codes m_clauses m_testFrom m_sumFrom m_sumTo m_letters m_stack m_readRule m_readBoy m_readMarble m_readFarm m_rule m_boy m_marble m_farm m_now m_refused m_kept m_notePlace m_noteKind m_noteIs m_toldBy m_image ++ fr) (none) (wdM B m_thrown m_size m_at m_wrong m_deep m_laws m_text m_readBoys m_readMarbles m_readFarms m_boys m_marbles m_farms m_holding m_spills m_acts m_draws m_bestRow m_bestMany m_noted m_hasImage m_tape m_code m_value m_codes m_clauses m_testFrom m_sumFrom m_sumTo m_letters m_stack m_readRule m_readBoy m_readMarble m_readFarm m_rule m_boy m_marble m_farm r m_refused m_kept m_notePlace m_noteKind m_noteIs m_toldBy m_image ++ fr) :=
  gMet.of rfl (Nat.le_of_ble_eq_true rfl) (fun X hX hF => w_M_passDay hX r h hF)
set_option maxRecDepth 4000 in
theorem w_M_days_L49 {v1 : Int32} (hX : gOk B X RX11 cX11_days 3 7 (some .int)) (s : (Int32 × Int32 × (Nat → Int32) × (Nat → Int32))) : gH B X (Sum.elim (fun s : (Int32 × Int32 × (Nat → Int32) × (Nat → Int32)) => gG B X 49 [(0, .ref (aM B 0)), (1, .int v1), (2, .int s.1)] [] (wdM B m_thrown m_size m_at m_wrong m_deep m_laws m_text m_readBoys m_readMarbles m_readFarms m_boys m_marbles m_farms m_holding m_spills s.2.1 m_draws m_bestRow m_bestMany m_noted m_hasImage m_tape m_code m_value m_codes m_clauses m_testFrom m_sumFrom m_sumTo m_letters m_stack m_readRule m_readBoy m_readMarble m_readFarm m_rule m_boy m_marble m_farm s.2.2.1 m_refused s.2.2.2 m_notePlace m_noteKind m_noteIs m_toldBy m_image ++ fr)) (fun r : (Int32 × Int32 × (Nat → Int32) × (Nat → Int32) × (Nat → Int32)) => gFin X (some (.int r.1)) (wdM B m_thrown m_size m_at m_wrong m_deep m_laws m_text m_readBoys m_readMarbles m_readFarms m_boys m_marbles m_farms m_holding m_spills r.2.1 m_draws m_bestRow m_bestMany m_noted m_hasImage m_tape m_code m_value m_codes m_clauses m_testFrom m_sumFrom m_sumTo m_letters m_stack m_readRule m_readBoy m_readMarble m_readFarm m_rule m_boy m_marble m_farm r.2.2.1 r.2.2.2.1 r.2.2.2.2 m_notePlace m_noteKind m_noteIs m_toldBy m_image ++ fr))) 49 [(0, .ref (aM B 0)), (1, .int v1), (2, .int s.1)] [] (wdM B m_thrown m_size m_at m_wrong m_deep m_laws m_text m_readBoys m_readMarbles m_readFarms m_boys m_marbles m_farms m_holding m_spills s.2.1 m_draws m_bestRow m_bestMany m_noted m_hasImage m_tape m_code m_value m_codes m_clauses m_testFrom m_sumFrom m_sumTo m_letters m_stack m_readRule m_readBoy m_readMarble m_readFarm m_rule m_boy m_marble m_farm s.2.2.1 m_refused s.2.2.2 m_notePlace m_noteKind m_noteIs m_toldBy m_image ++ fr) (f_M_days_L49 m_marbles m_farms m_boy m_marble m_farm m_refused v1 s) := by
  unfold f_M_days_L49
  refine h_iload_n hX dX11_days_49 rfl rfl ?_
  refine h_iload_n hX dX11_days_50 rfl rfl ?_
  refine h_icmp_ge hX dX11_days_51 (tgt := 68) (by decide) (fun _ => ?_) (fun _ => ?_)
  · refine gH.inr ?_
    refine h_aload_n hX dX11_days_68 rfl rfl ?_
    refine get_RX11_64_M0 hX dX11_days_69 ?_
    refine h_bipush hX dX11_days_72 kb_8 ?_
    refine ald_M19 hX dX11_days_74 ?_
    exact h_ret hX (rv := some (.int (s.2.2.1 (8 : Int32).toNatClampNeg))) dX11_days_75 trivial (fun h => h)
  · refine h_aload_n hX dX11_days_54 rfl rfl ?_
    refine h_callVv hX dX11_days_55 (cv_RX11_357) rc_M0 (As := []) (st := []) (fun _ h => c_M_keep h) rfl rfl (by decide) (Nat.le_of_ble_eq_true rfl) (fun a_4 => ?_)
    refine h_aload_n hX dX11_days_58 rfl rfl ?_
    refine h_callVv hX dX11_days_59 (cv_RX11_378) rc_M0 (As := []) (st := []) (fun _ h => c_M_passDay h) rfl rfl (by decide) (Nat.le_of_ble_eq_true rfl) (fun a_5 => ?_)
    refine h_iincc hX dX11_days_62 rfl ki_1 (by decide) (lv' := [(0, .ref (aM B 0)), (1, .int v1), (2, .int (s.1 + 1))]) rfl ?_
    refine h_goto hX dX11_days_65 (tgt := 49) (by decide) ?_
    exact gH.some' (fun h => h)
set_option maxRecDepth 4000 in
theorem w_M_days_J39 {v1 : Int32} {k1 : Int32} (hX : gOk B X RX11 cX11_days 3 7 (some .int)) : gH B X (fun r : (Int32 × Int32 × (Nat → Int32) × (Nat → Int32) × (Nat → Int32)) => gFin X (some (.int r.1)) (wdM B m_thrown m_size m_at m_wrong m_deep m_laws m_text m_readBoys m_readMarbles m_readFarms m_boys m_marbles m_farms m_holding m_spills r.2.1 m_draws m_bestRow m_bestMany m_noted m_hasImage m_tape m_code m_value m_codes m_clauses m_testFrom m_sumFrom m_sumTo m_letters m_stack m_readRule m_readBoy m_readMarble m_readFarm m_rule m_boy m_marble m_farm r.2.2.1 r.2.2.2.1 r.2.2.2.2 m_notePlace m_noteKind m_noteIs m_toldBy m_image ++ fr)) 39 [(0, .ref (aM B 0)), (1, .int v1)] [.int k1, .ref (aM B 0)] (wdM B m_thrown m_size m_at m_wrong m_deep m_laws m_text m_readBoys m_readMarbles m_readFarms m_boys m_marbles m_farms m_holding m_spills m_acts m_draws m_bestRow m_bestMany m_noted m_hasImage m_tape m_code m_value m_codes m_clauses m_testFrom m_sumFrom m_sumTo m_letters m_stack m_readRule m_readBoy m_readMarble m_readFarm m_rule m_boy m_marble m_farm m_now m_refused m_kept m_notePlace m_noteKind m_noteIs m_toldBy m_image ++ fr) (f_M_days_J39 m_marbles m_farms m_acts m_boy m_marble m_farm m_now m_refused m_kept v1 k1) := by
  unfold f_M_days_J39
  refine h_callVi hX dX11_days_39 (cv_RX11_354) rc_M0 (As := [.int k1]) (st := []) (fun _ h => c_M_isRefused h) rfl rfl (by decide) (Nat.le_of_ble_eq_true rfl) (fun a_3 => ?_)
  refine h_if_eq hX dX11_days_42 (tgt := 47) (by decide) (fun _ => ?_) (fun _ => ?_)
  · refine h_iconst hX dX11_days_47 ki_0 ?_
    refine h_istore_n hX dX11_days_48 rfl (by decide) (lv' := [(0, .ref (aM B 0)), (1, .int v1), (2, .int 0)]) rfl ?_
    exact gH.loop (lvf := fun z : (Int32 × Int32 × (Nat → Int32) × (Nat → Int32)) => [(0, .ref (aM B 0)), (1, .int v1), (2, .int z.1)]) (wf := fun z : (Int32 × Int32 × (Nat → Int32) × (Nat → Int32)) => wdM B m_thrown m_size m_at m_wrong m_deep m_laws m_text m_readBoys m_readMarbles m_readFarms m_boys m_marbles m_farms m_holding m_spills z.2.1 m_draws m_bestRow m_bestMany m_noted m_hasImage m_tape m_code m_value m_codes m_clauses m_testFrom m_sumFrom m_sumTo m_letters m_stack m_readRule m_readBoy m_readMarble m_readFarm m_rule m_boy m_marble m_farm z.2.2.1 a_3.2 z.2.2.2 m_notePlace m_noteKind m_noteIs m_toldBy m_image ++ fr) (fun z => w_M_days_L49 hX z) (0, m_acts, m_now, m_kept)
  · refine h_iconst hX dX11_days_45 ki_m1 ?_
    exact h_ret hX (rv := some (.int ((-1)))) dX11_days_46 trivial (fun h => h)
set_option maxRecDepth 4000 in
theorem w_M_days {p0 : Int32} (hX : gOk B X RX11 cX11_days 3 7 (some .int)) : gH B X (fun r : (Int32 × Int32 × (Nat → Int32) × (Nat → Int32) × (Nat → Int32)) => gFin X (some (.int r.1)) (wdM B m_thrown m_size m_at m_wrong m_deep m_laws m_text m_readBoys m_readMarbles m_readFarms m_boys m_marbles m_farms m_holding m_spills r.2.1 m_draws m_bestRow m_bestMany m_noted m_hasImage m_tape m_code m_value m_codes m_clauses m_testFrom m_sumFrom m_sumTo m_letters m_stack m_readRule m_readBoy m_readMarble m_readFarm m_rule m_boy m_marble m_farm r.2.2.1 r.2.2.2.1 r.2.2.2.2 m_notePlace m_noteKind m_noteIs m_toldBy m_image ++ fr)) 0 [(0, .ref (aM B 0)), (1, .int p0)] [] (wdM B m_thrown m_size m_at m_wrong m_deep m_laws m_text m_readBoys m_readMarbles m_readFarms m_boys m_marbles m_farms m_holding m_spills m_acts m_draws m_bestRow m_bestMany m_noted m_hasImage m_tape m_code m_value m_codes m_clauses m_testFrom m_sumFrom m_sumTo m_letters m_stack m_readRule m_readBoy m_readMarble m_readFarm m_rule m_boy m_marble m_farm m_now m_refused m_kept m_notePlace m_noteKind m_noteIs m_toldBy m_image ++ fr) (f_M_days m_marbles m_farms m_acts m_boy m_marble m_farm m_now m_refused m_kept p0) := by
  unfold f_M_days
  refine h_aload_n hX dX11_days_0 rfl rfl ?_
  refine h_aload_n hX dX11_days_1 rfl rfl ?_
  refine get_RX11_261_M0 hX dX11_days_2 ?_
  refine h_if_ne hX dX11_days_5 (tgt := 12) (by decide) (fun _ => ?_) (fun _ => ?_)
  · refine h_iload_n hX dX11_days_12 rfl rfl ?_
    refine h_iconst hX dX11_days_13 ki_1 ?_
    refine h_bipush hX dX11_days_14 kb_60 ?_
    refine h_callSi hX dX11_days_16 (cs_RX11_208) (As := [.int p0, .int 1, .int 60]) (st := [.ref (aM B 0)]) (fun _ h => c_M_in h) rfl rfl (by decide) (Nat.le_of_ble_eq_true rfl) (fun a_1 => ?_)
    refine h_if_ne hX dX11_days_19 (tgt := 26) (by decide) (fun _ => ?_) (fun _ => ?_)
    · refine h_aload_n hX dX11_days_26 rfl rfl ?_
      refine h_iload_n hX dX11_days_27 rfl rfl ?_
      refine h_callVi hX dX11_days_28 (cv_RX11_375) rc_M0 (As := [.int p0]) (st := [.ref (aM B 0)]) (fun _ h => c_M_areDays h) rfl rfl (by decide) (Nat.le_of_ble_eq_true rfl) (fun a_2 => ?_)
      refine h_if_ne hX dX11_days_31 (tgt := 38) (by decide) (fun _ => ?_) (fun _ => ?_)
      · refine h_iconst hX dX11_days_38 ki_m1 ?_
        exact w_M_days_J39 hX
      · refine h_iconst hX dX11_days_34 ki_4 ?_
        refine h_goto hX dX11_days_35 (tgt := 39) (by decide) ?_
        exact w_M_days_J39 hX
    · refine h_iconst hX dX11_days_22 ki_1 ?_
      refine h_goto hX dX11_days_23 (tgt := 39) (by decide) ?_
      exact w_M_days_J39 hX
  · refine h_iconst hX dX11_days_8 ki_0 ?_
    refine h_goto hX dX11_days_9 (tgt := 39) (by decide) ?_
    exact w_M_days_J39 hX
theorem c_M_days {p0 : Int32} {r : (Int32 × Int32 × (Nat → Int32) × (Nat → Int32) × (Nat → Int32))} (h : f_M_days m_marbles m_farms m_acts m_boy m_marble m_farm m_now m_refused m_kept p0 = some r) : gMet B 7 yX11_days cX11_days 3 (some .int) [.ref (aM B 0), .int p0] (wdM B m_thrown m_size m_at m_wrong m_deep m_laws m_text m_readBoys m_readMarbles m_readFarms m_boys m_marbles m_farms m_holding m_spills m_acts m_draws m_bestRow m_bestMany m_noted m_hasImage m_tape m_code m_value m_codes m_clauses m_testFrom m_sumFrom m_sumTo m_letters m_stack m_readRule m_readBoy m_readMarble m_readFarm m_rule m_boy m_marble m_farm m_now m_refused m_kept m_notePlace m_noteKind m_noteIs m_toldBy m_image ++ fr) (some (.int r.1)) (wdM B m_thrown m_size m_at m_wrong m_deep m_laws m_text m_readBoys m_readMarbles m_readFarms m_boys m_marbles m_farms m_holding m_spills r.2.1 m_draws m_bestRow m_bestMany m_noted m_hasImage m_tape m_code m_value m_codes m_clauses m_testFrom m_sumFrom m_sumTo m_letters m_stack m_readRule m_readBoy m_readMarble m_readFarm m_rule m_boy m_marble m_farm r.2.2.1 r.2.2.2.1 r.2.2.2.2 m_notePlace m_noteKind m_noteIs m_toldBy m_image ++ fr) :=
  gMet.of rfl (Nat.le_of_ble_eq_true rfl) (fun X hX hF => w_M_days hX r h hF)
set_option maxRecDepth 4000 in
theorem w_M_draw {p0 : Int32} (hX : gOk B X RX11 cX11_draw 2 0 (some .int)) : gH B X (fun r : (Int32 × Int64) => gFin X (some (.int r.1)) (wdM B m_thrown m_size m_at m_wrong m_deep m_laws m_text m_readBoys m_readMarbles m_readFarms m_boys m_marbles m_farms m_holding m_spills m_acts r.2 m_bestRow m_bestMany m_noted m_hasImage m_tape m_code m_value m_codes m_clauses m_testFrom m_sumFrom m_sumTo m_letters m_stack m_readRule m_readBoy m_readMarble m_readFarm m_rule m_boy m_marble m_farm m_now m_refused m_kept m_notePlace m_noteKind m_noteIs m_toldBy m_image ++ fr)) 0 [(0, .ref (aM B 0)), (1, .int p0)] [] (wdM B m_thrown m_size m_at m_wrong m_deep m_laws m_text m_readBoys m_readMarbles m_readFarms m_boys m_marbles m_farms m_holding m_spills m_acts m_draws m_bestRow m_bestMany m_noted m_hasImage m_tape m_code m_value m_codes m_clauses m_testFrom m_sumFrom m_sumTo m_letters m_stack m_readRule m_readBoy m_readMarble m_readFarm m_rule m_boy m_marble m_farm m_now m_refused m_kept m_notePlace m_noteKind m_noteIs m_toldBy m_image ++ fr) (f_M_draw m_draws p0) := by
  unfold f_M_draw
  refine h_aload_n hX dX11_draw_0 rfl rfl ?_
  refine h_aload_n hX dX11_draw_1 rfl rfl ?_
  refine get_RX11_384_M0 hX dX11_draw_2 ?_
  refine h_ldc2 hX dX11_draw_5 cstl_RX11_388 ?_
  refine h_lmul hX dX11_draw_8 ?_
  refine h_ldc2 hX dX11_draw_9 cstl_RX11_390 ?_
  refine h_ladd hX dX11_draw_12 ?_
  refine put_RX11_384_M0 hX dX11_draw_13 ?_
  refine gH.letw (w := fun y => wdM B m_thrown m_size m_at m_wrong m_deep m_laws m_text m_readBoys m_readMarbles m_readFarms m_boys m_marbles m_farms m_holding m_spills m_acts y m_bestRow m_bestMany m_noted m_hasImage m_tape m_code m_value m_codes m_clauses m_testFrom m_sumFrom m_sumTo m_letters m_stack m_readRule m_readBoy m_readMarble m_readFarm m_rule m_boy m_marble m_farm m_now m_refused m_kept m_notePlace m_noteKind m_noteIs m_toldBy m_image ++ fr) (fun m_draws_1 => ?_)
  refine h_aload_n hX dX11_draw_16 rfl rfl ?_
  refine get_RX11_384_M0 hX dX11_draw_17 ?_
  refine h_bipush hX dX11_draw_20 kb_33 ?_
  refine h_lushr hX dX11_draw_22 ?_
  refine h_iload_n hX dX11_draw_23 rfl rfl ?_
  refine h_i2l hX dX11_draw_24 ?_
  refine h_lremz hX dX11_draw_25 ?_
  refine h_l2i hX dX11_draw_26 ?_
  exact h_ret hX (rv := some (.int ((((m_draws_1.toUInt64 >>> ((33 : Int32).toInt64.toUInt64 &&& Int64.toUInt64 63)).toInt64) - ((m_draws_1.toUInt64 >>> ((33 : Int32).toInt64.toUInt64 &&& Int64.toUInt64 63)).toInt64) / ((p0 : Int32).toInt64) * ((p0 : Int32).toInt64) : Int64).toInt32))) dX11_draw_27 trivial (fun h => h)
theorem c_M_draw {p0 : Int32} {r : (Int32 × Int64)} (h : f_M_draw m_draws p0 = some r) : gMet B 0 yX11_draw cX11_draw 2 (some .int) [.ref (aM B 0), .int p0] (wdM B m_thrown m_size m_at m_wrong m_deep m_laws m_text m_readBoys m_readMarbles m_readFarms m_boys m_marbles m_farms m_holding m_spills m_acts m_draws m_bestRow m_bestMany m_noted m_hasImage m_tape m_code m_value m_codes m_clauses m_testFrom m_sumFrom m_sumTo m_letters m_stack m_readRule m_readBoy m_readMarble m_readFarm m_rule m_boy m_marble m_farm m_now m_refused m_kept m_notePlace m_noteKind m_noteIs m_toldBy m_image ++ fr) (some (.int r.1)) (wdM B m_thrown m_size m_at m_wrong m_deep m_laws m_text m_readBoys m_readMarbles m_readFarms m_boys m_marbles m_farms m_holding m_spills m_acts r.2 m_bestRow m_bestMany m_noted m_hasImage m_tape m_code m_value m_codes m_clauses m_testFrom m_sumFrom m_sumTo m_letters m_stack m_readRule m_readBoy m_readMarble m_readFarm m_rule m_boy m_marble m_farm m_now m_refused m_kept m_notePlace m_noteKind m_noteIs m_toldBy m_image ++ fr) :=
  gMet.of rfl (Nat.le_of_ble_eq_true rfl) (fun X hX hF => w_M_draw hX r h hF)
set_option maxRecDepth 4000 in
theorem w_M_whyNot {p0 : Int32} {p1 : Int32} (hX : gOk B X RX11 cX11_whyNot 3 2 (some .int)) : gH B X (fun r : Int32 => gFin X (some (.int r)) (wdM B m_thrown m_size m_at m_wrong m_deep m_laws m_text m_readBoys m_readMarbles m_readFarms m_boys m_marbles m_farms m_holding m_spills m_acts m_draws m_bestRow m_bestMany m_noted m_hasImage m_tape m_code m_value m_codes m_clauses m_testFrom m_sumFrom m_sumTo m_letters m_stack m_readRule m_readBoy m_readMarble m_readFarm m_rule m_boy m_marble m_farm m_now m_refused m_kept m_notePlace m_noteKind m_noteIs m_toldBy m_image ++ fr)) 0 [(0, .ref (aM B 0)), (1, .int p0), (2, .int p1)] [] (wdM B m_thrown m_size m_at m_wrong m_deep m_laws m_text m_readBoys m_readMarbles m_readFarms m_boys m_marbles m_farms m_holding m_spills m_acts m_draws m_bestRow m_bestMany m_noted m_hasImage m_tape m_code m_value m_codes m_clauses m_testFrom m_sumFrom m_sumTo m_letters m_stack m_readRule m_readBoy m_readMarble m_readFarm m_rule m_boy m_marble m_farm m_now m_refused m_kept m_notePlace m_noteKind m_noteIs m_toldBy m_image ++ fr) (f_M_whyNot m_marbles m_now p0 p1) := by
  unfold f_M_whyNot
  refine h_aload_n hX dX11_whyNot_0 rfl rfl ?_
  refine h_iload_n hX dX11_whyNot_1 rfl rfl ?_
  refine h_callVi hX dX11_whyNot_2 (cv_RX11_328) rc_M0 (As := [.int p0]) (st := []) (fun _ h => c_M_isMarble h) rfl rfl (by decide) (Nat.le_of_ble_eq_true rfl) (fun a_1 => ?_)
  refine h_if_eq hX dX11_whyNot_5 (tgt := 16) (by decide) (fun _ => ?_) (fun _ => ?_)
  · refine h_iconst hX dX11_whyNot_16 ki_0 ?_
    exact h_ret hX (rv := some (.int 0)) dX11_whyNot_17 trivial (fun h => h)
  · refine h_aload_n hX dX11_whyNot_8 rfl rfl ?_
    refine h_iload_n hX dX11_whyNot_9 rfl rfl ?_
    refine h_callVi hX dX11_whyNot_10 (cv_RX11_328) rc_M0 (As := [.int p1]) (st := []) (fun _ h => c_M_isMarble h) rfl rfl (by decide) (Nat.le_of_ble_eq_true rfl) (fun a_2 => ?_)
    refine h_if_ne hX dX11_whyNot_13 (tgt := 18) (by decide) (fun _ => ?_) (fun _ => ?_)
    · refine h_iload_n hX dX11_whyNot_18 rfl rfl ?_
      refine h_iload_n hX dX11_whyNot_19 rfl rfl ?_
      refine h_icmp_ne hX dX11_whyNot_20 (tgt := 27) (by decide) (fun _ => ?_) (fun _ => ?_)
      · refine h_aload_n hX dX11_whyNot_27 rfl rfl ?_
        refine h_iload_n hX dX11_whyNot_28 rfl rfl ?_
        refine h_callVi hX dX11_whyNot_29 (cv_RX11_332) rc_M0 (As := [.int p0]) (st := []) (fun _ h => c_M_isLoose h) rfl rfl (by decide) (Nat.le_of_ble_eq_true rfl) (fun a_3 => ?_)
        refine h_if_eq hX dX11_whyNot_32 (tgt := 62) (by decide) (fun _ => ?_) (fun _ => ?_)
        · refine h_iconst hX dX11_whyNot_62 ki_2 ?_
          refine h_goto hX dX11_whyNot_63 (tgt := 67) (by decide) ?_
          exact h_ret hX (rv := some (.int 2)) dX11_whyNot_67 trivial (fun h => h)
        · refine h_aload_n hX dX11_whyNot_35 rfl rfl ?_
          refine h_iload_n hX dX11_whyNot_36 rfl rfl ?_
          refine h_callVi hX dX11_whyNot_37 (cv_RX11_332) rc_M0 (As := [.int p1]) (st := []) (fun _ h => c_M_isLoose h) rfl rfl (by decide) (Nat.le_of_ble_eq_true rfl) (fun a_4 => ?_)
          refine h_if_eq hX dX11_whyNot_40 (tgt := 62) (by decide) (fun _ => ?_) (fun _ => ?_)
          · refine h_iconst hX dX11_whyNot_62 ki_2 ?_
            refine h_goto hX dX11_whyNot_63 (tgt := 67) (by decide) ?_
            exact h_ret hX (rv := some (.int 2)) dX11_whyNot_67 trivial (fun h => h)
          · refine h_aload_n hX dX11_whyNot_43 rfl rfl ?_
            refine get_RX11_64_M0 hX dX11_whyNot_44 ?_
            refine h_iconst hX dX11_whyNot_47 ki_0 ?_
            refine h_iload_n hX dX11_whyNot_48 rfl rfl ?_
            refine h_iadd hX dX11_whyNot_49 ?_
            refine ald_M19 hX dX11_whyNot_50 ?_
            refine h_aload_n hX dX11_whyNot_51 rfl rfl ?_
            refine get_RX11_64_M0 hX dX11_whyNot_52 ?_
            refine h_iconst hX dX11_whyNot_55 ki_0 ?_
            refine h_iload_n hX dX11_whyNot_56 rfl rfl ?_
            refine h_iadd hX dX11_whyNot_57 ?_
            refine ald_M19 hX dX11_whyNot_58 ?_
            refine h_icmp_ne hX dX11_whyNot_59 (tgt := 66) (by decide) (fun _ => ?_) (fun _ => ?_)
            · refine h_iconst hX dX11_whyNot_66 ki_m1 ?_
              exact h_ret hX (rv := some (.int ((-1)))) dX11_whyNot_67 trivial (fun h => h)
            · refine h_iconst hX dX11_whyNot_62 ki_2 ?_
              refine h_goto hX dX11_whyNot_63 (tgt := 67) (by decide) ?_
              exact h_ret hX (rv := some (.int 2)) dX11_whyNot_67 trivial (fun h => h)
      · refine h_iconst hX dX11_whyNot_23 ki_1 ?_
        refine h_goto hX dX11_whyNot_24 (tgt := 67) (by decide) ?_
        exact h_ret hX (rv := some (.int 1)) dX11_whyNot_67 trivial (fun h => h)
    · refine h_iconst hX dX11_whyNot_16 ki_0 ?_
      exact h_ret hX (rv := some (.int 0)) dX11_whyNot_17 trivial (fun h => h)
theorem c_M_whyNot {p0 : Int32} {p1 : Int32} {r : Int32} (h : f_M_whyNot m_marbles m_now p0 p1 = some r) : gMet B 2 yX11_whyNot cX11_whyNot 3 (some .int) [.ref (aM B 0), .int p0, .int p1] (wdM B m_thrown m_size m_at m_wrong m_deep m_laws m_text m_readBoys m_readMarbles m_readFarms m_boys m_marbles m_farms m_holding m_spills m_acts m_draws m_bestRow m_bestMany m_noted m_hasImage m_tape m_code m_value m_codes m_clauses m_testFrom m_sumFrom m_sumTo m_letters m_stack m_readRule m_readBoy m_readMarble m_readFarm m_rule m_boy m_marble m_farm m_now m_refused m_kept m_notePlace m_noteKind m_noteIs m_toldBy m_image ++ fr) (some (.int r)) (wdM B m_thrown m_size m_at m_wrong m_deep m_laws m_text m_readBoys m_readMarbles m_readFarms m_boys m_marbles m_farms m_holding m_spills m_acts m_draws m_bestRow m_bestMany m_noted m_hasImage m_tape m_code m_value m_codes m_clauses m_testFrom m_sumFrom m_sumTo m_letters m_stack m_readRule m_readBoy m_readMarble m_readFarm m_rule m_boy m_marble m_farm m_now m_refused m_kept m_notePlace m_noteKind m_noteIs m_toldBy m_image ++ fr) :=
  gMet.of rfl (Nat.le_of_ble_eq_true rfl) (fun X hX hF => w_M_whyNot hX r h hF)
set_option maxRecDepth 4000 in
theorem w_M_winner {p0 : Int32} {p1 : Int32} (hX : gOk B X RX11 cX11_winner 3 2 (some .int)) : gH B X (fun r : Int32 => gFin X (some (.int r)) (wdM B m_thrown m_size m_at m_wrong m_deep m_laws m_text m_readBoys m_readMarbles m_readFarms m_boys m_marbles m_farms m_holding m_spills m_acts m_draws m_bestRow m_bestMany m_noted m_hasImage m_tape m_code m_value m_codes m_clauses m_testFrom m_sumFrom m_sumTo m_letters m_stack m_readRule m_readBoy m_readMarble m_readFarm m_rule m_boy m_marble m_farm m_now m_refused m_kept m_notePlace m_noteKind m_noteIs m_toldBy m_image ++ fr)) 0 [(0, .ref (aM B 0)), (1, .int p0), (2, .int p1)] [] (wdM B m_thrown m_size m_at m_wrong m_deep m_laws m_text m_readBoys m_readMarbles m_readFarms m_boys m_marbles m_farms m_holding m_spills m_acts m_draws m_bestRow m_bestMany m_noted m_hasImage m_tape m_code m_value m_codes m_clauses m_testFrom m_sumFrom m_sumTo m_letters m_stack m_readRule m_readBoy m_readMarble m_readFarm m_rule m_boy m_marble m_farm m_now m_refused m_kept m_notePlace m_noteKind m_noteIs m_toldBy m_image ++ fr) (f_M_winner m_rule p0 p1) := by
  unfold f_M_winner
  refine h_aload_n hX dX11_winner_0 rfl rfl ?_
  refine h_iload_n hX dX11_winner_1 rfl rfl ?_
  refine h_callVi hX dX11_winner_2 (cv_RX11_304) rc_M0 (As := [.int p0]) (st := []) (fun _ h => c_M_isDrain h) rfl rfl (by decide) (Nat.le_of_ble_eq_true rfl) (fun a_1 => ?_)
  refine h_if_ne hX dX11_winner_5 (tgt := 29) (by decide) (fun _ => ?_) (fun _ => ?_)
  · refine h_iconst hX dX11_winner_29 ki_0 ?_
    exact h_ret hX (rv := some (.int 0)) dX11_winner_30 trivial (fun h => h)
  · refine h_aload_n hX dX11_winner_8 rfl rfl ?_
    refine h_iload_n hX dX11_winner_9 rfl rfl ?_
    refine h_callVi hX dX11_winner_10 (cv_RX11_304) rc_M0 (As := [.int p1]) (st := []) (fun _ h => c_M_isDrain h) rfl rfl (by decide) (Nat.le_of_ble_eq_true rfl) (fun a_2 => ?_)
    refine h_if_ne hX dX11_winner_13 (tgt := 29) (by decide) (fun _ => ?_) (fun _ => ?_)
    · refine h_iconst hX dX11_winner_29 ki_0 ?_
      exact h_ret hX (rv := some (.int 0)) dX11_winner_30 trivial (fun h => h)
    · refine h_aload_n hX dX11_winner_16 rfl rfl ?_
      refine h_iload_n hX dX11_winner_17 rfl rfl ?_
      refine h_callVi hX dX11_winner_18 (cv_RX11_307) rc_M0 (As := [.int p0]) (st := []) (fun _ h => c_M_offHole h) rfl rfl (by decide) (Nat.le_of_ble_eq_true rfl) (fun a_3 => ?_)
      refine h_aload_n hX dX11_winner_21 rfl rfl ?_
      refine h_iload_n hX dX11_winner_22 rfl rfl ?_
      refine h_callVi hX dX11_winner_23 (cv_RX11_307) rc_M0 (As := [.int p1]) (st := [.int a_3]) (fun _ h => c_M_offHole h) rfl rfl (by decide) (Nat.le_of_ble_eq_true rfl) (fun a_4 => ?_)
      refine h_icmp_ne hX dX11_winner_26 (tgt := 31) (by decide) (fun _ => ?_) (fun _ => ?_)
      · refine h_aload_n hX dX11_winner_31 rfl rfl ?_
        refine h_iload_n hX dX11_winner_32 rfl rfl ?_
        refine h_callVi hX dX11_winner_33 (cv_RX11_307) rc_M0 (As := [.int p0]) (st := []) (fun _ h => c_M_offHole h) rfl rfl (by decide) (Nat.le_of_ble_eq_true rfl) (fun a_5 => ?_)
        refine h_aload_n hX dX11_winner_36 rfl rfl ?_
        refine h_iload_n hX dX11_winner_37 rfl rfl ?_
        refine h_callVi hX dX11_winner_38 (cv_RX11_307) rc_M0 (As := [.int p1]) (st := [.int a_5]) (fun _ h => c_M_offHole h) rfl rfl (by decide) (Nat.le_of_ble_eq_true rfl) (fun a_6 => ?_)
        refine h_icmp_ge hX dX11_winner_41 (tgt := 48) (by decide) (fun _ => ?_) (fun _ => ?_)
        · refine h_iconst hX dX11_winner_48 ki_2 ?_
          exact h_ret hX (rv := some (.int 2)) dX11_winner_49 trivial (fun h => h)
        · refine h_iconst hX dX11_winner_44 ki_1 ?_
          refine h_goto hX dX11_winner_45 (tgt := 49) (by decide) ?_
          exact h_ret hX (rv := some (.int 1)) dX11_winner_49 trivial (fun h => h)
      · refine h_iconst hX dX11_winner_29 ki_0 ?_
        exact h_ret hX (rv := some (.int 0)) dX11_winner_30 trivial (fun h => h)
theorem c_M_winner {p0 : Int32} {p1 : Int32} {r : Int32} (h : f_M_winner m_rule p0 p1 = some r) : gMet B 2 yX11_winner cX11_winner 3 (some .int) [.ref (aM B 0), .int p0, .int p1] (wdM B m_thrown m_size m_at m_wrong m_deep m_laws m_text m_readBoys m_readMarbles m_readFarms m_boys m_marbles m_farms m_holding m_spills m_acts m_draws m_bestRow m_bestMany m_noted m_hasImage m_tape m_code m_value m_codes m_clauses m_testFrom m_sumFrom m_sumTo m_letters m_stack m_readRule m_readBoy m_readMarble m_readFarm m_rule m_boy m_marble m_farm m_now m_refused m_kept m_notePlace m_noteKind m_noteIs m_toldBy m_image ++ fr) (some (.int r)) (wdM B m_thrown m_size m_at m_wrong m_deep m_laws m_text m_readBoys m_readMarbles m_readFarms m_boys m_marbles m_farms m_holding m_spills m_acts m_draws m_bestRow m_bestMany m_noted m_hasImage m_tape m_code m_value m_codes m_clauses m_testFrom m_sumFrom m_sumTo m_letters m_stack m_readRule m_readBoy m_readMarble m_readFarm m_rule m_boy m_marble m_farm m_now m_refused m_kept m_notePlace m_noteKind m_noteIs m_toldBy m_image ++ fr) :=
  gMet.of rfl (Nat.le_of_ble_eq_true rfl) (fun X hX hF => w_M_winner hX r h hF)
set_option maxRecDepth 4000 in
theorem w_M_playNow_J128 {v7 : Int32} {k1 : Int32} {k2 : Int32} (hX : gOk B X RX11 cX11_playNow 8 7 (some .int)) : gH B X (fun r : (Int32 × (Nat → Int32) × (Nat → Int32) × (Nat → Int32)) => gFin X (some (.int r.1)) (wdM B m_thrown m_size m_at m_wrong m_deep m_laws m_text m_readBoys m_readMarbles m_readFarms m_boys m_marbles m_farms m_holding m_spills m_acts m_draws m_bestRow m_bestMany m_noted m_hasImage m_tape m_code m_value m_codes m_clauses m_testFrom m_sumFrom m_sumTo r.2.1 r.2.2.1 m_readRule m_readBoy m_readMarble m_readFarm m_rule m_boy m_marble m_farm r.2.2.2 m_refused m_kept m_notePlace m_noteKind m_noteIs m_toldBy m_image ++ fr)) 128 [(7, .int v7)] [.int k2, .int k1, .ref (aM B 19)] (wdM B m_thrown m_size m_at m_wrong m_deep m_laws m_text m_readBoys m_readMarbles m_readFarms m_boys m_marbles m_farms m_holding m_spills m_acts m_draws m_bestRow m_bestMany m_noted m_hasImage m_tape m_code m_value m_codes m_clauses m_testFrom m_sumFrom m_sumTo m_letters m_stack m_readRule m_readBoy m_readMarble m_readFarm m_rule m_boy m_marble m_farm m_now m_refused m_kept m_notePlace m_noteKind m_noteIs m_toldBy m_image ++ fr) (f_M_playNow_J128 m_letters m_stack m_now v7 k1 k2) := by
  unfold f_M_playNow_J128
  refine ast_M19 hX dX11_playNow_128 ?_
  refine gH.letw (w := fun y => wdM B m_thrown m_size m_at m_wrong m_deep m_laws m_text m_readBoys m_readMarbles m_readFarms m_boys m_marbles m_farms m_holding m_spills m_acts m_draws m_bestRow m_bestMany m_noted m_hasImage m_tape m_code m_value m_codes m_clauses m_testFrom m_sumFrom m_sumTo m_letters m_stack m_readRule m_readBoy m_readMarble m_readFarm m_rule m_boy m_marble m_farm y m_refused m_kept m_notePlace m_noteKind m_noteIs m_toldBy m_image ++ fr) (fun m_now_7 => ?_)
  refine h_iload hX dX11_playNow_129 rfl ?_
  exact h_ret hX (rv := some (.int v7)) dX11_playNow_131 trivial (fun h => h)
set_option maxRecDepth 4000 in
theorem w_M_playNow_J99 {v3 : Int32} {v6 : Int32} {v7 : Int32} {k1 : Int32} {k2 : Int32} (hX : gOk B X RX11 cX11_playNow 8 7 (some .int)) : gH B X (fun r : (Int32 × (Nat → Int32) × (Nat → Int32) × (Nat → Int32)) => gFin X (some (.int r.1)) (wdM B m_thrown m_size m_at m_wrong m_deep m_laws m_text m_readBoys m_readMarbles m_readFarms m_boys m_marbles m_farms m_holding m_spills m_acts m_draws m_bestRow m_bestMany m_noted m_hasImage m_tape m_code m_value m_codes m_clauses m_testFrom m_sumFrom m_sumTo r.2.1 r.2.2.1 m_readRule m_readBoy m_readMarble m_readFarm m_rule m_boy m_marble m_farm r.2.2.2 m_refused m_kept m_notePlace m_noteKind m_noteIs m_toldBy m_image ++ fr)) 99 [(0, .ref (aM B 0)), (3, .int v3), (6, .int v6), (7, .int v7)] [.int k2, .int k1, .ref (aM B 19)] (wdM B m_thrown m_size m_at m_wrong m_deep m_laws m_text m_readBoys m_readMarbles m_readFarms m_boys m_marbles m_farms m_holding m_spills m_acts m_draws m_bestRow m_bestMany m_noted m_hasImage m_tape m_code m_value m_codes m_clauses m_testFrom m_sumFrom m_sumTo m_letters m_stack m_readRule m_readBoy m_readMarble m_readFarm m_rule m_boy m_marble m_farm m_now m_refused m_kept m_notePlace m_noteKind m_noteIs m_toldBy m_image ++ fr) (f_M_playNow_J99 m_letters m_stack m_rule m_now v3 v6 v7 k1 k2) := by
  unfold f_M_playNow_J99
  refine ast_M19 hX dX11_playNow_99 ?_
  refine gH.letw (w := fun y => wdM B m_thrown m_size m_at m_wrong m_deep m_laws m_text m_readBoys m_readMarbles m_readFarms m_boys m_marbles m_farms m_holding m_spills m_acts m_draws m_bestRow m_bestMany m_noted m_hasImage m_tape m_code m_value m_codes m_clauses m_testFrom m_sumFrom m_sumTo m_letters m_stack m_readRule m_readBoy m_readMarble m_readFarm m_rule m_boy m_marble m_farm y m_refused m_kept m_notePlace m_noteKind m_noteIs m_toldBy m_image ++ fr) (fun m_now_5 => ?_)
  refine h_aload_n hX dX11_playNow_100 rfl rfl ?_
  refine get_RX11_64_M0 hX dX11_playNow_101 ?_
  refine h_iconst hX dX11_playNow_104 ki_0 ?_
  refine h_iload_n hX dX11_playNow_105 rfl rfl ?_
  refine h_iadd hX dX11_playNow_106 ?_
  refine h_aload_n hX dX11_playNow_107 rfl rfl ?_
  refine h_iload hX dX11_playNow_108 rfl ?_
  refine h_callVi hX dX11_playNow_110 (cv_RX11_304) rc_M0 (As := [.int v6]) (st := [.int (0 + v3), .ref (aM B 19)]) (fun _ h => c_M_isDrain h) rfl rfl (by decide) (Nat.le_of_ble_eq_true rfl) (fun a_6 => ?_)
  refine h_if_eq hX dX11_playNow_113 (tgt := 120) (by decide) (fun _ => ?_) (fun _ => ?_)
  · refine h_aload_n hX dX11_playNow_120 rfl rfl ?_
    refine get_RX11_64_M0 hX dX11_playNow_121 ?_
    refine h_iconst hX dX11_playNow_124 ki_0 ?_
    refine h_iload_n hX dX11_playNow_125 rfl rfl ?_
    refine h_iadd hX dX11_playNow_126 ?_
    refine ald_M19 hX dX11_playNow_127 ?_
    refine gH.dead [3] rfl ?_
    exact w_M_playNow_J128 hX
  · refine h_iconst hX dX11_playNow_116 ki_m1 ?_
    refine h_goto hX dX11_playNow_117 (tgt := 128) (by decide) ?_
    refine gH.dead [3] rfl ?_
    exact w_M_playNow_J128 hX
set_option maxRecDepth 4000 in
theorem w_M_playNow_J71 {v1 : Int32} {v3 : Int32} {v5 : Int32} {v6 : Int32} {v7 : Int32} (hX : gOk B X RX11 cX11_playNow 8 7 (some .int)) : gH B X (fun r : (Int32 × (Nat → Int32) × (Nat → Int32) × (Nat → Int32)) => gFin X (some (.int r.1)) (wdM B m_thrown m_size m_at m_wrong m_deep m_laws m_text m_readBoys m_readMarbles m_readFarms m_boys m_marbles m_farms m_holding m_spills m_acts m_draws m_bestRow m_bestMany m_noted m_hasImage m_tape m_code m_value m_codes m_clauses m_testFrom m_sumFrom m_sumTo r.2.1 r.2.2.1 m_readRule m_readBoy m_readMarble m_readFarm m_rule m_boy m_marble m_farm r.2.2.2 m_refused m_kept m_notePlace m_noteKind m_noteIs m_toldBy m_image ++ fr)) 71 [(0, .ref (aM B 0)), (1, .int v1), (3, .int v3), (5, .int v5), (6, .int v6), (7, .int v7)] [] (wdM B m_thrown m_size m_at m_wrong m_deep m_laws m_text m_readBoys m_readMarbles m_readFarms m_boys m_marbles m_farms m_holding m_spills m_acts m_draws m_bestRow m_bestMany m_noted m_hasImage m_tape m_code m_value m_codes m_clauses m_testFrom m_sumFrom m_sumTo m_letters m_stack m_readRule m_readBoy m_readMarble m_readFarm m_rule m_boy m_marble m_farm m_now m_refused m_kept m_notePlace m_noteKind m_noteIs m_toldBy m_image ++ fr) (f_M_playNow_J71 m_letters m_stack m_rule m_now v1 v3 v5 v6 v7) := by
  unfold f_M_playNow_J71
  refine h_aload_n hX dX11_playNow_71 rfl rfl ?_
  refine get_RX11_64_M0 hX dX11_playNow_72 ?_
  refine h_iconst hX dX11_playNow_75 ki_0 ?_
  refine h_iload_n hX dX11_playNow_76 rfl rfl ?_
  refine h_iadd hX dX11_playNow_77 ?_
  refine h_aload_n hX dX11_playNow_78 rfl rfl ?_
  refine h_iload hX dX11_playNow_79 rfl ?_
  refine h_callVi hX dX11_playNow_81 (cv_RX11_304) rc_M0 (As := [.int v5]) (st := [.int (0 + v1), .ref (aM B 19)]) (fun _ h => c_M_isDrain h) rfl rfl (by decide) (Nat.le_of_ble_eq_true rfl) (fun a_4 => ?_)
  refine h_if_eq hX dX11_playNow_84 (tgt := 91) (by decide) (fun _ => ?_) (fun _ => ?_)
  · refine h_aload_n hX dX11_playNow_91 rfl rfl ?_
    refine get_RX11_64_M0 hX dX11_playNow_92 ?_
    refine h_iconst hX dX11_playNow_95 ki_0 ?_
    refine h_iload_n hX dX11_playNow_96 rfl rfl ?_
    refine h_iadd hX dX11_playNow_97 ?_
    refine ald_M19 hX dX11_playNow_98 ?_
    refine gH.dead [0, 2, 4, 5] rfl ?_
    exact w_M_playNow_J99 hX
  · refine h_iconst hX dX11_playNow_87 ki_m1 ?_
    refine h_goto hX dX11_playNow_88 (tgt := 99) (by decide) ?_
    refine gH.dead [0, 2, 4, 5] rfl ?_
    exact w_M_playNow_J99 hX
set_option maxRecDepth 4000 in
theorem w_M_playNow_J49 {v1 : Int32} {v3 : Int32} {v5 : Int32} {v6 : Int32} {v7 : Int32} (hX : gOk B X RX11 cX11_playNow 8 7 (some .int)) : gH B X (fun r : (Int32 × (Nat → Int32) × (Nat → Int32) × (Nat → Int32)) => gFin X (some (.int r.1)) (wdM B m_thrown m_size m_at m_wrong m_deep m_laws m_text m_readBoys m_readMarbles m_readFarms m_boys m_marbles m_farms m_holding m_spills m_acts m_draws m_bestRow m_bestMany m_noted m_hasImage m_tape m_code m_value m_codes m_clauses m_testFrom m_sumFrom m_sumTo r.2.1 r.2.2.1 m_readRule m_readBoy m_readMarble m_readFarm m_rule m_boy m_marble m_farm r.2.2.2 m_refused m_kept m_notePlace m_noteKind m_noteIs m_toldBy m_image ++ fr)) 49 [(0, .ref (aM B 0)), (1, .int v1), (3, .int v3), (5, .int v5), (6, .int v6), (7, .int v7)] [] (wdM B m_thrown m_size m_at m_wrong m_deep m_laws m_text m_readBoys m_readMarbles m_readFarms m_boys m_marbles m_farms m_holding m_spills m_acts m_draws m_bestRow m_bestMany m_noted m_hasImage m_tape m_code m_value m_codes m_clauses m_testFrom m_sumFrom m_sumTo m_letters m_stack m_readRule m_readBoy m_readMarble m_readFarm m_rule m_boy m_marble m_farm m_now m_refused m_kept m_notePlace m_noteKind m_noteIs m_toldBy m_image ++ fr) (f_M_playNow_J49 m_letters m_stack m_rule m_now v1 v3 v5 v6 v7) := by
  unfold f_M_playNow_J49
  refine h_iload hX dX11_playNow_49 rfl ?_
  refine h_iconst hX dX11_playNow_51 ki_2 ?_
  refine h_icmp_ne hX dX11_playNow_52 (tgt := 71) (by decide) (fun _ => ?_) (fun _ => ?_)
  · exact w_M_playNow_J71 hX
  · refine h_aload_n hX dX11_playNow_55 rfl rfl ?_
    refine get_RX11_64_M0 hX dX11_playNow_56 ?_
    refine h_iconst hX dX11_playNow_59 ki_0 ?_
    refine h_iload_n hX dX11_playNow_60 rfl rfl ?_
    refine h_iadd hX dX11_playNow_61 ?_
    refine h_aload_n hX dX11_playNow_62 rfl rfl ?_
    refine get_RX11_64_M0 hX dX11_playNow_63 ?_
    refine h_iconst hX dX11_playNow_66 ki_0 ?_
    refine h_iload_n hX dX11_playNow_67 rfl rfl ?_
    refine h_iadd hX dX11_playNow_68 ?_
    refine ald_M19 hX dX11_playNow_69 ?_
    refine ast_M19 hX dX11_playNow_70 ?_
    refine gH.letw (w := fun y => wdM B m_thrown m_size m_at m_wrong m_deep m_laws m_text m_readBoys m_readMarbles m_readFarms m_boys m_marbles m_farms m_holding m_spills m_acts m_draws m_bestRow m_bestMany m_noted m_hasImage m_tape m_code m_value m_codes m_clauses m_testFrom m_sumFrom m_sumTo m_letters m_stack m_readRule m_readBoy m_readMarble m_readFarm m_rule m_boy m_marble m_farm y m_refused m_kept m_notePlace m_noteKind m_noteIs m_toldBy m_image ++ fr) (fun m_now_8 => ?_)
    exact w_M_playNow_J71 hX
set_option maxRecDepth 4000 in
theorem w_M_playNow {p0 : Int32} {p1 : Int32} {p2 : Int32} {p3 : Int32} (hX : gOk B X RX11 cX11_playNow 8 7 (some .int)) : gH B X (fun r : (Int32 × (Nat → Int32) × (Nat → Int32) × (Nat → Int32)) => gFin X (some (.int r.1)) (wdM B m_thrown m_size m_at m_wrong m_deep m_laws m_text m_readBoys m_readMarbles m_readFarms m_boys m_marbles m_farms m_holding m_spills m_acts m_draws m_bestRow m_bestMany m_noted m_hasImage m_tape m_code m_value m_codes m_clauses m_testFrom m_sumFrom m_sumTo r.2.1 r.2.2.1 m_readRule m_readBoy m_readMarble m_readFarm m_rule m_boy m_marble m_farm r.2.2.2 m_refused m_kept m_notePlace m_noteKind m_noteIs m_toldBy m_image ++ fr)) 0 [(0, .ref (aM B 0)), (1, .int p0), (2, .int p1), (3, .int p2), (4, .int p3)] [] (wdM B m_thrown m_size m_at m_wrong m_deep m_laws m_text m_readBoys m_readMarbles m_readFarms m_boys m_marbles m_farms m_holding m_spills m_acts m_draws m_bestRow m_bestMany m_noted m_hasImage m_tape m_code m_value m_codes m_clauses m_testFrom m_sumFrom m_sumTo m_letters m_stack m_readRule m_readBoy m_readMarble m_readFarm m_rule m_boy m_marble m_farm m_now m_refused m_kept m_notePlace m_noteKind m_noteIs m_toldBy m_image ++ fr) (f_M_playNow m_marbles m_holding m_code m_value m_clauses m_testFrom m_sumFrom m_sumTo m_letters m_stack m_rule m_boy m_marble m_now p0 p1 p2 p3) := by
  unfold f_M_playNow
  refine h_aload_n hX dX11_playNow_0 rfl rfl ?_
  refine h_iload_n hX dX11_playNow_1 rfl rfl ?_
  refine h_iload_n hX dX11_playNow_2 rfl rfl ?_
  refine h_callVi hX dX11_playNow_3 (cv_RX11_344) rc_M0 (As := [.int p0, .int p1]) (st := []) (fun _ h => c_M_cellOf h) rfl rfl (by decide) (Nat.le_of_ble_eq_true rfl) (fun a_1 => ?_)
  refine h_istore hX dX11_playNow_6 (by decide) (lv' := [(0, .ref (aM B 0)), (1, .int p0), (2, .int p1), (3, .int p2), (4, .int p3), (5, .int a_1.1)]) rfl ?_
  refine h_aload_n hX dX11_playNow_8 rfl rfl ?_
  refine h_iload_n hX dX11_playNow_9 rfl rfl ?_
  refine h_iload hX dX11_playNow_10 rfl ?_
  refine h_callVi hX dX11_playNow_12 (cv_RX11_344) rc_M0 (As := [.int p2, .int p3]) (st := []) (fun _ h => c_M_cellOf h) rfl rfl (by decide) (Nat.le_of_ble_eq_true rfl) (fun a_2 => ?_)
  refine h_istore hX dX11_playNow_15 (by decide) (lv' := [(0, .ref (aM B 0)), (1, .int p0), (2, .int p1), (3, .int p2), (4, .int p3), (5, .int a_1.1), (6, .int a_2.1)]) rfl ?_
  refine h_aload_n hX dX11_playNow_17 rfl rfl ?_
  refine h_iload hX dX11_playNow_18 rfl ?_
  refine h_iload hX dX11_playNow_20 rfl ?_
  refine h_callVi hX dX11_playNow_22 (cv_RX11_347) rc_M0 (As := [.int a_1.1, .int a_2.1]) (st := []) (fun _ h => c_M_winner h) rfl rfl (by decide) (Nat.le_of_ble_eq_true rfl) (fun a_3 => ?_)
  refine h_istore hX dX11_playNow_25 (by decide) (lv' := [(0, .ref (aM B 0)), (1, .int p0), (2, .int p1), (3, .int p2), (4, .int p3), (5, .int a_1.1), (6, .int a_2.1), (7, .int a_3)]) rfl ?_
  refine h_iload hX dX11_playNow_27 rfl ?_
  refine h_iconst hX dX11_playNow_29 ki_1 ?_
  refine h_icmp_ne hX dX11_playNow_30 (tgt := 49) (by decide) (fun _ => ?_) (fun _ => ?_)
  · refine gH.dead [0, 1, 3, 5, 6, 7] rfl ?_
    exact w_M_playNow_J49 hX
  · refine h_aload_n hX dX11_playNow_33 rfl rfl ?_
    refine get_RX11_64_M0 hX dX11_playNow_34 ?_
    refine h_iconst hX dX11_playNow_37 ki_0 ?_
    refine h_iload_n hX dX11_playNow_38 rfl rfl ?_
    refine h_iadd hX dX11_playNow_39 ?_
    refine h_aload_n hX dX11_playNow_40 rfl rfl ?_
    refine get_RX11_64_M0 hX dX11_playNow_41 ?_
    refine h_iconst hX dX11_playNow_44 ki_0 ?_
    refine h_iload_n hX dX11_playNow_45 rfl rfl ?_
    refine h_iadd hX dX11_playNow_46 ?_
    refine ald_M19 hX dX11_playNow_47 ?_
    refine ast_M19 hX dX11_playNow_48 ?_
    refine gH.letw (w := fun y => wdM B m_thrown m_size m_at m_wrong m_deep m_laws m_text m_readBoys m_readMarbles m_readFarms m_boys m_marbles m_farms m_holding m_spills m_acts m_draws m_bestRow m_bestMany m_noted m_hasImage m_tape m_code m_value m_codes m_clauses m_testFrom m_sumFrom m_sumTo a_2.2.1 a_2.2.2 m_readRule m_readBoy m_readMarble m_readFarm m_rule m_boy m_marble m_farm y m_refused m_kept m_notePlace m_noteKind m_noteIs m_toldBy m_image ++ fr) (fun m_now_9 => ?_)
    refine gH.dead [0, 1, 3, 5, 6, 7] rfl ?_
    exact w_M_playNow_J49 hX
theorem c_M_playNow {p0 : Int32} {p1 : Int32} {p2 : Int32} {p3 : Int32} {r : (Int32 × (Nat → Int32) × (Nat → Int32) × (Nat → Int32))} (h : f_M_playNow m_marbles m_holding m_code m_value m_clauses m_testFrom m_sumFrom m_sumTo m_letters m_stack m_rule m_boy m_marble m_now p0 p1 p2 p3 = some r) : gMet B 7 yX11_playNow cX11_playNow 8 (some .int) [.ref (aM B 0), .int p0, .int p1, .int p2, .int p3] (wdM B m_thrown m_size m_at m_wrong m_deep m_laws m_text m_readBoys m_readMarbles m_readFarms m_boys m_marbles m_farms m_holding m_spills m_acts m_draws m_bestRow m_bestMany m_noted m_hasImage m_tape m_code m_value m_codes m_clauses m_testFrom m_sumFrom m_sumTo m_letters m_stack m_readRule m_readBoy m_readMarble m_readFarm m_rule m_boy m_marble m_farm m_now m_refused m_kept m_notePlace m_noteKind m_noteIs m_toldBy m_image ++ fr) (some (.int r.1)) (wdM B m_thrown m_size m_at m_wrong m_deep m_laws m_text m_readBoys m_readMarbles m_readFarms m_boys m_marbles m_farms m_holding m_spills m_acts m_draws m_bestRow m_bestMany m_noted m_hasImage m_tape m_code m_value m_codes m_clauses m_testFrom m_sumFrom m_sumTo r.2.1 r.2.2.1 m_readRule m_readBoy m_readMarble m_readFarm m_rule m_boy m_marble m_farm r.2.2.2 m_refused m_kept m_notePlace m_noteKind m_noteIs m_toldBy m_image ++ fr) :=
  gMet.of rfl (Nat.le_of_ble_eq_true rfl) (fun X hX hF => w_M_playNow hX r h hF)
set_option maxRecDepth 4000 in
theorem w_M_drawDay_J109 {k1 : Int32} {k2 : Int32} {k3 : Int32} (hX : gOk B X RX11 cX11_drawDay 6 8 none) : gH B X (fun r : (Int64 × (Nat → Int32) × (Nat → Int32) × (Nat → Int32)) => gFin X (none) (wdM B m_thrown m_size m_at m_wrong m_deep m_laws m_text m_readBoys m_readMarbles m_readFarms m_boys m_marbles m_farms m_holding m_spills m_acts r.1 m_bestRow m_bestMany m_noted m_hasImage m_tape m_code m_value m_codes m_clauses m_testFrom m_sumFrom m_sumTo r.2.1 r.2.2.1 m_readRule m_readBoy m_readMarble m_readFarm m_rule m_boy m_marble m_farm r.2.2.2 m_refused m_kept m_notePlace m_noteKind m_noteIs m_toldBy m_image ++ fr)) 109 [] [.int k3, .int k2, .int k1, .ref (aM B 19)] (wdM B m_thrown m_size m_at m_wrong m_deep m_laws m_text m_readBoys m_readMarbles m_readFarms m_boys m_marbles m_farms m_holding m_spills m_acts m_draws m_bestRow m_bestMany m_noted m_hasImage m_tape m_code m_value m_codes m_clauses m_testFrom m_sumFrom m_sumTo m_letters m_stack m_readRule m_readBoy m_readMarble m_readFarm m_rule m_boy m_marble m_farm m_now m_refused m_kept m_notePlace m_noteKind m_noteIs m_toldBy m_image ++ fr) (f_M_drawDay_J109 m_draws m_letters m_stack m_now k1 k2 k3) := by
  unfold f_M_drawDay_J109
  refine h_ior hX dX11_drawDay_109 ?_
  refine ast_M19 hX dX11_drawDay_110 ?_
  refine gH.letw (w := fun y => wdM B m_thrown m_size m_at m_wrong m_deep m_laws m_text m_readBoys m_readMarbles m_readFarms m_boys m_marbles m_farms m_holding m_spills m_acts m_draws m_bestRow m_bestMany m_noted m_hasImage m_tape m_code m_value m_codes m_clauses m_testFrom m_sumFrom m_sumTo m_letters m_stack m_readRule m_readBoy m_readMarble m_readFarm m_rule m_boy m_marble m_farm y m_refused m_kept m_notePlace m_noteKind m_noteIs m_toldBy m_image ++ fr) (fun m_now_10 => ?_)
  exact h_ret hX (rv := none) dX11_drawDay_111 trivial (fun h => h)
set_option maxRecDepth 4000 in
theorem w_M_drawDay_J57 (hX : gOk B X RX11 cX11_drawDay 6 8 none) : gH B X (fun r : (Int64 × (Nat → Int32) × (Nat → Int32) × (Nat → Int32)) => gFin X (none) (wdM B m_thrown m_size m_at m_wrong m_deep m_laws m_text m_readBoys m_readMarbles m_readFarms m_boys m_marbles m_farms m_holding m_spills m_acts r.1 m_bestRow m_bestMany m_noted m_hasImage m_tape m_code m_value m_codes m_clauses m_testFrom m_sumFrom m_sumTo r.2.1 r.2.2.1 m_readRule m_readBoy m_readMarble m_readFarm m_rule m_boy m_marble m_farm r.2.2.2 m_refused m_kept m_notePlace m_noteKind m_noteIs m_toldBy m_image ++ fr)) 57 [(0, .ref (aM B 0))] [] (wdM B m_thrown m_size m_at m_wrong m_deep m_laws m_text m_readBoys m_readMarbles m_readFarms m_boys m_marbles m_farms m_holding m_spills m_acts m_draws m_bestRow m_bestMany m_noted m_hasImage m_tape m_code m_value m_codes m_clauses m_testFrom m_sumFrom m_sumTo m_letters m_stack m_readRule m_readBoy m_readMarble m_readFarm m_rule m_boy m_marble m_farm m_now m_refused m_kept m_notePlace m_noteKind m_noteIs m_toldBy m_image ++ fr) (f_M_drawDay_J57 m_marbles m_spills m_draws m_letters m_stack m_now) := by
  unfold f_M_drawDay_J57
  refine h_aload_n hX dX11_drawDay_57 rfl rfl ?_
  refine h_bipush hX dX11_drawDay_58 kb_10 ?_
  refine h_callVi hX dX11_drawDay_60 (cv_RX11_392) rc_M0 (As := [.int 10]) (st := []) (fun _ h => c_M_draw h) rfl rfl (by decide) (Nat.le_of_ble_eq_true rfl) (fun a_8 => ?_)
  refine h_aload_n hX dX11_drawDay_63 rfl rfl ?_
  refine get_RX11_381_M0 hX dX11_drawDay_64 ?_
  refine h_icmp_ge hX dX11_drawDay_67 (tgt := 111) (by decide) (fun _ => ?_) (fun _ => ?_)
  · exact h_ret hX (rv := none) dX11_drawDay_111 trivial (fun h => h)
  · refine h_aload_n hX dX11_drawDay_70 rfl rfl ?_
    refine h_aload_n hX dX11_drawDay_71 rfl rfl ?_
    refine get_RX11_261_M0 hX dX11_drawDay_72 ?_
    refine h_callVi hX dX11_drawDay_75 (cv_RX11_392) rc_M0 (As := [.int m_marbles]) (st := []) (fun _ h => c_M_draw h) rfl rfl (by decide) (Nat.le_of_ble_eq_true rfl) (fun a_9 => ?_)
    refine h_istore hX dX11_drawDay_78 (by decide) (lv' := [(0, .ref (aM B 0)), (5, .int a_9.1)]) rfl ?_
    refine h_aload_n hX dX11_drawDay_80 rfl rfl ?_
    refine get_RX11_64_M0 hX dX11_drawDay_81 ?_
    refine h_bipush hX dX11_drawDay_84 kb_6 ?_
    refine h_dup2 hX dX11_drawDay_86 rfl rfl ?_
    refine ald_M19 hX dX11_drawDay_87 ?_
    refine h_aload_n hX dX11_drawDay_88 rfl rfl ?_
    refine get_RX11_64_M0 hX dX11_drawDay_89 ?_
    refine h_iconst hX dX11_drawDay_92 ki_0 ?_
    refine h_iload hX dX11_drawDay_93 rfl ?_
    refine h_iadd hX dX11_drawDay_95 ?_
    refine ald_M19 hX dX11_drawDay_96 ?_
    refine h_iconst hX dX11_drawDay_97 ki_m1 ?_
    refine h_icmp_ne hX dX11_drawDay_98 (tgt := 105) (by decide) (fun _ => ?_) (fun _ => ?_)
    · refine h_iconst hX dX11_drawDay_105 ki_1 ?_
      refine h_iload hX dX11_drawDay_106 rfl ?_
      refine h_ishl hX dX11_drawDay_108 ?_
      refine gH.dead [] rfl ?_
      exact w_M_drawDay_J109 hX
    · refine h_iconst hX dX11_drawDay_101 ki_0 ?_
      refine h_goto hX dX11_drawDay_102 (tgt := 109) (by decide) ?_
      refine gH.dead [] rfl ?_
      exact w_M_drawDay_J109 hX
set_option maxRecDepth 4000 in
theorem w_M_drawDay (hX : gOk B X RX11 cX11_drawDay 6 8 none) : gH B X (fun r : (Int64 × (Nat → Int32) × (Nat → Int32) × (Nat → Int32)) => gFin X (none) (wdM B m_thrown m_size m_at m_wrong m_deep m_laws m_text m_readBoys m_readMarbles m_readFarms m_boys m_marbles m_farms m_holding m_spills m_acts r.1 m_bestRow m_bestMany m_noted m_hasImage m_tape m_code m_value m_codes m_clauses m_testFrom m_sumFrom m_sumTo r.2.1 r.2.2.1 m_readRule m_readBoy m_readMarble m_readFarm m_rule m_boy m_marble m_farm r.2.2.2 m_refused m_kept m_notePlace m_noteKind m_noteIs m_toldBy m_image ++ fr)) 0 [(0, .ref (aM B 0))] [] (wdM B m_thrown m_size m_at m_wrong m_deep m_laws m_text m_readBoys m_readMarbles m_readFarms m_boys m_marbles m_farms m_holding m_spills m_acts m_draws m_bestRow m_bestMany m_noted m_hasImage m_tape m_code m_value m_codes m_clauses m_testFrom m_sumFrom m_sumTo m_letters m_stack m_readRule m_readBoy m_readMarble m_readFarm m_rule m_boy m_marble m_farm m_now m_refused m_kept m_notePlace m_noteKind m_noteIs m_toldBy m_image ++ fr) (f_M_drawDay m_marbles m_holding m_spills m_draws m_code m_value m_clauses m_testFrom m_sumFrom m_sumTo m_letters m_stack m_rule m_boy m_marble m_now) := by
  unfold f_M_drawDay
  refine h_aload_n hX dX11_drawDay_0 rfl rfl ?_
  refine h_aload_n hX dX11_drawDay_1 rfl rfl ?_
  refine get_RX11_261_M0 hX dX11_drawDay_2 ?_
  refine h_callVi hX dX11_drawDay_5 (cv_RX11_392) rc_M0 (As := [.int m_marbles]) (st := []) (fun _ h => c_M_draw h) rfl rfl (by decide) (Nat.le_of_ble_eq_true rfl) (fun a_1 => ?_)
  refine h_istore_n hX dX11_drawDay_8 rfl (by decide) (lv' := [(0, .ref (aM B 0)), (1, .int a_1.1)]) rfl ?_
  refine h_aload_n hX dX11_drawDay_9 rfl rfl ?_
  refine h_aload_n hX dX11_drawDay_10 rfl rfl ?_
  refine get_RX11_261_M0 hX dX11_drawDay_11 ?_
  refine h_callVi hX dX11_drawDay_14 (cv_RX11_392) rc_M0 (As := [.int m_marbles]) (st := []) (fun _ h => c_M_draw h) rfl rfl (by decide) (Nat.le_of_ble_eq_true rfl) (fun a_2 => ?_)
  refine h_istore_n hX dX11_drawDay_17 rfl (by decide) (lv' := [(0, .ref (aM B 0)), (1, .int a_1.1), (2, .int a_2.1)]) rfl ?_
  refine h_aload_n hX dX11_drawDay_18 rfl rfl ?_
  refine h_bipush hX dX11_drawDay_19 kb_9 ?_
  refine h_callVi hX dX11_drawDay_21 (cv_RX11_392) rc_M0 (As := [.int 9]) (st := []) (fun _ h => c_M_draw h) rfl rfl (by decide) (Nat.le_of_ble_eq_true rfl) (fun a_3 => ?_)
  refine h_iconst hX dX11_drawDay_24 ki_1 ?_
  refine h_iadd hX dX11_drawDay_25 ?_
  refine gH.leti (fun v3_4 => ?_)
  refine h_istore_n hX dX11_drawDay_26 rfl (by decide) (lv' := [(0, .ref (aM B 0)), (1, .int a_1.1), (2, .int a_2.1), (3, .int v3_4)]) rfl ?_
  refine h_aload_n hX dX11_drawDay_27 rfl rfl ?_
  refine h_bipush hX dX11_drawDay_28 kb_9 ?_
  refine h_callVi hX dX11_drawDay_30 (cv_RX11_392) rc_M0 (As := [.int 9]) (st := []) (fun _ h => c_M_draw h) rfl rfl (by decide) (Nat.le_of_ble_eq_true rfl) (fun a_5 => ?_)
  refine h_iconst hX dX11_drawDay_33 ki_1 ?_
  refine h_iadd hX dX11_drawDay_34 ?_
  refine gH.leti (fun v4_6 => ?_)
  refine h_istore hX dX11_drawDay_35 (by decide) (lv' := [(0, .ref (aM B 0)), (1, .int a_1.1), (2, .int a_2.1), (3, .int v3_4), (4, .int v4_6)]) rfl ?_
  refine h_aload_n hX dX11_drawDay_37 rfl rfl ?_
  refine h_iload_n hX dX11_drawDay_38 rfl rfl ?_
  refine h_iload_n hX dX11_drawDay_39 rfl rfl ?_
  refine h_callVi hX dX11_drawDay_40 (cv_RX11_335) rc_M0 (As := [.int a_1.1, .int a_2.1]) (st := []) (fun _ h => c_M_whyNot h) rfl rfl (by decide) (Nat.le_of_ble_eq_true rfl) (fun a_7 => ?_)
  refine h_iconst hX dX11_drawDay_43 ki_m1 ?_
  refine h_icmp_ne hX dX11_drawDay_44 (tgt := 57) (by decide) (fun _ => ?_) (fun _ => ?_)
  · refine gH.dead [0] rfl ?_
    exact w_M_drawDay_J57 hX
  · refine h_aload_n hX dX11_drawDay_47 rfl rfl ?_
    refine h_iload_n hX dX11_drawDay_48 rfl rfl ?_
    refine h_iload_n hX dX11_drawDay_49 rfl rfl ?_
    refine h_iload_n hX dX11_drawDay_50 rfl rfl ?_
    refine h_iload hX dX11_drawDay_51 rfl ?_
    refine h_callVi hX dX11_drawDay_53 (cv_RX11_360) rc_M0 (As := [.int a_1.1, .int v3_4, .int a_2.1, .int v4_6]) (st := []) (fun _ h => c_M_playNow h) rfl rfl (by decide) (Nat.le_of_ble_eq_true rfl) (fun a_11 => ?_)
    refine h_pop hX dX11_drawDay_56 rfl ?_
    refine gH.dead [0] rfl ?_
    exact w_M_drawDay_J57 hX
theorem c_M_drawDay {r : (Int64 × (Nat → Int32) × (Nat → Int32) × (Nat → Int32))} (h : f_M_drawDay m_marbles m_holding m_spills m_draws m_code m_value m_clauses m_testFrom m_sumFrom m_sumTo m_letters m_stack m_rule m_boy m_marble m_now = some r) : gMet B 8 yX11_drawDay cX11_drawDay 6 none [.ref (aM B 0)] (wdM B m_thrown m_size m_at m_wrong m_deep m_laws m_text m_readBoys m_readMarbles m_readFarms m_boys m_marbles m_farms m_holding m_spills m_acts m_draws m_bestRow m_bestMany m_noted m_hasImage m_tape m_code m_value m_codes m_clauses m_testFrom m_sumFrom m_sumTo m_letters m_stack m_readRule m_readBoy m_readMarble m_readFarm m_rule m_boy m_marble m_farm m_now m_refused m_kept m_notePlace m_noteKind m_noteIs m_toldBy m_image ++ fr) (none) (wdM B m_thrown m_size m_at m_wrong m_deep m_laws m_text m_readBoys m_readMarbles m_readFarms m_boys m_marbles m_farms m_holding m_spills m_acts r.1 m_bestRow m_bestMany m_noted m_hasImage m_tape m_code m_value m_codes m_clauses m_testFrom m_sumFrom m_sumTo r.2.1 r.2.2.1 m_readRule m_readBoy m_readMarble m_readFarm m_rule m_boy m_marble m_farm r.2.2.2 m_refused m_kept m_notePlace m_noteKind m_noteIs m_toldBy m_image ++ fr) :=
  gMet.of rfl (Nat.le_of_ble_eq_true rfl) (fun X hX hF => w_M_drawDay hX r h hF)
set_option maxRecDepth 4000 in
theorem w_M_end {p0 : Int32} (hX : gOk B X RX11 cX11_end 2 0 (some .boolean)) : gH B X (fun r : (Int32 × Int32) => gFin X (some (.int r.1)) (wdM B m_thrown r.2 m_at m_wrong m_deep m_laws m_text m_readBoys m_readMarbles m_readFarms m_boys m_marbles m_farms m_holding m_spills m_acts m_draws m_bestRow m_bestMany m_noted m_hasImage m_tape m_code m_value m_codes m_clauses m_testFrom m_sumFrom m_sumTo m_letters m_stack m_readRule m_readBoy m_readMarble m_readFarm m_rule m_boy m_marble m_farm m_now m_refused m_kept m_notePlace m_noteKind m_noteIs m_toldBy m_image ++ fr)) 0 [(0, .ref (aM B 0)), (1, .int p0)] [] (wdM B m_thrown m_size m_at m_wrong m_deep m_laws m_text m_readBoys m_readMarbles m_readFarms m_boys m_marbles m_farms m_holding m_spills m_acts m_draws m_bestRow m_bestMany m_noted m_hasImage m_tape m_code m_value m_codes m_clauses m_testFrom m_sumFrom m_sumTo m_letters m_stack m_readRule m_readBoy m_readMarble m_readFarm m_rule m_boy m_marble m_farm m_now m_refused m_kept m_notePlace m_noteKind m_noteIs m_toldBy m_image ++ fr) (f_M_end m_size p0) := by
  unfold f_M_end
  refine h_iload_n hX dX11_end_0 rfl rfl ?_
  refine h_if_lt hX dX11_end_1 (tgt := 12) (by decide) (fun _ => ?_) (fun _ => ?_)
  · refine h_iconst hX dX11_end_12 ki_0 ?_
    exact h_ret hX (rv := some (.int 0)) dX11_end_13 rfl (fun h => h)
  · refine h_iload_n hX dX11_end_4 rfl rfl ?_
    refine h_aload_n hX dX11_end_5 rfl rfl ?_
    refine get_RX11_100_M0 hX dX11_end_6 ?_
    refine h_icmp_le hX dX11_end_9 (tgt := 14) (by decide) (fun _ => ?_) (fun _ => ?_)
    · refine h_aload_n hX dX11_end_14 rfl rfl ?_
      refine h_iload_n hX dX11_end_15 rfl rfl ?_
      refine put_RX11_100_M0 hX dX11_end_16 ?_
      refine h_iconst hX dX11_end_19 ki_1 ?_
      exact h_ret hX (rv := some (.int 1)) dX11_end_20 rfl (fun h => h)
    · refine h_iconst hX dX11_end_12 ki_0 ?_
      exact h_ret hX (rv := some (.int 0)) dX11_end_13 rfl (fun h => h)
theorem c_M_end {p0 : Int32} {r : (Int32 × Int32)} (h : f_M_end m_size p0 = some r) : gMet B 0 yX11_end cX11_end 2 (some .boolean) [.ref (aM B 0), .int p0] (wdM B m_thrown m_size m_at m_wrong m_deep m_laws m_text m_readBoys m_readMarbles m_readFarms m_boys m_marbles m_farms m_holding m_spills m_acts m_draws m_bestRow m_bestMany m_noted m_hasImage m_tape m_code m_value m_codes m_clauses m_testFrom m_sumFrom m_sumTo m_letters m_stack m_readRule m_readBoy m_readMarble m_readFarm m_rule m_boy m_marble m_farm m_now m_refused m_kept m_notePlace m_noteKind m_noteIs m_toldBy m_image ++ fr) (some (.int r.1)) (wdM B m_thrown r.2 m_at m_wrong m_deep m_laws m_text m_readBoys m_readMarbles m_readFarms m_boys m_marbles m_farms m_holding m_spills m_acts m_draws m_bestRow m_bestMany m_noted m_hasImage m_tape m_code m_value m_codes m_clauses m_testFrom m_sumFrom m_sumTo m_letters m_stack m_readRule m_readBoy m_readMarble m_readFarm m_rule m_boy m_marble m_farm m_now m_refused m_kept m_notePlace m_noteKind m_noteIs m_toldBy m_image ++ fr) :=
  gMet.of rfl (Nat.le_of_ble_eq_true rfl) (fun X hX hF => w_M_end hX r h hF)
set_option maxRecDepth 4000 in
theorem w_M_farm {p0 : Int32} {p1 : Int32} (hX : gOk B X RX11 cX11_farm 3 5 (some .int)) : gH B X (fun r : Int32 => gFin X (some (.int r)) (wdM B m_thrown m_size m_at m_wrong m_deep m_laws m_text m_readBoys m_readMarbles m_readFarms m_boys m_marbles m_farms m_holding m_spills m_acts m_draws m_bestRow m_bestMany m_noted m_hasImage m_tape m_code m_value m_codes m_clauses m_testFrom m_sumFrom m_sumTo m_letters m_stack m_readRule m_readBoy m_readMarble m_readFarm m_rule m_boy m_marble m_farm m_now m_refused m_kept m_notePlace m_noteKind m_noteIs m_toldBy m_image ++ fr)) 0 [(0, .ref (aM B 0)), (1, .int p0), (2, .int p1)] [] (wdM B m_thrown m_size m_at m_wrong m_deep m_laws m_text m_readBoys m_readMarbles m_readFarms m_boys m_marbles m_farms m_holding m_spills m_acts m_draws m_bestRow m_bestMany m_noted m_hasImage m_tape m_code m_value m_codes m_clauses m_testFrom m_sumFrom m_sumTo m_letters m_stack m_readRule m_readBoy m_readMarble m_readFarm m_rule m_boy m_marble m_farm m_now m_refused m_kept m_notePlace m_noteKind m_noteIs m_toldBy m_image ++ fr) (f_M_farm m_marbles m_farms m_boy m_marble m_farm m_now p0 p1) := by
  unfold f_M_farm
  refine h_iload_n hX dX11_farm_0 rfl rfl ?_
  refine h_iconst hX dX11_farm_1 ki_0 ?_
  refine h_aload_n hX dX11_farm_2 rfl rfl ?_
  refine get_RX11_264_M0 hX dX11_farm_3 ?_
  refine h_iconst hX dX11_farm_6 ki_1 ?_
  refine h_isub hX dX11_farm_7 ?_
  refine h_callSi hX dX11_farm_8 (cs_RX11_208) (As := [.int p0, .int 0, .int (m_farms - 1)]) (st := []) (fun _ h => c_M_in h) rfl rfl (by decide) (Nat.le_of_ble_eq_true rfl) (fun a_1 => ?_)
  refine h_if_eq hX dX11_farm_11 (tgt := 23) (by decide) (fun _ => ?_) (fun _ => ?_)
  · refine h_iconst hX dX11_farm_23 ki_m1 ?_
    refine h_goto hX dX11_farm_24 (tgt := 54) (by decide) ?_
    exact h_ret hX (rv := some (.int ((-1)))) dX11_farm_54 trivial (fun h => h)
  · refine h_iload_n hX dX11_farm_14 rfl rfl ?_
    refine h_iconst hX dX11_farm_15 ki_0 ?_
    refine h_iconst hX dX11_farm_16 ki_3 ?_
    refine h_callSi hX dX11_farm_17 (cs_RX11_208) (As := [.int p1, .int 0, .int 3]) (st := []) (fun _ h => c_M_in h) rfl rfl (by decide) (Nat.le_of_ble_eq_true rfl) (fun a_2 => ?_)
    refine h_if_ne hX dX11_farm_20 (tgt := 27) (by decide) (fun _ => ?_) (fun _ => ?_)
    · refine h_iload_n hX dX11_farm_27 rfl rfl ?_
      refine h_iconst hX dX11_farm_28 ki_3 ?_
      refine h_icmp_ge hX dX11_farm_29 (tgt := 41) (by decide) (fun _ => ?_) (fun _ => ?_)
      · refine h_aload_n hX dX11_farm_41 rfl rfl ?_
        refine h_iload_n hX dX11_farm_42 rfl rfl ?_
        refine h_callVi hX dX11_farm_43 (cv_RX11_322) rc_M0 (As := [.int p0]) (st := []) (fun _ h => c_M_isContent h) rfl rfl (by decide) (Nat.le_of_ble_eq_true rfl) (fun a_3 => ?_)
        refine h_if_eq hX dX11_farm_46 (tgt := 53) (by decide) (fun _ => ?_) (fun _ => ?_)
        · refine h_iconst hX dX11_farm_53 ki_0 ?_
          exact h_ret hX (rv := some (.int 0)) dX11_farm_54 trivial (fun h => h)
        · refine h_iconst hX dX11_farm_49 ki_1 ?_
          refine h_goto hX dX11_farm_50 (tgt := 54) (by decide) ?_
          exact h_ret hX (rv := some (.int 1)) dX11_farm_54 trivial (fun h => h)
      · refine h_aload_n hX dX11_farm_32 rfl rfl ?_
        refine h_iload_n hX dX11_farm_33 rfl rfl ?_
        refine h_iload_n hX dX11_farm_34 rfl rfl ?_
        refine h_callVi hX dX11_farm_35 (cv_RX11_316) rc_M0 (As := [.int p0, .int p1]) (st := []) (fun _ h => c_M_ofFarm h) rfl rfl (by decide) (Nat.le_of_ble_eq_true rfl) (fun a_4 => ?_)
        refine h_goto hX dX11_farm_38 (tgt := 54) (by decide) ?_
        exact h_ret hX (rv := some (.int a_4)) dX11_farm_54 trivial (fun h => h)
    · refine h_iconst hX dX11_farm_23 ki_m1 ?_
      refine h_goto hX dX11_farm_24 (tgt := 54) (by decide) ?_
      exact h_ret hX (rv := some (.int ((-1)))) dX11_farm_54 trivial (fun h => h)
theorem c_M_farm {p0 : Int32} {p1 : Int32} {r : Int32} (h : f_M_farm m_marbles m_farms m_boy m_marble m_farm m_now p0 p1 = some r) : gMet B 5 yX11_farm cX11_farm 3 (some .int) [.ref (aM B 0), .int p0, .int p1] (wdM B m_thrown m_size m_at m_wrong m_deep m_laws m_text m_readBoys m_readMarbles m_readFarms m_boys m_marbles m_farms m_holding m_spills m_acts m_draws m_bestRow m_bestMany m_noted m_hasImage m_tape m_code m_value m_codes m_clauses m_testFrom m_sumFrom m_sumTo m_letters m_stack m_readRule m_readBoy m_readMarble m_readFarm m_rule m_boy m_marble m_farm m_now m_refused m_kept m_notePlace m_noteKind m_noteIs m_toldBy m_image ++ fr) (some (.int r)) (wdM B m_thrown m_size m_at m_wrong m_deep m_laws m_text m_readBoys m_readMarbles m_readFarms m_boys m_marbles m_farms m_holding m_spills m_acts m_draws m_bestRow m_bestMany m_noted m_hasImage m_tape m_code m_value m_codes m_clauses m_testFrom m_sumFrom m_sumTo m_letters m_stack m_readRule m_readBoy m_readMarble m_readFarm m_rule m_boy m_marble m_farm m_now m_refused m_kept m_notePlace m_noteKind m_noteIs m_toldBy m_image ++ fr) :=
  gMet.of rfl (Nat.le_of_ble_eq_true rfl) (fun X hX hF => w_M_farm hX r h hF)
set_option maxRecDepth 4000 in
theorem w_M_isWhole_J56 {v2 : Int32} {k0 : Int32} (hX : gOk B X RX11 cX11_isWhole 3 0 (some .boolean)) : gH B X (Sum.elim (fun s : (Int32 × Int32) => gG B X 22 [(0, .ref (aM B 0)), (1, .int s.1), (2, .int s.2)] [] (wdM B m_thrown m_size m_at m_wrong m_deep m_laws m_text m_readBoys m_readMarbles m_readFarms m_boys m_marbles m_farms m_holding m_spills m_acts m_draws m_bestRow m_bestMany m_noted m_hasImage m_tape m_code m_value m_codes m_clauses m_testFrom m_sumFrom m_sumTo m_letters m_stack m_readRule m_readBoy m_readMarble m_readFarm m_rule m_boy m_marble m_farm m_now m_refused m_kept m_notePlace m_noteKind m_noteIs m_toldBy m_image ++ fr)) (fun r : Int32 => gFin X (some (.int r)) (wdM B m_thrown m_size m_at m_wrong m_deep m_laws m_text m_readBoys m_readMarbles m_readFarms m_boys m_marbles m_farms m_holding m_spills m_acts m_draws m_bestRow m_bestMany m_noted m_hasImage m_tape m_code m_value m_codes m_clauses m_testFrom m_sumFrom m_sumTo m_letters m_stack m_readRule m_readBoy m_readMarble m_readFarm m_rule m_boy m_marble m_farm m_now m_refused m_kept m_notePlace m_noteKind m_noteIs m_toldBy m_image ++ fr))) 56 [(0, .ref (aM B 0)), (2, .int v2)] [.int k0] (wdM B m_thrown m_size m_at m_wrong m_deep m_laws m_text m_readBoys m_readMarbles m_readFarms m_boys m_marbles m_farms m_holding m_spills m_acts m_draws m_bestRow m_bestMany m_noted m_hasImage m_tape m_code m_value m_codes m_clauses m_testFrom m_sumFrom m_sumTo m_letters m_stack m_readRule m_readBoy m_readMarble m_readFarm m_rule m_boy m_marble m_farm m_now m_refused m_kept m_notePlace m_noteKind m_noteIs m_toldBy m_image ++ fr) (f_M_isWhole_J56 v2 k0) := by
  unfold f_M_isWhole_J56
  refine h_istore_n hX dX11_isWhole_56 rfl (by decide) (lv' := [(0, .ref (aM B 0)), (1, .int k0), (2, .int v2)]) rfl ?_
  refine h_iincc hX dX11_isWhole_57 rfl ki_1 (by decide) (lv' := [(0, .ref (aM B 0)), (1, .int k0), (2, .int (v2 + 1))]) rfl ?_
  refine h_goto hX dX11_isWhole_60 (tgt := 22) (by decide) ?_
  exact gH.some' (fun h => h)
set_option maxRecDepth 4000 in
theorem w_M_isWhole_J55 {v2 : Int32} (hX : gOk B X RX11 cX11_isWhole 3 0 (some .boolean)) : gH B X (Sum.elim (fun s : (Int32 × Int32) => gG B X 22 [(0, .ref (aM B 0)), (1, .int s.1), (2, .int s.2)] [] (wdM B m_thrown m_size m_at m_wrong m_deep m_laws m_text m_readBoys m_readMarbles m_readFarms m_boys m_marbles m_farms m_holding m_spills m_acts m_draws m_bestRow m_bestMany m_noted m_hasImage m_tape m_code m_value m_codes m_clauses m_testFrom m_sumFrom m_sumTo m_letters m_stack m_readRule m_readBoy m_readMarble m_readFarm m_rule m_boy m_marble m_farm m_now m_refused m_kept m_notePlace m_noteKind m_noteIs m_toldBy m_image ++ fr)) (fun r : Int32 => gFin X (some (.int r)) (wdM B m_thrown m_size m_at m_wrong m_deep m_laws m_text m_readBoys m_readMarbles m_readFarms m_boys m_marbles m_farms m_holding m_spills m_acts m_draws m_bestRow m_bestMany m_noted m_hasImage m_tape m_code m_value m_codes m_clauses m_testFrom m_sumFrom m_sumTo m_letters m_stack m_readRule m_readBoy m_readMarble m_readFarm m_rule m_boy m_marble m_farm m_now m_refused m_kept m_notePlace m_noteKind m_noteIs m_toldBy m_image ++ fr))) 55 [(0, .ref (aM B 0)), (2, .int v2)] [] (wdM B m_thrown m_size m_at m_wrong m_deep m_laws m_text m_readBoys m_readMarbles m_readFarms m_boys m_marbles m_farms m_holding m_spills m_acts m_draws m_bestRow m_bestMany m_noted m_hasImage m_tape m_code m_value m_codes m_clauses m_testFrom m_sumFrom m_sumTo m_letters m_stack m_readRule m_readBoy m_readMarble m_readFarm m_rule m_boy m_marble m_farm m_now m_refused m_kept m_notePlace m_noteKind m_noteIs m_toldBy m_image ++ fr) (f_M_isWhole_J55 v2) := by
  unfold f_M_isWhole_J55
  refine h_iconst hX dX11_isWhole_55 ki_0 ?_
  exact w_M_isWhole_J56 hX
set_option maxRecDepth 4000 in
theorem w_M_isWhole_L22 (hX : gOk B X RX11 cX11_isWhole 3 0 (some .boolean)) (s : (Int32 × Int32)) : gH B X (Sum.elim (fun s : (Int32 × Int32) => gG B X 22 [(0, .ref (aM B 0)), (1, .int s.1), (2, .int s.2)] [] (wdM B m_thrown m_size m_at m_wrong m_deep m_laws m_text m_readBoys m_readMarbles m_readFarms m_boys m_marbles m_farms m_holding m_spills m_acts m_draws m_bestRow m_bestMany m_noted m_hasImage m_tape m_code m_value m_codes m_clauses m_testFrom m_sumFrom m_sumTo m_letters m_stack m_readRule m_readBoy m_readMarble m_readFarm m_rule m_boy m_marble m_farm m_now m_refused m_kept m_notePlace m_noteKind m_noteIs m_toldBy m_image ++ fr)) (fun r : Int32 => gFin X (some (.int r)) (wdM B m_thrown m_size m_at m_wrong m_deep m_laws m_text m_readBoys m_readMarbles m_readFarms m_boys m_marbles m_farms m_holding m_spills m_acts m_draws m_bestRow m_bestMany m_noted m_hasImage m_tape m_code m_value m_codes m_clauses m_testFrom m_sumFrom m_sumTo m_letters m_stack m_readRule m_readBoy m_readMarble m_readFarm m_rule m_boy m_marble m_farm m_now m_refused m_kept m_notePlace m_noteKind m_noteIs m_toldBy m_image ++ fr))) 22 [(0, .ref (aM B 0)), (1, .int s.1), (2, .int s.2)] [] (wdM B m_thrown m_size m_at m_wrong m_deep m_laws m_text m_readBoys m_readMarbles m_readFarms m_boys m_marbles m_farms m_holding m_spills m_acts m_draws m_bestRow m_bestMany m_noted m_hasImage m_tape m_code m_value m_codes m_clauses m_testFrom m_sumFrom m_sumTo m_letters m_stack m_readRule m_readBoy m_readMarble m_readFarm m_rule m_boy m_marble m_farm m_now m_refused m_kept m_notePlace m_noteKind m_noteIs m_toldBy m_image ++ fr) (f_M_isWhole_L22 m_readBoys m_readMarbles m_readMarble s) := by
  unfold f_M_isWhole_L22
  refine h_iload_n hX dX11_isWhole_22 rfl rfl ?_
  refine h_aload_n hX dX11_isWhole_23 rfl rfl ?_
  refine get_RX11_239_M0 hX dX11_isWhole_24 ?_
  refine h_icmp_ge hX dX11_isWhole_27 (tgt := 63) (by decide) (fun _ => ?_) (fun _ => ?_)
  · refine h_iload_n hX dX11_isWhole_63 rfl rfl ?_
    exact h_retz hX dX11_isWhole_64 (fun h => h)
  · refine h_iload_n hX dX11_isWhole_30 rfl rfl ?_
    refine h_if_eq hX dX11_isWhole_31 (tgt := 55) (by decide) (fun _ => ?_) (fun _ => ?_)
    · refine gH.dead [0, 2] rfl ?_
      exact w_M_isWhole_J55 hX
    · refine h_aload_n hX dX11_isWhole_34 rfl rfl ?_
      refine get_RX11_46_M0 hX dX11_isWhole_35 ?_
      refine h_iconst hX dX11_isWhole_38 ki_3 ?_
      refine h_iload_n hX dX11_isWhole_39 rfl rfl ?_
      refine h_imul hX dX11_isWhole_40 ?_
      refine h_iconst hX dX11_isWhole_41 ki_0 ?_
      refine h_iadd hX dX11_isWhole_42 ?_
      refine ald_M13 hX dX11_isWhole_43 ?_
      refine h_aload_n hX dX11_isWhole_44 rfl rfl ?_
      refine get_RX11_236_M0 hX dX11_isWhole_45 ?_
      refine h_icmp_ge hX dX11_isWhole_48 (tgt := 55) (by decide) (fun _ => ?_) (fun _ => ?_)
      · refine gH.dead [0, 2] rfl ?_
        exact w_M_isWhole_J55 hX
      · refine h_iconst hX dX11_isWhole_51 ki_1 ?_
        refine h_goto hX dX11_isWhole_52 (tgt := 56) (by decide) ?_
        refine gH.dead [0, 2] rfl ?_
        exact w_M_isWhole_J56 hX
set_option maxRecDepth 4000 in
theorem w_M_isWhole_J19 {k0 : Int32} (hX : gOk B X RX11 cX11_isWhole 3 0 (some .boolean)) : gH B X (fun r : Int32 => gFin X (some (.int r)) (wdM B m_thrown m_size m_at m_wrong m_deep m_laws m_text m_readBoys m_readMarbles m_readFarms m_boys m_marbles m_farms m_holding m_spills m_acts m_draws m_bestRow m_bestMany m_noted m_hasImage m_tape m_code m_value m_codes m_clauses m_testFrom m_sumFrom m_sumTo m_letters m_stack m_readRule m_readBoy m_readMarble m_readFarm m_rule m_boy m_marble m_farm m_now m_refused m_kept m_notePlace m_noteKind m_noteIs m_toldBy m_image ++ fr)) 19 [(0, .ref (aM B 0))] [.int k0] (wdM B m_thrown m_size m_at m_wrong m_deep m_laws m_text m_readBoys m_readMarbles m_readFarms m_boys m_marbles m_farms m_holding m_spills m_acts m_draws m_bestRow m_bestMany m_noted m_hasImage m_tape m_code m_value m_codes m_clauses m_testFrom m_sumFrom m_sumTo m_letters m_stack m_readRule m_readBoy m_readMarble m_readFarm m_rule m_boy m_marble m_farm m_now m_refused m_kept m_notePlace m_noteKind m_noteIs m_toldBy m_image ++ fr) (f_M_isWhole_J19 m_readBoys m_readMarbles m_readMarble k0) := by
  unfold f_M_isWhole_J19
  refine h_istore_n hX dX11_isWhole_19 rfl (by decide) (lv' := [(0, .ref (aM B 0)), (1, .int k0)]) rfl ?_
  refine h_iconst hX dX11_isWhole_20 ki_0 ?_
  refine h_istore_n hX dX11_isWhole_21 rfl (by decide) (lv' := [(0, .ref (aM B 0)), (1, .int k0), (2, .int 0)]) rfl ?_
  exact gH.loop (lvf := fun z : (Int32 × Int32) => [(0, .ref (aM B 0)), (1, .int z.1), (2, .int z.2)]) (wf := fun z : (Int32 × Int32) => wdM B m_thrown m_size m_at m_wrong m_deep m_laws m_text m_readBoys m_readMarbles m_readFarms m_boys m_marbles m_farms m_holding m_spills m_acts m_draws m_bestRow m_bestMany m_noted m_hasImage m_tape m_code m_value m_codes m_clauses m_testFrom m_sumFrom m_sumTo m_letters m_stack m_readRule m_readBoy m_readMarble m_readFarm m_rule m_boy m_marble m_farm m_now m_refused m_kept m_notePlace m_noteKind m_noteIs m_toldBy m_image ++ fr) (fun z => w_M_isWhole_L22 hX z) (k0, 0)
set_option maxRecDepth 4000 in
theorem w_M_isWhole_J18 (hX : gOk B X RX11 cX11_isWhole 3 0 (some .boolean)) : gH B X (fun r : Int32 => gFin X (some (.int r)) (wdM B m_thrown m_size m_at m_wrong m_deep m_laws m_text m_readBoys m_readMarbles m_readFarms m_boys m_marbles m_farms m_holding m_spills m_acts m_draws m_bestRow m_bestMany m_noted m_hasImage m_tape m_code m_value m_codes m_clauses m_testFrom m_sumFrom m_sumTo m_letters m_stack m_readRule m_readBoy m_readMarble m_readFarm m_rule m_boy m_marble m_farm m_now m_refused m_kept m_notePlace m_noteKind m_noteIs m_toldBy m_image ++ fr)) 18 [(0, .ref (aM B 0))] [] (wdM B m_thrown m_size m_at m_wrong m_deep m_laws m_text m_readBoys m_readMarbles m_readFarms m_boys m_marbles m_farms m_holding m_spills m_acts m_draws m_bestRow m_bestMany m_noted m_hasImage m_tape m_code m_value m_codes m_clauses m_testFrom m_sumFrom m_sumTo m_letters m_stack m_readRule m_readBoy m_readMarble m_readFarm m_rule m_boy m_marble m_farm m_now m_refused m_kept m_notePlace m_noteKind m_noteIs m_toldBy m_image ++ fr) (f_M_isWhole_J18 m_readBoys m_readMarbles m_readMarble) := by
  unfold f_M_isWhole_J18
  refine h_iconst hX dX11_isWhole_18 ki_0 ?_
  exact w_M_isWhole_J19 hX
set_option maxRecDepth 4000 in
theorem w_M_isWhole (hX : gOk B X RX11 cX11_isWhole 3 0 (some .boolean)) : gH B X (fun r : Int32 => gFin X (some (.int r)) (wdM B m_thrown m_size m_at m_wrong m_deep m_laws m_text m_readBoys m_readMarbles m_readFarms m_boys m_marbles m_farms m_holding m_spills m_acts m_draws m_bestRow m_bestMany m_noted m_hasImage m_tape m_code m_value m_codes m_clauses m_testFrom m_sumFrom m_sumTo m_letters m_stack m_readRule m_readBoy m_readMarble m_readFarm m_rule m_boy m_marble m_farm m_now m_refused m_kept m_notePlace m_noteKind m_noteIs m_toldBy m_image ++ fr)) 0 [(0, .ref (aM B 0))] [] (wdM B m_thrown m_size m_at m_wrong m_deep m_laws m_text m_readBoys m_readMarbles m_readFarms m_boys m_marbles m_farms m_holding m_spills m_acts m_draws m_bestRow m_bestMany m_noted m_hasImage m_tape m_code m_value m_codes m_clauses m_testFrom m_sumFrom m_sumTo m_letters m_stack m_readRule m_readBoy m_readMarble m_readFarm m_rule m_boy m_marble m_farm m_now m_refused m_kept m_notePlace m_noteKind m_noteIs m_toldBy m_image ++ fr) (f_M_isWhole m_readBoys m_readMarbles m_readMarble) := by
  unfold f_M_isWhole
  refine h_aload_n hX dX11_isWhole_0 rfl rfl ?_
  refine get_RX11_236_M0 hX dX11_isWhole_1 ?_
  refine h_if_le hX dX11_isWhole_4 (tgt := 18) (by decide) (fun _ => ?_) (fun _ => ?_)
  · exact w_M_isWhole_J18 hX
  · refine h_aload_n hX dX11_isWhole_7 rfl rfl ?_
    refine get_RX11_239_M0 hX dX11_isWhole_8 ?_
    refine h_if_le hX dX11_isWhole_11 (tgt := 18) (by decide) (fun _ => ?_) (fun _ => ?_)
    · exact w_M_isWhole_J18 hX
    · refine h_iconst hX dX11_isWhole_14 ki_1 ?_
      refine h_goto hX dX11_isWhole_15 (tgt := 19) (by decide) ?_
      exact w_M_isWhole_J19 hX
theorem c_M_isWhole {r : Int32} (h : f_M_isWhole m_readBoys m_readMarbles m_readMarble = some r) : gMet B 0 yX11_isWhole cX11_isWhole 3 (some .boolean) [.ref (aM B 0)] (wdM B m_thrown m_size m_at m_wrong m_deep m_laws m_text m_readBoys m_readMarbles m_readFarms m_boys m_marbles m_farms m_holding m_spills m_acts m_draws m_bestRow m_bestMany m_noted m_hasImage m_tape m_code m_value m_codes m_clauses m_testFrom m_sumFrom m_sumTo m_letters m_stack m_readRule m_readBoy m_readMarble m_readFarm m_rule m_boy m_marble m_farm m_now m_refused m_kept m_notePlace m_noteKind m_noteIs m_toldBy m_image ++ fr) (some (.int r)) (wdM B m_thrown m_size m_at m_wrong m_deep m_laws m_text m_readBoys m_readMarbles m_readFarms m_boys m_marbles m_farms m_holding m_spills m_acts m_draws m_bestRow m_bestMany m_noted m_hasImage m_tape m_code m_value m_codes m_clauses m_testFrom m_sumFrom m_sumTo m_letters m_stack m_readRule m_readBoy m_readMarble m_readFarm m_rule m_boy m_marble m_farm m_now m_refused m_kept m_notePlace m_noteKind m_noteIs m_toldBy m_image ++ fr) :=
  gMet.of rfl (Nat.le_of_ble_eq_true rfl) (fun X hX hF => w_M_isWhole hX r h hF)
set_option maxRecDepth 4000 in
theorem w_M_readYard_J232 (hX : gOk B X RX11 cX11_readYard 5 5 (some .int)) : gH B X (fun r : (Int32 × Int32 × Int32 × Int32 × Int32 × Int32 × (Nat → Int32) × (Nat → Int32) × (Nat → Int32) × (Nat → Int32)) => gFin X (some (.int r.1)) (wdM B m_thrown m_size r.2.1 r.2.2.1 m_deep m_laws m_text r.2.2.2.1 r.2.2.2.2.1 r.2.2.2.2.2.1 m_boys m_marbles m_farms m_holding m_spills m_acts m_draws m_bestRow m_bestMany m_noted m_hasImage m_tape m_code m_value m_codes m_clauses m_testFrom m_sumFrom m_sumTo m_letters m_stack r.2.2.2.2.2.2.1 r.2.2.2.2.2.2.2.1 r.2.2.2.2.2.2.2.2.1 r.2.2.2.2.2.2.2.2.2 m_rule m_boy m_marble m_farm m_now m_refused m_kept m_notePlace m_noteKind m_noteIs m_toldBy m_image ++ fr)) 232 [(0, .ref (aM B 0))] [] (wdM B m_thrown m_size m_at m_wrong m_deep m_laws m_text m_readBoys m_readMarbles m_readFarms m_boys m_marbles m_farms m_holding m_spills m_acts m_draws m_bestRow m_bestMany m_noted m_hasImage m_tape m_code m_value m_codes m_clauses m_testFrom m_sumFrom m_sumTo m_letters m_stack m_readRule m_readBoy m_readMarble m_readFarm m_rule m_boy m_marble m_farm m_now m_refused m_kept m_notePlace m_noteKind m_noteIs m_toldBy m_image ++ fr) (f_M_readYard_J232 m_at m_wrong m_readBoys m_readMarbles m_readFarms m_readRule m_readBoy m_readMarble m_readFarm) := by
  unfold f_M_readYard_J232
  refine h_aload_n hX dX11_readYard_232 rfl rfl ?_
  refine h_callVv hX dX11_readYard_233 (cv_RX11_119) rc_M0 (As := []) (st := []) (fun _ h => c_M_bad h) rfl rfl (by decide) (Nat.le_of_ble_eq_true rfl) (fun a_2 => ?_)
  refine h_aload_n hX dX11_readYard_236 rfl rfl ?_
  refine get_RX11_110_M0 hX dX11_readYard_237 ?_
  exact h_ret hX (rv := some (.int a_2)) dX11_readYard_240 trivial (fun h => h)
set_option maxRecDepth 4000 in
theorem w_M_readYard_J209 (hX : gOk B X RX11 cX11_readYard 5 5 (some .int)) : gH B X (fun r : (Int32 × Int32 × Int32 × Int32 × Int32 × Int32 × (Nat → Int32) × (Nat → Int32) × (Nat → Int32) × (Nat → Int32)) => gFin X (some (.int r.1)) (wdM B m_thrown m_size r.2.1 r.2.2.1 m_deep m_laws m_text r.2.2.2.1 r.2.2.2.2.1 r.2.2.2.2.2.1 m_boys m_marbles m_farms m_holding m_spills m_acts m_draws m_bestRow m_bestMany m_noted m_hasImage m_tape m_code m_value m_codes m_clauses m_testFrom m_sumFrom m_sumTo m_letters m_stack r.2.2.2.2.2.2.1 r.2.2.2.2.2.2.2.1 r.2.2.2.2.2.2.2.2.1 r.2.2.2.2.2.2.2.2.2 m_rule m_boy m_marble m_farm m_now m_refused m_kept m_notePlace m_noteKind m_noteIs m_toldBy m_image ++ fr)) 209 [(0, .ref (aM B 0))] [] (wdM B m_thrown m_size m_at m_wrong m_deep m_laws m_text m_readBoys m_readMarbles m_readFarms m_boys m_marbles m_farms m_holding m_spills m_acts m_draws m_bestRow m_bestMany m_noted m_hasImage m_tape m_code m_value m_codes m_clauses m_testFrom m_sumFrom m_sumTo m_letters m_stack m_readRule m_readBoy m_readMarble m_readFarm m_rule m_boy m_marble m_farm m_now m_refused m_kept m_notePlace m_noteKind m_noteIs m_toldBy m_image ++ fr) (f_M_readYard_J209 m_size m_at m_wrong m_readBoys m_readMarbles m_readFarms m_tape m_readRule m_readBoy m_readMarble m_readFarm) := by
  unfold f_M_readYard_J209
  refine h_aload_n hX dX11_readYard_209 rfl rfl ?_
  refine get_RX11_110_M0 hX dX11_readYard_210 ?_
  refine h_iconst hX dX11_readYard_213 ki_m1 ?_
  refine h_icmp_ne hX dX11_readYard_214 (tgt := 236) (by decide) (fun _ => ?_) (fun _ => ?_)
  · refine h_aload_n hX dX11_readYard_236 rfl rfl ?_
    refine get_RX11_110_M0 hX dX11_readYard_237 ?_
    exact h_ret hX (rv := some (.int m_wrong)) dX11_readYard_240 trivial (fun h => h)
  · refine h_aload_n hX dX11_readYard_217 rfl rfl ?_
    refine h_callVi hX dX11_readYard_218 (cv_RX11_122) rc_M0 (As := []) (st := []) (fun _ h => c_M_look h) rfl rfl (by decide) (Nat.le_of_ble_eq_true rfl) (fun a_1 => ?_)
    refine h_iconst hX dX11_readYard_221 ki_m1 ?_
    refine h_icmp_ne hX dX11_readYard_222 (tgt := 232) (by decide) (fun _ => ?_) (fun _ => ?_)
    · exact w_M_readYard_J232 hX
    · refine h_aload_n hX dX11_readYard_225 rfl rfl ?_
      refine h_callVi hX dX11_readYard_226 (cv_RX11_248) rc_M0 (As := []) (st := []) (fun _ h => c_M_isWhole h) rfl rfl (by decide) (Nat.le_of_ble_eq_true rfl) (fun a_3 => ?_)
      refine h_if_ne hX dX11_readYard_229 (tgt := 236) (by decide) (fun _ => ?_) (fun _ => ?_)
      · refine h_aload_n hX dX11_readYard_236 rfl rfl ?_
        refine get_RX11_110_M0 hX dX11_readYard_237 ?_
        exact h_ret hX (rv := some (.int m_wrong)) dX11_readYard_240 trivial (fun h => h)
      · exact w_M_readYard_J232 hX
set_option maxRecDepth 4000 in
theorem w_M_readYard_J202 {v1 : Int32} {v2 : Int32} {k1 : Int32} {k2 : Int32} (hX : gOk B X RX11 cX11_readYard 5 5 (some .int)) : gH B X (Sum.elim (fun s : (Int32 × Int32 × Int32 × Int32 × Int32 × Int32 × Int32 × (Nat → Int32) × (Nat → Int32) × (Nat → Int32) × (Nat → Int32)) => gG B X 54 [(0, .ref (aM B 0)), (1, .int s.1), (2, .int s.2.1)] [] (wdM B m_thrown m_size s.2.2.1 s.2.2.2.1 m_deep m_laws m_text s.2.2.2.2.1 s.2.2.2.2.2.1 s.2.2.2.2.2.2.1 m_boys m_marbles m_farms m_holding m_spills m_acts m_draws m_bestRow m_bestMany m_noted m_hasImage m_tape m_code m_value m_codes m_clauses m_testFrom m_sumFrom m_sumTo m_letters m_stack s.2.2.2.2.2.2.2.1 s.2.2.2.2.2.2.2.2.1 s.2.2.2.2.2.2.2.2.2.1 s.2.2.2.2.2.2.2.2.2.2 m_rule m_boy m_marble m_farm m_now m_refused m_kept m_notePlace m_noteKind m_noteIs m_toldBy m_image ++ fr)) (fun r : (Int32 × Int32 × Int32 × Int32 × Int32 × Int32 × (Nat → Int32) × (Nat → Int32) × (Nat → Int32) × (Nat → Int32)) => gFin X (some (.int r.1)) (wdM B m_thrown m_size r.2.1 r.2.2.1 m_deep m_laws m_text r.2.2.2.1 r.2.2.2.2.1 r.2.2.2.2.2.1 m_boys m_marbles m_farms m_holding m_spills m_acts m_draws m_bestRow m_bestMany m_noted m_hasImage m_tape m_code m_value m_codes m_clauses m_testFrom m_sumFrom m_sumTo m_letters m_stack r.2.2.2.2.2.2.1 r.2.2.2.2.2.2.2.1 r.2.2.2.2.2.2.2.2.1 r.2.2.2.2.2.2.2.2.2 m_rule m_boy m_marble m_farm m_now m_refused m_kept m_notePlace m_noteKind m_noteIs m_toldBy m_image ++ fr))) 202 [(0, .ref (aM B 0)), (1, .int v1), (2, .int v2)] [.int k2, .int k1, .ref (aM B 0)] (wdM B m_thrown m_size m_at m_wrong m_deep m_laws m_text m_readBoys m_readMarbles m_readFarms m_boys m_marbles m_farms m_holding m_spills m_acts m_draws m_bestRow m_bestMany m_noted m_hasImage m_tape m_code m_value m_codes m_clauses m_testFrom m_sumFrom m_sumTo m_letters m_stack m_readRule m_readBoy m_readMarble m_readFarm m_rule m_boy m_marble m_farm m_now m_refused m_kept m_notePlace m_noteKind m_noteIs m_toldBy m_image ++ fr) (f_M_readYard_J202 m_wrong m_readBoys m_readMarbles m_readFarms m_readRule m_readBoy m_readMarble m_readFarm v1 v2 k1 k2) := by
  unfold f_M_readYard_J202
  refine h_iadd hX dX11_readYard_202 ?_
  refine put_RX11_103_M0 hX dX11_readYard_203 ?_
  refine gH.letw (w := fun y => wdM B m_thrown m_size y m_wrong m_deep m_laws m_text m_readBoys m_readMarbles m_readFarms m_boys m_marbles m_farms m_holding m_spills m_acts m_draws m_bestRow m_bestMany m_noted m_hasImage m_tape m_code m_value m_codes m_clauses m_testFrom m_sumFrom m_sumTo m_letters m_stack m_readRule m_readBoy m_readMarble m_readFarm m_rule m_boy m_marble m_farm m_now m_refused m_kept m_notePlace m_noteKind m_noteIs m_toldBy m_image ++ fr) (fun m_at_6 => ?_)
  refine h_goto hX dX11_readYard_206 (tgt := 54) (by decide) ?_
  exact gH.some' (fun h => h)
set_option maxRecDepth 4000 in
theorem w_M_readYard_J187 {v1 : Int32} {k0 : Int32} (hX : gOk B X RX11 cX11_readYard 5 5 (some .int)) : gH B X (Sum.elim (fun s : (Int32 × Int32 × Int32 × Int32 × Int32 × Int32 × Int32 × (Nat → Int32) × (Nat → Int32) × (Nat → Int32) × (Nat → Int32)) => gG B X 54 [(0, .ref (aM B 0)), (1, .int s.1), (2, .int s.2.1)] [] (wdM B m_thrown m_size s.2.2.1 s.2.2.2.1 m_deep m_laws m_text s.2.2.2.2.1 s.2.2.2.2.2.1 s.2.2.2.2.2.2.1 m_boys m_marbles m_farms m_holding m_spills m_acts m_draws m_bestRow m_bestMany m_noted m_hasImage m_tape m_code m_value m_codes m_clauses m_testFrom m_sumFrom m_sumTo m_letters m_stack s.2.2.2.2.2.2.2.1 s.2.2.2.2.2.2.2.2.1 s.2.2.2.2.2.2.2.2.2.1 s.2.2.2.2.2.2.2.2.2.2 m_rule m_boy m_marble m_farm m_now m_refused m_kept m_notePlace m_noteKind m_noteIs m_toldBy m_image ++ fr)) (fun r : (Int32 × Int32 × Int32 × Int32 × Int32 × Int32 × (Nat → Int32) × (Nat → Int32) × (Nat → Int32) × (Nat → Int32)) => gFin X (some (.int r.1)) (wdM B m_thrown m_size r.2.1 r.2.2.1 m_deep m_laws m_text r.2.2.2.1 r.2.2.2.2.1 r.2.2.2.2.2.1 m_boys m_marbles m_farms m_holding m_spills m_acts m_draws m_bestRow m_bestMany m_noted m_hasImage m_tape m_code m_value m_codes m_clauses m_testFrom m_sumFrom m_sumTo m_letters m_stack r.2.2.2.2.2.2.1 r.2.2.2.2.2.2.2.1 r.2.2.2.2.2.2.2.2.1 r.2.2.2.2.2.2.2.2.2 m_rule m_boy m_marble m_farm m_now m_refused m_kept m_notePlace m_noteKind m_noteIs m_toldBy m_image ++ fr))) 187 [(0, .ref (aM B 0)), (1, .int v1)] [.int k0] (wdM B m_thrown m_size m_at m_wrong m_deep m_laws m_text m_readBoys m_readMarbles m_readFarms m_boys m_marbles m_farms m_holding m_spills m_acts m_draws m_bestRow m_bestMany m_noted m_hasImage m_tape m_code m_value m_codes m_clauses m_testFrom m_sumFrom m_sumTo m_letters m_stack m_readRule m_readBoy m_readMarble m_readFarm m_rule m_boy m_marble m_farm m_now m_refused m_kept m_notePlace m_noteKind m_noteIs m_toldBy m_image ++ fr) (f_M_readYard_J187 m_at m_wrong m_readBoys m_readMarbles m_readFarms m_readRule m_readBoy m_readMarble m_readFarm v1 k0) := by
  unfold f_M_readYard_J187
  refine h_istore_n hX dX11_readYard_187 rfl (by decide) (lv' := [(0, .ref (aM B 0)), (1, .int v1), (2, .int k0)]) rfl ?_
  refine h_aload_n hX dX11_readYard_188 rfl rfl ?_
  refine h_dup hX dX11_readYard_189 rfl ?_
  refine get_RX11_103_M0 hX dX11_readYard_190 ?_
  refine h_iload_n hX dX11_readYard_193 rfl rfl ?_
  refine h_if_eq hX dX11_readYard_194 (tgt := 201) (by decide) (fun _ => ?_) (fun _ => ?_)
  · refine h_iconst hX dX11_readYard_201 ki_0 ?_
    exact w_M_readYard_J202 hX
  · refine h_iconst hX dX11_readYard_197 ki_1 ?_
    refine h_goto hX dX11_readYard_198 (tgt := 202) (by decide) ?_
    exact w_M_readYard_J202 hX
set_option maxRecDepth 4000 in
theorem w_M_readYard_J186 {v1 : Int32} (hX : gOk B X RX11 cX11_readYard 5 5 (some .int)) : gH B X (Sum.elim (fun s : (Int32 × Int32 × Int32 × Int32 × Int32 × Int32 × Int32 × (Nat → Int32) × (Nat → Int32) × (Nat → Int32) × (Nat → Int32)) => gG B X 54 [(0, .ref (aM B 0)), (1, .int s.1), (2, .int s.2.1)] [] (wdM B m_thrown m_size s.2.2.1 s.2.2.2.1 m_deep m_laws m_text s.2.2.2.2.1 s.2.2.2.2.2.1 s.2.2.2.2.2.2.1 m_boys m_marbles m_farms m_holding m_spills m_acts m_draws m_bestRow m_bestMany m_noted m_hasImage m_tape m_code m_value m_codes m_clauses m_testFrom m_sumFrom m_sumTo m_letters m_stack s.2.2.2.2.2.2.2.1 s.2.2.2.2.2.2.2.2.1 s.2.2.2.2.2.2.2.2.2.1 s.2.2.2.2.2.2.2.2.2.2 m_rule m_boy m_marble m_farm m_now m_refused m_kept m_notePlace m_noteKind m_noteIs m_toldBy m_image ++ fr)) (fun r : (Int32 × Int32 × Int32 × Int32 × Int32 × Int32 × (Nat → Int32) × (Nat → Int32) × (Nat → Int32) × (Nat → Int32)) => gFin X (some (.int r.1)) (wdM B m_thrown m_size r.2.1 r.2.2.1 m_deep m_laws m_text r.2.2.2.1 r.2.2.2.2.1 r.2.2.2.2.2.1 m_boys m_marbles m_farms m_holding m_spills m_acts m_draws m_bestRow m_bestMany m_noted m_hasImage m_tape m_code m_value m_codes m_clauses m_testFrom m_sumFrom m_sumTo m_letters m_stack r.2.2.2.2.2.2.1 r.2.2.2.2.2.2.2.1 r.2.2.2.2.2.2.2.2.1 r.2.2.2.2.2.2.2.2.2 m_rule m_boy m_marble m_farm m_now m_refused m_kept m_notePlace m_noteKind m_noteIs m_toldBy m_image ++ fr))) 186 [(0, .ref (aM B 0)), (1, .int v1)] [] (wdM B m_thrown m_size m_at m_wrong m_deep m_laws m_text m_readBoys m_readMarbles m_readFarms m_boys m_marbles m_farms m_holding m_spills m_acts m_draws m_bestRow m_bestMany m_noted m_hasImage m_tape m_code m_value m_codes m_clauses m_testFrom m_sumFrom m_sumTo m_letters m_stack m_readRule m_readBoy m_readMarble m_readFarm m_rule m_boy m_marble m_farm m_now m_refused m_kept m_notePlace m_noteKind m_noteIs m_toldBy m_image ++ fr) (f_M_readYard_J186 m_at m_wrong m_readBoys m_readMarbles m_readFarms m_readRule m_readBoy m_readMarble m_readFarm v1) := by
  unfold f_M_readYard_J186
  refine h_iconst hX dX11_readYard_186 ki_0 ?_
  exact w_M_readYard_J187 hX
set_option maxRecDepth 4000 in
theorem w_M_readYard_J165 {v1 : Int32} (hX : gOk B X RX11 cX11_readYard 5 5 (some .int)) : gH B X (Sum.elim (fun s : (Int32 × Int32 × Int32 × Int32 × Int32 × Int32 × Int32 × (Nat → Int32) × (Nat → Int32) × (Nat → Int32) × (Nat → Int32)) => gG B X 54 [(0, .ref (aM B 0)), (1, .int s.1), (2, .int s.2.1)] [] (wdM B m_thrown m_size s.2.2.1 s.2.2.2.1 m_deep m_laws m_text s.2.2.2.2.1 s.2.2.2.2.2.1 s.2.2.2.2.2.2.1 m_boys m_marbles m_farms m_holding m_spills m_acts m_draws m_bestRow m_bestMany m_noted m_hasImage m_tape m_code m_value m_codes m_clauses m_testFrom m_sumFrom m_sumTo m_letters m_stack s.2.2.2.2.2.2.2.1 s.2.2.2.2.2.2.2.2.1 s.2.2.2.2.2.2.2.2.2.1 s.2.2.2.2.2.2.2.2.2.2 m_rule m_boy m_marble m_farm m_now m_refused m_kept m_notePlace m_noteKind m_noteIs m_toldBy m_image ++ fr)) (fun r : (Int32 × Int32 × Int32 × Int32 × Int32 × Int32 × (Nat → Int32) × (Nat → Int32) × (Nat → Int32) × (Nat → Int32)) => gFin X (some (.int r.1)) (wdM B m_thrown m_size r.2.1 r.2.2.1 m_deep m_laws m_text r.2.2.2.1 r.2.2.2.2.1 r.2.2.2.2.2.1 m_boys m_marbles m_farms m_holding m_spills m_acts m_draws m_bestRow m_bestMany m_noted m_hasImage m_tape m_code m_value m_codes m_clauses m_testFrom m_sumFrom m_sumTo m_letters m_stack r.2.2.2.2.2.2.1 r.2.2.2.2.2.2.2.1 r.2.2.2.2.2.2.2.2.1 r.2.2.2.2.2.2.2.2.2 m_rule m_boy m_marble m_farm m_now m_refused m_kept m_notePlace m_noteKind m_noteIs m_toldBy m_image ++ fr))) 165 [(0, .ref (aM B 0)), (1, .int v1)] [] (wdM B m_thrown m_size m_at m_wrong m_deep m_laws m_text m_readBoys m_readMarbles m_readFarms m_boys m_marbles m_farms m_holding m_spills m_acts m_draws m_bestRow m_bestMany m_noted m_hasImage m_tape m_code m_value m_codes m_clauses m_testFrom m_sumFrom m_sumTo m_letters m_stack m_readRule m_readBoy m_readMarble m_readFarm m_rule m_boy m_marble m_farm m_now m_refused m_kept m_notePlace m_noteKind m_noteIs m_toldBy m_image ++ fr) (f_M_readYard_J165 m_size m_at m_wrong m_readBoys m_readMarbles m_readFarms m_tape m_readRule m_readBoy m_readMarble m_readFarm v1) := by
  unfold f_M_readYard_J165
  refine h_aload_n hX dX11_readYard_165 rfl rfl ?_
  refine get_RX11_110_M0 hX dX11_readYard_166 ?_
  refine h_iconst hX dX11_readYard_169 ki_m1 ?_
  refine h_icmp_ne hX dX11_readYard_170 (tgt := 186) (by decide) (fun _ => ?_) (fun _ => ?_)
  · exact w_M_readYard_J186 hX
  · refine h_aload_n hX dX11_readYard_173 rfl rfl ?_
    refine h_callVi hX dX11_readYard_174 (cv_RX11_122) rc_M0 (As := []) (st := []) (fun _ h => c_M_look h) rfl rfl (by decide) (Nat.le_of_ble_eq_true rfl) (fun a_7 => ?_)
    refine h_bipush hX dX11_readYard_177 kb_59 ?_
    refine h_icmp_ne hX dX11_readYard_179 (tgt := 186) (by decide) (fun _ => ?_) (fun _ => ?_)
    · exact w_M_readYard_J186 hX
    · refine h_iconst hX dX11_readYard_182 ki_1 ?_
      refine h_goto hX dX11_readYard_183 (tgt := 187) (by decide) ?_
      exact w_M_readYard_J187 hX
set_option maxRecDepth 4000 in
theorem w_M_readYard_J152 {v3 : Int32} {k0 : Int32} (hX : gOk B X RX11 cX11_readYard 5 5 (some .int)) : gH B X (Sum.elim (fun s : (Int32 × Int32 × Int32 × Int32 × Int32 × Int32 × Int32 × (Nat → Int32) × (Nat → Int32) × (Nat → Int32) × (Nat → Int32)) => gG B X 54 [(0, .ref (aM B 0)), (1, .int s.1), (2, .int s.2.1)] [] (wdM B m_thrown m_size s.2.2.1 s.2.2.2.1 m_deep m_laws m_text s.2.2.2.2.1 s.2.2.2.2.2.1 s.2.2.2.2.2.2.1 m_boys m_marbles m_farms m_holding m_spills m_acts m_draws m_bestRow m_bestMany m_noted m_hasImage m_tape m_code m_value m_codes m_clauses m_testFrom m_sumFrom m_sumTo m_letters m_stack s.2.2.2.2.2.2.2.1 s.2.2.2.2.2.2.2.2.1 s.2.2.2.2.2.2.2.2.2.1 s.2.2.2.2.2.2.2.2.2.2 m_rule m_boy m_marble m_farm m_now m_refused m_kept m_notePlace m_noteKind m_noteIs m_toldBy m_image ++ fr)) (fun r : (Int32 × Int32 × Int32 × Int32 × Int32 × Int32 × (Nat → Int32) × (Nat → Int32) × (Nat → Int32) × (Nat → Int32)) => gFin X (some (.int r.1)) (wdM B m_thrown m_size r.2.1 r.2.2.1 m_deep m_laws m_text r.2.2.2.1 r.2.2.2.2.1 r.2.2.2.2.2.1 m_boys m_marbles m_farms m_holding m_spills m_acts m_draws m_bestRow m_bestMany m_noted m_hasImage m_tape m_code m_value m_codes m_clauses m_testFrom m_sumFrom m_sumTo m_letters m_stack r.2.2.2.2.2.2.1 r.2.2.2.2.2.2.2.1 r.2.2.2.2.2.2.2.2.1 r.2.2.2.2.2.2.2.2.2 m_rule m_boy m_marble m_farm m_now m_refused m_kept m_notePlace m_noteKind m_noteIs m_toldBy m_image ++ fr))) 152 [(0, .ref (aM B 0)), (3, .int v3)] [.int k0] (wdM B m_thrown m_size m_at m_wrong m_deep m_laws m_text m_readBoys m_readMarbles m_readFarms m_boys m_marbles m_farms m_holding m_spills m_acts m_draws m_bestRow m_bestMany m_noted m_hasImage m_tape m_code m_value m_codes m_clauses m_testFrom m_sumFrom m_sumTo m_letters m_stack m_readRule m_readBoy m_readMarble m_readFarm m_rule m_boy m_marble m_farm m_now m_refused m_kept m_notePlace m_noteKind m_noteIs m_toldBy m_image ++ fr) (f_M_readYard_J152 m_size m_at m_wrong m_readBoys m_readMarbles m_readFarms m_tape m_readRule m_readBoy m_readMarble m_readFarm v3 k0) := by
  unfold f_M_readYard_J152
  refine h_istore_n hX dX11_readYard_152 rfl (by decide) (lv' := [(0, .ref (aM B 0)), (1, .int k0), (3, .int v3)]) rfl ?_
  refine h_aload_n hX dX11_readYard_153 rfl rfl ?_
  refine h_iload_n hX dX11_readYard_154 rfl rfl ?_
  refine h_callVv hX dX11_readYard_155 (cv_RX11_245) rc_M0 (As := [.int v3]) (st := []) (fun _ h => c_M_clauseText h) rfl rfl (by decide) (Nat.le_of_ble_eq_true rfl) (fun a_8 => ?_)
  refine h_goto hX dX11_readYard_158 (tgt := 165) (by decide) ?_
  refine gH.dead [0, 1] rfl ?_
  exact w_M_readYard_J165 hX
set_option maxRecDepth 4000 in
theorem w_M_readYard_J147 {v3 : Int32} (hX : gOk B X RX11 cX11_readYard 5 5 (some .int)) : gH B X (Sum.elim (fun s : (Int32 × Int32 × Int32 × Int32 × Int32 × Int32 × Int32 × (Nat → Int32) × (Nat → Int32) × (Nat → Int32) × (Nat → Int32)) => gG B X 54 [(0, .ref (aM B 0)), (1, .int s.1), (2, .int s.2.1)] [] (wdM B m_thrown m_size s.2.2.1 s.2.2.2.1 m_deep m_laws m_text s.2.2.2.2.1 s.2.2.2.2.2.1 s.2.2.2.2.2.2.1 m_boys m_marbles m_farms m_holding m_spills m_acts m_draws m_bestRow m_bestMany m_noted m_hasImage m_tape m_code m_value m_codes m_clauses m_testFrom m_sumFrom m_sumTo m_letters m_stack s.2.2.2.2.2.2.2.1 s.2.2.2.2.2.2.2.2.1 s.2.2.2.2.2.2.2.2.2.1 s.2.2.2.2.2.2.2.2.2.2 m_rule m_boy m_marble m_farm m_now m_refused m_kept m_notePlace m_noteKind m_noteIs m_toldBy m_image ++ fr)) (fun r : (Int32 × Int32 × Int32 × Int32 × Int32 × Int32 × (Nat → Int32) × (Nat → Int32) × (Nat → Int32) × (Nat → Int32)) => gFin X (some (.int r.1)) (wdM B m_thrown m_size r.2.1 r.2.2.1 m_deep m_laws m_text r.2.2.2.1 r.2.2.2.2.1 r.2.2.2.2.2.1 m_boys m_marbles m_farms m_holding m_spills m_acts m_draws m_bestRow m_bestMany m_noted m_hasImage m_tape m_code m_value m_codes m_clauses m_testFrom m_sumFrom m_sumTo m_letters m_stack r.2.2.2.2.2.2.1 r.2.2.2.2.2.2.2.1 r.2.2.2.2.2.2.2.2.1 r.2.2.2.2.2.2.2.2.2 m_rule m_boy m_marble m_farm m_now m_refused m_kept m_notePlace m_noteKind m_noteIs m_toldBy m_image ++ fr))) 147 [(0, .ref (aM B 0)), (3, .int v3)] [] (wdM B m_thrown m_size m_at m_wrong m_deep m_laws m_text m_readBoys m_readMarbles m_readFarms m_boys m_marbles m_farms m_holding m_spills m_acts m_draws m_bestRow m_bestMany m_noted m_hasImage m_tape m_code m_value m_codes m_clauses m_testFrom m_sumFrom m_sumTo m_letters m_stack m_readRule m_readBoy m_readMarble m_readFarm m_rule m_boy m_marble m_farm m_now m_refused m_kept m_notePlace m_noteKind m_noteIs m_toldBy m_image ++ fr) (f_M_readYard_J147 m_size m_at m_wrong m_readBoys m_readMarbles m_readFarms m_tape m_readRule m_readBoy m_readMarble m_readFarm v3) := by
  unfold f_M_readYard_J147
  refine h_iconst hX dX11_readYard_147 ki_1 ?_
  refine h_goto hX dX11_readYard_148 (tgt := 152) (by decide) ?_
  exact w_M_readYard_J152 hX
set_option maxRecDepth 4000 in
theorem w_M_readYard_J130 {v1 : Int32} {v3 : Int32} {k0 : Int32} (hX : gOk B X RX11 cX11_readYard 5 5 (some .int)) : gH B X (Sum.elim (fun s : (Int32 × Int32 × Int32 × Int32 × Int32 × Int32 × Int32 × (Nat → Int32) × (Nat → Int32) × (Nat → Int32) × (Nat → Int32)) => gG B X 54 [(0, .ref (aM B 0)), (1, .int s.1), (2, .int s.2.1)] [] (wdM B m_thrown m_size s.2.2.1 s.2.2.2.1 m_deep m_laws m_text s.2.2.2.2.1 s.2.2.2.2.2.1 s.2.2.2.2.2.2.1 m_boys m_marbles m_farms m_holding m_spills m_acts m_draws m_bestRow m_bestMany m_noted m_hasImage m_tape m_code m_value m_codes m_clauses m_testFrom m_sumFrom m_sumTo m_letters m_stack s.2.2.2.2.2.2.2.1 s.2.2.2.2.2.2.2.2.1 s.2.2.2.2.2.2.2.2.2.1 s.2.2.2.2.2.2.2.2.2.2 m_rule m_boy m_marble m_farm m_now m_refused m_kept m_notePlace m_noteKind m_noteIs m_toldBy m_image ++ fr)) (fun r : (Int32 × Int32 × Int32 × Int32 × Int32 × Int32 × (Nat → Int32) × (Nat → Int32) × (Nat → Int32) × (Nat → Int32)) => gFin X (some (.int r.1)) (wdM B m_thrown m_size r.2.1 r.2.2.1 m_deep m_laws m_text r.2.2.2.1 r.2.2.2.2.1 r.2.2.2.2.2.1 m_boys m_marbles m_farms m_holding m_spills m_acts m_draws m_bestRow m_bestMany m_noted m_hasImage m_tape m_code m_value m_codes m_clauses m_testFrom m_sumFrom m_sumTo m_letters m_stack r.2.2.2.2.2.2.1 r.2.2.2.2.2.2.2.1 r.2.2.2.2.2.2.2.2.1 r.2.2.2.2.2.2.2.2.2 m_rule m_boy m_marble m_farm m_now m_refused m_kept m_notePlace m_noteKind m_noteIs m_toldBy m_image ++ fr))) 130 [(0, .ref (aM B 0)), (1, .int v1), (3, .int v3)] [.int k0] (wdM B m_thrown m_size m_at m_wrong m_deep m_laws m_text m_readBoys m_readMarbles m_readFarms m_boys m_marbles m_farms m_holding m_spills m_acts m_draws m_bestRow m_bestMany m_noted m_hasImage m_tape m_code m_value m_codes m_clauses m_testFrom m_sumFrom m_sumTo m_letters m_stack m_readRule m_readBoy m_readMarble m_readFarm m_rule m_boy m_marble m_farm m_now m_refused m_kept m_notePlace m_noteKind m_noteIs m_toldBy m_image ++ fr) (f_M_readYard_J130 m_size m_at m_wrong m_readBoys m_readMarbles m_readFarms m_tape m_readRule m_readBoy m_readMarble m_readFarm v1 v3 k0) := by
  unfold f_M_readYard_J130
  refine h_istore hX dX11_readYard_130 (by decide) (lv' := [(0, .ref (aM B 0)), (1, .int v1), (3, .int v3), (4, .int k0)]) rfl ?_
  refine h_iload hX dX11_readYard_132 rfl ?_
  refine h_if_eq hX dX11_readYard_134 (tgt := 161) (by decide) (fun _ => ?_) (fun _ => ?_)
  · refine h_aload_n hX dX11_readYard_161 rfl rfl ?_
    refine h_callVv hX dX11_readYard_162 (cv_RX11_119) rc_M0 (As := []) (st := []) (fun _ h => c_M_bad h) rfl rfl (by decide) (Nat.le_of_ble_eq_true rfl) (fun a_5 => ?_)
    refine gH.dead [0, 1] rfl ?_
    exact w_M_readYard_J165 hX
  · refine h_iload_n hX dX11_readYard_137 rfl rfl ?_
    refine h_if_ne hX dX11_readYard_138 (tgt := 147) (by decide) (fun _ => ?_) (fun _ => ?_)
    · refine gH.dead [0, 2] rfl ?_
      exact w_M_readYard_J147 hX
    · refine h_iload_n hX dX11_readYard_141 rfl rfl ?_
      refine h_bipush hX dX11_readYard_142 kb_115 ?_
      refine h_icmp_ne hX dX11_readYard_144 (tgt := 151) (by decide) (fun _ => ?_) (fun _ => ?_)
      · refine h_iconst hX dX11_readYard_151 ki_0 ?_
        refine gH.dead [0, 2] rfl ?_
        exact w_M_readYard_J152 hX
      · refine gH.dead [0, 2] rfl ?_
        exact w_M_readYard_J147 hX
set_option maxRecDepth 4000 in
theorem w_M_readYard_J129 {v1 : Int32} {v3 : Int32} (hX : gOk B X RX11 cX11_readYard 5 5 (some .int)) : gH B X (Sum.elim (fun s : (Int32 × Int32 × Int32 × Int32 × Int32 × Int32 × Int32 × (Nat → Int32) × (Nat → Int32) × (Nat → Int32) × (Nat → Int32)) => gG B X 54 [(0, .ref (aM B 0)), (1, .int s.1), (2, .int s.2.1)] [] (wdM B m_thrown m_size s.2.2.1 s.2.2.2.1 m_deep m_laws m_text s.2.2.2.2.1 s.2.2.2.2.2.1 s.2.2.2.2.2.2.1 m_boys m_marbles m_farms m_holding m_spills m_acts m_draws m_bestRow m_bestMany m_noted m_hasImage m_tape m_code m_value m_codes m_clauses m_testFrom m_sumFrom m_sumTo m_letters m_stack s.2.2.2.2.2.2.2.1 s.2.2.2.2.2.2.2.2.1 s.2.2.2.2.2.2.2.2.2.1 s.2.2.2.2.2.2.2.2.2.2 m_rule m_boy m_marble m_farm m_now m_refused m_kept m_notePlace m_noteKind m_noteIs m_toldBy m_image ++ fr)) (fun r : (Int32 × Int32 × Int32 × Int32 × Int32 × Int32 × (Nat → Int32) × (Nat → Int32) × (Nat → Int32) × (Nat → Int32)) => gFin X (some (.int r.1)) (wdM B m_thrown m_size r.2.1 r.2.2.1 m_deep m_laws m_text r.2.2.2.1 r.2.2.2.2.1 r.2.2.2.2.2.1 m_boys m_marbles m_farms m_holding m_spills m_acts m_draws m_bestRow m_bestMany m_noted m_hasImage m_tape m_code m_value m_codes m_clauses m_testFrom m_sumFrom m_sumTo m_letters m_stack r.2.2.2.2.2.2.1 r.2.2.2.2.2.2.2.1 r.2.2.2.2.2.2.2.2.1 r.2.2.2.2.2.2.2.2.2 m_rule m_boy m_marble m_farm m_now m_refused m_kept m_notePlace m_noteKind m_noteIs m_toldBy m_image ++ fr))) 129 [(0, .ref (aM B 0)), (1, .int v1), (3, .int v3)] [] (wdM B m_thrown m_size m_at m_wrong m_deep m_laws m_text m_readBoys m_readMarbles m_readFarms m_boys m_marbles m_farms m_holding m_spills m_acts m_draws m_bestRow m_bestMany m_noted m_hasImage m_tape m_code m_value m_codes m_clauses m_testFrom m_sumFrom m_sumTo m_letters m_stack m_readRule m_readBoy m_readMarble m_readFarm m_rule m_boy m_marble m_farm m_now m_refused m_kept m_notePlace m_noteKind m_noteIs m_toldBy m_image ++ fr) (f_M_readYard_J129 m_size m_at m_wrong m_readBoys m_readMarbles m_readFarms m_tape m_readRule m_readBoy m_readMarble m_readFarm v1 v3) := by
  unfold f_M_readYard_J129
  refine h_iconst hX dX11_readYard_129 ki_0 ?_
  exact w_M_readYard_J130 hX
set_option maxRecDepth 4000 in
theorem w_M_readYard_J125 {v1 : Int32} {v3 : Int32} (hX : gOk B X RX11 cX11_readYard 5 5 (some .int)) : gH B X (Sum.elim (fun s : (Int32 × Int32 × Int32 × Int32 × Int32 × Int32 × Int32 × (Nat → Int32) × (Nat → Int32) × (Nat → Int32) × (Nat → Int32)) => gG B X 54 [(0, .ref (aM B 0)), (1, .int s.1), (2, .int s.2.1)] [] (wdM B m_thrown m_size s.2.2.1 s.2.2.2.1 m_deep m_laws m_text s.2.2.2.2.1 s.2.2.2.2.2.1 s.2.2.2.2.2.2.1 m_boys m_marbles m_farms m_holding m_spills m_acts m_draws m_bestRow m_bestMany m_noted m_hasImage m_tape m_code m_value m_codes m_clauses m_testFrom m_sumFrom m_sumTo m_letters m_stack s.2.2.2.2.2.2.2.1 s.2.2.2.2.2.2.2.2.1 s.2.2.2.2.2.2.2.2.2.1 s.2.2.2.2.2.2.2.2.2.2 m_rule m_boy m_marble m_farm m_now m_refused m_kept m_notePlace m_noteKind m_noteIs m_toldBy m_image ++ fr)) (fun r : (Int32 × Int32 × Int32 × Int32 × Int32 × Int32 × (Nat → Int32) × (Nat → Int32) × (Nat → Int32) × (Nat → Int32)) => gFin X (some (.int r.1)) (wdM B m_thrown m_size r.2.1 r.2.2.1 m_deep m_laws m_text r.2.2.2.1 r.2.2.2.2.1 r.2.2.2.2.2.1 m_boys m_marbles m_farms m_holding m_spills m_acts m_draws m_bestRow m_bestMany m_noted m_hasImage m_tape m_code m_value m_codes m_clauses m_testFrom m_sumFrom m_sumTo m_letters m_stack r.2.2.2.2.2.2.1 r.2.2.2.2.2.2.2.1 r.2.2.2.2.2.2.2.2.1 r.2.2.2.2.2.2.2.2.2 m_rule m_boy m_marble m_farm m_now m_refused m_kept m_notePlace m_noteKind m_noteIs m_toldBy m_image ++ fr))) 125 [(0, .ref (aM B 0)), (1, .int v1), (3, .int v3)] [] (wdM B m_thrown m_size m_at m_wrong m_deep m_laws m_text m_readBoys m_readMarbles m_readFarms m_boys m_marbles m_farms m_holding m_spills m_acts m_draws m_bestRow m_bestMany m_noted m_hasImage m_tape m_code m_value m_codes m_clauses m_testFrom m_sumFrom m_sumTo m_letters m_stack m_readRule m_readBoy m_readMarble m_readFarm m_rule m_boy m_marble m_farm m_now m_refused m_kept m_notePlace m_noteKind m_noteIs m_toldBy m_image ++ fr) (f_M_readYard_J125 m_size m_at m_wrong m_readBoys m_readMarbles m_readFarms m_tape m_readRule m_readBoy m_readMarble m_readFarm v1 v3) := by
  unfold f_M_readYard_J125
  refine h_iconst hX dX11_readYard_125 ki_1 ?_
  refine h_goto hX dX11_readYard_126 (tgt := 130) (by decide) ?_
  exact w_M_readYard_J130 hX
set_option maxRecDepth 4000 in
theorem w_M_readYard_J110 {v1 : Int32} {v3 : Int32} (hX : gOk B X RX11 cX11_readYard 5 5 (some .int)) : gH B X (Sum.elim (fun s : (Int32 × Int32 × Int32 × Int32 × Int32 × Int32 × Int32 × (Nat → Int32) × (Nat → Int32) × (Nat → Int32) × (Nat → Int32)) => gG B X 54 [(0, .ref (aM B 0)), (1, .int s.1), (2, .int s.2.1)] [] (wdM B m_thrown m_size s.2.2.1 s.2.2.2.1 m_deep m_laws m_text s.2.2.2.2.1 s.2.2.2.2.2.1 s.2.2.2.2.2.2.1 m_boys m_marbles m_farms m_holding m_spills m_acts m_draws m_bestRow m_bestMany m_noted m_hasImage m_tape m_code m_value m_codes m_clauses m_testFrom m_sumFrom m_sumTo m_letters m_stack s.2.2.2.2.2.2.2.1 s.2.2.2.2.2.2.2.2.1 s.2.2.2.2.2.2.2.2.2.1 s.2.2.2.2.2.2.2.2.2.2 m_rule m_boy m_marble m_farm m_now m_refused m_kept m_notePlace m_noteKind m_noteIs m_toldBy m_image ++ fr)) (fun r : (Int32 × Int32 × Int32 × Int32 × Int32 × Int32 × (Nat → Int32) × (Nat → Int32) × (Nat → Int32) × (Nat → Int32)) => gFin X (some (.int r.1)) (wdM B m_thrown m_size r.2.1 r.2.2.1 m_deep m_laws m_text r.2.2.2.1 r.2.2.2.2.1 r.2.2.2.2.2.1 m_boys m_marbles m_farms m_holding m_spills m_acts m_draws m_bestRow m_bestMany m_noted m_hasImage m_tape m_code m_value m_codes m_clauses m_testFrom m_sumFrom m_sumTo m_letters m_stack r.2.2.2.2.2.2.1 r.2.2.2.2.2.2.2.1 r.2.2.2.2.2.2.2.2.1 r.2.2.2.2.2.2.2.2.2 m_rule m_boy m_marble m_farm m_now m_refused m_kept m_notePlace m_noteKind m_noteIs m_toldBy m_image ++ fr))) 110 [(0, .ref (aM B 0)), (1, .int v1), (3, .int v3)] [] (wdM B m_thrown m_size m_at m_wrong m_deep m_laws m_text m_readBoys m_readMarbles m_readFarms m_boys m_marbles m_farms m_holding m_spills m_acts m_draws m_bestRow m_bestMany m_noted m_hasImage m_tape m_code m_value m_codes m_clauses m_testFrom m_sumFrom m_sumTo m_letters m_stack m_readRule m_readBoy m_readMarble m_readFarm m_rule m_boy m_marble m_farm m_now m_refused m_kept m_notePlace m_noteKind m_noteIs m_toldBy m_image ++ fr) (f_M_readYard_J110 m_size m_at m_wrong m_readBoys m_readMarbles m_readFarms m_tape m_readRule m_readBoy m_readMarble m_readFarm v1 v3) := by
  unfold f_M_readYard_J110
  refine h_iload_n hX dX11_readYard_110 rfl rfl ?_
  refine h_bipush hX dX11_readYard_111 kb_102 ?_
  refine h_icmp_ne hX dX11_readYard_113 (tgt := 129) (by decide) (fun _ => ?_) (fun _ => ?_)
  · exact w_M_readYard_J129 hX
  · refine h_aload_n hX dX11_readYard_116 rfl rfl ?_
    refine get_RX11_242_M0 hX dX11_readYard_117 ?_
    refine h_bipush hX dX11_readYard_120 kb_6 ?_
    refine h_icmp_ge hX dX11_readYard_122 (tgt := 129) (by decide) (fun _ => ?_) (fun _ => ?_)
    · exact w_M_readYard_J129 hX
    · exact w_M_readYard_J125 hX
set_option maxRecDepth 4000 in
theorem w_M_readYard_J95 {v1 : Int32} {v3 : Int32} (hX : gOk B X RX11 cX11_readYard 5 5 (some .int)) : gH B X (Sum.elim (fun s : (Int32 × Int32 × Int32 × Int32 × Int32 × Int32 × Int32 × (Nat → Int32) × (Nat → Int32) × (Nat → Int32) × (Nat → Int32)) => gG B X 54 [(0, .ref (aM B 0)), (1, .int s.1), (2, .int s.2.1)] [] (wdM B m_thrown m_size s.2.2.1 s.2.2.2.1 m_deep m_laws m_text s.2.2.2.2.1 s.2.2.2.2.2.1 s.2.2.2.2.2.2.1 m_boys m_marbles m_farms m_holding m_spills m_acts m_draws m_bestRow m_bestMany m_noted m_hasImage m_tape m_code m_value m_codes m_clauses m_testFrom m_sumFrom m_sumTo m_letters m_stack s.2.2.2.2.2.2.2.1 s.2.2.2.2.2.2.2.2.1 s.2.2.2.2.2.2.2.2.2.1 s.2.2.2.2.2.2.2.2.2.2 m_rule m_boy m_marble m_farm m_now m_refused m_kept m_notePlace m_noteKind m_noteIs m_toldBy m_image ++ fr)) (fun r : (Int32 × Int32 × Int32 × Int32 × Int32 × Int32 × (Nat → Int32) × (Nat → Int32) × (Nat → Int32) × (Nat → Int32)) => gFin X (some (.int r.1)) (wdM B m_thrown m_size r.2.1 r.2.2.1 m_deep m_laws m_text r.2.2.2.1 r.2.2.2.2.1 r.2.2.2.2.2.1 m_boys m_marbles m_farms m_holding m_spills m_acts m_draws m_bestRow m_bestMany m_noted m_hasImage m_tape m_code m_value m_codes m_clauses m_testFrom m_sumFrom m_sumTo m_letters m_stack r.2.2.2.2.2.2.1 r.2.2.2.2.2.2.2.1 r.2.2.2.2.2.2.2.2.1 r.2.2.2.2.2.2.2.2.2 m_rule m_boy m_marble m_farm m_now m_refused m_kept m_notePlace m_noteKind m_noteIs m_toldBy m_image ++ fr))) 95 [(0, .ref (aM B 0)), (1, .int v1), (3, .int v3)] [] (wdM B m_thrown m_size m_at m_wrong m_deep m_laws m_text m_readBoys m_readMarbles m_readFarms m_boys m_marbles m_farms m_holding m_spills m_acts m_draws m_bestRow m_bestMany m_noted m_hasImage m_tape m_code m_value m_codes m_clauses m_testFrom m_sumFrom m_sumTo m_letters m_stack m_readRule m_readBoy m_readMarble m_readFarm m_rule m_boy m_marble m_farm m_now m_refused m_kept m_notePlace m_noteKind m_noteIs m_toldBy m_image ++ fr) (f_M_readYard_J95 m_size m_at m_wrong m_readBoys m_readMarbles m_readFarms m_tape m_readRule m_readBoy m_readMarble m_readFarm v1 v3) := by
  unfold f_M_readYard_J95
  refine h_iload_n hX dX11_readYard_95 rfl rfl ?_
  refine h_bipush hX dX11_readYard_96 kb_109 ?_
  refine h_icmp_ne hX dX11_readYard_98 (tgt := 110) (by decide) (fun _ => ?_) (fun _ => ?_)
  · exact w_M_readYard_J110 hX
  · refine h_aload_n hX dX11_readYard_101 rfl rfl ?_
    refine get_RX11_239_M0 hX dX11_readYard_102 ?_
    refine h_bipush hX dX11_readYard_105 kb_6 ?_
    refine h_icmp_lt hX dX11_readYard_107 (tgt := 125) (by decide) (fun _ => ?_) (fun _ => ?_)
    · exact w_M_readYard_J125 hX
    · exact w_M_readYard_J110 hX
set_option maxRecDepth 4000 in
theorem w_M_readYard_J81 {v1 : Int32} {v3 : Int32} (hX : gOk B X RX11 cX11_readYard 5 5 (some .int)) : gH B X (Sum.elim (fun s : (Int32 × Int32 × Int32 × Int32 × Int32 × Int32 × Int32 × (Nat → Int32) × (Nat → Int32) × (Nat → Int32) × (Nat → Int32)) => gG B X 54 [(0, .ref (aM B 0)), (1, .int s.1), (2, .int s.2.1)] [] (wdM B m_thrown m_size s.2.2.1 s.2.2.2.1 m_deep m_laws m_text s.2.2.2.2.1 s.2.2.2.2.2.1 s.2.2.2.2.2.2.1 m_boys m_marbles m_farms m_holding m_spills m_acts m_draws m_bestRow m_bestMany m_noted m_hasImage m_tape m_code m_value m_codes m_clauses m_testFrom m_sumFrom m_sumTo m_letters m_stack s.2.2.2.2.2.2.2.1 s.2.2.2.2.2.2.2.2.1 s.2.2.2.2.2.2.2.2.2.1 s.2.2.2.2.2.2.2.2.2.2 m_rule m_boy m_marble m_farm m_now m_refused m_kept m_notePlace m_noteKind m_noteIs m_toldBy m_image ++ fr)) (fun r : (Int32 × Int32 × Int32 × Int32 × Int32 × Int32 × (Nat → Int32) × (Nat → Int32) × (Nat → Int32) × (Nat → Int32)) => gFin X (some (.int r.1)) (wdM B m_thrown m_size r.2.1 r.2.2.1 m_deep m_laws m_text r.2.2.2.1 r.2.2.2.2.1 r.2.2.2.2.2.1 m_boys m_marbles m_farms m_holding m_spills m_acts m_draws m_bestRow m_bestMany m_noted m_hasImage m_tape m_code m_value m_codes m_clauses m_testFrom m_sumFrom m_sumTo m_letters m_stack r.2.2.2.2.2.2.1 r.2.2.2.2.2.2.2.1 r.2.2.2.2.2.2.2.2.1 r.2.2.2.2.2.2.2.2.2 m_rule m_boy m_marble m_farm m_now m_refused m_kept m_notePlace m_noteKind m_noteIs m_toldBy m_image ++ fr))) 81 [(0, .ref (aM B 0)), (1, .int v1), (3, .int v3)] [] (wdM B m_thrown m_size m_at m_wrong m_deep m_laws m_text m_readBoys m_readMarbles m_readFarms m_boys m_marbles m_farms m_holding m_spills m_acts m_draws m_bestRow m_bestMany m_noted m_hasImage m_tape m_code m_value m_codes m_clauses m_testFrom m_sumFrom m_sumTo m_letters m_stack m_readRule m_readBoy m_readMarble m_readFarm m_rule m_boy m_marble m_farm m_now m_refused m_kept m_notePlace m_noteKind m_noteIs m_toldBy m_image ++ fr) (f_M_readYard_J81 m_size m_at m_wrong m_readBoys m_readMarbles m_readFarms m_tape m_readRule m_readBoy m_readMarble m_readFarm v1 v3) := by
  unfold f_M_readYard_J81
  refine h_iload_n hX dX11_readYard_81 rfl rfl ?_
  refine h_bipush hX dX11_readYard_82 kb_98 ?_
  refine h_icmp_ne hX dX11_readYard_84 (tgt := 95) (by decide) (fun _ => ?_) (fun _ => ?_)
  · exact w_M_readYard_J95 hX
  · refine h_aload_n hX dX11_readYard_87 rfl rfl ?_
    refine get_RX11_236_M0 hX dX11_readYard_88 ?_
    refine h_iconst hX dX11_readYard_91 ki_5 ?_
    refine h_icmp_lt hX dX11_readYard_92 (tgt := 125) (by decide) (fun _ => ?_) (fun _ => ?_)
    · exact w_M_readYard_J125 hX
    · exact w_M_readYard_J95 hX
set_option maxRecDepth 4000 in
theorem w_M_readYard_L54 (hX : gOk B X RX11 cX11_readYard 5 5 (some .int)) (s : (Int32 × Int32 × Int32 × Int32 × Int32 × Int32 × Int32 × (Nat → Int32) × (Nat → Int32) × (Nat → Int32) × (Nat → Int32))) : gH B X (Sum.elim (fun s : (Int32 × Int32 × Int32 × Int32 × Int32 × Int32 × Int32 × (Nat → Int32) × (Nat → Int32) × (Nat → Int32) × (Nat → Int32)) => gG B X 54 [(0, .ref (aM B 0)), (1, .int s.1), (2, .int s.2.1)] [] (wdM B m_thrown m_size s.2.2.1 s.2.2.2.1 m_deep m_laws m_text s.2.2.2.2.1 s.2.2.2.2.2.1 s.2.2.2.2.2.2.1 m_boys m_marbles m_farms m_holding m_spills m_acts m_draws m_bestRow m_bestMany m_noted m_hasImage m_tape m_code m_value m_codes m_clauses m_testFrom m_sumFrom m_sumTo m_letters m_stack s.2.2.2.2.2.2.2.1 s.2.2.2.2.2.2.2.2.1 s.2.2.2.2.2.2.2.2.2.1 s.2.2.2.2.2.2.2.2.2.2 m_rule m_boy m_marble m_farm m_now m_refused m_kept m_notePlace m_noteKind m_noteIs m_toldBy m_image ++ fr)) (fun r : (Int32 × Int32 × Int32 × Int32 × Int32 × Int32 × (Nat → Int32) × (Nat → Int32) × (Nat → Int32) × (Nat → Int32)) => gFin X (some (.int r.1)) (wdM B m_thrown m_size r.2.1 r.2.2.1 m_deep m_laws m_text r.2.2.2.1 r.2.2.2.2.1 r.2.2.2.2.2.1 m_boys m_marbles m_farms m_holding m_spills m_acts m_draws m_bestRow m_bestMany m_noted m_hasImage m_tape m_code m_value m_codes m_clauses m_testFrom m_sumFrom m_sumTo m_letters m_stack r.2.2.2.2.2.2.1 r.2.2.2.2.2.2.2.1 r.2.2.2.2.2.2.2.2.1 r.2.2.2.2.2.2.2.2.2 m_rule m_boy m_marble m_farm m_now m_refused m_kept m_notePlace m_noteKind m_noteIs m_toldBy m_image ++ fr))) 54 [(0, .ref (aM B 0)), (1, .int s.1), (2, .int s.2.1)] [] (wdM B m_thrown m_size s.2.2.1 s.2.2.2.1 m_deep m_laws m_text s.2.2.2.2.1 s.2.2.2.2.2.1 s.2.2.2.2.2.2.1 m_boys m_marbles m_farms m_holding m_spills m_acts m_draws m_bestRow m_bestMany m_noted m_hasImage m_tape m_code m_value m_codes m_clauses m_testFrom m_sumFrom m_sumTo m_letters m_stack s.2.2.2.2.2.2.2.1 s.2.2.2.2.2.2.2.2.1 s.2.2.2.2.2.2.2.2.2.1 s.2.2.2.2.2.2.2.2.2.2 m_rule m_boy m_marble m_farm m_now m_refused m_kept m_notePlace m_noteKind m_noteIs m_toldBy m_image ++ fr) (f_M_readYard_L54 m_size m_tape s) := by
  unfold f_M_readYard_L54
  refine h_iload_n hX dX11_readYard_54 rfl rfl ?_
  refine h_if_eq hX dX11_readYard_55 (tgt := 209) (by decide) (fun _ => ?_) (fun _ => ?_)
  · refine gH.inr ?_
    refine gH.dead [0] rfl ?_
    exact w_M_readYard_J209 hX
  · refine h_aload_n hX dX11_readYard_58 rfl rfl ?_
    refine get_RX11_110_M0 hX dX11_readYard_59 ?_
    refine h_iconst hX dX11_readYard_62 ki_m1 ?_
    refine h_icmp_ne hX dX11_readYard_63 (tgt := 209) (by decide) (fun _ => ?_) (fun _ => ?_)
    · refine gH.inr ?_
      refine gH.dead [0] rfl ?_
      exact w_M_readYard_J209 hX
    · refine h_aload_n hX dX11_readYard_66 rfl rfl ?_
      refine h_callVi hX dX11_readYard_67 (cv_RX11_122) rc_M0 (As := []) (st := []) (fun _ h => c_M_look h) rfl rfl (by decide) (Nat.le_of_ble_eq_true rfl) (fun a_4 => ?_)
      refine h_istore_n hX dX11_readYard_70 rfl (by decide) (lv' := [(0, .ref (aM B 0)), (1, .int s.1), (2, .int s.2.1), (3, .int a_4.1)]) rfl ?_
      refine h_iload_n hX dX11_readYard_71 rfl rfl ?_
      refine h_bipush hX dX11_readYard_72 kb_115 ?_
      refine h_icmp_ne hX dX11_readYard_74 (tgt := 81) (by decide) (fun _ => ?_) (fun _ => ?_)
      · refine gH.dead [0, 1, 3] rfl ?_
        exact w_M_readYard_J81 hX
      · refine h_iload_n hX dX11_readYard_77 rfl rfl ?_
        refine h_if_eq hX dX11_readYard_78 (tgt := 125) (by decide) (fun _ => ?_) (fun _ => ?_)
        · refine gH.dead [0, 1, 3] rfl ?_
          exact w_M_readYard_J125 hX
        · refine gH.dead [0, 1, 3] rfl ?_
          exact w_M_readYard_J81 hX
set_option maxRecDepth 4000 in
theorem w_M_readYard_L29 {v1 : Int32} (hX : gOk B X RX11 cX11_readYard 5 5 (some .int)) (s : (Int32 × (Nat → Int32))) : gH B X (Sum.elim (fun s : (Int32 × (Nat → Int32)) => gG B X 29 [(0, .ref (aM B 0)), (1, .int v1), (2, .int s.1)] [] (wdM B m_thrown m_size m_at m_wrong m_deep m_laws m_text m_readBoys m_readMarbles m_readFarms m_boys m_marbles m_farms m_holding m_spills m_acts m_draws m_bestRow m_bestMany m_noted m_hasImage m_tape m_code m_value m_codes m_clauses m_testFrom m_sumFrom m_sumTo m_letters m_stack s.2 m_readBoy m_readMarble m_readFarm m_rule m_boy m_marble m_farm m_now m_refused m_kept m_notePlace m_noteKind m_noteIs m_toldBy m_image ++ fr)) (fun r : (Int32 × Int32 × Int32 × Int32 × Int32 × Int32 × (Nat → Int32) × (Nat → Int32) × (Nat → Int32) × (Nat → Int32)) => gFin X (some (.int r.1)) (wdM B m_thrown m_size r.2.1 r.2.2.1 m_deep m_laws m_text r.2.2.2.1 r.2.2.2.2.1 r.2.2.2.2.2.1 m_boys m_marbles m_farms m_holding m_spills m_acts m_draws m_bestRow m_bestMany m_noted m_hasImage m_tape m_code m_value m_codes m_clauses m_testFrom m_sumFrom m_sumTo m_letters m_stack r.2.2.2.2.2.2.1 r.2.2.2.2.2.2.2.1 r.2.2.2.2.2.2.2.2.1 r.2.2.2.2.2.2.2.2.2 m_rule m_boy m_marble m_farm m_now m_refused m_kept m_notePlace m_noteKind m_noteIs m_toldBy m_image ++ fr))) 29 [(0, .ref (aM B 0)), (1, .int v1), (2, .int s.1)] [] (wdM B m_thrown m_size m_at m_wrong m_deep m_laws m_text m_readBoys m_readMarbles m_readFarms m_boys m_marbles m_farms m_holding m_spills m_acts m_draws m_bestRow m_bestMany m_noted m_hasImage m_tape m_code m_value m_codes m_clauses m_testFrom m_sumFrom m_sumTo m_letters m_stack s.2 m_readBoy m_readMarble m_readFarm m_rule m_boy m_marble m_farm m_now m_refused m_kept m_notePlace m_noteKind m_noteIs m_toldBy m_image ++ fr) (f_M_readYard_L29 m_size m_at m_wrong m_readBoys m_readMarbles m_readFarms m_tape m_readBoy m_readMarble m_readFarm v1 s) := by
  unfold f_M_readYard_L29
  refine h_iload_n hX dX11_readYard_29 rfl rfl ?_
  refine h_iconst hX dX11_readYard_30 ki_3 ?_
  refine h_icmp_ge hX dX11_readYard_31 (tgt := 52) (by decide) (fun _ => ?_) (fun _ => ?_)
  · refine gH.inr ?_
    refine h_iconst hX dX11_readYard_52 ki_1 ?_
    refine h_istore_n hX dX11_readYard_53 rfl (by decide) (lv' := [(0, .ref (aM B 0)), (1, .int v1), (2, .int 1)]) rfl ?_
    exact gH.loop (lvf := fun z : (Int32 × Int32 × Int32 × Int32 × Int32 × Int32 × Int32 × (Nat → Int32) × (Nat → Int32) × (Nat → Int32) × (Nat → Int32)) => [(0, .ref (aM B 0)), (1, .int z.1), (2, .int z.2.1)]) (wf := fun z : (Int32 × Int32 × Int32 × Int32 × Int32 × Int32 × Int32 × (Nat → Int32) × (Nat → Int32) × (Nat → Int32) × (Nat → Int32)) => wdM B m_thrown m_size z.2.2.1 z.2.2.2.1 m_deep m_laws m_text z.2.2.2.2.1 z.2.2.2.2.2.1 z.2.2.2.2.2.2.1 m_boys m_marbles m_farms m_holding m_spills m_acts m_draws m_bestRow m_bestMany m_noted m_hasImage m_tape m_code m_value m_codes m_clauses m_testFrom m_sumFrom m_sumTo m_letters m_stack z.2.2.2.2.2.2.2.1 z.2.2.2.2.2.2.2.2.1 z.2.2.2.2.2.2.2.2.2.1 z.2.2.2.2.2.2.2.2.2.2 m_rule m_boy m_marble m_farm m_now m_refused m_kept m_notePlace m_noteKind m_noteIs m_toldBy m_image ++ fr) (fun z => w_M_readYard_L54 hX z) (v1, 1, m_at, m_wrong, m_readBoys, m_readMarbles, m_readFarms, s.2, m_readBoy, m_readMarble, m_readFarm)
  · refine h_aload_n hX dX11_readYard_34 rfl rfl ?_
    refine get_RX11_40_M0 hX dX11_readYard_35 ?_
    refine h_iload_n hX dX11_readYard_38 rfl rfl ?_
    refine h_bipush hX dX11_readYard_39 kb_115 ?_
    refine h_iload_n hX dX11_readYard_41 rfl rfl ?_
    refine h_callSi hX dX11_readYard_42 (cs_RX11_212) (As := [.int 115, .int s.1]) (st := [.int s.1, .ref (aM B 11)]) (fun _ h => c_M_usual h) rfl rfl (by decide) (Nat.le_of_ble_eq_true rfl) (fun a_9 => ?_)
    refine ast_M11 hX dX11_readYard_45 ?_
    refine gH.letw (w := fun y => wdM B m_thrown m_size m_at m_wrong m_deep m_laws m_text m_readBoys m_readMarbles m_readFarms m_boys m_marbles m_farms m_holding m_spills m_acts m_draws m_bestRow m_bestMany m_noted m_hasImage m_tape m_code m_value m_codes m_clauses m_testFrom m_sumFrom m_sumTo m_letters m_stack y m_readBoy m_readMarble m_readFarm m_rule m_boy m_marble m_farm m_now m_refused m_kept m_notePlace m_noteKind m_noteIs m_toldBy m_image ++ fr) (fun m_readRule_10 => ?_)
    refine h_iincc hX dX11_readYard_46 rfl ki_1 (by decide) (lv' := [(0, .ref (aM B 0)), (1, .int v1), (2, .int (s.1 + 1))]) rfl ?_
    refine h_goto hX dX11_readYard_49 (tgt := 29) (by decide) ?_
    exact gH.some' (fun h => h)
set_option maxRecDepth 4000 in
theorem w_M_readYard (hX : gOk B X RX11 cX11_readYard 5 5 (some .int)) : gH B X (fun r : (Int32 × Int32 × Int32 × Int32 × Int32 × Int32 × (Nat → Int32) × (Nat → Int32) × (Nat → Int32) × (Nat → Int32)) => gFin X (some (.int r.1)) (wdM B m_thrown m_size r.2.1 r.2.2.1 m_deep m_laws m_text r.2.2.2.1 r.2.2.2.2.1 r.2.2.2.2.2.1 m_boys m_marbles m_farms m_holding m_spills m_acts m_draws m_bestRow m_bestMany m_noted m_hasImage m_tape m_code m_value m_codes m_clauses m_testFrom m_sumFrom m_sumTo m_letters m_stack r.2.2.2.2.2.2.1 r.2.2.2.2.2.2.2.1 r.2.2.2.2.2.2.2.2.1 r.2.2.2.2.2.2.2.2.2 m_rule m_boy m_marble m_farm m_now m_refused m_kept m_notePlace m_noteKind m_noteIs m_toldBy m_image ++ fr)) 0 [(0, .ref (aM B 0))] [] (wdM B m_thrown m_size m_at m_wrong m_deep m_laws m_text m_readBoys m_readMarbles m_readFarms m_boys m_marbles m_farms m_holding m_spills m_acts m_draws m_bestRow m_bestMany m_noted m_hasImage m_tape m_code m_value m_codes m_clauses m_testFrom m_sumFrom m_sumTo m_letters m_stack m_readRule m_readBoy m_readMarble m_readFarm m_rule m_boy m_marble m_farm m_now m_refused m_kept m_notePlace m_noteKind m_noteIs m_toldBy m_image ++ fr) (f_M_readYard m_size m_at m_wrong m_readBoys m_readMarbles m_readFarms m_tape m_readRule m_readBoy m_readMarble m_readFarm) := by
  unfold f_M_readYard
  refine h_aload_n hX dX11_readYard_0 rfl rfl ?_
  refine h_iconst hX dX11_readYard_1 ki_0 ?_
  refine put_RX11_103_M0 hX dX11_readYard_2 ?_
  refine h_aload_n hX dX11_readYard_5 rfl rfl ?_
  refine h_iconst hX dX11_readYard_6 ki_m1 ?_
  refine put_RX11_110_M0 hX dX11_readYard_7 ?_
  refine h_aload_n hX dX11_readYard_10 rfl rfl ?_
  refine h_iconst hX dX11_readYard_11 ki_0 ?_
  refine put_RX11_236_M0 hX dX11_readYard_12 ?_
  refine h_aload_n hX dX11_readYard_15 rfl rfl ?_
  refine h_iconst hX dX11_readYard_16 ki_0 ?_
  refine put_RX11_239_M0 hX dX11_readYard_17 ?_
  refine h_aload_n hX dX11_readYard_20 rfl rfl ?_
  refine h_iconst hX dX11_readYard_21 ki_0 ?_
  refine put_RX11_242_M0 hX dX11_readYard_22 ?_
  refine h_iconst hX dX11_readYard_25 ki_0 ?_
  refine h_istore_n hX dX11_readYard_26 rfl (by decide) (lv' := [(0, .ref (aM B 0)), (1, .int 0)]) rfl ?_
  refine h_iconst hX dX11_readYard_27 ki_0 ?_
  refine h_istore_n hX dX11_readYard_28 rfl (by decide) (lv' := [(0, .ref (aM B 0)), (1, .int 0), (2, .int 0)]) rfl ?_
  exact gH.loop (lvf := fun z : (Int32 × (Nat → Int32)) => [(0, .ref (aM B 0)), (1, .int 0), (2, .int z.1)]) (wf := fun z : (Int32 × (Nat → Int32)) => wdM B m_thrown m_size 0 ((-1)) m_deep m_laws m_text 0 0 0 m_boys m_marbles m_farms m_holding m_spills m_acts m_draws m_bestRow m_bestMany m_noted m_hasImage m_tape m_code m_value m_codes m_clauses m_testFrom m_sumFrom m_sumTo m_letters m_stack z.2 m_readBoy m_readMarble m_readFarm m_rule m_boy m_marble m_farm m_now m_refused m_kept m_notePlace m_noteKind m_noteIs m_toldBy m_image ++ fr) (fun z => w_M_readYard_L29 hX z) (0, m_readRule)
theorem c_M_readYard {r : (Int32 × Int32 × Int32 × Int32 × Int32 × Int32 × (Nat → Int32) × (Nat → Int32) × (Nat → Int32) × (Nat → Int32))} (h : f_M_readYard m_size m_at m_wrong m_readBoys m_readMarbles m_readFarms m_tape m_readRule m_readBoy m_readMarble m_readFarm = some r) : gMet B 5 yX11_readYard cX11_readYard 5 (some .int) [.ref (aM B 0)] (wdM B m_thrown m_size m_at m_wrong m_deep m_laws m_text m_readBoys m_readMarbles m_readFarms m_boys m_marbles m_farms m_holding m_spills m_acts m_draws m_bestRow m_bestMany m_noted m_hasImage m_tape m_code m_value m_codes m_clauses m_testFrom m_sumFrom m_sumTo m_letters m_stack m_readRule m_readBoy m_readMarble m_readFarm m_rule m_boy m_marble m_farm m_now m_refused m_kept m_notePlace m_noteKind m_noteIs m_toldBy m_image ++ fr) (some (.int r.1)) (wdM B m_thrown m_size r.2.1 r.2.2.1 m_deep m_laws m_text r.2.2.2.1 r.2.2.2.2.1 r.2.2.2.2.2.1 m_boys m_marbles m_farms m_holding m_spills m_acts m_draws m_bestRow m_bestMany m_noted m_hasImage m_tape m_code m_value m_codes m_clauses m_testFrom m_sumFrom m_sumTo m_letters m_stack r.2.2.2.2.2.2.1 r.2.2.2.2.2.2.2.1 r.2.2.2.2.2.2.2.2.1 r.2.2.2.2.2.2.2.2.2 m_rule m_boy m_marble m_farm m_now m_refused m_kept m_notePlace m_noteKind m_noteIs m_toldBy m_image ++ fr) :=
  gMet.of rfl (Nat.le_of_ble_eq_true rfl) (fun X hX hF => w_M_readYard hX r h hF)
