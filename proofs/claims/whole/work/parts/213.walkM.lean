variable {B : gB} {X : gX} {fr : va_W} {m_thrown : Int32} {m_size : Int32} {m_at : Int32} {m_wrong : Int32} {m_deep : Int32} {m_laws : Int32} {m_text : Int32} {m_readBoys : Int32} {m_readMarbles : Int32} {m_readFarms : Int32} {m_boys : Int32} {m_marbles : Int32} {m_farms : Int32} {m_holding : Int32} {m_spills : Int32} {m_acts : Int32} {m_draws : Int64} {m_bestRow : Int32} {m_bestMany : Int32} {m_noted : Int32} {m_hasImage : Int32} {m_tape : Nat → Int32} {m_code : Nat → Int32} {m_value : Nat → Int32} {m_codes : Nat → Int32} {m_clauses : Nat → Int32} {m_testFrom : Nat → Int32} {m_sumFrom : Nat → Int32} {m_sumTo : Nat → Int32} {m_letters : Nat → Int32} {m_stack : Nat → Int32} {m_readRule : Nat → Int32} {m_readBoy : Nat → Int32} {m_readMarble : Nat → Int32} {m_readFarm : Nat → Int32} {m_rule : Nat → Int32} {m_boy : Nat → Int32} {m_marble : Nat → Int32} {m_farm : Nat → Int32} {m_now : Nat → Int32} {m_refused : Nat → Int32} {m_kept : Nat → Int32} {m_notePlace : Nat → Int32} {m_noteKind : Nat → Int32} {m_noteIs : Nat → Int32} {m_toldBy : Nat → Int32} {m_image : Nat → Int32}
set_option maxRecDepth 4000 in
theorem w_M_takeCase {p0 : Int32} {p1 : Int32} (hX : gOk B X RX11 cX11_takeCase 3 0 none) : gH B X (fun r : (Nat → Int32) => gFin X (none) (wdM B m_thrown m_size m_at m_wrong m_deep m_laws m_text m_readBoys m_readMarbles m_readFarms m_boys m_marbles m_farms m_holding m_spills m_acts m_draws m_bestRow m_bestMany m_noted m_hasImage m_tape m_code m_value m_codes m_clauses m_testFrom m_sumFrom m_sumTo m_letters m_stack m_readRule m_readBoy m_readMarble m_readFarm m_rule m_boy m_marble m_farm r m_refused m_kept m_notePlace m_noteKind m_noteIs m_toldBy m_image ++ fr)) 0 [(0, .ref (aM B 0)), (1, .int p0), (2, .int p1)] [] (wdM B m_thrown m_size m_at m_wrong m_deep m_laws m_text m_readBoys m_readMarbles m_readFarms m_boys m_marbles m_farms m_holding m_spills m_acts m_draws m_bestRow m_bestMany m_noted m_hasImage m_tape m_code m_value m_codes m_clauses m_testFrom m_sumFrom m_sumTo m_letters m_stack m_readRule m_readBoy m_readMarble m_readFarm m_rule m_boy m_marble m_farm m_now m_refused m_kept m_notePlace m_noteKind m_noteIs m_toldBy m_image ++ fr) (f_M_takeCase m_now p0 p1) := by
  unfold f_M_takeCase
  refine h_iload_n hX dX11_takeCase_0 rfl rfl ?_
  refine h_bipush hX dX11_takeCase_1 kb_99 ?_
  refine h_icmp_eq hX dX11_takeCase_3 (tgt := 18) (by decide) (fun _ => ?_) (fun _ => ?_)
  · exact h_ret hX (rv := none) dX11_takeCase_18 trivial (fun h => h)
  · refine h_aload_n hX dX11_takeCase_6 rfl rfl ?_
    refine get_RX11_64_M0 hX dX11_takeCase_7 ?_
    refine h_iconst hX dX11_takeCase_10 ki_0 ?_
    refine h_iload_n hX dX11_takeCase_11 rfl rfl ?_
    refine h_bipush hX dX11_takeCase_12 kb_10 ?_
    refine h_idivc hX dX11_takeCase_14 (by decide) ?_
    refine h_iadd hX dX11_takeCase_15 ?_
    refine h_iload_n hX dX11_takeCase_16 rfl rfl ?_
    refine ast_M19 hX dX11_takeCase_17 ?_
    refine gH.letw (w := fun y => wdM B m_thrown m_size m_at m_wrong m_deep m_laws m_text m_readBoys m_readMarbles m_readFarms m_boys m_marbles m_farms m_holding m_spills m_acts m_draws m_bestRow m_bestMany m_noted m_hasImage m_tape m_code m_value m_codes m_clauses m_testFrom m_sumFrom m_sumTo m_letters m_stack m_readRule m_readBoy m_readMarble m_readFarm m_rule m_boy m_marble m_farm y m_refused m_kept m_notePlace m_noteKind m_noteIs m_toldBy m_image ++ fr) (fun m_now_1 => ?_)
    exact h_ret hX (rv := none) dX11_takeCase_18 trivial (fun h => h)
theorem c_M_takeCase {p0 : Int32} {p1 : Int32} {r : (Nat → Int32)} (h : f_M_takeCase m_now p0 p1 = some r) : gMet B 0 yX11_takeCase cX11_takeCase 3 none [.ref (aM B 0), .int p0, .int p1] (wdM B m_thrown m_size m_at m_wrong m_deep m_laws m_text m_readBoys m_readMarbles m_readFarms m_boys m_marbles m_farms m_holding m_spills m_acts m_draws m_bestRow m_bestMany m_noted m_hasImage m_tape m_code m_value m_codes m_clauses m_testFrom m_sumFrom m_sumTo m_letters m_stack m_readRule m_readBoy m_readMarble m_readFarm m_rule m_boy m_marble m_farm m_now m_refused m_kept m_notePlace m_noteKind m_noteIs m_toldBy m_image ++ fr) (none) (wdM B m_thrown m_size m_at m_wrong m_deep m_laws m_text m_readBoys m_readMarbles m_readFarms m_boys m_marbles m_farms m_holding m_spills m_acts m_draws m_bestRow m_bestMany m_noted m_hasImage m_tape m_code m_value m_codes m_clauses m_testFrom m_sumFrom m_sumTo m_letters m_stack m_readRule m_readBoy m_readMarble m_readFarm m_rule m_boy m_marble m_farm r m_refused m_kept m_notePlace m_noteKind m_noteIs m_toldBy m_image ++ fr) :=
  gMet.of rfl (Nat.le_of_ble_eq_true rfl) (fun X hX hF => w_M_takeCase hX r h hF)
set_option maxRecDepth 4000 in
theorem w_M_isSo_J82 {v1 : Int32} {v2 : Int32} {v3 : Int32} (hX : gOk B X RX11 cX11_isSo 5 4 (some .boolean)) : gH B X (fun r : (Int32 × (Nat → Int32)) => gFin X (some (.int r.1)) (wdM B m_thrown m_size m_at m_wrong m_deep m_laws m_text m_readBoys m_readMarbles m_readFarms m_boys m_marbles m_farms m_holding m_spills m_acts m_draws m_bestRow m_bestMany m_noted m_hasImage m_tape m_code m_value m_codes m_clauses m_testFrom m_sumFrom m_sumTo m_letters m_stack m_readRule m_readBoy m_readMarble m_readFarm m_rule m_boy m_marble m_farm r.2 m_refused m_kept m_notePlace m_noteKind m_noteIs m_toldBy m_image ++ fr)) 82 [(0, .ref (aM B 0)), (1, .int v1), (2, .int v2), (3, .int v3)] [] (wdM B m_thrown m_size m_at m_wrong m_deep m_laws m_text m_readBoys m_readMarbles m_readFarms m_boys m_marbles m_farms m_holding m_spills m_acts m_draws m_bestRow m_bestMany m_noted m_hasImage m_tape m_code m_value m_codes m_clauses m_testFrom m_sumFrom m_sumTo m_letters m_stack m_readRule m_readBoy m_readMarble m_readFarm m_rule m_boy m_marble m_farm m_now m_refused m_kept m_notePlace m_noteKind m_noteIs m_toldBy m_image ++ fr) (f_M_isSo_J82 m_now v1 v2 v3) := by
  unfold f_M_isSo_J82
  refine h_aload_n hX dX11_isSo_82 rfl rfl ?_
  refine h_iload_n hX dX11_isSo_83 rfl rfl ?_
  refine h_iload_n hX dX11_isSo_84 rfl rfl ?_
  refine h_callVv hX dX11_isSo_85 (cv_RX11_423) rc_M0 (As := [.int v1, .int v2]) (st := []) (fun _ h => c_M_takeCase h) rfl rfl (by decide) (Nat.le_of_ble_eq_true rfl) (fun a_3 => ?_)
  refine h_iload_n hX dX11_isSo_88 rfl rfl ?_
  exact h_retz hX dX11_isSo_89 (fun h => h)
set_option maxRecDepth 4000 in
theorem w_M_isSo_J75 {v1 : Int32} {v2 : Int32} {v4 : Int32} {k0 : Int32} (hX : gOk B X RX11 cX11_isSo 5 4 (some .boolean)) : gH B X (Sum.elim (fun s : (Int32 × Int32) => gG B X 21 [(0, .ref (aM B 0)), (1, .int v1), (2, .int v2), (3, .int s.1), (4, .int s.2)] [] (wdM B m_thrown m_size m_at m_wrong m_deep m_laws m_text m_readBoys m_readMarbles m_readFarms m_boys m_marbles m_farms m_holding m_spills m_acts m_draws m_bestRow m_bestMany m_noted m_hasImage m_tape m_code m_value m_codes m_clauses m_testFrom m_sumFrom m_sumTo m_letters m_stack m_readRule m_readBoy m_readMarble m_readFarm m_rule m_boy m_marble m_farm m_now m_refused m_kept m_notePlace m_noteKind m_noteIs m_toldBy m_image ++ fr)) (fun r : (Int32 × (Nat → Int32)) => gFin X (some (.int r.1)) (wdM B m_thrown m_size m_at m_wrong m_deep m_laws m_text m_readBoys m_readMarbles m_readFarms m_boys m_marbles m_farms m_holding m_spills m_acts m_draws m_bestRow m_bestMany m_noted m_hasImage m_tape m_code m_value m_codes m_clauses m_testFrom m_sumFrom m_sumTo m_letters m_stack m_readRule m_readBoy m_readMarble m_readFarm m_rule m_boy m_marble m_farm r.2 m_refused m_kept m_notePlace m_noteKind m_noteIs m_toldBy m_image ++ fr))) 75 [(0, .ref (aM B 0)), (1, .int v1), (2, .int v2), (4, .int v4)] [.int k0] (wdM B m_thrown m_size m_at m_wrong m_deep m_laws m_text m_readBoys m_readMarbles m_readFarms m_boys m_marbles m_farms m_holding m_spills m_acts m_draws m_bestRow m_bestMany m_noted m_hasImage m_tape m_code m_value m_codes m_clauses m_testFrom m_sumFrom m_sumTo m_letters m_stack m_readRule m_readBoy m_readMarble m_readFarm m_rule m_boy m_marble m_farm m_now m_refused m_kept m_notePlace m_noteKind m_noteIs m_toldBy m_image ++ fr) (f_M_isSo_J75 v4 k0) := by
  unfold f_M_isSo_J75
  refine h_istore_n hX dX11_isSo_75 rfl (by decide) (lv' := [(0, .ref (aM B 0)), (1, .int v1), (2, .int v2), (3, .int k0), (4, .int v4)]) rfl ?_
  refine h_iincc hX dX11_isSo_76 rfl ki_1 (by decide) (lv' := [(0, .ref (aM B 0)), (1, .int v1), (2, .int v2), (3, .int k0), (4, .int (v4 + 1))]) rfl ?_
  refine h_goto hX dX11_isSo_79 (tgt := 21) (by decide) ?_
  exact gH.some' (fun h => h)
set_option maxRecDepth 4000 in
theorem w_M_isSo_J60 {v1 : Int32} {v2 : Int32} {v4 : Int32} {k0 : Int32} (hX : gOk B X RX11 cX11_isSo 5 4 (some .boolean)) : gH B X (Sum.elim (fun s : (Int32 × Int32) => gG B X 21 [(0, .ref (aM B 0)), (1, .int v1), (2, .int v2), (3, .int s.1), (4, .int s.2)] [] (wdM B m_thrown m_size m_at m_wrong m_deep m_laws m_text m_readBoys m_readMarbles m_readFarms m_boys m_marbles m_farms m_holding m_spills m_acts m_draws m_bestRow m_bestMany m_noted m_hasImage m_tape m_code m_value m_codes m_clauses m_testFrom m_sumFrom m_sumTo m_letters m_stack m_readRule m_readBoy m_readMarble m_readFarm m_rule m_boy m_marble m_farm m_now m_refused m_kept m_notePlace m_noteKind m_noteIs m_toldBy m_image ++ fr)) (fun r : (Int32 × (Nat → Int32)) => gFin X (some (.int r.1)) (wdM B m_thrown m_size m_at m_wrong m_deep m_laws m_text m_readBoys m_readMarbles m_readFarms m_boys m_marbles m_farms m_holding m_spills m_acts m_draws m_bestRow m_bestMany m_noted m_hasImage m_tape m_code m_value m_codes m_clauses m_testFrom m_sumFrom m_sumTo m_letters m_stack m_readRule m_readBoy m_readMarble m_readFarm m_rule m_boy m_marble m_farm r.2 m_refused m_kept m_notePlace m_noteKind m_noteIs m_toldBy m_image ++ fr))) 60 [(0, .ref (aM B 0)), (1, .int v1), (2, .int v2), (4, .int v4)] [.int k0] (wdM B m_thrown m_size m_at m_wrong m_deep m_laws m_text m_readBoys m_readMarbles m_readFarms m_boys m_marbles m_farms m_holding m_spills m_acts m_draws m_bestRow m_bestMany m_noted m_hasImage m_tape m_code m_value m_codes m_clauses m_testFrom m_sumFrom m_sumTo m_letters m_stack m_readRule m_readBoy m_readMarble m_readFarm m_rule m_boy m_marble m_farm m_now m_refused m_kept m_notePlace m_noteKind m_noteIs m_toldBy m_image ++ fr) (f_M_isSo_J60 m_noteIs v4 k0) := by
  unfold f_M_isSo_J60
  refine h_aload_n hX dX11_isSo_60 rfl rfl ?_
  refine get_RX11_83_M0 hX dX11_isSo_61 ?_
  refine h_iload hX dX11_isSo_64 rfl ?_
  refine ald_M24 hX dX11_isSo_66 ?_
  refine h_icmp_ne hX dX11_isSo_67 (tgt := 74) (by decide) (fun _ => ?_) (fun _ => ?_)
  · refine h_iconst hX dX11_isSo_74 ki_0 ?_
    exact w_M_isSo_J75 hX
  · refine h_iconst hX dX11_isSo_70 ki_1 ?_
    refine h_goto hX dX11_isSo_71 (tgt := 75) (by decide) ?_
    exact w_M_isSo_J75 hX
set_option maxRecDepth 4000 in
theorem w_M_isSo_L21 {v1 : Int32} {v2 : Int32} (hX : gOk B X RX11 cX11_isSo 5 4 (some .boolean)) (s : (Int32 × Int32)) : gH B X (Sum.elim (fun s : (Int32 × Int32) => gG B X 21 [(0, .ref (aM B 0)), (1, .int v1), (2, .int v2), (3, .int s.1), (4, .int s.2)] [] (wdM B m_thrown m_size m_at m_wrong m_deep m_laws m_text m_readBoys m_readMarbles m_readFarms m_boys m_marbles m_farms m_holding m_spills m_acts m_draws m_bestRow m_bestMany m_noted m_hasImage m_tape m_code m_value m_codes m_clauses m_testFrom m_sumFrom m_sumTo m_letters m_stack m_readRule m_readBoy m_readMarble m_readFarm m_rule m_boy m_marble m_farm m_now m_refused m_kept m_notePlace m_noteKind m_noteIs m_toldBy m_image ++ fr)) (fun r : (Int32 × (Nat → Int32)) => gFin X (some (.int r.1)) (wdM B m_thrown m_size m_at m_wrong m_deep m_laws m_text m_readBoys m_readMarbles m_readFarms m_boys m_marbles m_farms m_holding m_spills m_acts m_draws m_bestRow m_bestMany m_noted m_hasImage m_tape m_code m_value m_codes m_clauses m_testFrom m_sumFrom m_sumTo m_letters m_stack m_readRule m_readBoy m_readMarble m_readFarm m_rule m_boy m_marble m_farm r.2 m_refused m_kept m_notePlace m_noteKind m_noteIs m_toldBy m_image ++ fr))) 21 [(0, .ref (aM B 0)), (1, .int v1), (2, .int v2), (3, .int s.1), (4, .int s.2)] [] (wdM B m_thrown m_size m_at m_wrong m_deep m_laws m_text m_readBoys m_readMarbles m_readFarms m_boys m_marbles m_farms m_holding m_spills m_acts m_draws m_bestRow m_bestMany m_noted m_hasImage m_tape m_code m_value m_codes m_clauses m_testFrom m_sumFrom m_sumTo m_letters m_stack m_readRule m_readBoy m_readMarble m_readFarm m_rule m_boy m_marble m_farm m_now m_refused m_kept m_notePlace m_noteKind m_noteIs m_toldBy m_image ++ fr) (f_M_isSo_L21 m_marbles m_noted m_boy m_marble m_now m_notePlace m_noteKind m_noteIs v1 v2 s) := by
  unfold f_M_isSo_L21
  refine h_iload hX dX11_isSo_21 rfl ?_
  refine h_aload_n hX dX11_isSo_23 rfl rfl ?_
  refine get_RX11_270_M0 hX dX11_isSo_24 ?_
  refine h_icmp_ge hX dX11_isSo_27 (tgt := 82) (by decide) (fun _ => ?_) (fun _ => ?_)
  · refine gH.inr ?_
    refine gH.dead [0, 1, 2, 3] rfl ?_
    exact w_M_isSo_J82 hX
  · refine h_iload_n hX dX11_isSo_30 rfl rfl ?_
    refine h_if_eq hX dX11_isSo_31 (tgt := 82) (by decide) (fun _ => ?_) (fun _ => ?_)
    · refine gH.inr ?_
      refine gH.dead [0, 1, 2, 3] rfl ?_
      exact w_M_isSo_J82 hX
    · refine h_aload_n hX dX11_isSo_34 rfl rfl ?_
      refine h_aload_n hX dX11_isSo_35 rfl rfl ?_
      refine get_RX11_77_M0 hX dX11_isSo_36 ?_
      refine h_iload hX dX11_isSo_39 rfl ?_
      refine ald_M22 hX dX11_isSo_41 ?_
      refine h_callVi hX dX11_isSo_42 (cv_RX11_319) rc_M0 (As := [.int (m_notePlace s.2.toNatClampNeg)]) (st := []) (fun _ h => c_M_weatherOf h) rfl rfl (by decide) (Nat.le_of_ble_eq_true rfl) (fun a_4 => ?_)
      refine h_aload_n hX dX11_isSo_45 rfl rfl ?_
      refine get_RX11_80_M0 hX dX11_isSo_46 ?_
      refine h_iload hX dX11_isSo_49 rfl ?_
      refine ald_M23 hX dX11_isSo_51 ?_
      refine h_icmp_ne hX dX11_isSo_52 (tgt := 59) (by decide) (fun _ => ?_) (fun _ => ?_)
      · refine h_iconst hX dX11_isSo_59 ki_0 ?_
        refine gH.dead [0, 1, 2, 4] rfl ?_
        exact w_M_isSo_J60 hX
      · refine h_iconst hX dX11_isSo_55 ki_1 ?_
        refine h_goto hX dX11_isSo_56 (tgt := 60) (by decide) ?_
        refine gH.dead [0, 1, 2, 4] rfl ?_
        exact w_M_isSo_J60 hX
set_option maxRecDepth 4000 in
theorem w_M_isSo {p0 : Int32} (hX : gOk B X RX11 cX11_isSo 5 4 (some .boolean)) : gH B X (fun r : (Int32 × (Nat → Int32)) => gFin X (some (.int r.1)) (wdM B m_thrown m_size m_at m_wrong m_deep m_laws m_text m_readBoys m_readMarbles m_readFarms m_boys m_marbles m_farms m_holding m_spills m_acts m_draws m_bestRow m_bestMany m_noted m_hasImage m_tape m_code m_value m_codes m_clauses m_testFrom m_sumFrom m_sumTo m_letters m_stack m_readRule m_readBoy m_readMarble m_readFarm m_rule m_boy m_marble m_farm r.2 m_refused m_kept m_notePlace m_noteKind m_noteIs m_toldBy m_image ++ fr)) 0 [(0, .ref (aM B 0)), (1, .int p0)] [] (wdM B m_thrown m_size m_at m_wrong m_deep m_laws m_text m_readBoys m_readMarbles m_readFarms m_boys m_marbles m_farms m_holding m_spills m_acts m_draws m_bestRow m_bestMany m_noted m_hasImage m_tape m_code m_value m_codes m_clauses m_testFrom m_sumFrom m_sumTo m_letters m_stack m_readRule m_readBoy m_readMarble m_readFarm m_rule m_boy m_marble m_farm m_now m_refused m_kept m_notePlace m_noteKind m_noteIs m_toldBy m_image ++ fr) (f_M_isSo m_boys m_marbles m_noted m_boy m_marble m_now m_notePlace m_noteKind m_noteIs p0) := by
  unfold f_M_isSo
  refine h_aload_n hX dX11_isSo_0 rfl rfl ?_
  refine h_iload_n hX dX11_isSo_1 rfl rfl ?_
  refine h_callVi hX dX11_isSo_2 (cv_RX11_417) rc_M0 (As := [.int p0]) (st := []) (fun _ h => c_M_isCase h) rfl rfl (by decide) (Nat.le_of_ble_eq_true rfl) (fun a_1 => ?_)
  refine h_if_ne hX dX11_isSo_5 (tgt := 10) (by decide) (fun _ => ?_) (fun _ => ?_)
  · refine h_aload_n hX dX11_isSo_10 rfl rfl ?_
    refine h_iload_n hX dX11_isSo_11 rfl rfl ?_
    refine h_callVi hX dX11_isSo_12 (cv_RX11_420) rc_M0 (As := [.int p0]) (st := []) (fun _ h => c_M_layCase h) rfl rfl (by decide) (Nat.le_of_ble_eq_true rfl) (fun a_2 => ?_)
    refine h_istore_n hX dX11_isSo_15 rfl (by decide) (lv' := [(0, .ref (aM B 0)), (1, .int p0), (2, .int a_2.1)]) rfl ?_
    refine h_iconst hX dX11_isSo_16 ki_1 ?_
    refine h_istore_n hX dX11_isSo_17 rfl (by decide) (lv' := [(0, .ref (aM B 0)), (1, .int p0), (2, .int a_2.1), (3, .int 1)]) rfl ?_
    refine h_iconst hX dX11_isSo_18 ki_0 ?_
    refine h_istore hX dX11_isSo_19 (by decide) (lv' := [(0, .ref (aM B 0)), (1, .int p0), (2, .int a_2.1), (3, .int 1), (4, .int 0)]) rfl ?_
    exact gH.loop (lvf := fun z : (Int32 × Int32) => [(0, .ref (aM B 0)), (1, .int p0), (2, .int a_2.1), (3, .int z.1), (4, .int z.2)]) (wf := fun z : (Int32 × Int32) => wdM B m_thrown m_size m_at m_wrong m_deep m_laws m_text m_readBoys m_readMarbles m_readFarms m_boys m_marbles m_farms m_holding m_spills m_acts m_draws m_bestRow m_bestMany m_noted m_hasImage m_tape m_code m_value m_codes m_clauses m_testFrom m_sumFrom m_sumTo m_letters m_stack m_readRule m_readBoy m_readMarble m_readFarm m_rule m_boy m_marble m_farm a_2.2 m_refused m_kept m_notePlace m_noteKind m_noteIs m_toldBy m_image ++ fr) (fun z => w_M_isSo_L21 hX z) (1, 0)
  · refine h_iconst hX dX11_isSo_8 ki_0 ?_
    exact h_ret hX (rv := some (.int 0)) dX11_isSo_9 rfl (fun h => h)
theorem c_M_isSo {p0 : Int32} {r : (Int32 × (Nat → Int32))} (h : f_M_isSo m_boys m_marbles m_noted m_boy m_marble m_now m_notePlace m_noteKind m_noteIs p0 = some r) : gMet B 4 yX11_isSo cX11_isSo 5 (some .boolean) [.ref (aM B 0), .int p0] (wdM B m_thrown m_size m_at m_wrong m_deep m_laws m_text m_readBoys m_readMarbles m_readFarms m_boys m_marbles m_farms m_holding m_spills m_acts m_draws m_bestRow m_bestMany m_noted m_hasImage m_tape m_code m_value m_codes m_clauses m_testFrom m_sumFrom m_sumTo m_letters m_stack m_readRule m_readBoy m_readMarble m_readFarm m_rule m_boy m_marble m_farm m_now m_refused m_kept m_notePlace m_noteKind m_noteIs m_toldBy m_image ++ fr) (some (.int r.1)) (wdM B m_thrown m_size m_at m_wrong m_deep m_laws m_text m_readBoys m_readMarbles m_readFarms m_boys m_marbles m_farms m_holding m_spills m_acts m_draws m_bestRow m_bestMany m_noted m_hasImage m_tape m_code m_value m_codes m_clauses m_testFrom m_sumFrom m_sumTo m_letters m_stack m_readRule m_readBoy m_readMarble m_readFarm m_rule m_boy m_marble m_farm r.2 m_refused m_kept m_notePlace m_noteKind m_noteIs m_toldBy m_image ++ fr) :=
  gMet.of rfl (Nat.le_of_ble_eq_true rfl) (fun X hX hF => w_M_isSo hX r h hF)
set_option maxRecDepth 4000 in
theorem w_M_who_J42 {v1 : Int32} {v2 : Int32} {v3 : Int32} (hX : gOk B X RX11 cX11_who 4 5 (some .int)) : gH B X (Sum.elim (fun s : (Int32 × Int32 × (Nat → Int32)) => gG B X 18 [(0, .ref (aM B 0)), (1, .int v1), (2, .int s.1), (3, .int s.2.1)] [] (wdM B m_thrown m_size m_at m_wrong m_deep m_laws m_text m_readBoys m_readMarbles m_readFarms m_boys m_marbles m_farms m_holding m_spills m_acts m_draws m_bestRow m_bestMany m_noted m_hasImage m_tape m_code m_value m_codes m_clauses m_testFrom m_sumFrom m_sumTo m_letters m_stack m_readRule m_readBoy m_readMarble m_readFarm m_rule m_boy m_marble m_farm s.2.2 m_refused m_kept m_notePlace m_noteKind m_noteIs m_toldBy m_image ++ fr)) (fun r : (Int32 × (Nat → Int32)) => gFin X (some (.int r.1)) (wdM B m_thrown m_size m_at m_wrong m_deep m_laws m_text m_readBoys m_readMarbles m_readFarms m_boys m_marbles m_farms m_holding m_spills m_acts m_draws m_bestRow m_bestMany m_noted m_hasImage m_tape m_code m_value m_codes m_clauses m_testFrom m_sumFrom m_sumTo m_letters m_stack m_readRule m_readBoy m_readMarble m_readFarm m_rule m_boy m_marble m_farm r.2 m_refused m_kept m_notePlace m_noteKind m_noteIs m_toldBy m_image ++ fr))) 42 [(0, .ref (aM B 0)), (1, .int v1), (2, .int v2), (3, .int v3)] [] (wdM B m_thrown m_size m_at m_wrong m_deep m_laws m_text m_readBoys m_readMarbles m_readFarms m_boys m_marbles m_farms m_holding m_spills m_acts m_draws m_bestRow m_bestMany m_noted m_hasImage m_tape m_code m_value m_codes m_clauses m_testFrom m_sumFrom m_sumTo m_letters m_stack m_readRule m_readBoy m_readMarble m_readFarm m_rule m_boy m_marble m_farm m_now m_refused m_kept m_notePlace m_noteKind m_noteIs m_toldBy m_image ++ fr) (f_M_who_J42 m_now v2 v3) := by
  unfold f_M_who_J42
  refine h_iincc hX dX11_who_42 rfl ki_1 (by decide) (lv' := [(0, .ref (aM B 0)), (1, .int v1), (2, .int v2), (3, .int (v3 + 1))]) rfl ?_
  refine h_goto hX dX11_who_45 (tgt := 18) (by decide) ?_
  exact gH.some' (fun h => h)
set_option maxRecDepth 4000 in
theorem w_M_who_L18 {v1 : Int32} (hX : gOk B X RX11 cX11_who 4 5 (some .int)) (s : (Int32 × Int32 × (Nat → Int32))) : gH B X (Sum.elim (fun s : (Int32 × Int32 × (Nat → Int32)) => gG B X 18 [(0, .ref (aM B 0)), (1, .int v1), (2, .int s.1), (3, .int s.2.1)] [] (wdM B m_thrown m_size m_at m_wrong m_deep m_laws m_text m_readBoys m_readMarbles m_readFarms m_boys m_marbles m_farms m_holding m_spills m_acts m_draws m_bestRow m_bestMany m_noted m_hasImage m_tape m_code m_value m_codes m_clauses m_testFrom m_sumFrom m_sumTo m_letters m_stack m_readRule m_readBoy m_readMarble m_readFarm m_rule m_boy m_marble m_farm s.2.2 m_refused m_kept m_notePlace m_noteKind m_noteIs m_toldBy m_image ++ fr)) (fun r : (Int32 × (Nat → Int32)) => gFin X (some (.int r.1)) (wdM B m_thrown m_size m_at m_wrong m_deep m_laws m_text m_readBoys m_readMarbles m_readFarms m_boys m_marbles m_farms m_holding m_spills m_acts m_draws m_bestRow m_bestMany m_noted m_hasImage m_tape m_code m_value m_codes m_clauses m_testFrom m_sumFrom m_sumTo m_letters m_stack m_readRule m_readBoy m_readMarble m_readFarm m_rule m_boy m_marble m_farm r.2 m_refused m_kept m_notePlace m_noteKind m_noteIs m_toldBy m_image ++ fr))) 18 [(0, .ref (aM B 0)), (1, .int v1), (2, .int s.1), (3, .int s.2.1)] [] (wdM B m_thrown m_size m_at m_wrong m_deep m_laws m_text m_readBoys m_readMarbles m_readFarms m_boys m_marbles m_farms m_holding m_spills m_acts m_draws m_bestRow m_bestMany m_noted m_hasImage m_tape m_code m_value m_codes m_clauses m_testFrom m_sumFrom m_sumTo m_letters m_stack m_readRule m_readBoy m_readMarble m_readFarm m_rule m_boy m_marble m_farm s.2.2 m_refused m_kept m_notePlace m_noteKind m_noteIs m_toldBy m_image ++ fr) (f_M_who_L18 m_boys m_marbles m_noted m_boy m_marble m_notePlace m_noteKind m_noteIs v1 s) := by
  unfold f_M_who_L18
  refine h_iload_n hX dX11_who_18 rfl rfl ?_
  refine h_bipush hX dX11_who_19 kb_99 ?_
  refine h_icmp_gt hX dX11_who_21 (tgt := 48) (by decide) (fun _ => ?_) (fun _ => ?_)
  · refine gH.inr ?_
    refine h_iload_n hX dX11_who_48 rfl rfl ?_
    refine h_iconst hX dX11_who_49 ki_m1 ?_
    refine h_icmp_ne hX dX11_who_50 (tgt := 57) (by decide) (fun _ => ?_) (fun _ => ?_)
    · refine h_iconst hX dX11_who_57 ki_m1 ?_
      exact h_ret hX (rv := some (.int ((-1)))) dX11_who_58 trivial (fun h => h)
    · refine h_iload_n hX dX11_who_53 rfl rfl ?_
      refine h_goto hX dX11_who_54 (tgt := 58) (by decide) ?_
      exact h_ret hX (rv := some (.int s.1)) dX11_who_58 trivial (fun h => h)
  · refine h_aload_n hX dX11_who_24 rfl rfl ?_
    refine h_iload_n hX dX11_who_25 rfl rfl ?_
    refine h_callVi hX dX11_who_26 (cv_RX11_426) rc_M0 (As := [.int s.2.1]) (st := []) (fun _ h => c_M_isSo h) rfl rfl (by decide) (Nat.le_of_ble_eq_true rfl) (fun a_1 => ?_)
    refine h_if_eq hX dX11_who_29 (tgt := 42) (by decide) (fun _ => ?_) (fun _ => ?_)
    · exact w_M_who_J42 hX
    · refine h_iload_n hX dX11_who_32 rfl rfl ?_
      refine h_iload_n hX dX11_who_33 rfl rfl ?_
      refine h_icmp_ne hX dX11_who_34 (tgt := 39) (by decide) (fun _ => ?_) (fun _ => ?_)
      · refine h_iincc hX dX11_who_39 rfl ki_1 (by decide) (lv' := [(0, .ref (aM B 0)), (1, .int v1), (2, .int (s.1 + 1)), (3, .int s.2.1)]) rfl ?_
        exact w_M_who_J42 hX
      · refine h_iload_n hX dX11_who_37 rfl rfl ?_
        exact h_ret hX (rv := some (.int s.2.1)) dX11_who_38 trivial (fun h => h)
set_option maxRecDepth 4000 in
theorem w_M_who {p0 : Int32} (hX : gOk B X RX11 cX11_who 4 5 (some .int)) : gH B X (fun r : (Int32 × (Nat → Int32)) => gFin X (some (.int r.1)) (wdM B m_thrown m_size m_at m_wrong m_deep m_laws m_text m_readBoys m_readMarbles m_readFarms m_boys m_marbles m_farms m_holding m_spills m_acts m_draws m_bestRow m_bestMany m_noted m_hasImage m_tape m_code m_value m_codes m_clauses m_testFrom m_sumFrom m_sumTo m_letters m_stack m_readRule m_readBoy m_readMarble m_readFarm m_rule m_boy m_marble m_farm r.2 m_refused m_kept m_notePlace m_noteKind m_noteIs m_toldBy m_image ++ fr)) 0 [(0, .ref (aM B 0)), (1, .int p0)] [] (wdM B m_thrown m_size m_at m_wrong m_deep m_laws m_text m_readBoys m_readMarbles m_readFarms m_boys m_marbles m_farms m_holding m_spills m_acts m_draws m_bestRow m_bestMany m_noted m_hasImage m_tape m_code m_value m_codes m_clauses m_testFrom m_sumFrom m_sumTo m_letters m_stack m_readRule m_readBoy m_readMarble m_readFarm m_rule m_boy m_marble m_farm m_now m_refused m_kept m_notePlace m_noteKind m_noteIs m_toldBy m_image ++ fr) (f_M_who m_boys m_marbles m_noted m_boy m_marble m_now m_notePlace m_noteKind m_noteIs p0) := by
  unfold f_M_who
  refine h_aload_n hX dX11_who_0 rfl rfl ?_
  refine get_RX11_261_M0 hX dX11_who_1 ?_
  refine h_if_eq hX dX11_who_4 (tgt := 12) (by decide) (fun _ => ?_) (fun _ => ?_)
  · refine h_iconst hX dX11_who_12 ki_m1 ?_
    exact h_ret hX (rv := some (.int ((-1)))) dX11_who_13 trivial (fun h => h)
  · refine h_iload_n hX dX11_who_7 rfl rfl ?_
    refine h_iconst hX dX11_who_8 ki_m1 ?_
    refine h_icmp_ge hX dX11_who_9 (tgt := 14) (by decide) (fun _ => ?_) (fun _ => ?_)
    · refine h_iconst hX dX11_who_14 ki_0 ?_
      refine h_istore_n hX dX11_who_15 rfl (by decide) (lv' := [(0, .ref (aM B 0)), (1, .int p0), (2, .int 0)]) rfl ?_
      refine h_iconst hX dX11_who_16 ki_0 ?_
      refine h_istore_n hX dX11_who_17 rfl (by decide) (lv' := [(0, .ref (aM B 0)), (1, .int p0), (2, .int 0), (3, .int 0)]) rfl ?_
      exact gH.loop (lvf := fun z : (Int32 × Int32 × (Nat → Int32)) => [(0, .ref (aM B 0)), (1, .int p0), (2, .int z.1), (3, .int z.2.1)]) (wf := fun z : (Int32 × Int32 × (Nat → Int32)) => wdM B m_thrown m_size m_at m_wrong m_deep m_laws m_text m_readBoys m_readMarbles m_readFarms m_boys m_marbles m_farms m_holding m_spills m_acts m_draws m_bestRow m_bestMany m_noted m_hasImage m_tape m_code m_value m_codes m_clauses m_testFrom m_sumFrom m_sumTo m_letters m_stack m_readRule m_readBoy m_readMarble m_readFarm m_rule m_boy m_marble m_farm z.2.2 m_refused m_kept m_notePlace m_noteKind m_noteIs m_toldBy m_image ++ fr) (fun z => w_M_who_L18 hX z) (0, 0, m_now)
    · refine h_iconst hX dX11_who_12 ki_m1 ?_
      exact h_ret hX (rv := some (.int ((-1)))) dX11_who_13 trivial (fun h => h)
theorem c_M_who {p0 : Int32} {r : (Int32 × (Nat → Int32))} (h : f_M_who m_boys m_marbles m_noted m_boy m_marble m_now m_notePlace m_noteKind m_noteIs p0 = some r) : gMet B 5 yX11_who cX11_who 4 (some .int) [.ref (aM B 0), .int p0] (wdM B m_thrown m_size m_at m_wrong m_deep m_laws m_text m_readBoys m_readMarbles m_readFarms m_boys m_marbles m_farms m_holding m_spills m_acts m_draws m_bestRow m_bestMany m_noted m_hasImage m_tape m_code m_value m_codes m_clauses m_testFrom m_sumFrom m_sumTo m_letters m_stack m_readRule m_readBoy m_readMarble m_readFarm m_rule m_boy m_marble m_farm m_now m_refused m_kept m_notePlace m_noteKind m_noteIs m_toldBy m_image ++ fr) (some (.int r.1)) (wdM B m_thrown m_size m_at m_wrong m_deep m_laws m_text m_readBoys m_readMarbles m_readFarms m_boys m_marbles m_farms m_holding m_spills m_acts m_draws m_bestRow m_bestMany m_noted m_hasImage m_tape m_code m_value m_codes m_clauses m_testFrom m_sumFrom m_sumTo m_letters m_stack m_readRule m_readBoy m_readMarble m_readFarm m_rule m_boy m_marble m_farm r.2 m_refused m_kept m_notePlace m_noteKind m_noteIs m_toldBy m_image ++ fr) :=
  gMet.of rfl (Nat.le_of_ble_eq_true rfl) (fun X hX hF => w_M_who hX r h hF)
set_option maxRecDepth 4000 in
theorem w_M_best_J177 {v1 : Int32} {v2 : Int32} {v3 : Int32} (hX : gOk B X RX11 cX11_best 6 6 (some .int)) : gH B X (Sum.elim (fun s : (Int32 × Int32 × Int32) => gG B X 117 [(0, .ref (aM B 0)), (1, .int s.1), (2, .int s.2.1), (3, .int s.2.2)] [] (wdM B m_thrown m_size m_at m_wrong m_deep m_laws m_text m_readBoys m_readMarbles m_readFarms m_boys m_marbles m_farms m_holding m_spills m_acts m_draws m_bestRow m_bestMany m_noted m_hasImage m_tape m_code m_value m_codes m_clauses m_testFrom m_sumFrom m_sumTo m_letters m_stack m_readRule m_readBoy m_readMarble m_readFarm m_rule m_boy m_marble m_farm m_now m_refused m_kept m_notePlace m_noteKind m_noteIs m_toldBy m_image ++ fr)) (fun r : (Int32 × (Nat → Int32) × (Nat → Int32)) => gFin X (some (.int r.1)) (wdM B m_thrown m_size m_at m_wrong m_deep m_laws m_text m_readBoys m_readMarbles m_readFarms m_boys m_marbles m_farms m_holding m_spills m_acts m_draws m_bestRow m_bestMany m_noted m_hasImage m_tape m_code m_value m_codes m_clauses m_testFrom m_sumFrom m_sumTo m_letters m_stack m_readRule m_readBoy m_readMarble m_readFarm m_rule m_boy m_marble m_farm r.2.1 m_refused m_kept m_notePlace m_noteKind m_noteIs r.2.2 m_image ++ fr))) 177 [(0, .ref (aM B 0)), (1, .int v1), (2, .int v2), (3, .int v3)] [] (wdM B m_thrown m_size m_at m_wrong m_deep m_laws m_text m_readBoys m_readMarbles m_readFarms m_boys m_marbles m_farms m_holding m_spills m_acts m_draws m_bestRow m_bestMany m_noted m_hasImage m_tape m_code m_value m_codes m_clauses m_testFrom m_sumFrom m_sumTo m_letters m_stack m_readRule m_readBoy m_readMarble m_readFarm m_rule m_boy m_marble m_farm m_now m_refused m_kept m_notePlace m_noteKind m_noteIs m_toldBy m_image ++ fr) (f_M_best_J177 v1 v2 v3) := by
  unfold f_M_best_J177
  refine h_iincc hX dX11_best_177 rfl ki_1 (by decide) (lv' := [(0, .ref (aM B 0)), (1, .int v1), (2, .int v2), (3, .int (v3 + 1))]) rfl ?_
  refine h_goto hX dX11_best_180 (tgt := 117) (by decide) ?_
  exact gH.some' (fun h => h)
set_option maxRecDepth 4000 in
theorem w_M_best_J172 {v3 : Int32} {v4 : Int32} (hX : gOk B X RX11 cX11_best 6 6 (some .int)) : gH B X (Sum.elim (fun s : (Int32 × Int32 × Int32) => gG B X 117 [(0, .ref (aM B 0)), (1, .int s.1), (2, .int s.2.1), (3, .int s.2.2)] [] (wdM B m_thrown m_size m_at m_wrong m_deep m_laws m_text m_readBoys m_readMarbles m_readFarms m_boys m_marbles m_farms m_holding m_spills m_acts m_draws m_bestRow m_bestMany m_noted m_hasImage m_tape m_code m_value m_codes m_clauses m_testFrom m_sumFrom m_sumTo m_letters m_stack m_readRule m_readBoy m_readMarble m_readFarm m_rule m_boy m_marble m_farm m_now m_refused m_kept m_notePlace m_noteKind m_noteIs m_toldBy m_image ++ fr)) (fun r : (Int32 × (Nat → Int32) × (Nat → Int32)) => gFin X (some (.int r.1)) (wdM B m_thrown m_size m_at m_wrong m_deep m_laws m_text m_readBoys m_readMarbles m_readFarms m_boys m_marbles m_farms m_holding m_spills m_acts m_draws m_bestRow m_bestMany m_noted m_hasImage m_tape m_code m_value m_codes m_clauses m_testFrom m_sumFrom m_sumTo m_letters m_stack m_readRule m_readBoy m_readMarble m_readFarm m_rule m_boy m_marble m_farm r.2.1 m_refused m_kept m_notePlace m_noteKind m_noteIs r.2.2 m_image ++ fr))) 172 [(0, .ref (aM B 0)), (3, .int v3), (4, .int v4)] [] (wdM B m_thrown m_size m_at m_wrong m_deep m_laws m_text m_readBoys m_readMarbles m_readFarms m_boys m_marbles m_farms m_holding m_spills m_acts m_draws m_bestRow m_bestMany m_noted m_hasImage m_tape m_code m_value m_codes m_clauses m_testFrom m_sumFrom m_sumTo m_letters m_stack m_readRule m_readBoy m_readMarble m_readFarm m_rule m_boy m_marble m_farm m_now m_refused m_kept m_notePlace m_noteKind m_noteIs m_toldBy m_image ++ fr) (f_M_best_J172 v3 v4) := by
  unfold f_M_best_J172
  refine h_iload_n hX dX11_best_172 rfl rfl ?_
  refine h_istore_n hX dX11_best_173 rfl (by decide) (lv' := [(0, .ref (aM B 0)), (1, .int v3), (3, .int v3), (4, .int v4)]) rfl ?_
  refine h_iload hX dX11_best_174 rfl ?_
  refine h_istore_n hX dX11_best_176 rfl (by decide) (lv' := [(0, .ref (aM B 0)), (1, .int v3), (2, .int v4), (3, .int v3), (4, .int v4)]) rfl ?_
  refine gH.dead [0, 1, 2, 3] rfl ?_
  exact w_M_best_J177 hX
set_option maxRecDepth 4000 in
theorem w_M_best_L129 {v1 : Int32} {v2 : Int32} {v3 : Int32} (hX : gOk B X RX11 cX11_best 6 6 (some .int)) (s : (Int32 × Int32)) : gH B X (Sum.elim (fun s : (Int32 × Int32) => gG B X 129 [(0, .ref (aM B 0)), (1, .int v1), (2, .int v2), (3, .int v3), (4, .int s.1), (5, .int s.2)] [] (wdM B m_thrown m_size m_at m_wrong m_deep m_laws m_text m_readBoys m_readMarbles m_readFarms m_boys m_marbles m_farms m_holding m_spills m_acts m_draws m_bestRow m_bestMany m_noted m_hasImage m_tape m_code m_value m_codes m_clauses m_testFrom m_sumFrom m_sumTo m_letters m_stack m_readRule m_readBoy m_readMarble m_readFarm m_rule m_boy m_marble m_farm m_now m_refused m_kept m_notePlace m_noteKind m_noteIs m_toldBy m_image ++ fr)) (Sum.elim (fun s : (Int32 × Int32 × Int32) => gG B X 117 [(0, .ref (aM B 0)), (1, .int s.1), (2, .int s.2.1), (3, .int s.2.2)] [] (wdM B m_thrown m_size m_at m_wrong m_deep m_laws m_text m_readBoys m_readMarbles m_readFarms m_boys m_marbles m_farms m_holding m_spills m_acts m_draws m_bestRow m_bestMany m_noted m_hasImage m_tape m_code m_value m_codes m_clauses m_testFrom m_sumFrom m_sumTo m_letters m_stack m_readRule m_readBoy m_readMarble m_readFarm m_rule m_boy m_marble m_farm m_now m_refused m_kept m_notePlace m_noteKind m_noteIs m_toldBy m_image ++ fr)) (fun r : (Int32 × (Nat → Int32) × (Nat → Int32)) => gFin X (some (.int r.1)) (wdM B m_thrown m_size m_at m_wrong m_deep m_laws m_text m_readBoys m_readMarbles m_readFarms m_boys m_marbles m_farms m_holding m_spills m_acts m_draws m_bestRow m_bestMany m_noted m_hasImage m_tape m_code m_value m_codes m_clauses m_testFrom m_sumFrom m_sumTo m_letters m_stack m_readRule m_readBoy m_readMarble m_readFarm m_rule m_boy m_marble m_farm r.2.1 m_refused m_kept m_notePlace m_noteKind m_noteIs r.2.2 m_image ++ fr)))) 129 [(0, .ref (aM B 0)), (1, .int v1), (2, .int v2), (3, .int v3), (4, .int s.1), (5, .int s.2)] [] (wdM B m_thrown m_size m_at m_wrong m_deep m_laws m_text m_readBoys m_readMarbles m_readFarms m_boys m_marbles m_farms m_holding m_spills m_acts m_draws m_bestRow m_bestMany m_noted m_hasImage m_tape m_code m_value m_codes m_clauses m_testFrom m_sumFrom m_sumTo m_letters m_stack m_readRule m_readBoy m_readMarble m_readFarm m_rule m_boy m_marble m_farm m_now m_refused m_kept m_notePlace m_noteKind m_noteIs m_toldBy m_image ++ fr) (f_M_best_L129 m_toldBy v1 v2 v3 s) := by
  unfold f_M_best_L129
  refine h_iload hX dX11_best_129 rfl ?_
  refine h_bipush hX dX11_best_131 kb_6 ?_
  refine h_icmp_gt hX dX11_best_133 (tgt := 161) (by decide) (fun _ => ?_) (fun _ => ?_)
  · refine gH.inr ?_
    refine h_iload_n hX dX11_best_161 rfl rfl ?_
    refine h_iconst hX dX11_best_162 ki_m1 ?_
    refine h_icmp_eq hX dX11_best_163 (tgt := 172) (by decide) (fun _ => ?_) (fun _ => ?_)
    · refine gH.dead [0, 3, 4] rfl ?_
      exact w_M_best_J172 hX
    · refine h_iload hX dX11_best_166 rfl ?_
      refine h_iload_n hX dX11_best_168 rfl rfl ?_
      refine h_icmp_ge hX dX11_best_169 (tgt := 177) (by decide) (fun _ => ?_) (fun _ => ?_)
      · refine gH.dead [0, 1, 2, 3] rfl ?_
        exact w_M_best_J177 hX
      · refine gH.dead [0, 3, 4] rfl ?_
        exact w_M_best_J172 hX
  · refine h_iload hX dX11_best_136 rfl ?_
    refine h_aload_n hX dX11_best_138 rfl rfl ?_
    refine get_RX11_87_M0 hX dX11_best_139 ?_
    refine h_bipush hX dX11_best_142 kb_7 ?_
    refine h_iload_n hX dX11_best_144 rfl rfl ?_
    refine h_imul hX dX11_best_145 ?_
    refine h_iload hX dX11_best_146 rfl ?_
    refine h_iadd hX dX11_best_148 ?_
    refine ald_M25 hX dX11_best_149 ?_
    refine h_jmax hX dX11_best_150 cm_RX11_299 (by omega) (Nat.le_of_ble_eq_true rfl) ?_
    refine gH.leti (fun v4_3 => ?_)
    refine h_istore hX dX11_best_153 (by decide) (lv' := [(0, .ref (aM B 0)), (1, .int v1), (2, .int v2), (3, .int v3), (4, .int v4_3), (5, .int s.2)]) rfl ?_
    refine h_iincc hX dX11_best_155 rfl ki_1 (by decide) (lv' := [(0, .ref (aM B 0)), (1, .int v1), (2, .int v2), (3, .int v3), (4, .int v4_3), (5, .int (s.2 + 1))]) rfl ?_
    refine h_goto hX dX11_best_158 (tgt := 129) (by decide) ?_
    exact gH.some' (fun h => h)
set_option maxRecDepth 4000 in
theorem w_M_best_L117 (hX : gOk B X RX11 cX11_best 6 6 (some .int)) (s : (Int32 × Int32 × Int32)) : gH B X (Sum.elim (fun s : (Int32 × Int32 × Int32) => gG B X 117 [(0, .ref (aM B 0)), (1, .int s.1), (2, .int s.2.1), (3, .int s.2.2)] [] (wdM B m_thrown m_size m_at m_wrong m_deep m_laws m_text m_readBoys m_readMarbles m_readFarms m_boys m_marbles m_farms m_holding m_spills m_acts m_draws m_bestRow m_bestMany m_noted m_hasImage m_tape m_code m_value m_codes m_clauses m_testFrom m_sumFrom m_sumTo m_letters m_stack m_readRule m_readBoy m_readMarble m_readFarm m_rule m_boy m_marble m_farm m_now m_refused m_kept m_notePlace m_noteKind m_noteIs m_toldBy m_image ++ fr)) (fun r : (Int32 × (Nat → Int32) × (Nat → Int32)) => gFin X (some (.int r.1)) (wdM B m_thrown m_size m_at m_wrong m_deep m_laws m_text m_readBoys m_readMarbles m_readFarms m_boys m_marbles m_farms m_holding m_spills m_acts m_draws m_bestRow m_bestMany m_noted m_hasImage m_tape m_code m_value m_codes m_clauses m_testFrom m_sumFrom m_sumTo m_letters m_stack m_readRule m_readBoy m_readMarble m_readFarm m_rule m_boy m_marble m_farm r.2.1 m_refused m_kept m_notePlace m_noteKind m_noteIs r.2.2 m_image ++ fr))) 117 [(0, .ref (aM B 0)), (1, .int s.1), (2, .int s.2.1), (3, .int s.2.2)] [] (wdM B m_thrown m_size m_at m_wrong m_deep m_laws m_text m_readBoys m_readMarbles m_readFarms m_boys m_marbles m_farms m_holding m_spills m_acts m_draws m_bestRow m_bestMany m_noted m_hasImage m_tape m_code m_value m_codes m_clauses m_testFrom m_sumFrom m_sumTo m_letters m_stack m_readRule m_readBoy m_readMarble m_readFarm m_rule m_boy m_marble m_farm m_now m_refused m_kept m_notePlace m_noteKind m_noteIs m_toldBy m_image ++ fr) (f_M_best_L117 m_now m_toldBy s) := by
  unfold f_M_best_L117
  refine h_iload_n hX dX11_best_117 rfl rfl ?_
  refine h_bipush hX dX11_best_118 kb_10 ?_
  refine h_icmp_ge hX dX11_best_120 (tgt := 183) (by decide) (fun _ => ?_) (fun _ => ?_)
  · refine h_iload_n hX dX11_best_183 rfl rfl ?_
    exact h_ret hX (rv := some (.int s.1)) dX11_best_184 trivial (fun h => h)
  · refine h_iconst hX dX11_best_123 ki_0 ?_
    refine h_istore hX dX11_best_124 (by decide) (lv' := [(0, .ref (aM B 0)), (1, .int s.1), (2, .int s.2.1), (3, .int s.2.2), (4, .int 0)]) rfl ?_
    refine h_iconst hX dX11_best_126 ki_0 ?_
    refine h_istore hX dX11_best_127 (by decide) (lv' := [(0, .ref (aM B 0)), (1, .int s.1), (2, .int s.2.1), (3, .int s.2.2), (4, .int 0), (5, .int 0)]) rfl ?_
    exact gH.loop (lvf := fun z : (Int32 × Int32) => [(0, .ref (aM B 0)), (1, .int s.1), (2, .int s.2.1), (3, .int s.2.2), (4, .int z.1), (5, .int z.2)]) (wf := fun z : (Int32 × Int32) => wdM B m_thrown m_size m_at m_wrong m_deep m_laws m_text m_readBoys m_readMarbles m_readFarms m_boys m_marbles m_farms m_holding m_spills m_acts m_draws m_bestRow m_bestMany m_noted m_hasImage m_tape m_code m_value m_codes m_clauses m_testFrom m_sumFrom m_sumTo m_letters m_stack m_readRule m_readBoy m_readMarble m_readFarm m_rule m_boy m_marble m_farm m_now m_refused m_kept m_notePlace m_noteKind m_noteIs m_toldBy m_image ++ fr) (fun z => w_M_best_L129 hX z) (0, 0)
set_option maxRecDepth 4000 in
theorem w_M_best_J105 {v1 : Int32} (hX : gOk B X RX11 cX11_best 6 6 (some .int)) : gH B X (Sum.elim (fun s : (Int32 × (Nat → Int32) × (Nat → Int32)) => gG B X 44 [(0, .ref (aM B 0)), (1, .int s.1)] [] (wdM B m_thrown m_size m_at m_wrong m_deep m_laws m_text m_readBoys m_readMarbles m_readFarms m_boys m_marbles m_farms m_holding m_spills m_acts m_draws m_bestRow m_bestMany m_noted m_hasImage m_tape m_code m_value m_codes m_clauses m_testFrom m_sumFrom m_sumTo m_letters m_stack m_readRule m_readBoy m_readMarble m_readFarm m_rule m_boy m_marble m_farm s.2.1 m_refused m_kept m_notePlace m_noteKind m_noteIs s.2.2 m_image ++ fr)) (fun r : (Int32 × (Nat → Int32) × (Nat → Int32)) => gFin X (some (.int r.1)) (wdM B m_thrown m_size m_at m_wrong m_deep m_laws m_text m_readBoys m_readMarbles m_readFarms m_boys m_marbles m_farms m_holding m_spills m_acts m_draws m_bestRow m_bestMany m_noted m_hasImage m_tape m_code m_value m_codes m_clauses m_testFrom m_sumFrom m_sumTo m_letters m_stack m_readRule m_readBoy m_readMarble m_readFarm m_rule m_boy m_marble m_farm r.2.1 m_refused m_kept m_notePlace m_noteKind m_noteIs r.2.2 m_image ++ fr))) 105 [(0, .ref (aM B 0)), (1, .int v1)] [] (wdM B m_thrown m_size m_at m_wrong m_deep m_laws m_text m_readBoys m_readMarbles m_readFarms m_boys m_marbles m_farms m_holding m_spills m_acts m_draws m_bestRow m_bestMany m_noted m_hasImage m_tape m_code m_value m_codes m_clauses m_testFrom m_sumFrom m_sumTo m_letters m_stack m_readRule m_readBoy m_readMarble m_readFarm m_rule m_boy m_marble m_farm m_now m_refused m_kept m_notePlace m_noteKind m_noteIs m_toldBy m_image ++ fr) (f_M_best_J105 m_now m_toldBy v1) := by
  unfold f_M_best_J105
  refine h_iincc hX dX11_best_105 rfl ki_1 (by decide) (lv' := [(0, .ref (aM B 0)), (1, .int (v1 + 1))]) rfl ?_
  refine h_goto hX dX11_best_108 (tgt := 44) (by decide) ?_
  exact gH.some' (fun h => h)
set_option maxRecDepth 4000 in
theorem w_M_best_L66 {v1 : Int32} {v2 : Int32} (hX : gOk B X RX11 cX11_best 6 6 (some .int)) (s : (Int32 × (Nat → Int32))) : gH B X (Sum.elim (fun s : (Int32 × (Nat → Int32)) => gG B X 66 [(0, .ref (aM B 0)), (1, .int v1), (2, .int v2), (3, .int s.1)] [] (wdM B m_thrown m_size m_at m_wrong m_deep m_laws m_text m_readBoys m_readMarbles m_readFarms m_boys m_marbles m_farms m_holding m_spills m_acts m_draws m_bestRow m_bestMany m_noted m_hasImage m_tape m_code m_value m_codes m_clauses m_testFrom m_sumFrom m_sumTo m_letters m_stack m_readRule m_readBoy m_readMarble m_readFarm m_rule m_boy m_marble m_farm m_now m_refused m_kept m_notePlace m_noteKind m_noteIs s.2 m_image ++ fr)) (Sum.elim (fun s : (Int32 × (Nat → Int32) × (Nat → Int32)) => gG B X 44 [(0, .ref (aM B 0)), (1, .int s.1)] [] (wdM B m_thrown m_size m_at m_wrong m_deep m_laws m_text m_readBoys m_readMarbles m_readFarms m_boys m_marbles m_farms m_holding m_spills m_acts m_draws m_bestRow m_bestMany m_noted m_hasImage m_tape m_code m_value m_codes m_clauses m_testFrom m_sumFrom m_sumTo m_letters m_stack m_readRule m_readBoy m_readMarble m_readFarm m_rule m_boy m_marble m_farm s.2.1 m_refused m_kept m_notePlace m_noteKind m_noteIs s.2.2 m_image ++ fr)) (fun r : (Int32 × (Nat → Int32) × (Nat → Int32)) => gFin X (some (.int r.1)) (wdM B m_thrown m_size m_at m_wrong m_deep m_laws m_text m_readBoys m_readMarbles m_readFarms m_boys m_marbles m_farms m_holding m_spills m_acts m_draws m_bestRow m_bestMany m_noted m_hasImage m_tape m_code m_value m_codes m_clauses m_testFrom m_sumFrom m_sumTo m_letters m_stack m_readRule m_readBoy m_readMarble m_readFarm m_rule m_boy m_marble m_farm r.2.1 m_refused m_kept m_notePlace m_noteKind m_noteIs r.2.2 m_image ++ fr)))) 66 [(0, .ref (aM B 0)), (1, .int v1), (2, .int v2), (3, .int s.1)] [] (wdM B m_thrown m_size m_at m_wrong m_deep m_laws m_text m_readBoys m_readMarbles m_readFarms m_boys m_marbles m_farms m_holding m_spills m_acts m_draws m_bestRow m_bestMany m_noted m_hasImage m_tape m_code m_value m_codes m_clauses m_testFrom m_sumFrom m_sumTo m_letters m_stack m_readRule m_readBoy m_readMarble m_readFarm m_rule m_boy m_marble m_farm m_now m_refused m_kept m_notePlace m_noteKind m_noteIs s.2 m_image ++ fr) (f_M_best_L66 m_marbles m_boy m_marble m_now v1 v2 s) := by
  unfold f_M_best_L66
  refine h_iload_n hX dX11_best_66 rfl rfl ?_
  refine h_bipush hX dX11_best_67 kb_10 ?_
  refine h_icmp_ge hX dX11_best_69 (tgt := 99) (by decide) (fun _ => ?_) (fun _ => ?_)
  · refine gH.inr ?_
    refine h_aload_n hX dX11_best_99 rfl rfl ?_
    refine h_iload_n hX dX11_best_100 rfl rfl ?_
    refine h_iload_n hX dX11_best_101 rfl rfl ?_
    refine h_callVv hX dX11_best_102 (cv_RX11_423) rc_M0 (As := [.int v1, .int v2]) (st := []) (fun _ h => c_M_takeCase h) rfl rfl (by decide) (Nat.le_of_ble_eq_true rfl) (fun a_8 => ?_)
    refine gH.dead [0, 1] rfl ?_
    exact w_M_best_J105 hX
  · refine h_aload_n hX dX11_best_72 rfl rfl ?_
    refine get_RX11_87_M0 hX dX11_best_73 ?_
    refine h_bipush hX dX11_best_76 kb_7 ?_
    refine h_iload_n hX dX11_best_78 rfl rfl ?_
    refine h_imul hX dX11_best_79 ?_
    refine h_aload_n hX dX11_best_80 rfl rfl ?_
    refine h_iload_n hX dX11_best_81 rfl rfl ?_
    refine h_callVi hX dX11_best_82 (cv_RX11_319) rc_M0 (As := [.int s.1]) (st := [.int (7 * s.1), .ref (aM B 25)]) (fun _ h => c_M_weatherOf h) rfl rfl (by decide) (Nat.le_of_ble_eq_true rfl) (fun a_9 => ?_)
    refine h_iadd hX dX11_best_85 ?_
    refine h_iconst hX dX11_best_86 ki_1 ?_
    refine h_iadd hX dX11_best_87 ?_
    refine h_dup2 hX dX11_best_88 rfl rfl ?_
    refine ald_M25 hX dX11_best_89 ?_
    refine h_iconst hX dX11_best_90 ki_1 ?_
    refine h_iadd hX dX11_best_91 ?_
    refine ast_M25 hX dX11_best_92 ?_
    refine gH.letw (w := fun y => wdM B m_thrown m_size m_at m_wrong m_deep m_laws m_text m_readBoys m_readMarbles m_readFarms m_boys m_marbles m_farms m_holding m_spills m_acts m_draws m_bestRow m_bestMany m_noted m_hasImage m_tape m_code m_value m_codes m_clauses m_testFrom m_sumFrom m_sumTo m_letters m_stack m_readRule m_readBoy m_readMarble m_readFarm m_rule m_boy m_marble m_farm m_now m_refused m_kept m_notePlace m_noteKind m_noteIs y m_image ++ fr) (fun m_toldBy_10 => ?_)
    refine h_iincc hX dX11_best_93 rfl ki_1 (by decide) (lv' := [(0, .ref (aM B 0)), (1, .int v1), (2, .int v2), (3, .int (s.1 + 1))]) rfl ?_
    refine h_goto hX dX11_best_96 (tgt := 66) (by decide) ?_
    exact gH.some' (fun h => h)
set_option maxRecDepth 4000 in
theorem w_M_best_L44 (hX : gOk B X RX11 cX11_best 6 6 (some .int)) (s : (Int32 × (Nat → Int32) × (Nat → Int32))) : gH B X (Sum.elim (fun s : (Int32 × (Nat → Int32) × (Nat → Int32)) => gG B X 44 [(0, .ref (aM B 0)), (1, .int s.1)] [] (wdM B m_thrown m_size m_at m_wrong m_deep m_laws m_text m_readBoys m_readMarbles m_readFarms m_boys m_marbles m_farms m_holding m_spills m_acts m_draws m_bestRow m_bestMany m_noted m_hasImage m_tape m_code m_value m_codes m_clauses m_testFrom m_sumFrom m_sumTo m_letters m_stack m_readRule m_readBoy m_readMarble m_readFarm m_rule m_boy m_marble m_farm s.2.1 m_refused m_kept m_notePlace m_noteKind m_noteIs s.2.2 m_image ++ fr)) (fun r : (Int32 × (Nat → Int32) × (Nat → Int32)) => gFin X (some (.int r.1)) (wdM B m_thrown m_size m_at m_wrong m_deep m_laws m_text m_readBoys m_readMarbles m_readFarms m_boys m_marbles m_farms m_holding m_spills m_acts m_draws m_bestRow m_bestMany m_noted m_hasImage m_tape m_code m_value m_codes m_clauses m_testFrom m_sumFrom m_sumTo m_letters m_stack m_readRule m_readBoy m_readMarble m_readFarm m_rule m_boy m_marble m_farm r.2.1 m_refused m_kept m_notePlace m_noteKind m_noteIs r.2.2 m_image ++ fr))) 44 [(0, .ref (aM B 0)), (1, .int s.1)] [] (wdM B m_thrown m_size m_at m_wrong m_deep m_laws m_text m_readBoys m_readMarbles m_readFarms m_boys m_marbles m_farms m_holding m_spills m_acts m_draws m_bestRow m_bestMany m_noted m_hasImage m_tape m_code m_value m_codes m_clauses m_testFrom m_sumFrom m_sumTo m_letters m_stack m_readRule m_readBoy m_readMarble m_readFarm m_rule m_boy m_marble m_farm s.2.1 m_refused m_kept m_notePlace m_noteKind m_noteIs s.2.2 m_image ++ fr) (f_M_best_L44 m_boys m_marbles m_noted m_boy m_marble m_notePlace m_noteKind m_noteIs s) := by
  unfold f_M_best_L44
  refine h_iload_n hX dX11_best_44 rfl rfl ?_
  refine h_bipush hX dX11_best_45 kb_99 ?_
  refine h_icmp_gt hX dX11_best_47 (tgt := 111) (by decide) (fun _ => ?_) (fun _ => ?_)
  · refine gH.inr ?_
    refine h_iconst hX dX11_best_111 ki_m1 ?_
    refine h_istore_n hX dX11_best_112 rfl (by decide) (lv' := [(0, .ref (aM B 0)), (1, .int ((-1)))]) rfl ?_
    refine h_iconst hX dX11_best_113 ki_0 ?_
    refine h_istore_n hX dX11_best_114 rfl (by decide) (lv' := [(0, .ref (aM B 0)), (1, .int ((-1))), (2, .int 0)]) rfl ?_
    refine h_iconst hX dX11_best_115 ki_0 ?_
    refine h_istore_n hX dX11_best_116 rfl (by decide) (lv' := [(0, .ref (aM B 0)), (1, .int ((-1))), (2, .int 0), (3, .int 0)]) rfl ?_
    exact gH.loop (lvf := fun z : (Int32 × Int32 × Int32) => [(0, .ref (aM B 0)), (1, .int z.1), (2, .int z.2.1), (3, .int z.2.2)]) (wf := fun z : (Int32 × Int32 × Int32) => wdM B m_thrown m_size m_at m_wrong m_deep m_laws m_text m_readBoys m_readMarbles m_readFarms m_boys m_marbles m_farms m_holding m_spills m_acts m_draws m_bestRow m_bestMany m_noted m_hasImage m_tape m_code m_value m_codes m_clauses m_testFrom m_sumFrom m_sumTo m_letters m_stack m_readRule m_readBoy m_readMarble m_readFarm m_rule m_boy m_marble m_farm s.2.1 m_refused m_kept m_notePlace m_noteKind m_noteIs s.2.2 m_image ++ fr) (fun z => w_M_best_L117 hX z) ((-1), 0, 0)
  · refine h_aload_n hX dX11_best_50 rfl rfl ?_
    refine h_iload_n hX dX11_best_51 rfl rfl ?_
    refine h_callVi hX dX11_best_52 (cv_RX11_426) rc_M0 (As := [.int s.1]) (st := []) (fun _ h => c_M_isSo h) rfl rfl (by decide) (Nat.le_of_ble_eq_true rfl) (fun a_5 => ?_)
    refine h_if_eq hX dX11_best_55 (tgt := 105) (by decide) (fun _ => ?_) (fun _ => ?_)
    · exact w_M_best_J105 hX
    · refine h_aload_n hX dX11_best_58 rfl rfl ?_
      refine h_iload_n hX dX11_best_59 rfl rfl ?_
      refine h_callVi hX dX11_best_60 (cv_RX11_420) rc_M0 (As := [.int s.1]) (st := []) (fun _ h => c_M_layCase h) rfl rfl (by decide) (Nat.le_of_ble_eq_true rfl) (fun a_7 => ?_)
      refine h_istore_n hX dX11_best_63 rfl (by decide) (lv' := [(0, .ref (aM B 0)), (1, .int s.1), (2, .int a_7.1)]) rfl ?_
      refine h_iconst hX dX11_best_64 ki_0 ?_
      refine h_istore_n hX dX11_best_65 rfl (by decide) (lv' := [(0, .ref (aM B 0)), (1, .int s.1), (2, .int a_7.1), (3, .int 0)]) rfl ?_
      exact gH.loop (lvf := fun z : (Int32 × (Nat → Int32)) => [(0, .ref (aM B 0)), (1, .int s.1), (2, .int a_7.1), (3, .int z.1)]) (wf := fun z : (Int32 × (Nat → Int32)) => wdM B m_thrown m_size m_at m_wrong m_deep m_laws m_text m_readBoys m_readMarbles m_readFarms m_boys m_marbles m_farms m_holding m_spills m_acts m_draws m_bestRow m_bestMany m_noted m_hasImage m_tape m_code m_value m_codes m_clauses m_testFrom m_sumFrom m_sumTo m_letters m_stack m_readRule m_readBoy m_readMarble m_readFarm m_rule m_boy m_marble m_farm a_7.2 m_refused m_kept m_notePlace m_noteKind m_noteIs z.2 m_image ++ fr) (fun z => w_M_best_L66 hX z) (0, s.2.2)
set_option maxRecDepth 4000 in
theorem w_M_best_L20 (hX : gOk B X RX11 cX11_best 6 6 (some .int)) (s : (Int32 × (Nat → Int32))) : gH B X (Sum.elim (fun s : (Int32 × (Nat → Int32)) => gG B X 20 [(0, .ref (aM B 0)), (1, .int s.1)] [] (wdM B m_thrown m_size m_at m_wrong m_deep m_laws m_text m_readBoys m_readMarbles m_readFarms m_boys m_marbles m_farms m_holding m_spills m_acts m_draws m_bestRow m_bestMany m_noted m_hasImage m_tape m_code m_value m_codes m_clauses m_testFrom m_sumFrom m_sumTo m_letters m_stack m_readRule m_readBoy m_readMarble m_readFarm m_rule m_boy m_marble m_farm m_now m_refused m_kept m_notePlace m_noteKind m_noteIs s.2 m_image ++ fr)) (fun r : (Int32 × (Nat → Int32) × (Nat → Int32)) => gFin X (some (.int r.1)) (wdM B m_thrown m_size m_at m_wrong m_deep m_laws m_text m_readBoys m_readMarbles m_readFarms m_boys m_marbles m_farms m_holding m_spills m_acts m_draws m_bestRow m_bestMany m_noted m_hasImage m_tape m_code m_value m_codes m_clauses m_testFrom m_sumFrom m_sumTo m_letters m_stack m_readRule m_readBoy m_readMarble m_readFarm m_rule m_boy m_marble m_farm r.2.1 m_refused m_kept m_notePlace m_noteKind m_noteIs r.2.2 m_image ++ fr))) 20 [(0, .ref (aM B 0)), (1, .int s.1)] [] (wdM B m_thrown m_size m_at m_wrong m_deep m_laws m_text m_readBoys m_readMarbles m_readFarms m_boys m_marbles m_farms m_holding m_spills m_acts m_draws m_bestRow m_bestMany m_noted m_hasImage m_tape m_code m_value m_codes m_clauses m_testFrom m_sumFrom m_sumTo m_letters m_stack m_readRule m_readBoy m_readMarble m_readFarm m_rule m_boy m_marble m_farm m_now m_refused m_kept m_notePlace m_noteKind m_noteIs s.2 m_image ++ fr) (f_M_best_L20 m_boys m_marbles m_noted m_boy m_marble m_now m_notePlace m_noteKind m_noteIs s) := by
  unfold f_M_best_L20
  refine h_iload_n hX dX11_best_20 rfl rfl ?_
  refine h_aload_n hX dX11_best_21 rfl rfl ?_
  refine get_RX11_87_M0 hX dX11_best_22 ?_
  refine alen_M25 hX dX11_best_25 ?_
  refine h_icmp_ge hX dX11_best_26 (tgt := 42) (by decide) (fun _ => ?_) (fun _ => ?_)
  · refine gH.inr ?_
    refine h_iconst hX dX11_best_42 ki_0 ?_
    refine h_istore_n hX dX11_best_43 rfl (by decide) (lv' := [(0, .ref (aM B 0)), (1, .int 0)]) rfl ?_
    exact gH.loop (lvf := fun z : (Int32 × (Nat → Int32) × (Nat → Int32)) => [(0, .ref (aM B 0)), (1, .int z.1)]) (wf := fun z : (Int32 × (Nat → Int32) × (Nat → Int32)) => wdM B m_thrown m_size m_at m_wrong m_deep m_laws m_text m_readBoys m_readMarbles m_readFarms m_boys m_marbles m_farms m_holding m_spills m_acts m_draws m_bestRow m_bestMany m_noted m_hasImage m_tape m_code m_value m_codes m_clauses m_testFrom m_sumFrom m_sumTo m_letters m_stack m_readRule m_readBoy m_readMarble m_readFarm m_rule m_boy m_marble m_farm z.2.1 m_refused m_kept m_notePlace m_noteKind m_noteIs z.2.2 m_image ++ fr) (fun z => w_M_best_L44 hX z) (0, m_now, s.2)
  · refine h_aload_n hX dX11_best_29 rfl rfl ?_
    refine get_RX11_87_M0 hX dX11_best_30 ?_
    refine h_iload_n hX dX11_best_33 rfl rfl ?_
    refine h_iconst hX dX11_best_34 ki_0 ?_
    refine ast_M25 hX dX11_best_35 ?_
    refine gH.letw (w := fun y => wdM B m_thrown m_size m_at m_wrong m_deep m_laws m_text m_readBoys m_readMarbles m_readFarms m_boys m_marbles m_farms m_holding m_spills m_acts m_draws m_bestRow m_bestMany m_noted m_hasImage m_tape m_code m_value m_codes m_clauses m_testFrom m_sumFrom m_sumTo m_letters m_stack m_readRule m_readBoy m_readMarble m_readFarm m_rule m_boy m_marble m_farm m_now m_refused m_kept m_notePlace m_noteKind m_noteIs y m_image ++ fr) (fun m_toldBy_12 => ?_)
    refine h_iincc hX dX11_best_36 rfl ki_1 (by decide) (lv' := [(0, .ref (aM B 0)), (1, .int (s.1 + 1))]) rfl ?_
    refine h_goto hX dX11_best_39 (tgt := 20) (by decide) ?_
    exact gH.some' (fun h => h)
set_option maxRecDepth 4000 in
theorem w_M_best (hX : gOk B X RX11 cX11_best 6 6 (some .int)) : gH B X (fun r : (Int32 × (Nat → Int32) × (Nat → Int32)) => gFin X (some (.int r.1)) (wdM B m_thrown m_size m_at m_wrong m_deep m_laws m_text m_readBoys m_readMarbles m_readFarms m_boys m_marbles m_farms m_holding m_spills m_acts m_draws m_bestRow m_bestMany m_noted m_hasImage m_tape m_code m_value m_codes m_clauses m_testFrom m_sumFrom m_sumTo m_letters m_stack m_readRule m_readBoy m_readMarble m_readFarm m_rule m_boy m_marble m_farm r.2.1 m_refused m_kept m_notePlace m_noteKind m_noteIs r.2.2 m_image ++ fr)) 0 [(0, .ref (aM B 0))] [] (wdM B m_thrown m_size m_at m_wrong m_deep m_laws m_text m_readBoys m_readMarbles m_readFarms m_boys m_marbles m_farms m_holding m_spills m_acts m_draws m_bestRow m_bestMany m_noted m_hasImage m_tape m_code m_value m_codes m_clauses m_testFrom m_sumFrom m_sumTo m_letters m_stack m_readRule m_readBoy m_readMarble m_readFarm m_rule m_boy m_marble m_farm m_now m_refused m_kept m_notePlace m_noteKind m_noteIs m_toldBy m_image ++ fr) (f_M_best m_boys m_marbles m_noted m_boy m_marble m_now m_notePlace m_noteKind m_noteIs m_toldBy) := by
  unfold f_M_best
  refine h_aload_n hX dX11_best_0 rfl rfl ?_
  refine get_RX11_261_M0 hX dX11_best_1 ?_
  refine h_if_eq hX dX11_best_4 (tgt := 16) (by decide) (fun _ => ?_) (fun _ => ?_)
  · refine h_iconst hX dX11_best_16 ki_m1 ?_
    exact h_ret hX (rv := some (.int ((-1)))) dX11_best_17 trivial (fun h => h)
  · refine h_aload_n hX dX11_best_7 rfl rfl ?_
    refine h_iconst hX dX11_best_8 ki_0 ?_
    refine h_callVi hX dX11_best_9 (cv_RX11_429) rc_M0 (As := [.int 0]) (st := []) (fun _ h => c_M_who h) rfl rfl (by decide) (Nat.le_of_ble_eq_true rfl) (fun a_1 => ?_)
    refine h_iconst hX dX11_best_12 ki_m1 ?_
    refine h_icmp_ne hX dX11_best_13 (tgt := 18) (by decide) (fun _ => ?_) (fun _ => ?_)
    · refine h_iconst hX dX11_best_18 ki_0 ?_
      refine h_istore_n hX dX11_best_19 rfl (by decide) (lv' := [(0, .ref (aM B 0)), (1, .int 0)]) rfl ?_
      exact gH.loop (lvf := fun z : (Int32 × (Nat → Int32)) => [(0, .ref (aM B 0)), (1, .int z.1)]) (wf := fun z : (Int32 × (Nat → Int32)) => wdM B m_thrown m_size m_at m_wrong m_deep m_laws m_text m_readBoys m_readMarbles m_readFarms m_boys m_marbles m_farms m_holding m_spills m_acts m_draws m_bestRow m_bestMany m_noted m_hasImage m_tape m_code m_value m_codes m_clauses m_testFrom m_sumFrom m_sumTo m_letters m_stack m_readRule m_readBoy m_readMarble m_readFarm m_rule m_boy m_marble m_farm a_1.2 m_refused m_kept m_notePlace m_noteKind m_noteIs z.2 m_image ++ fr) (fun z => w_M_best_L20 hX z) (0, m_toldBy)
    · refine h_iconst hX dX11_best_16 ki_m1 ?_
      exact h_ret hX (rv := some (.int ((-1)))) dX11_best_17 trivial (fun h => h)
theorem c_M_best {r : (Int32 × (Nat → Int32) × (Nat → Int32))} (h : f_M_best m_boys m_marbles m_noted m_boy m_marble m_now m_notePlace m_noteKind m_noteIs m_toldBy = some r) : gMet B 6 yX11_best cX11_best 6 (some .int) [.ref (aM B 0)] (wdM B m_thrown m_size m_at m_wrong m_deep m_laws m_text m_readBoys m_readMarbles m_readFarms m_boys m_marbles m_farms m_holding m_spills m_acts m_draws m_bestRow m_bestMany m_noted m_hasImage m_tape m_code m_value m_codes m_clauses m_testFrom m_sumFrom m_sumTo m_letters m_stack m_readRule m_readBoy m_readMarble m_readFarm m_rule m_boy m_marble m_farm m_now m_refused m_kept m_notePlace m_noteKind m_noteIs m_toldBy m_image ++ fr) (some (.int r.1)) (wdM B m_thrown m_size m_at m_wrong m_deep m_laws m_text m_readBoys m_readMarbles m_readFarms m_boys m_marbles m_farms m_holding m_spills m_acts m_draws m_bestRow m_bestMany m_noted m_hasImage m_tape m_code m_value m_codes m_clauses m_testFrom m_sumFrom m_sumTo m_letters m_stack m_readRule m_readBoy m_readMarble m_readFarm m_rule m_boy m_marble m_farm r.2.1 m_refused m_kept m_notePlace m_noteKind m_noteIs r.2.2 m_image ++ fr) :=
  gMet.of rfl (Nat.le_of_ble_eq_true rfl) (fun X hX hF => w_M_best hX r h hF)
set_option maxRecDepth 4000 in
theorem w_M_boy_J23 {v1 : Int32} {v2 : Int32} {k1 : Int32} (hX : gOk B X RX11 cX11_boy 3 2 (some .int)) : gH B X (fun r : (Int32 × Int32) => gFin X (some (.int r.1)) (wdM B r.2 m_size m_at m_wrong m_deep m_laws m_text m_readBoys m_readMarbles m_readFarms m_boys m_marbles m_farms m_holding m_spills m_acts m_draws m_bestRow m_bestMany m_noted m_hasImage m_tape m_code m_value m_codes m_clauses m_testFrom m_sumFrom m_sumTo m_letters m_stack m_readRule m_readBoy m_readMarble m_readFarm m_rule m_boy m_marble m_farm m_now m_refused m_kept m_notePlace m_noteKind m_noteIs m_toldBy m_image ++ fr)) 23 [(0, .ref (aM B 0)), (1, .int v1), (2, .int v2)] [.int k1, .ref (aM B 0)] (wdM B m_thrown m_size m_at m_wrong m_deep m_laws m_text m_readBoys m_readMarbles m_readFarms m_boys m_marbles m_farms m_holding m_spills m_acts m_draws m_bestRow m_bestMany m_noted m_hasImage m_tape m_code m_value m_codes m_clauses m_testFrom m_sumFrom m_sumTo m_letters m_stack m_readRule m_readBoy m_readMarble m_readFarm m_rule m_boy m_marble m_farm m_now m_refused m_kept m_notePlace m_noteKind m_noteIs m_toldBy m_image ++ fr) (f_M_boy_J23 m_marbles m_boy m_now v1 v2 k1) := by
  unfold f_M_boy_J23
  refine put_RX11_93_M0 hX dX11_boy_23 ?_
  refine h_aload_n hX dX11_boy_26 rfl rfl ?_
  refine get_RX11_93_M0 hX dX11_boy_27 ?_
  refine h_iconst hX dX11_boy_30 ki_1 ?_
  refine h_icmp_ne hX dX11_boy_31 (tgt := 36) (by decide) (fun _ => ?_) (fun _ => ?_)
  · refine h_iload_n hX dX11_boy_36 rfl rfl ?_
    refine h_iconst hX dX11_boy_37 ki_2 ?_
    refine h_icmp_ge hX dX11_boy_38 (tgt := 54) (by decide) (fun _ => ?_) (fun _ => ?_)
    · refine h_aload_n hX dX11_boy_54 rfl rfl ?_
      refine h_iload_n hX dX11_boy_55 rfl rfl ?_
      refine h_callVi hX dX11_boy_56 (cv_RX11_286) rc_M0 (As := [.int v1]) (st := []) (fun _ h => c_M_handsOf h) rfl rfl (by decide) (Nat.le_of_ble_eq_true rfl) (fun a_2 => ?_)
      refine h_callSi hX dX11_boy_59 (cs_RX11_289) (As := [.int a_2]) (st := []) (fun _ h => c_J_bitCount h) rfl rfl (by decide) (Nat.le_of_ble_eq_true rfl) (fun a_3 => ?_)
      exact h_ret hX (rv := some (.int a_3)) dX11_boy_62 trivial (fun h => h)
    · refine h_aload_n hX dX11_boy_41 rfl rfl ?_
      refine get_RX11_55_M0 hX dX11_boy_42 ?_
      refine h_iconst hX dX11_boy_45 ki_2 ?_
      refine h_iload_n hX dX11_boy_46 rfl rfl ?_
      refine h_imul hX dX11_boy_47 ?_
      refine h_iload_n hX dX11_boy_48 rfl rfl ?_
      refine h_iadd hX dX11_boy_49 ?_
      refine ald_M16 hX dX11_boy_50 ?_
      refine h_goto hX dX11_boy_51 (tgt := 62) (by decide) ?_
      exact h_ret hX (rv := some (.int (m_boy ((2 * v1) + v2 : Int32).toNatClampNeg))) dX11_boy_62 trivial (fun h => h)
  · refine h_iconst hX dX11_boy_34 ki_0 ?_
    exact h_ret hX (rv := some (.int 0)) dX11_boy_35 trivial (fun h => h)
set_option maxRecDepth 4000 in
theorem w_M_boy_J22 {v1 : Int32} {v2 : Int32} (hX : gOk B X RX11 cX11_boy 3 2 (some .int)) : gH B X (fun r : (Int32 × Int32) => gFin X (some (.int r.1)) (wdM B r.2 m_size m_at m_wrong m_deep m_laws m_text m_readBoys m_readMarbles m_readFarms m_boys m_marbles m_farms m_holding m_spills m_acts m_draws m_bestRow m_bestMany m_noted m_hasImage m_tape m_code m_value m_codes m_clauses m_testFrom m_sumFrom m_sumTo m_letters m_stack m_readRule m_readBoy m_readMarble m_readFarm m_rule m_boy m_marble m_farm m_now m_refused m_kept m_notePlace m_noteKind m_noteIs m_toldBy m_image ++ fr)) 22 [(0, .ref (aM B 0)), (1, .int v1), (2, .int v2)] [.ref (aM B 0)] (wdM B m_thrown m_size m_at m_wrong m_deep m_laws m_text m_readBoys m_readMarbles m_readFarms m_boys m_marbles m_farms m_holding m_spills m_acts m_draws m_bestRow m_bestMany m_noted m_hasImage m_tape m_code m_value m_codes m_clauses m_testFrom m_sumFrom m_sumTo m_letters m_stack m_readRule m_readBoy m_readMarble m_readFarm m_rule m_boy m_marble m_farm m_now m_refused m_kept m_notePlace m_noteKind m_noteIs m_toldBy m_image ++ fr) (f_M_boy_J22 m_marbles m_boy m_now v1 v2) := by
  unfold f_M_boy_J22
  refine h_iconst hX dX11_boy_22 ki_1 ?_
  exact w_M_boy_J23 hX
set_option maxRecDepth 4000 in
theorem w_M_boy {p0 : Int32} {p1 : Int32} (hX : gOk B X RX11 cX11_boy 3 2 (some .int)) : gH B X (fun r : (Int32 × Int32) => gFin X (some (.int r.1)) (wdM B r.2 m_size m_at m_wrong m_deep m_laws m_text m_readBoys m_readMarbles m_readFarms m_boys m_marbles m_farms m_holding m_spills m_acts m_draws m_bestRow m_bestMany m_noted m_hasImage m_tape m_code m_value m_codes m_clauses m_testFrom m_sumFrom m_sumTo m_letters m_stack m_readRule m_readBoy m_readMarble m_readFarm m_rule m_boy m_marble m_farm m_now m_refused m_kept m_notePlace m_noteKind m_noteIs m_toldBy m_image ++ fr)) 0 [(0, .ref (aM B 0)), (1, .int p0), (2, .int p1)] [] (wdM B m_thrown m_size m_at m_wrong m_deep m_laws m_text m_readBoys m_readMarbles m_readFarms m_boys m_marbles m_farms m_holding m_spills m_acts m_draws m_bestRow m_bestMany m_noted m_hasImage m_tape m_code m_value m_codes m_clauses m_testFrom m_sumFrom m_sumTo m_letters m_stack m_readRule m_readBoy m_readMarble m_readFarm m_rule m_boy m_marble m_farm m_now m_refused m_kept m_notePlace m_noteKind m_noteIs m_toldBy m_image ++ fr) (f_M_boy m_thrown m_boys m_marbles m_boy m_now p0 p1) := by
  unfold f_M_boy
  refine h_aload_n hX dX11_boy_0 rfl rfl ?_
  refine h_aload_n hX dX11_boy_1 rfl rfl ?_
  refine h_iload_n hX dX11_boy_2 rfl rfl ?_
  refine h_callVi hX dX11_boy_3 (cv_RX11_325) rc_M0 (As := [.int p0]) (st := [.ref (aM B 0)]) (fun _ h => c_M_isBoy h) rfl rfl (by decide) (Nat.le_of_ble_eq_true rfl) (fun a_1 => ?_)
  refine h_if_eq hX dX11_boy_6 (tgt := 22) (by decide) (fun _ => ?_) (fun _ => ?_)
  · exact w_M_boy_J22 hX
  · refine h_iload_n hX dX11_boy_9 rfl rfl ?_
    refine h_iconst hX dX11_boy_10 ki_0 ?_
    refine h_iconst hX dX11_boy_11 ki_2 ?_
    refine h_callSi hX dX11_boy_12 (cs_RX11_208) (As := [.int p1, .int 0, .int 2]) (st := [.ref (aM B 0)]) (fun _ h => c_M_in h) rfl rfl (by decide) (Nat.le_of_ble_eq_true rfl) (fun a_4 => ?_)
    refine h_if_eq hX dX11_boy_15 (tgt := 22) (by decide) (fun _ => ?_) (fun _ => ?_)
    · exact w_M_boy_J22 hX
    · refine h_iconst hX dX11_boy_18 ki_0 ?_
      refine h_goto hX dX11_boy_19 (tgt := 23) (by decide) ?_
      exact w_M_boy_J23 hX
theorem c_M_boy {p0 : Int32} {p1 : Int32} {r : (Int32 × Int32)} (h : f_M_boy m_thrown m_boys m_marbles m_boy m_now p0 p1 = some r) : gMet B 2 yX11_boy cX11_boy 3 (some .int) [.ref (aM B 0), .int p0, .int p1] (wdM B m_thrown m_size m_at m_wrong m_deep m_laws m_text m_readBoys m_readMarbles m_readFarms m_boys m_marbles m_farms m_holding m_spills m_acts m_draws m_bestRow m_bestMany m_noted m_hasImage m_tape m_code m_value m_codes m_clauses m_testFrom m_sumFrom m_sumTo m_letters m_stack m_readRule m_readBoy m_readMarble m_readFarm m_rule m_boy m_marble m_farm m_now m_refused m_kept m_notePlace m_noteKind m_noteIs m_toldBy m_image ++ fr) (some (.int r.1)) (wdM B r.2 m_size m_at m_wrong m_deep m_laws m_text m_readBoys m_readMarbles m_readFarms m_boys m_marbles m_farms m_holding m_spills m_acts m_draws m_bestRow m_bestMany m_noted m_hasImage m_tape m_code m_value m_codes m_clauses m_testFrom m_sumFrom m_sumTo m_letters m_stack m_readRule m_readBoy m_readMarble m_readFarm m_rule m_boy m_marble m_farm m_now m_refused m_kept m_notePlace m_noteKind m_noteIs m_toldBy m_image ++ fr) :=
  gMet.of rfl (Nat.le_of_ble_eq_true rfl) (fun X hX hF => w_M_boy hX r h hF)
set_option maxRecDepth 4000 in
theorem w_M_cellOf {p0 : Int32} {p1 : Int32} (hX : gOk B X RX11 cX11_cellOf 3 6 (some .int)) : gH B X (fun r : (Int32 × (Nat → Int32) × (Nat → Int32)) => gFin X (some (.int r.1)) (wdM B m_thrown m_size m_at m_wrong m_deep m_laws m_text m_readBoys m_readMarbles m_readFarms m_boys m_marbles m_farms m_holding m_spills m_acts m_draws m_bestRow m_bestMany m_noted m_hasImage m_tape m_code m_value m_codes m_clauses m_testFrom m_sumFrom m_sumTo r.2.1 r.2.2 m_readRule m_readBoy m_readMarble m_readFarm m_rule m_boy m_marble m_farm m_now m_refused m_kept m_notePlace m_noteKind m_noteIs m_toldBy m_image ++ fr)) 0 [(0, .ref (aM B 0)), (1, .int p0), (2, .int p1)] [] (wdM B m_thrown m_size m_at m_wrong m_deep m_laws m_text m_readBoys m_readMarbles m_readFarms m_boys m_marbles m_farms m_holding m_spills m_acts m_draws m_bestRow m_bestMany m_noted m_hasImage m_tape m_code m_value m_codes m_clauses m_testFrom m_sumFrom m_sumTo m_letters m_stack m_readRule m_readBoy m_readMarble m_readFarm m_rule m_boy m_marble m_farm m_now m_refused m_kept m_notePlace m_noteKind m_noteIs m_toldBy m_image ++ fr) (f_M_cellOf m_marbles m_holding m_code m_value m_clauses m_testFrom m_sumFrom m_sumTo m_letters m_stack m_boy m_marble m_now p0 p1) := by
  unfold f_M_cellOf
  refine h_aload_n hX dX11_cellOf_0 rfl rfl ?_
  refine h_aload_n hX dX11_cellOf_1 rfl rfl ?_
  refine get_RX11_64_M0 hX dX11_cellOf_2 ?_
  refine h_iconst hX dX11_cellOf_5 ki_0 ?_
  refine h_iload_n hX dX11_cellOf_6 rfl rfl ?_
  refine h_iadd hX dX11_cellOf_7 ?_
  refine ald_M19 hX dX11_cellOf_8 ?_
  refine h_iload_n hX dX11_cellOf_9 rfl rfl ?_
  refine h_iload_n hX dX11_cellOf_10 rfl rfl ?_
  refine h_callVi hX dX11_cellOf_11 (cv_RX11_341) rc_M0 (As := [.int (m_now (0 + p0 : Int32).toNatClampNeg), .int p0, .int p1]) (st := []) (fun _ h => c_M_landsAt h) rfl rfl (by decide) (Nat.le_of_ble_eq_true rfl) (fun a_1 => ?_)
  exact h_ret hX (rv := some (.int a_1.1)) dX11_cellOf_14 trivial (fun h => h)
theorem c_M_cellOf {p0 : Int32} {p1 : Int32} {r : (Int32 × (Nat → Int32) × (Nat → Int32))} (h : f_M_cellOf m_marbles m_holding m_code m_value m_clauses m_testFrom m_sumFrom m_sumTo m_letters m_stack m_boy m_marble m_now p0 p1 = some r) : gMet B 6 yX11_cellOf cX11_cellOf 3 (some .int) [.ref (aM B 0), .int p0, .int p1] (wdM B m_thrown m_size m_at m_wrong m_deep m_laws m_text m_readBoys m_readMarbles m_readFarms m_boys m_marbles m_farms m_holding m_spills m_acts m_draws m_bestRow m_bestMany m_noted m_hasImage m_tape m_code m_value m_codes m_clauses m_testFrom m_sumFrom m_sumTo m_letters m_stack m_readRule m_readBoy m_readMarble m_readFarm m_rule m_boy m_marble m_farm m_now m_refused m_kept m_notePlace m_noteKind m_noteIs m_toldBy m_image ++ fr) (some (.int r.1)) (wdM B m_thrown m_size m_at m_wrong m_deep m_laws m_text m_readBoys m_readMarbles m_readFarms m_boys m_marbles m_farms m_holding m_spills m_acts m_draws m_bestRow m_bestMany m_noted m_hasImage m_tape m_code m_value m_codes m_clauses m_testFrom m_sumFrom m_sumTo r.2.1 r.2.2 m_readRule m_readBoy m_readMarble m_readFarm m_rule m_boy m_marble m_farm m_now m_refused m_kept m_notePlace m_noteKind m_noteIs m_toldBy m_image ++ fr) :=
  gMet.of rfl (Nat.le_of_ble_eq_true rfl) (fun X hX hF => w_M_cellOf hX r h hF)
set_option maxRecDepth 4000 in
theorem w_M_strongest_J45 {v1 : Int32} {v3 : Int32} {k0 : Int32} (hX : gOk B X RX11 cX11_strongest 4 1 (some .int)) : gH B X (Sum.elim (fun s : (Int32 × Int32) => gG B X 4 [(0, .ref (aM B 0)), (1, .int v1), (2, .int s.1), (3, .int s.2)] [] (wdM B m_thrown m_size m_at m_wrong m_deep m_laws m_text m_readBoys m_readMarbles m_readFarms m_boys m_marbles m_farms m_holding m_spills m_acts m_draws m_bestRow m_bestMany m_noted m_hasImage m_tape m_code m_value m_codes m_clauses m_testFrom m_sumFrom m_sumTo m_letters m_stack m_readRule m_readBoy m_readMarble m_readFarm m_rule m_boy m_marble m_farm m_now m_refused m_kept m_notePlace m_noteKind m_noteIs m_toldBy m_image ++ fr)) (fun r : Int32 => gFin X (some (.int r)) (wdM B m_thrown m_size m_at m_wrong m_deep m_laws m_text m_readBoys m_readMarbles m_readFarms m_boys m_marbles m_farms m_holding m_spills m_acts m_draws m_bestRow m_bestMany m_noted m_hasImage m_tape m_code m_value m_codes m_clauses m_testFrom m_sumFrom m_sumTo m_letters m_stack m_readRule m_readBoy m_readMarble m_readFarm m_rule m_boy m_marble m_farm m_now m_refused m_kept m_notePlace m_noteKind m_noteIs m_toldBy m_image ++ fr))) 45 [(0, .ref (aM B 0)), (1, .int v1), (3, .int v3)] [.int k0] (wdM B m_thrown m_size m_at m_wrong m_deep m_laws m_text m_readBoys m_readMarbles m_readFarms m_boys m_marbles m_farms m_holding m_spills m_acts m_draws m_bestRow m_bestMany m_noted m_hasImage m_tape m_code m_value m_codes m_clauses m_testFrom m_sumFrom m_sumTo m_letters m_stack m_readRule m_readBoy m_readMarble m_readFarm m_rule m_boy m_marble m_farm m_now m_refused m_kept m_notePlace m_noteKind m_noteIs m_toldBy m_image ++ fr) (f_M_strongest_J45 v3 k0) := by
  unfold f_M_strongest_J45
  refine h_istore_n hX dX11_strongest_45 rfl (by decide) (lv' := [(0, .ref (aM B 0)), (1, .int v1), (2, .int k0), (3, .int v3)]) rfl ?_
  refine h_iincc hX dX11_strongest_46 rfl ki_1 (by decide) (lv' := [(0, .ref (aM B 0)), (1, .int v1), (2, .int k0), (3, .int (v3 + 1))]) rfl ?_
  refine h_goto hX dX11_strongest_49 (tgt := 4) (by decide) ?_
  exact gH.some' (fun h => h)
set_option maxRecDepth 4000 in
theorem w_M_strongest_J44 {v1 : Int32} {v2 : Int32} {v3 : Int32} (hX : gOk B X RX11 cX11_strongest 4 1 (some .int)) : gH B X (Sum.elim (fun s : (Int32 × Int32) => gG B X 4 [(0, .ref (aM B 0)), (1, .int v1), (2, .int s.1), (3, .int s.2)] [] (wdM B m_thrown m_size m_at m_wrong m_deep m_laws m_text m_readBoys m_readMarbles m_readFarms m_boys m_marbles m_farms m_holding m_spills m_acts m_draws m_bestRow m_bestMany m_noted m_hasImage m_tape m_code m_value m_codes m_clauses m_testFrom m_sumFrom m_sumTo m_letters m_stack m_readRule m_readBoy m_readMarble m_readFarm m_rule m_boy m_marble m_farm m_now m_refused m_kept m_notePlace m_noteKind m_noteIs m_toldBy m_image ++ fr)) (fun r : Int32 => gFin X (some (.int r)) (wdM B m_thrown m_size m_at m_wrong m_deep m_laws m_text m_readBoys m_readMarbles m_readFarms m_boys m_marbles m_farms m_holding m_spills m_acts m_draws m_bestRow m_bestMany m_noted m_hasImage m_tape m_code m_value m_codes m_clauses m_testFrom m_sumFrom m_sumTo m_letters m_stack m_readRule m_readBoy m_readMarble m_readFarm m_rule m_boy m_marble m_farm m_now m_refused m_kept m_notePlace m_noteKind m_noteIs m_toldBy m_image ++ fr))) 44 [(0, .ref (aM B 0)), (1, .int v1), (2, .int v2), (3, .int v3)] [] (wdM B m_thrown m_size m_at m_wrong m_deep m_laws m_text m_readBoys m_readMarbles m_readFarms m_boys m_marbles m_farms m_holding m_spills m_acts m_draws m_bestRow m_bestMany m_noted m_hasImage m_tape m_code m_value m_codes m_clauses m_testFrom m_sumFrom m_sumTo m_letters m_stack m_readRule m_readBoy m_readMarble m_readFarm m_rule m_boy m_marble m_farm m_now m_refused m_kept m_notePlace m_noteKind m_noteIs m_toldBy m_image ++ fr) (f_M_strongest_J44 v2 v3) := by
  unfold f_M_strongest_J44
  refine h_iload_n hX dX11_strongest_44 rfl rfl ?_
  refine gH.dead [0, 1, 3] rfl ?_
  exact w_M_strongest_J45 hX
set_option maxRecDepth 4000 in
theorem w_M_strongest_J40 {v1 : Int32} {v3 : Int32} (hX : gOk B X RX11 cX11_strongest 4 1 (some .int)) : gH B X (Sum.elim (fun s : (Int32 × Int32) => gG B X 4 [(0, .ref (aM B 0)), (1, .int v1), (2, .int s.1), (3, .int s.2)] [] (wdM B m_thrown m_size m_at m_wrong m_deep m_laws m_text m_readBoys m_readMarbles m_readFarms m_boys m_marbles m_farms m_holding m_spills m_acts m_draws m_bestRow m_bestMany m_noted m_hasImage m_tape m_code m_value m_codes m_clauses m_testFrom m_sumFrom m_sumTo m_letters m_stack m_readRule m_readBoy m_readMarble m_readFarm m_rule m_boy m_marble m_farm m_now m_refused m_kept m_notePlace m_noteKind m_noteIs m_toldBy m_image ++ fr)) (fun r : Int32 => gFin X (some (.int r)) (wdM B m_thrown m_size m_at m_wrong m_deep m_laws m_text m_readBoys m_readMarbles m_readFarms m_boys m_marbles m_farms m_holding m_spills m_acts m_draws m_bestRow m_bestMany m_noted m_hasImage m_tape m_code m_value m_codes m_clauses m_testFrom m_sumFrom m_sumTo m_letters m_stack m_readRule m_readBoy m_readMarble m_readFarm m_rule m_boy m_marble m_farm m_now m_refused m_kept m_notePlace m_noteKind m_noteIs m_toldBy m_image ++ fr))) 40 [(0, .ref (aM B 0)), (1, .int v1), (3, .int v3)] [] (wdM B m_thrown m_size m_at m_wrong m_deep m_laws m_text m_readBoys m_readMarbles m_readFarms m_boys m_marbles m_farms m_holding m_spills m_acts m_draws m_bestRow m_bestMany m_noted m_hasImage m_tape m_code m_value m_codes m_clauses m_testFrom m_sumFrom m_sumTo m_letters m_stack m_readRule m_readBoy m_readMarble m_readFarm m_rule m_boy m_marble m_farm m_now m_refused m_kept m_notePlace m_noteKind m_noteIs m_toldBy m_image ++ fr) (f_M_strongest_J40 v3) := by
  unfold f_M_strongest_J40
  refine h_iload_n hX dX11_strongest_40 rfl rfl ?_
  refine h_goto hX dX11_strongest_41 (tgt := 45) (by decide) ?_
  exact w_M_strongest_J45 hX
set_option maxRecDepth 4000 in
theorem w_M_strongest_L4 {v1 : Int32} (hX : gOk B X RX11 cX11_strongest 4 1 (some .int)) (s : (Int32 × Int32)) : gH B X (Sum.elim (fun s : (Int32 × Int32) => gG B X 4 [(0, .ref (aM B 0)), (1, .int v1), (2, .int s.1), (3, .int s.2)] [] (wdM B m_thrown m_size m_at m_wrong m_deep m_laws m_text m_readBoys m_readMarbles m_readFarms m_boys m_marbles m_farms m_holding m_spills m_acts m_draws m_bestRow m_bestMany m_noted m_hasImage m_tape m_code m_value m_codes m_clauses m_testFrom m_sumFrom m_sumTo m_letters m_stack m_readRule m_readBoy m_readMarble m_readFarm m_rule m_boy m_marble m_farm m_now m_refused m_kept m_notePlace m_noteKind m_noteIs m_toldBy m_image ++ fr)) (fun r : Int32 => gFin X (some (.int r)) (wdM B m_thrown m_size m_at m_wrong m_deep m_laws m_text m_readBoys m_readMarbles m_readFarms m_boys m_marbles m_farms m_holding m_spills m_acts m_draws m_bestRow m_bestMany m_noted m_hasImage m_tape m_code m_value m_codes m_clauses m_testFrom m_sumFrom m_sumTo m_letters m_stack m_readRule m_readBoy m_readMarble m_readFarm m_rule m_boy m_marble m_farm m_now m_refused m_kept m_notePlace m_noteKind m_noteIs m_toldBy m_image ++ fr))) 4 [(0, .ref (aM B 0)), (1, .int v1), (2, .int s.1), (3, .int s.2)] [] (wdM B m_thrown m_size m_at m_wrong m_deep m_laws m_text m_readBoys m_readMarbles m_readFarms m_boys m_marbles m_farms m_holding m_spills m_acts m_draws m_bestRow m_bestMany m_noted m_hasImage m_tape m_code m_value m_codes m_clauses m_testFrom m_sumFrom m_sumTo m_letters m_stack m_readRule m_readBoy m_readMarble m_readFarm m_rule m_boy m_marble m_farm m_now m_refused m_kept m_notePlace m_noteKind m_noteIs m_toldBy m_image ++ fr) (f_M_strongest_L4 m_marbles m_marble v1 s) := by
  unfold f_M_strongest_L4
  refine h_iload_n hX dX11_strongest_4 rfl rfl ?_
  refine h_aload_n hX dX11_strongest_5 rfl rfl ?_
  refine get_RX11_261_M0 hX dX11_strongest_6 ?_
  refine h_icmp_ge hX dX11_strongest_9 (tgt := 52) (by decide) (fun _ => ?_) (fun _ => ?_)
  · refine h_iload_n hX dX11_strongest_52 rfl rfl ?_
    exact h_ret hX (rv := some (.int s.1)) dX11_strongest_53 trivial (fun h => h)
  · refine h_iload_n hX dX11_strongest_12 rfl rfl ?_
    refine h_iload_n hX dX11_strongest_13 rfl rfl ?_
    refine h_callSi hX dX11_strongest_14 (cs_RX11_219) (As := [.int v1, .int s.2]) (st := []) (fun _ h => c_M_has h) rfl rfl (by decide) (Nat.le_of_ble_eq_true rfl) (fun a_1 => ?_)
    refine h_if_eq hX dX11_strongest_17 (tgt := 44) (by decide) (fun _ => ?_) (fun _ => ?_)
    · exact w_M_strongest_J44 hX
    · refine h_iload_n hX dX11_strongest_20 rfl rfl ?_
      refine h_iconst hX dX11_strongest_21 ki_m1 ?_
      refine h_icmp_eq hX dX11_strongest_22 (tgt := 40) (by decide) (fun _ => ?_) (fun _ => ?_)
      · refine gH.dead [0, 1, 3] rfl ?_
        exact w_M_strongest_J40 hX
      · refine h_aload_n hX dX11_strongest_25 rfl rfl ?_
        refine h_iload_n hX dX11_strongest_26 rfl rfl ?_
        refine h_iconst hX dX11_strongest_27 ki_2 ?_
        refine h_callVi hX dX11_strongest_28 (cv_RX11_267) rc_M0 (As := [.int s.2, .int 2]) (st := []) (fun _ h => c_M_of h) rfl rfl (by decide) (Nat.le_of_ble_eq_true rfl) (fun a_3 => ?_)
        refine h_aload_n hX dX11_strongest_31 rfl rfl ?_
        refine h_iload_n hX dX11_strongest_32 rfl rfl ?_
        refine h_iconst hX dX11_strongest_33 ki_2 ?_
        refine h_callVi hX dX11_strongest_34 (cv_RX11_267) rc_M0 (As := [.int s.1, .int 2]) (st := [.int a_3]) (fun _ h => c_M_of h) rfl rfl (by decide) (Nat.le_of_ble_eq_true rfl) (fun a_4 => ?_)
        refine h_icmp_le hX dX11_strongest_37 (tgt := 44) (by decide) (fun _ => ?_) (fun _ => ?_)
        · exact w_M_strongest_J44 hX
        · refine gH.dead [0, 1, 3] rfl ?_
          exact w_M_strongest_J40 hX
set_option maxRecDepth 4000 in
theorem w_M_strongest {p0 : Int32} (hX : gOk B X RX11 cX11_strongest 4 1 (some .int)) : gH B X (fun r : Int32 => gFin X (some (.int r)) (wdM B m_thrown m_size m_at m_wrong m_deep m_laws m_text m_readBoys m_readMarbles m_readFarms m_boys m_marbles m_farms m_holding m_spills m_acts m_draws m_bestRow m_bestMany m_noted m_hasImage m_tape m_code m_value m_codes m_clauses m_testFrom m_sumFrom m_sumTo m_letters m_stack m_readRule m_readBoy m_readMarble m_readFarm m_rule m_boy m_marble m_farm m_now m_refused m_kept m_notePlace m_noteKind m_noteIs m_toldBy m_image ++ fr)) 0 [(0, .ref (aM B 0)), (1, .int p0)] [] (wdM B m_thrown m_size m_at m_wrong m_deep m_laws m_text m_readBoys m_readMarbles m_readFarms m_boys m_marbles m_farms m_holding m_spills m_acts m_draws m_bestRow m_bestMany m_noted m_hasImage m_tape m_code m_value m_codes m_clauses m_testFrom m_sumFrom m_sumTo m_letters m_stack m_readRule m_readBoy m_readMarble m_readFarm m_rule m_boy m_marble m_farm m_now m_refused m_kept m_notePlace m_noteKind m_noteIs m_toldBy m_image ++ fr) (f_M_strongest m_marbles m_marble p0) := by
  unfold f_M_strongest
  refine h_iconst hX dX11_strongest_0 ki_m1 ?_
  refine h_istore_n hX dX11_strongest_1 rfl (by decide) (lv' := [(0, .ref (aM B 0)), (1, .int p0), (2, .int ((-1)))]) rfl ?_
  refine h_iconst hX dX11_strongest_2 ki_0 ?_
  refine h_istore_n hX dX11_strongest_3 rfl (by decide) (lv' := [(0, .ref (aM B 0)), (1, .int p0), (2, .int ((-1))), (3, .int 0)]) rfl ?_
  exact gH.loop (lvf := fun z : (Int32 × Int32) => [(0, .ref (aM B 0)), (1, .int p0), (2, .int z.1), (3, .int z.2)]) (wf := fun z : (Int32 × Int32) => wdM B m_thrown m_size m_at m_wrong m_deep m_laws m_text m_readBoys m_readMarbles m_readFarms m_boys m_marbles m_farms m_holding m_spills m_acts m_draws m_bestRow m_bestMany m_noted m_hasImage m_tape m_code m_value m_codes m_clauses m_testFrom m_sumFrom m_sumTo m_letters m_stack m_readRule m_readBoy m_readMarble m_readFarm m_rule m_boy m_marble m_farm m_now m_refused m_kept m_notePlace m_noteKind m_noteIs m_toldBy m_image ++ fr) (fun z => w_M_strongest_L4 hX z) ((-1), 0)
theorem c_M_strongest {p0 : Int32} {r : Int32} (h : f_M_strongest m_marbles m_marble p0 = some r) : gMet B 1 yX11_strongest cX11_strongest 4 (some .int) [.ref (aM B 0), .int p0] (wdM B m_thrown m_size m_at m_wrong m_deep m_laws m_text m_readBoys m_readMarbles m_readFarms m_boys m_marbles m_farms m_holding m_spills m_acts m_draws m_bestRow m_bestMany m_noted m_hasImage m_tape m_code m_value m_codes m_clauses m_testFrom m_sumFrom m_sumTo m_letters m_stack m_readRule m_readBoy m_readMarble m_readFarm m_rule m_boy m_marble m_farm m_now m_refused m_kept m_notePlace m_noteKind m_noteIs m_toldBy m_image ++ fr) (some (.int r)) (wdM B m_thrown m_size m_at m_wrong m_deep m_laws m_text m_readBoys m_readMarbles m_readFarms m_boys m_marbles m_farms m_holding m_spills m_acts m_draws m_bestRow m_bestMany m_noted m_hasImage m_tape m_code m_value m_codes m_clauses m_testFrom m_sumFrom m_sumTo m_letters m_stack m_readRule m_readBoy m_readMarble m_readFarm m_rule m_boy m_marble m_farm m_now m_refused m_kept m_notePlace m_noteKind m_noteIs m_toldBy m_image ++ fr) :=
  gMet.of rfl (Nat.le_of_ble_eq_true rfl) (fun X hX hF => w_M_strongest hX r h hF)
set_option maxRecDepth 4000 in
theorem w_M_champion_J101 {v1 : Int32} {v2 : Int32} {v3 : Int32} (hX : gOk B X RX11 cX11_champion 7 7 (some .int)) : gH B X (Sum.elim (fun s : (Int32 × Int32 × Int32 × (Nat → Int32) × (Nat → Int32)) => gG B X 6 [(0, .ref (aM B 0)), (1, .int s.1), (2, .int s.2.1), (3, .int s.2.2.1)] [] (wdM B m_thrown m_size m_at m_wrong m_deep m_laws m_text m_readBoys m_readMarbles m_readFarms m_boys m_marbles m_farms m_holding m_spills m_acts m_draws m_bestRow m_bestMany m_noted m_hasImage m_tape m_code m_value m_codes m_clauses m_testFrom m_sumFrom m_sumTo s.2.2.2.1 s.2.2.2.2 m_readRule m_readBoy m_readMarble m_readFarm m_rule m_boy m_marble m_farm m_now m_refused m_kept m_notePlace m_noteKind m_noteIs m_toldBy m_image ++ fr)) (fun r : (Int32 × (Nat → Int32) × (Nat → Int32)) => gFin X (some (.int r.1)) (wdM B m_thrown m_size m_at m_wrong m_deep m_laws m_text m_readBoys m_readMarbles m_readFarms m_boys m_marbles m_farms m_holding m_spills m_acts m_draws m_bestRow m_bestMany m_noted m_hasImage m_tape m_code m_value m_codes m_clauses m_testFrom m_sumFrom m_sumTo r.2.1 r.2.2 m_readRule m_readBoy m_readMarble m_readFarm m_rule m_boy m_marble m_farm m_now m_refused m_kept m_notePlace m_noteKind m_noteIs m_toldBy m_image ++ fr))) 101 [(0, .ref (aM B 0)), (1, .int v1), (2, .int v2), (3, .int v3)] [] (wdM B m_thrown m_size m_at m_wrong m_deep m_laws m_text m_readBoys m_readMarbles m_readFarms m_boys m_marbles m_farms m_holding m_spills m_acts m_draws m_bestRow m_bestMany m_noted m_hasImage m_tape m_code m_value m_codes m_clauses m_testFrom m_sumFrom m_sumTo m_letters m_stack m_readRule m_readBoy m_readMarble m_readFarm m_rule m_boy m_marble m_farm m_now m_refused m_kept m_notePlace m_noteKind m_noteIs m_toldBy m_image ++ fr) (f_M_champion_J101 m_letters m_stack v1 v2 v3) := by
  unfold f_M_champion_J101
  refine h_iincc hX dX11_champion_101 rfl ki_1 (by decide) (lv' := [(0, .ref (aM B 0)), (1, .int v1), (2, .int v2), (3, .int (v3 + 1))]) rfl ?_
  refine h_goto hX dX11_champion_104 (tgt := 6) (by decide) ?_
  exact gH.some' (fun h => h)
set_option maxRecDepth 4000 in
theorem w_M_champion_J96 {v3 : Int32} {v6 : Int32} (hX : gOk B X RX11 cX11_champion 7 7 (some .int)) : gH B X (Sum.elim (fun s : (Int32 × Int32 × Int32 × (Nat → Int32) × (Nat → Int32)) => gG B X 6 [(0, .ref (aM B 0)), (1, .int s.1), (2, .int s.2.1), (3, .int s.2.2.1)] [] (wdM B m_thrown m_size m_at m_wrong m_deep m_laws m_text m_readBoys m_readMarbles m_readFarms m_boys m_marbles m_farms m_holding m_spills m_acts m_draws m_bestRow m_bestMany m_noted m_hasImage m_tape m_code m_value m_codes m_clauses m_testFrom m_sumFrom m_sumTo s.2.2.2.1 s.2.2.2.2 m_readRule m_readBoy m_readMarble m_readFarm m_rule m_boy m_marble m_farm m_now m_refused m_kept m_notePlace m_noteKind m_noteIs m_toldBy m_image ++ fr)) (fun r : (Int32 × (Nat → Int32) × (Nat → Int32)) => gFin X (some (.int r.1)) (wdM B m_thrown m_size m_at m_wrong m_deep m_laws m_text m_readBoys m_readMarbles m_readFarms m_boys m_marbles m_farms m_holding m_spills m_acts m_draws m_bestRow m_bestMany m_noted m_hasImage m_tape m_code m_value m_codes m_clauses m_testFrom m_sumFrom m_sumTo r.2.1 r.2.2 m_readRule m_readBoy m_readMarble m_readFarm m_rule m_boy m_marble m_farm m_now m_refused m_kept m_notePlace m_noteKind m_noteIs m_toldBy m_image ++ fr))) 96 [(0, .ref (aM B 0)), (3, .int v3), (6, .int v6)] [] (wdM B m_thrown m_size m_at m_wrong m_deep m_laws m_text m_readBoys m_readMarbles m_readFarms m_boys m_marbles m_farms m_holding m_spills m_acts m_draws m_bestRow m_bestMany m_noted m_hasImage m_tape m_code m_value m_codes m_clauses m_testFrom m_sumFrom m_sumTo m_letters m_stack m_readRule m_readBoy m_readMarble m_readFarm m_rule m_boy m_marble m_farm m_now m_refused m_kept m_notePlace m_noteKind m_noteIs m_toldBy m_image ++ fr) (f_M_champion_J96 m_letters m_stack v3 v6) := by
  unfold f_M_champion_J96
  refine h_iload_n hX dX11_champion_96 rfl rfl ?_
  refine h_istore_n hX dX11_champion_97 rfl (by decide) (lv' := [(0, .ref (aM B 0)), (1, .int v3), (3, .int v3), (6, .int v6)]) rfl ?_
  refine h_iload hX dX11_champion_98 rfl ?_
  refine h_istore_n hX dX11_champion_100 rfl (by decide) (lv' := [(0, .ref (aM B 0)), (1, .int v3), (2, .int v6), (3, .int v3), (6, .int v6)]) rfl ?_
  refine gH.dead [0, 1, 2, 3] rfl ?_
  exact w_M_champion_J101 hX
set_option maxRecDepth 4000 in
theorem w_M_champion_J77 {v1 : Int32} {v2 : Int32} {v3 : Int32} {v5 : Int32} {k0 : Int32} (hX : gOk B X RX11 cX11_champion 7 7 (some .int)) : gH B X (Sum.elim (fun s : (Int32 × Int32 × Int32 × (Nat → Int32) × (Nat → Int32)) => gG B X 6 [(0, .ref (aM B 0)), (1, .int s.1), (2, .int s.2.1), (3, .int s.2.2.1)] [] (wdM B m_thrown m_size m_at m_wrong m_deep m_laws m_text m_readBoys m_readMarbles m_readFarms m_boys m_marbles m_farms m_holding m_spills m_acts m_draws m_bestRow m_bestMany m_noted m_hasImage m_tape m_code m_value m_codes m_clauses m_testFrom m_sumFrom m_sumTo s.2.2.2.1 s.2.2.2.2 m_readRule m_readBoy m_readMarble m_readFarm m_rule m_boy m_marble m_farm m_now m_refused m_kept m_notePlace m_noteKind m_noteIs m_toldBy m_image ++ fr)) (fun r : (Int32 × (Nat → Int32) × (Nat → Int32)) => gFin X (some (.int r.1)) (wdM B m_thrown m_size m_at m_wrong m_deep m_laws m_text m_readBoys m_readMarbles m_readFarms m_boys m_marbles m_farms m_holding m_spills m_acts m_draws m_bestRow m_bestMany m_noted m_hasImage m_tape m_code m_value m_codes m_clauses m_testFrom m_sumFrom m_sumTo r.2.1 r.2.2 m_readRule m_readBoy m_readMarble m_readFarm m_rule m_boy m_marble m_farm m_now m_refused m_kept m_notePlace m_noteKind m_noteIs m_toldBy m_image ++ fr))) 77 [(0, .ref (aM B 0)), (1, .int v1), (2, .int v2), (3, .int v3), (5, .int v5)] [.int k0] (wdM B m_thrown m_size m_at m_wrong m_deep m_laws m_text m_readBoys m_readMarbles m_readFarms m_boys m_marbles m_farms m_holding m_spills m_acts m_draws m_bestRow m_bestMany m_noted m_hasImage m_tape m_code m_value m_codes m_clauses m_testFrom m_sumFrom m_sumTo m_letters m_stack m_readRule m_readBoy m_readMarble m_readFarm m_rule m_boy m_marble m_farm m_now m_refused m_kept m_notePlace m_noteKind m_noteIs m_toldBy m_image ++ fr) (f_M_champion_J77 m_letters m_stack v1 v2 v3 v5 k0) := by
  unfold f_M_champion_J77
  refine h_istore hX dX11_champion_77 (by decide) (lv' := [(0, .ref (aM B 0)), (1, .int v1), (2, .int v2), (3, .int v3), (5, .int v5), (6, .int k0)]) rfl ?_
  refine h_iload hX dX11_champion_79 rfl ?_
  refine h_iconst hX dX11_champion_81 ki_m1 ?_
  refine h_icmp_eq hX dX11_champion_82 (tgt := 101) (by decide) (fun _ => ?_) (fun _ => ?_)
  · refine gH.dead [0, 1, 2, 3] rfl ?_
    exact w_M_champion_J101 hX
  · refine h_iload_n hX dX11_champion_85 rfl rfl ?_
    refine h_iconst hX dX11_champion_86 ki_m1 ?_
    refine h_icmp_eq hX dX11_champion_87 (tgt := 96) (by decide) (fun _ => ?_) (fun _ => ?_)
    · refine gH.dead [0, 3, 5] rfl ?_
      exact w_M_champion_J96 hX
    · refine h_iload hX dX11_champion_90 rfl ?_
      refine h_iload_n hX dX11_champion_92 rfl rfl ?_
      refine h_icmp_ge hX dX11_champion_93 (tgt := 101) (by decide) (fun _ => ?_) (fun _ => ?_)
      · refine gH.dead [0, 1, 2, 3] rfl ?_
        exact w_M_champion_J101 hX
      · refine gH.dead [0, 3, 5] rfl ?_
        exact w_M_champion_J96 hX
set_option maxRecDepth 4000 in
theorem w_M_champion_J52 {v1 : Int32} {v2 : Int32} {v3 : Int32} {v4 : Int32} {k0 : Int32} (hX : gOk B X RX11 cX11_champion 7 7 (some .int)) : gH B X (Sum.elim (fun s : (Int32 × Int32 × Int32 × (Nat → Int32) × (Nat → Int32)) => gG B X 6 [(0, .ref (aM B 0)), (1, .int s.1), (2, .int s.2.1), (3, .int s.2.2.1)] [] (wdM B m_thrown m_size m_at m_wrong m_deep m_laws m_text m_readBoys m_readMarbles m_readFarms m_boys m_marbles m_farms m_holding m_spills m_acts m_draws m_bestRow m_bestMany m_noted m_hasImage m_tape m_code m_value m_codes m_clauses m_testFrom m_sumFrom m_sumTo s.2.2.2.1 s.2.2.2.2 m_readRule m_readBoy m_readMarble m_readFarm m_rule m_boy m_marble m_farm m_now m_refused m_kept m_notePlace m_noteKind m_noteIs m_toldBy m_image ++ fr)) (fun r : (Int32 × (Nat → Int32) × (Nat → Int32)) => gFin X (some (.int r.1)) (wdM B m_thrown m_size m_at m_wrong m_deep m_laws m_text m_readBoys m_readMarbles m_readFarms m_boys m_marbles m_farms m_holding m_spills m_acts m_draws m_bestRow m_bestMany m_noted m_hasImage m_tape m_code m_value m_codes m_clauses m_testFrom m_sumFrom m_sumTo r.2.1 r.2.2 m_readRule m_readBoy m_readMarble m_readFarm m_rule m_boy m_marble m_farm m_now m_refused m_kept m_notePlace m_noteKind m_noteIs m_toldBy m_image ++ fr))) 52 [(0, .ref (aM B 0)), (1, .int v1), (2, .int v2), (3, .int v3), (4, .int v4)] [.int k0] (wdM B m_thrown m_size m_at m_wrong m_deep m_laws m_text m_readBoys m_readMarbles m_readFarms m_boys m_marbles m_farms m_holding m_spills m_acts m_draws m_bestRow m_bestMany m_noted m_hasImage m_tape m_code m_value m_codes m_clauses m_testFrom m_sumFrom m_sumTo m_letters m_stack m_readRule m_readBoy m_readMarble m_readFarm m_rule m_boy m_marble m_farm m_now m_refused m_kept m_notePlace m_noteKind m_noteIs m_toldBy m_image ++ fr) (f_M_champion_J52 m_marbles m_holding m_code m_value m_clauses m_testFrom m_sumFrom m_sumTo m_letters m_stack m_rule m_boy m_marble m_now v1 v2 v3 v4 k0) := by
  unfold f_M_champion_J52
  refine h_istore hX dX11_champion_52 (by decide) (lv' := [(0, .ref (aM B 0)), (1, .int v1), (2, .int v2), (3, .int v3), (4, .int v4), (5, .int k0)]) rfl ?_
  refine h_iload hX dX11_champion_54 rfl ?_
  refine h_iconst hX dX11_champion_56 ki_m1 ?_
  refine h_icmp_ne hX dX11_champion_57 (tgt := 64) (by decide) (fun _ => ?_) (fun _ => ?_)
  · refine h_aload_n hX dX11_champion_64 rfl rfl ?_
    refine h_aload_n hX dX11_champion_65 rfl rfl ?_
    refine h_iload_n hX dX11_champion_66 rfl rfl ?_
    refine h_iload hX dX11_champion_67 rfl ?_
    refine h_iload hX dX11_champion_69 rfl ?_
    refine h_callVi hX dX11_champion_71 (cv_RX11_341) rc_M0 (As := [.int v3, .int v4, .int k0]) (st := [.ref (aM B 0)]) (fun _ h => c_M_landsAt h) rfl rfl (by decide) (Nat.le_of_ble_eq_true rfl) (fun a_4 => ?_)
    refine h_callVi hX dX11_champion_74 (cv_RX11_307) rc_M0 (As := [.int a_4.1]) (st := []) (fun _ h => c_M_offHole h) rfl rfl (by decide) (Nat.le_of_ble_eq_true rfl) (fun a_5 => ?_)
    refine gH.dead [0, 1, 2, 3, 5] rfl ?_
    exact w_M_champion_J77 hX
  · refine h_iconst hX dX11_champion_60 ki_0 ?_
    refine h_goto hX dX11_champion_61 (tgt := 77) (by decide) ?_
    refine gH.dead [0, 1, 2, 3, 5] rfl ?_
    exact w_M_champion_J77 hX
set_option maxRecDepth 4000 in
theorem w_M_champion_L6 (hX : gOk B X RX11 cX11_champion 7 7 (some .int)) (s : (Int32 × Int32 × Int32 × (Nat → Int32) × (Nat → Int32))) : gH B X (Sum.elim (fun s : (Int32 × Int32 × Int32 × (Nat → Int32) × (Nat → Int32)) => gG B X 6 [(0, .ref (aM B 0)), (1, .int s.1), (2, .int s.2.1), (3, .int s.2.2.1)] [] (wdM B m_thrown m_size m_at m_wrong m_deep m_laws m_text m_readBoys m_readMarbles m_readFarms m_boys m_marbles m_farms m_holding m_spills m_acts m_draws m_bestRow m_bestMany m_noted m_hasImage m_tape m_code m_value m_codes m_clauses m_testFrom m_sumFrom m_sumTo s.2.2.2.1 s.2.2.2.2 m_readRule m_readBoy m_readMarble m_readFarm m_rule m_boy m_marble m_farm m_now m_refused m_kept m_notePlace m_noteKind m_noteIs m_toldBy m_image ++ fr)) (fun r : (Int32 × (Nat → Int32) × (Nat → Int32)) => gFin X (some (.int r.1)) (wdM B m_thrown m_size m_at m_wrong m_deep m_laws m_text m_readBoys m_readMarbles m_readFarms m_boys m_marbles m_farms m_holding m_spills m_acts m_draws m_bestRow m_bestMany m_noted m_hasImage m_tape m_code m_value m_codes m_clauses m_testFrom m_sumFrom m_sumTo r.2.1 r.2.2 m_readRule m_readBoy m_readMarble m_readFarm m_rule m_boy m_marble m_farm m_now m_refused m_kept m_notePlace m_noteKind m_noteIs m_toldBy m_image ++ fr))) 6 [(0, .ref (aM B 0)), (1, .int s.1), (2, .int s.2.1), (3, .int s.2.2.1)] [] (wdM B m_thrown m_size m_at m_wrong m_deep m_laws m_text m_readBoys m_readMarbles m_readFarms m_boys m_marbles m_farms m_holding m_spills m_acts m_draws m_bestRow m_bestMany m_noted m_hasImage m_tape m_code m_value m_codes m_clauses m_testFrom m_sumFrom m_sumTo s.2.2.2.1 s.2.2.2.2 m_readRule m_readBoy m_readMarble m_readFarm m_rule m_boy m_marble m_farm m_now m_refused m_kept m_notePlace m_noteKind m_noteIs m_toldBy m_image ++ fr) (f_M_champion_L6 m_boys m_marbles m_holding m_code m_value m_clauses m_testFrom m_sumFrom m_sumTo m_rule m_boy m_marble m_now s) := by
  unfold f_M_champion_L6
  refine h_iload_n hX dX11_champion_6 rfl rfl ?_
  refine h_aload_n hX dX11_champion_7 rfl rfl ?_
  refine get_RX11_258_M0 hX dX11_champion_8 ?_
  refine h_icmp_ge hX dX11_champion_11 (tgt := 107) (by decide) (fun _ => ?_) (fun _ => ?_)
  · refine h_iload_n hX dX11_champion_107 rfl rfl ?_
    exact h_ret hX (rv := some (.int s.1)) dX11_champion_108 trivial (fun h => h)
  · refine h_aload_n hX dX11_champion_14 rfl rfl ?_
    refine h_aload_n hX dX11_champion_15 rfl rfl ?_
    refine h_iload_n hX dX11_champion_16 rfl rfl ?_
    refine h_callVi hX dX11_champion_17 (cv_RX11_286) rc_M0 (As := [.int s.2.2.1]) (st := [.ref (aM B 0)]) (fun _ h => c_M_handsOf h) rfl rfl (by decide) (Nat.le_of_ble_eq_true rfl) (fun a_1 => ?_)
    refine h_aload_n hX dX11_champion_20 rfl rfl ?_
    refine get_RX11_64_M0 hX dX11_champion_21 ?_
    refine h_bipush hX dX11_champion_24 kb_7 ?_
    refine ald_M19 hX dX11_champion_26 ?_
    refine h_iconst hX dX11_champion_27 ki_m1 ?_
    refine h_ixor hX dX11_champion_28 ?_
    refine h_iand hX dX11_champion_29 ?_
    refine h_callVi hX dX11_champion_30 (cv_RX11_460) rc_M0 (As := [.int (a_1 &&& ((m_now (7 : Int32).toNatClampNeg) ^^^ ((-1))))]) (st := []) (fun _ h => c_M_strongest h) rfl rfl (by decide) (Nat.le_of_ble_eq_true rfl) (fun a_2 => ?_)
    refine h_istore hX dX11_champion_33 (by decide) (lv' := [(0, .ref (aM B 0)), (1, .int s.1), (2, .int s.2.1), (3, .int s.2.2.1), (4, .int a_2)]) rfl ?_
    refine h_iload hX dX11_champion_35 rfl ?_
    refine h_iconst hX dX11_champion_37 ki_m1 ?_
    refine h_icmp_ne hX dX11_champion_38 (tgt := 45) (by decide) (fun _ => ?_) (fun _ => ?_)
    · refine h_aload_n hX dX11_champion_45 rfl rfl ?_
      refine h_iload_n hX dX11_champion_46 rfl rfl ?_
      refine h_iload hX dX11_champion_47 rfl ?_
      refine h_callVi hX dX11_champion_49 (cv_RX11_398) rc_M0 (As := [.int s.2.2.1, .int a_2]) (st := []) (fun _ h => c_M_aimOf h) rfl rfl (by decide) (Nat.le_of_ble_eq_true rfl) (fun a_3 => ?_)
      exact w_M_champion_J52 hX
    · refine h_iconst hX dX11_champion_41 ki_m1 ?_
      refine h_goto hX dX11_champion_42 (tgt := 52) (by decide) ?_
      exact w_M_champion_J52 hX
set_option maxRecDepth 4000 in
theorem w_M_champion (hX : gOk B X RX11 cX11_champion 7 7 (some .int)) : gH B X (fun r : (Int32 × (Nat → Int32) × (Nat → Int32)) => gFin X (some (.int r.1)) (wdM B m_thrown m_size m_at m_wrong m_deep m_laws m_text m_readBoys m_readMarbles m_readFarms m_boys m_marbles m_farms m_holding m_spills m_acts m_draws m_bestRow m_bestMany m_noted m_hasImage m_tape m_code m_value m_codes m_clauses m_testFrom m_sumFrom m_sumTo r.2.1 r.2.2 m_readRule m_readBoy m_readMarble m_readFarm m_rule m_boy m_marble m_farm m_now m_refused m_kept m_notePlace m_noteKind m_noteIs m_toldBy m_image ++ fr)) 0 [(0, .ref (aM B 0))] [] (wdM B m_thrown m_size m_at m_wrong m_deep m_laws m_text m_readBoys m_readMarbles m_readFarms m_boys m_marbles m_farms m_holding m_spills m_acts m_draws m_bestRow m_bestMany m_noted m_hasImage m_tape m_code m_value m_codes m_clauses m_testFrom m_sumFrom m_sumTo m_letters m_stack m_readRule m_readBoy m_readMarble m_readFarm m_rule m_boy m_marble m_farm m_now m_refused m_kept m_notePlace m_noteKind m_noteIs m_toldBy m_image ++ fr) (f_M_champion m_boys m_marbles m_holding m_code m_value m_clauses m_testFrom m_sumFrom m_sumTo m_letters m_stack m_rule m_boy m_marble m_now) := by
  unfold f_M_champion
  refine h_iconst hX dX11_champion_0 ki_m1 ?_
  refine h_istore_n hX dX11_champion_1 rfl (by decide) (lv' := [(0, .ref (aM B 0)), (1, .int ((-1)))]) rfl ?_
  refine h_iconst hX dX11_champion_2 ki_0 ?_
  refine h_istore_n hX dX11_champion_3 rfl (by decide) (lv' := [(0, .ref (aM B 0)), (1, .int ((-1))), (2, .int 0)]) rfl ?_
  refine h_iconst hX dX11_champion_4 ki_0 ?_
  refine h_istore_n hX dX11_champion_5 rfl (by decide) (lv' := [(0, .ref (aM B 0)), (1, .int ((-1))), (2, .int 0), (3, .int 0)]) rfl ?_
  exact gH.loop (lvf := fun z : (Int32 × Int32 × Int32 × (Nat → Int32) × (Nat → Int32)) => [(0, .ref (aM B 0)), (1, .int z.1), (2, .int z.2.1), (3, .int z.2.2.1)]) (wf := fun z : (Int32 × Int32 × Int32 × (Nat → Int32) × (Nat → Int32)) => wdM B m_thrown m_size m_at m_wrong m_deep m_laws m_text m_readBoys m_readMarbles m_readFarms m_boys m_marbles m_farms m_holding m_spills m_acts m_draws m_bestRow m_bestMany m_noted m_hasImage m_tape m_code m_value m_codes m_clauses m_testFrom m_sumFrom m_sumTo z.2.2.2.1 z.2.2.2.2 m_readRule m_readBoy m_readMarble m_readFarm m_rule m_boy m_marble m_farm m_now m_refused m_kept m_notePlace m_noteKind m_noteIs m_toldBy m_image ++ fr) (fun z => w_M_champion_L6 hX z) ((-1), 0, 0, m_letters, m_stack)
theorem c_M_champion {r : (Int32 × (Nat → Int32) × (Nat → Int32))} (h : f_M_champion m_boys m_marbles m_holding m_code m_value m_clauses m_testFrom m_sumFrom m_sumTo m_letters m_stack m_rule m_boy m_marble m_now = some r) : gMet B 7 yX11_champion cX11_champion 7 (some .int) [.ref (aM B 0)] (wdM B m_thrown m_size m_at m_wrong m_deep m_laws m_text m_readBoys m_readMarbles m_readFarms m_boys m_marbles m_farms m_holding m_spills m_acts m_draws m_bestRow m_bestMany m_noted m_hasImage m_tape m_code m_value m_codes m_clauses m_testFrom m_sumFrom m_sumTo m_letters m_stack m_readRule m_readBoy m_readMarble m_readFarm m_rule m_boy m_marble m_farm m_now m_refused m_kept m_notePlace m_noteKind m_noteIs m_toldBy m_image ++ fr) (some (.int r.1)) (wdM B m_thrown m_size m_at m_wrong m_deep m_laws m_text m_readBoys m_readMarbles m_readFarms m_boys m_marbles m_farms m_holding m_spills m_acts m_draws m_bestRow m_bestMany m_noted m_hasImage m_tape m_code m_value m_codes m_clauses m_testFrom m_sumFrom m_sumTo r.2.1 r.2.2 m_readRule m_readBoy m_readMarble m_readFarm m_rule m_boy m_marble m_farm m_now m_refused m_kept m_notePlace m_noteKind m_noteIs m_toldBy m_image ++ fr) :=
  gMet.of rfl (Nat.le_of_ble_eq_true rfl) (fun X hX hF => w_M_champion hX r h hF)
set_option maxRecDepth 4000 in
theorem w_M_isRefused_J15 {v1 : Int32} (hX : gOk B X RX11 cX11_isRefused 2 0 (some .boolean)) : gH B X (fun r : (Int32 × (Nat → Int32)) => gFin X (some (.int r.1)) (wdM B m_thrown m_size m_at m_wrong m_deep m_laws m_text m_readBoys m_readMarbles m_readFarms m_boys m_marbles m_farms m_holding m_spills m_acts m_draws m_bestRow m_bestMany m_noted m_hasImage m_tape m_code m_value m_codes m_clauses m_testFrom m_sumFrom m_sumTo m_letters m_stack m_readRule m_readBoy m_readMarble m_readFarm m_rule m_boy m_marble m_farm m_now r.2 m_kept m_notePlace m_noteKind m_noteIs m_toldBy m_image ++ fr)) 15 [(1, .int v1)] [] (wdM B m_thrown m_size m_at m_wrong m_deep m_laws m_text m_readBoys m_readMarbles m_readFarms m_boys m_marbles m_farms m_holding m_spills m_acts m_draws m_bestRow m_bestMany m_noted m_hasImage m_tape m_code m_value m_codes m_clauses m_testFrom m_sumFrom m_sumTo m_letters m_stack m_readRule m_readBoy m_readMarble m_readFarm m_rule m_boy m_marble m_farm m_now m_refused m_kept m_notePlace m_noteKind m_noteIs m_toldBy m_image ++ fr) (f_M_isRefused_J15 m_refused v1) := by
  unfold f_M_isRefused_J15
  refine h_iload_n hX dX11_isRefused_15 rfl rfl ?_
  refine h_iconst hX dX11_isRefused_16 ki_m1 ?_
  refine h_icmp_eq hX dX11_isRefused_17 (tgt := 24) (by decide) (fun _ => ?_) (fun _ => ?_)
  · refine h_iconst hX dX11_isRefused_24 ki_0 ?_
    exact h_ret hX (rv := some (.int 0)) dX11_isRefused_25 rfl (fun h => h)
  · refine h_iconst hX dX11_isRefused_20 ki_1 ?_
    refine h_goto hX dX11_isRefused_21 (tgt := 25) (by decide) ?_
    exact h_ret hX (rv := some (.int 1)) dX11_isRefused_25 rfl (fun h => h)
set_option maxRecDepth 4000 in
theorem w_M_isRefused {p0 : Int32} (hX : gOk B X RX11 cX11_isRefused 2 0 (some .boolean)) : gH B X (fun r : (Int32 × (Nat → Int32)) => gFin X (some (.int r.1)) (wdM B m_thrown m_size m_at m_wrong m_deep m_laws m_text m_readBoys m_readMarbles m_readFarms m_boys m_marbles m_farms m_holding m_spills m_acts m_draws m_bestRow m_bestMany m_noted m_hasImage m_tape m_code m_value m_codes m_clauses m_testFrom m_sumFrom m_sumTo m_letters m_stack m_readRule m_readBoy m_readMarble m_readFarm m_rule m_boy m_marble m_farm m_now r.2 m_kept m_notePlace m_noteKind m_noteIs m_toldBy m_image ++ fr)) 0 [(0, .ref (aM B 0)), (1, .int p0)] [] (wdM B m_thrown m_size m_at m_wrong m_deep m_laws m_text m_readBoys m_readMarbles m_readFarms m_boys m_marbles m_farms m_holding m_spills m_acts m_draws m_bestRow m_bestMany m_noted m_hasImage m_tape m_code m_value m_codes m_clauses m_testFrom m_sumFrom m_sumTo m_letters m_stack m_readRule m_readBoy m_readMarble m_readFarm m_rule m_boy m_marble m_farm m_now m_refused m_kept m_notePlace m_noteKind m_noteIs m_toldBy m_image ++ fr) (f_M_isRefused m_refused p0) := by
  unfold f_M_isRefused
  refine h_iload_n hX dX11_isRefused_0 rfl rfl ?_
  refine h_iconst hX dX11_isRefused_1 ki_m1 ?_
  refine h_icmp_eq hX dX11_isRefused_2 (tgt := 15) (by decide) (fun _ => ?_) (fun _ => ?_)
  · refine gH.dead [1] rfl ?_
    exact w_M_isRefused_J15 hX
  · refine h_aload_n hX dX11_isRefused_5 rfl rfl ?_
    refine get_RX11_67_M0 hX dX11_isRefused_6 ?_
    refine h_iload_n hX dX11_isRefused_9 rfl rfl ?_
    refine h_dup2 hX dX11_isRefused_10 rfl rfl ?_
    refine ald_M20 hX dX11_isRefused_11 ?_
    refine h_iconst hX dX11_isRefused_12 ki_1 ?_
    refine h_iadd hX dX11_isRefused_13 ?_
    refine ast_M20 hX dX11_isRefused_14 ?_
    refine gH.letw (w := fun y => wdM B m_thrown m_size m_at m_wrong m_deep m_laws m_text m_readBoys m_readMarbles m_readFarms m_boys m_marbles m_farms m_holding m_spills m_acts m_draws m_bestRow m_bestMany m_noted m_hasImage m_tape m_code m_value m_codes m_clauses m_testFrom m_sumFrom m_sumTo m_letters m_stack m_readRule m_readBoy m_readMarble m_readFarm m_rule m_boy m_marble m_farm m_now y m_kept m_notePlace m_noteKind m_noteIs m_toldBy m_image ++ fr) (fun m_refused_1 => ?_)
    refine gH.dead [1] rfl ?_
    exact w_M_isRefused_J15 hX
theorem c_M_isRefused {p0 : Int32} {r : (Int32 × (Nat → Int32))} (h : f_M_isRefused m_refused p0 = some r) : gMet B 0 yX11_isRefused cX11_isRefused 2 (some .boolean) [.ref (aM B 0), .int p0] (wdM B m_thrown m_size m_at m_wrong m_deep m_laws m_text m_readBoys m_readMarbles m_readFarms m_boys m_marbles m_farms m_holding m_spills m_acts m_draws m_bestRow m_bestMany m_noted m_hasImage m_tape m_code m_value m_codes m_clauses m_testFrom m_sumFrom m_sumTo m_letters m_stack m_readRule m_readBoy m_readMarble m_readFarm m_rule m_boy m_marble m_farm m_now m_refused m_kept m_notePlace m_noteKind m_noteIs m_toldBy m_image ++ fr) (some (.int r.1)) (wdM B m_thrown m_size m_at m_wrong m_deep m_laws m_text m_readBoys m_readMarbles m_readFarms m_boys m_marbles m_farms m_holding m_spills m_acts m_draws m_bestRow m_bestMany m_noted m_hasImage m_tape m_code m_value m_codes m_clauses m_testFrom m_sumFrom m_sumTo m_letters m_stack m_readRule m_readBoy m_readMarble m_readFarm m_rule m_boy m_marble m_farm m_now r.2 m_kept m_notePlace m_noteKind m_noteIs m_toldBy m_image ++ fr) :=
  gMet.of rfl (Nat.le_of_ble_eq_true rfl) (fun X hX hF => w_M_isRefused hX r h hF)
set_option maxRecDepth 4000 in
theorem w_M_keep_L54 (hX : gOk B X RX11 cX11_keep 2 0 none) (s : (Int32 × (Nat → Int32))) : gH B X (Sum.elim (fun s : (Int32 × (Nat → Int32)) => gG B X 54 [(0, .ref (aM B 0)), (1, .int s.1)] [] (wdM B m_thrown m_size m_at m_wrong m_deep m_laws m_text m_readBoys m_readMarbles m_readFarms m_boys m_marbles m_farms m_holding m_spills m_acts m_draws m_bestRow m_bestMany m_noted m_hasImage m_tape m_code m_value m_codes m_clauses m_testFrom m_sumFrom m_sumTo m_letters m_stack m_readRule m_readBoy m_readMarble m_readFarm m_rule m_boy m_marble m_farm m_now m_refused s.2 m_notePlace m_noteKind m_noteIs m_toldBy m_image ++ fr)) (fun r : (Int32 × (Nat → Int32)) => gFin X (none) (wdM B m_thrown m_size m_at m_wrong m_deep m_laws m_text m_readBoys m_readMarbles m_readFarms m_boys m_marbles m_farms m_holding m_spills r.1 m_draws m_bestRow m_bestMany m_noted m_hasImage m_tape m_code m_value m_codes m_clauses m_testFrom m_sumFrom m_sumTo m_letters m_stack m_readRule m_readBoy m_readMarble m_readFarm m_rule m_boy m_marble m_farm m_now m_refused r.2 m_notePlace m_noteKind m_noteIs m_toldBy m_image ++ fr))) 54 [(0, .ref (aM B 0)), (1, .int s.1)] [] (wdM B m_thrown m_size m_at m_wrong m_deep m_laws m_text m_readBoys m_readMarbles m_readFarms m_boys m_marbles m_farms m_holding m_spills m_acts m_draws m_bestRow m_bestMany m_noted m_hasImage m_tape m_code m_value m_codes m_clauses m_testFrom m_sumFrom m_sumTo m_letters m_stack m_readRule m_readBoy m_readMarble m_readFarm m_rule m_boy m_marble m_farm m_now m_refused s.2 m_notePlace m_noteKind m_noteIs m_toldBy m_image ++ fr) (f_M_keep_L54 m_acts m_now s) := by
  unfold f_M_keep_L54
  refine h_iload_n hX dX11_keep_54 rfl rfl ?_
  refine h_sipush hX dX11_keep_55 ks_131 ?_
  refine h_icmp_ge hX dX11_keep_58 (tgt := 88) (by decide) (fun _ => ?_) (fun _ => ?_)
  · refine gH.inr ?_
    refine h_aload_n hX dX11_keep_88 rfl rfl ?_
    refine h_dup hX dX11_keep_89 rfl ?_
    refine get_RX11_273_M0 hX dX11_keep_90 ?_
    refine h_iconst hX dX11_keep_93 ki_1 ?_
    refine h_iadd hX dX11_keep_94 ?_
    refine put_RX11_273_M0 hX dX11_keep_95 ?_
    refine gH.letw (w := fun y => wdM B m_thrown m_size m_at m_wrong m_deep m_laws m_text m_readBoys m_readMarbles m_readFarms m_boys m_marbles m_farms m_holding m_spills y m_draws m_bestRow m_bestMany m_noted m_hasImage m_tape m_code m_value m_codes m_clauses m_testFrom m_sumFrom m_sumTo m_letters m_stack m_readRule m_readBoy m_readMarble m_readFarm m_rule m_boy m_marble m_farm m_now m_refused s.2 m_notePlace m_noteKind m_noteIs m_toldBy m_image ++ fr) (fun m_acts_1 => ?_)
    exact h_ret hX (rv := none) dX11_keep_98 trivial (fun h => h)
  · refine h_aload_n hX dX11_keep_61 rfl rfl ?_
    refine get_RX11_74_M0 hX dX11_keep_62 ?_
    refine h_sipush hX dX11_keep_65 ks_131 ?_
    refine h_aload_n hX dX11_keep_68 rfl rfl ?_
    refine get_RX11_273_M0 hX dX11_keep_69 ?_
    refine h_imul hX dX11_keep_72 ?_
    refine h_iload_n hX dX11_keep_73 rfl rfl ?_
    refine h_iadd hX dX11_keep_74 ?_
    refine h_aload_n hX dX11_keep_75 rfl rfl ?_
    refine get_RX11_64_M0 hX dX11_keep_76 ?_
    refine h_iload_n hX dX11_keep_79 rfl rfl ?_
    refine ald_M19 hX dX11_keep_80 ?_
    refine ast_M21 hX dX11_keep_81 ?_
    refine gH.letw (w := fun y => wdM B m_thrown m_size m_at m_wrong m_deep m_laws m_text m_readBoys m_readMarbles m_readFarms m_boys m_marbles m_farms m_holding m_spills m_acts m_draws m_bestRow m_bestMany m_noted m_hasImage m_tape m_code m_value m_codes m_clauses m_testFrom m_sumFrom m_sumTo m_letters m_stack m_readRule m_readBoy m_readMarble m_readFarm m_rule m_boy m_marble m_farm m_now m_refused y m_notePlace m_noteKind m_noteIs m_toldBy m_image ++ fr) (fun m_kept_2 => ?_)
    refine h_iincc hX dX11_keep_82 rfl ki_1 (by decide) (lv' := [(0, .ref (aM B 0)), (1, .int (s.1 + 1))]) rfl ?_
    refine h_goto hX dX11_keep_85 (tgt := 54) (by decide) ?_
    exact gH.some' (fun h => h)
set_option maxRecDepth 4000 in
theorem w_M_keep_J52 (hX : gOk B X RX11 cX11_keep 2 0 none) : gH B X (fun r : (Int32 × (Nat → Int32)) => gFin X (none) (wdM B m_thrown m_size m_at m_wrong m_deep m_laws m_text m_readBoys m_readMarbles m_readFarms m_boys m_marbles m_farms m_holding m_spills r.1 m_draws m_bestRow m_bestMany m_noted m_hasImage m_tape m_code m_value m_codes m_clauses m_testFrom m_sumFrom m_sumTo m_letters m_stack m_readRule m_readBoy m_readMarble m_readFarm m_rule m_boy m_marble m_farm m_now m_refused r.2 m_notePlace m_noteKind m_noteIs m_toldBy m_image ++ fr)) 52 [(0, .ref (aM B 0))] [] (wdM B m_thrown m_size m_at m_wrong m_deep m_laws m_text m_readBoys m_readMarbles m_readFarms m_boys m_marbles m_farms m_holding m_spills m_acts m_draws m_bestRow m_bestMany m_noted m_hasImage m_tape m_code m_value m_codes m_clauses m_testFrom m_sumFrom m_sumTo m_letters m_stack m_readRule m_readBoy m_readMarble m_readFarm m_rule m_boy m_marble m_farm m_now m_refused m_kept m_notePlace m_noteKind m_noteIs m_toldBy m_image ++ fr) (f_M_keep_J52 m_acts m_now m_kept) := by
  unfold f_M_keep_J52
  refine h_iconst hX dX11_keep_52 ki_0 ?_
  refine h_istore_n hX dX11_keep_53 rfl (by decide) (lv' := [(0, .ref (aM B 0)), (1, .int 0)]) rfl ?_
  exact gH.loop (lvf := fun z : (Int32 × (Nat → Int32)) => [(0, .ref (aM B 0)), (1, .int z.1)]) (wf := fun z : (Int32 × (Nat → Int32)) => wdM B m_thrown m_size m_at m_wrong m_deep m_laws m_text m_readBoys m_readMarbles m_readFarms m_boys m_marbles m_farms m_holding m_spills m_acts m_draws m_bestRow m_bestMany m_noted m_hasImage m_tape m_code m_value m_codes m_clauses m_testFrom m_sumFrom m_sumTo m_letters m_stack m_readRule m_readBoy m_readMarble m_readFarm m_rule m_boy m_marble m_farm m_now m_refused z.2 m_notePlace m_noteKind m_noteIs m_toldBy m_image ++ fr) (fun z => w_M_keep_L54 hX z) (0, m_kept)
set_option maxRecDepth 4000 in
theorem w_M_keep_L13 (hX : gOk B X RX11 cX11_keep 2 0 none) (s : (Int32 × (Nat → Int32))) : gH B X (Sum.elim (fun s : (Int32 × (Nat → Int32)) => gG B X 13 [(0, .ref (aM B 0)), (1, .int s.1)] [] (wdM B m_thrown m_size m_at m_wrong m_deep m_laws m_text m_readBoys m_readMarbles m_readFarms m_boys m_marbles m_farms m_holding m_spills m_acts m_draws m_bestRow m_bestMany m_noted m_hasImage m_tape m_code m_value m_codes m_clauses m_testFrom m_sumFrom m_sumTo m_letters m_stack m_readRule m_readBoy m_readMarble m_readFarm m_rule m_boy m_marble m_farm m_now m_refused s.2 m_notePlace m_noteKind m_noteIs m_toldBy m_image ++ fr)) (fun r : (Int32 × (Nat → Int32)) => gFin X (none) (wdM B m_thrown m_size m_at m_wrong m_deep m_laws m_text m_readBoys m_readMarbles m_readFarms m_boys m_marbles m_farms m_holding m_spills r.1 m_draws m_bestRow m_bestMany m_noted m_hasImage m_tape m_code m_value m_codes m_clauses m_testFrom m_sumFrom m_sumTo m_letters m_stack m_readRule m_readBoy m_readMarble m_readFarm m_rule m_boy m_marble m_farm m_now m_refused r.2 m_notePlace m_noteKind m_noteIs m_toldBy m_image ++ fr))) 13 [(0, .ref (aM B 0)), (1, .int s.1)] [] (wdM B m_thrown m_size m_at m_wrong m_deep m_laws m_text m_readBoys m_readMarbles m_readFarms m_boys m_marbles m_farms m_holding m_spills m_acts m_draws m_bestRow m_bestMany m_noted m_hasImage m_tape m_code m_value m_codes m_clauses m_testFrom m_sumFrom m_sumTo m_letters m_stack m_readRule m_readBoy m_readMarble m_readFarm m_rule m_boy m_marble m_farm m_now m_refused s.2 m_notePlace m_noteKind m_noteIs m_toldBy m_image ++ fr) (f_M_keep_L13 m_acts m_now s) := by
  unfold f_M_keep_L13
  refine h_iload_n hX dX11_keep_13 rfl rfl ?_
  refine h_sipush hX dX11_keep_14 ks_5240 ?_
  refine h_icmp_ge hX dX11_keep_17 (tgt := 42) (by decide) (fun _ => ?_) (fun _ => ?_)
  · refine gH.inr ?_
    refine h_aload_n hX dX11_keep_42 rfl rfl ?_
    refine h_dup hX dX11_keep_43 rfl ?_
    refine get_RX11_273_M0 hX dX11_keep_44 ?_
    refine h_iconst hX dX11_keep_47 ki_1 ?_
    refine h_isub hX dX11_keep_48 ?_
    refine put_RX11_273_M0 hX dX11_keep_49 ?_
    refine gH.letw (w := fun y => wdM B m_thrown m_size m_at m_wrong m_deep m_laws m_text m_readBoys m_readMarbles m_readFarms m_boys m_marbles m_farms m_holding m_spills y m_draws m_bestRow m_bestMany m_noted m_hasImage m_tape m_code m_value m_codes m_clauses m_testFrom m_sumFrom m_sumTo m_letters m_stack m_readRule m_readBoy m_readMarble m_readFarm m_rule m_boy m_marble m_farm m_now m_refused s.2 m_notePlace m_noteKind m_noteIs m_toldBy m_image ++ fr) (fun m_acts_4 => ?_)
    refine gH.dead [0] rfl ?_
    exact w_M_keep_J52 hX
  · refine h_aload_n hX dX11_keep_20 rfl rfl ?_
    refine get_RX11_74_M0 hX dX11_keep_21 ?_
    refine h_iload_n hX dX11_keep_24 rfl rfl ?_
    refine h_sipush hX dX11_keep_25 ks_131 ?_
    refine h_isub hX dX11_keep_28 ?_
    refine h_aload_n hX dX11_keep_29 rfl rfl ?_
    refine get_RX11_74_M0 hX dX11_keep_30 ?_
    refine h_iload_n hX dX11_keep_33 rfl rfl ?_
    refine ald_M21 hX dX11_keep_34 ?_
    refine ast_M21 hX dX11_keep_35 ?_
    refine gH.letw (w := fun y => wdM B m_thrown m_size m_at m_wrong m_deep m_laws m_text m_readBoys m_readMarbles m_readFarms m_boys m_marbles m_farms m_holding m_spills m_acts m_draws m_bestRow m_bestMany m_noted m_hasImage m_tape m_code m_value m_codes m_clauses m_testFrom m_sumFrom m_sumTo m_letters m_stack m_readRule m_readBoy m_readMarble m_readFarm m_rule m_boy m_marble m_farm m_now m_refused y m_notePlace m_noteKind m_noteIs m_toldBy m_image ++ fr) (fun m_kept_5 => ?_)
    refine h_iincc hX dX11_keep_36 rfl ki_1 (by decide) (lv' := [(0, .ref (aM B 0)), (1, .int (s.1 + 1))]) rfl ?_
    refine h_goto hX dX11_keep_39 (tgt := 13) (by decide) ?_
    exact gH.some' (fun h => h)
set_option maxRecDepth 4000 in
theorem w_M_keep (hX : gOk B X RX11 cX11_keep 2 0 none) : gH B X (fun r : (Int32 × (Nat → Int32)) => gFin X (none) (wdM B m_thrown m_size m_at m_wrong m_deep m_laws m_text m_readBoys m_readMarbles m_readFarms m_boys m_marbles m_farms m_holding m_spills r.1 m_draws m_bestRow m_bestMany m_noted m_hasImage m_tape m_code m_value m_codes m_clauses m_testFrom m_sumFrom m_sumTo m_letters m_stack m_readRule m_readBoy m_readMarble m_readFarm m_rule m_boy m_marble m_farm m_now m_refused r.2 m_notePlace m_noteKind m_noteIs m_toldBy m_image ++ fr)) 0 [(0, .ref (aM B 0))] [] (wdM B m_thrown m_size m_at m_wrong m_deep m_laws m_text m_readBoys m_readMarbles m_readFarms m_boys m_marbles m_farms m_holding m_spills m_acts m_draws m_bestRow m_bestMany m_noted m_hasImage m_tape m_code m_value m_codes m_clauses m_testFrom m_sumFrom m_sumTo m_letters m_stack m_readRule m_readBoy m_readMarble m_readFarm m_rule m_boy m_marble m_farm m_now m_refused m_kept m_notePlace m_noteKind m_noteIs m_toldBy m_image ++ fr) (f_M_keep m_acts m_now m_kept) := by
  unfold f_M_keep
  refine h_aload_n hX dX11_keep_0 rfl rfl ?_
  refine get_RX11_273_M0 hX dX11_keep_1 ?_
  refine h_bipush hX dX11_keep_4 kb_40 ?_
  refine h_icmp_ne hX dX11_keep_6 (tgt := 52) (by decide) (fun _ => ?_) (fun _ => ?_)
  · exact w_M_keep_J52 hX
  · refine h_sipush hX dX11_keep_9 ks_131 ?_
    refine h_istore_n hX dX11_keep_12 rfl (by decide) (lv' := [(0, .ref (aM B 0)), (1, .int 131)]) rfl ?_
    exact gH.loop (lvf := fun z : (Int32 × (Nat → Int32)) => [(0, .ref (aM B 0)), (1, .int z.1)]) (wf := fun z : (Int32 × (Nat → Int32)) => wdM B m_thrown m_size m_at m_wrong m_deep m_laws m_text m_readBoys m_readMarbles m_readFarms m_boys m_marbles m_farms m_holding m_spills m_acts m_draws m_bestRow m_bestMany m_noted m_hasImage m_tape m_code m_value m_codes m_clauses m_testFrom m_sumFrom m_sumTo m_letters m_stack m_readRule m_readBoy m_readMarble m_readFarm m_rule m_boy m_marble m_farm m_now m_refused z.2 m_notePlace m_noteKind m_noteIs m_toldBy m_image ++ fr) (fun z => w_M_keep_L13 hX z) (131, m_kept)
theorem c_M_keep {r : (Int32 × (Nat → Int32))} (h : f_M_keep m_acts m_now m_kept = some r) : gMet B 0 yX11_keep cX11_keep 2 none [.ref (aM B 0)] (wdM B m_thrown m_size m_at m_wrong m_deep m_laws m_text m_readBoys m_readMarbles m_readFarms m_boys m_marbles m_farms m_holding m_spills m_acts m_draws m_bestRow m_bestMany m_noted m_hasImage m_tape m_code m_value m_codes m_clauses m_testFrom m_sumFrom m_sumTo m_letters m_stack m_readRule m_readBoy m_readMarble m_readFarm m_rule m_boy m_marble m_farm m_now m_refused m_kept m_notePlace m_noteKind m_noteIs m_toldBy m_image ++ fr) (none) (wdM B m_thrown m_size m_at m_wrong m_deep m_laws m_text m_readBoys m_readMarbles m_readFarms m_boys m_marbles m_farms m_holding m_spills r.1 m_draws m_bestRow m_bestMany m_noted m_hasImage m_tape m_code m_value m_codes m_clauses m_testFrom m_sumFrom m_sumTo m_letters m_stack m_readRule m_readBoy m_readMarble m_readFarm m_rule m_boy m_marble m_farm m_now m_refused r.2 m_notePlace m_noteKind m_noteIs m_toldBy m_image ++ fr) :=
  gMet.of rfl (Nat.le_of_ble_eq_true rfl) (fun X hX hF => w_M_keep hX r h hF)
set_option maxRecDepth 4000 in
theorem w_M_mark_J43 {v1 : Int32} {v2 : Int32} {k1 : Int32} (hX : gOk B X RX11 cX11_mark 3 2 (some .int)) : gH B X (fun r : (Int32 × Int32 × (Nat → Int32) × (Nat → Int32) × (Nat → Int32)) => gFin X (some (.int r.1)) (wdM B m_thrown m_size m_at m_wrong m_deep m_laws m_text m_readBoys m_readMarbles m_readFarms m_boys m_marbles m_farms m_holding m_spills r.2.1 m_draws m_bestRow m_bestMany m_noted m_hasImage m_tape m_code m_value m_codes m_clauses m_testFrom m_sumFrom m_sumTo m_letters m_stack m_readRule m_readBoy m_readMarble m_readFarm m_rule m_boy m_marble m_farm r.2.2.1 r.2.2.2.1 r.2.2.2.2 m_notePlace m_noteKind m_noteIs m_toldBy m_image ++ fr)) 43 [(0, .ref (aM B 0)), (1, .int v1), (2, .int v2)] [.int k1, .ref (aM B 0)] (wdM B m_thrown m_size m_at m_wrong m_deep m_laws m_text m_readBoys m_readMarbles m_readFarms m_boys m_marbles m_farms m_holding m_spills m_acts m_draws m_bestRow m_bestMany m_noted m_hasImage m_tape m_code m_value m_codes m_clauses m_testFrom m_sumFrom m_sumTo m_letters m_stack m_readRule m_readBoy m_readMarble m_readFarm m_rule m_boy m_marble m_farm m_now m_refused m_kept m_notePlace m_noteKind m_noteIs m_toldBy m_image ++ fr) (f_M_mark_J43 m_acts m_now m_refused m_kept v1 v2 k1) := by
  unfold f_M_mark_J43
  refine h_callVi hX dX11_mark_43 (cv_RX11_354) rc_M0 (As := [.int k1]) (st := []) (fun _ h => c_M_isRefused h) rfl rfl (by decide) (Nat.le_of_ble_eq_true rfl) (fun a_3 => ?_)
  refine h_if_eq hX dX11_mark_46 (tgt := 51) (by decide) (fun _ => ?_) (fun _ => ?_)
  · refine h_aload_n hX dX11_mark_51 rfl rfl ?_
    refine h_callVv hX dX11_mark_52 (cv_RX11_357) rc_M0 (As := []) (st := []) (fun _ h => c_M_keep h) rfl rfl (by decide) (Nat.le_of_ble_eq_true rfl) (fun a_4 => ?_)
    refine h_aload_n hX dX11_mark_55 rfl rfl ?_
    refine get_RX11_64_M0 hX dX11_mark_56 ?_
    refine h_iload_n hX dX11_mark_59 rfl rfl ?_
    refine h_dup2 hX dX11_mark_60 rfl rfl ?_
    refine ald_M19 hX dX11_mark_61 ?_
    refine h_iconst hX dX11_mark_62 ki_1 ?_
    refine h_iload_n hX dX11_mark_63 rfl rfl ?_
    refine h_ishl hX dX11_mark_64 ?_
    refine h_ior hX dX11_mark_65 ?_
    refine ast_M19 hX dX11_mark_66 ?_
    refine gH.letw (w := fun y => wdM B m_thrown m_size m_at m_wrong m_deep m_laws m_text m_readBoys m_readMarbles m_readFarms m_boys m_marbles m_farms m_holding m_spills a_4.1 m_draws m_bestRow m_bestMany m_noted m_hasImage m_tape m_code m_value m_codes m_clauses m_testFrom m_sumFrom m_sumTo m_letters m_stack m_readRule m_readBoy m_readMarble m_readFarm m_rule m_boy m_marble m_farm y a_3.2 a_4.2 m_notePlace m_noteKind m_noteIs m_toldBy m_image ++ fr) (fun m_now_5 => ?_)
    refine h_aload_n hX dX11_mark_67 rfl rfl ?_
    refine get_RX11_64_M0 hX dX11_mark_68 ?_
    refine h_iload_n hX dX11_mark_71 rfl rfl ?_
    refine ald_M19 hX dX11_mark_72 ?_
    refine h_callSi hX dX11_mark_73 (cs_RX11_289) (As := [.int (m_now_5 v1.toNatClampNeg)]) (st := []) (fun _ h => c_J_bitCount h) rfl rfl (by decide) (Nat.le_of_ble_eq_true rfl) (fun a_6 => ?_)
    exact h_ret hX (rv := some (.int a_6)) dX11_mark_76 trivial (fun h => h)
  · refine h_iconst hX dX11_mark_49 ki_m1 ?_
    exact h_ret hX (rv := some (.int ((-1)))) dX11_mark_50 trivial (fun h => h)
set_option maxRecDepth 4000 in
theorem w_M_mark_J38 {v1 : Int32} {v2 : Int32} (hX : gOk B X RX11 cX11_mark 3 2 (some .int)) : gH B X (fun r : (Int32 × Int32 × (Nat → Int32) × (Nat → Int32) × (Nat → Int32)) => gFin X (some (.int r.1)) (wdM B m_thrown m_size m_at m_wrong m_deep m_laws m_text m_readBoys m_readMarbles m_readFarms m_boys m_marbles m_farms m_holding m_spills r.2.1 m_draws m_bestRow m_bestMany m_noted m_hasImage m_tape m_code m_value m_codes m_clauses m_testFrom m_sumFrom m_sumTo m_letters m_stack m_readRule m_readBoy m_readMarble m_readFarm m_rule m_boy m_marble m_farm r.2.2.1 r.2.2.2.1 r.2.2.2.2 m_notePlace m_noteKind m_noteIs m_toldBy m_image ++ fr)) 38 [(0, .ref (aM B 0)), (1, .int v1), (2, .int v2)] [.ref (aM B 0)] (wdM B m_thrown m_size m_at m_wrong m_deep m_laws m_text m_readBoys m_readMarbles m_readFarms m_boys m_marbles m_farms m_holding m_spills m_acts m_draws m_bestRow m_bestMany m_noted m_hasImage m_tape m_code m_value m_codes m_clauses m_testFrom m_sumFrom m_sumTo m_letters m_stack m_readRule m_readBoy m_readMarble m_readFarm m_rule m_boy m_marble m_farm m_now m_refused m_kept m_notePlace m_noteKind m_noteIs m_toldBy m_image ++ fr) (f_M_mark_J38 m_acts m_now m_refused m_kept v1 v2) := by
  unfold f_M_mark_J38
  refine h_iconst hX dX11_mark_38 ki_2 ?_
  refine h_goto hX dX11_mark_39 (tgt := 43) (by decide) ?_
  exact w_M_mark_J43 hX
set_option maxRecDepth 4000 in
theorem w_M_mark {p0 : Int32} {p1 : Int32} (hX : gOk B X RX11 cX11_mark 3 2 (some .int)) : gH B X (fun r : (Int32 × Int32 × (Nat → Int32) × (Nat → Int32) × (Nat → Int32)) => gFin X (some (.int r.1)) (wdM B m_thrown m_size m_at m_wrong m_deep m_laws m_text m_readBoys m_readMarbles m_readFarms m_boys m_marbles m_farms m_holding m_spills r.2.1 m_draws m_bestRow m_bestMany m_noted m_hasImage m_tape m_code m_value m_codes m_clauses m_testFrom m_sumFrom m_sumTo m_letters m_stack m_readRule m_readBoy m_readMarble m_readFarm m_rule m_boy m_marble m_farm r.2.2.1 r.2.2.2.1 r.2.2.2.2 m_notePlace m_noteKind m_noteIs m_toldBy m_image ++ fr)) 0 [(0, .ref (aM B 0)), (1, .int p0), (2, .int p1)] [] (wdM B m_thrown m_size m_at m_wrong m_deep m_laws m_text m_readBoys m_readMarbles m_readFarms m_boys m_marbles m_farms m_holding m_spills m_acts m_draws m_bestRow m_bestMany m_noted m_hasImage m_tape m_code m_value m_codes m_clauses m_testFrom m_sumFrom m_sumTo m_letters m_stack m_readRule m_readBoy m_readMarble m_readFarm m_rule m_boy m_marble m_farm m_now m_refused m_kept m_notePlace m_noteKind m_noteIs m_toldBy m_image ++ fr) (f_M_mark m_marbles m_acts m_now m_refused m_kept p0 p1) := by
  unfold f_M_mark
  refine h_aload_n hX dX11_mark_0 rfl rfl ?_
  refine h_aload_n hX dX11_mark_1 rfl rfl ?_
  refine h_iload_n hX dX11_mark_2 rfl rfl ?_
  refine h_callVi hX dX11_mark_3 (cv_RX11_328) rc_M0 (As := [.int p1]) (st := [.ref (aM B 0)]) (fun _ h => c_M_isMarble h) rfl rfl (by decide) (Nat.le_of_ble_eq_true rfl) (fun a_1 => ?_)
  refine h_if_ne hX dX11_mark_6 (tgt := 13) (by decide) (fun _ => ?_) (fun _ => ?_)
  · refine h_aload_n hX dX11_mark_13 rfl rfl ?_
    refine get_RX11_64_M0 hX dX11_mark_14 ?_
    refine h_iload_n hX dX11_mark_17 rfl rfl ?_
    refine ald_M19 hX dX11_mark_18 ?_
    refine h_iload_n hX dX11_mark_19 rfl rfl ?_
    refine h_callSi hX dX11_mark_20 (cs_RX11_219) (As := [.int (m_now p0.toNatClampNeg), .int p1]) (st := [.ref (aM B 0)]) (fun _ h => c_M_has h) rfl rfl (by decide) (Nat.le_of_ble_eq_true rfl) (fun a_2 => ?_)
    refine h_if_ne hX dX11_mark_23 (tgt := 38) (by decide) (fun _ => ?_) (fun _ => ?_)
    · exact w_M_mark_J38 hX
    · refine h_aload_n hX dX11_mark_26 rfl rfl ?_
      refine get_RX11_64_M0 hX dX11_mark_27 ?_
      refine h_iconst hX dX11_mark_30 ki_0 ?_
      refine h_iload_n hX dX11_mark_31 rfl rfl ?_
      refine h_iadd hX dX11_mark_32 ?_
      refine ald_M19 hX dX11_mark_33 ?_
      refine h_iconst hX dX11_mark_34 ki_m1 ?_
      refine h_icmp_ne hX dX11_mark_35 (tgt := 42) (by decide) (fun _ => ?_) (fun _ => ?_)
      · refine h_iconst hX dX11_mark_42 ki_m1 ?_
        exact w_M_mark_J43 hX
      · exact w_M_mark_J38 hX
  · refine h_iconst hX dX11_mark_9 ki_0 ?_
    refine h_goto hX dX11_mark_10 (tgt := 43) (by decide) ?_
    exact w_M_mark_J43 hX
theorem c_M_mark {p0 : Int32} {p1 : Int32} {r : (Int32 × Int32 × (Nat → Int32) × (Nat → Int32) × (Nat → Int32))} (h : f_M_mark m_marbles m_acts m_now m_refused m_kept p0 p1 = some r) : gMet B 2 yX11_mark cX11_mark 3 (some .int) [.ref (aM B 0), .int p0, .int p1] (wdM B m_thrown m_size m_at m_wrong m_deep m_laws m_text m_readBoys m_readMarbles m_readFarms m_boys m_marbles m_farms m_holding m_spills m_acts m_draws m_bestRow m_bestMany m_noted m_hasImage m_tape m_code m_value m_codes m_clauses m_testFrom m_sumFrom m_sumTo m_letters m_stack m_readRule m_readBoy m_readMarble m_readFarm m_rule m_boy m_marble m_farm m_now m_refused m_kept m_notePlace m_noteKind m_noteIs m_toldBy m_image ++ fr) (some (.int r.1)) (wdM B m_thrown m_size m_at m_wrong m_deep m_laws m_text m_readBoys m_readMarbles m_readFarms m_boys m_marbles m_farms m_holding m_spills r.2.1 m_draws m_bestRow m_bestMany m_noted m_hasImage m_tape m_code m_value m_codes m_clauses m_testFrom m_sumFrom m_sumTo m_letters m_stack m_readRule m_readBoy m_readMarble m_readFarm m_rule m_boy m_marble m_farm r.2.2.1 r.2.2.2.1 r.2.2.2.2 m_notePlace m_noteKind m_noteIs m_toldBy m_image ++ fr) :=
  gMet.of rfl (Nat.le_of_ble_eq_true rfl) (fun X hX hF => w_M_mark hX r h hF)
