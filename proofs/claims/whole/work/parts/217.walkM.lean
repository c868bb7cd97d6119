variable {B : gB} {X : gX} {fr : va_W} {m_thrown : Int32} {m_size : Int32} {m_at : Int32} {m_wrong : Int32} {m_deep : Int32} {m_laws : Int32} {m_text : Int32} {m_readBoys : Int32} {m_readMarbles : Int32} {m_readFarms : Int32} {m_boys : Int32} {m_marbles : Int32} {m_farms : Int32} {m_holding : Int32} {m_spills : Int32} {m_acts : Int32} {m_draws : Int64} {m_bestRow : Int32} {m_bestMany : Int32} {m_noted : Int32} {m_hasImage : Int32} {m_tape : Nat → Int32} {m_code : Nat → Int32} {m_value : Nat → Int32} {m_codes : Nat → Int32} {m_clauses : Nat → Int32} {m_testFrom : Nat → Int32} {m_sumFrom : Nat → Int32} {m_sumTo : Nat → Int32} {m_letters : Nat → Int32} {m_stack : Nat → Int32} {m_readRule : Nat → Int32} {m_readBoy : Nat → Int32} {m_readMarble : Nat → Int32} {m_readFarm : Nat → Int32} {m_rule : Nat → Int32} {m_boy : Nat → Int32} {m_marble : Nat → Int32} {m_farm : Nat → Int32} {m_now : Nat → Int32} {m_refused : Nat → Int32} {m_kept : Nat → Int32} {m_notePlace : Nat → Int32} {m_noteKind : Nat → Int32} {m_noteIs : Nat → Int32} {m_toldBy : Nat → Int32} {m_image : Nat → Int32}
set_option maxRecDepth 4000 in
theorem w_M_open {p0 : Int32} (hX : gOk B X RX11 cX11_open 2 0 none) : gH B X (fun r : (Int32 × Int32 × Int32 × Int32 × (Nat → Int32) × (Nat → Int32)) => gFin X (none) (wdM B m_thrown m_size r.1 r.2.1 r.2.2.1 m_laws r.2.2.2.1 m_readBoys m_readMarbles m_readFarms m_boys m_marbles m_farms m_holding m_spills m_acts m_draws m_bestRow m_bestMany m_noted m_hasImage m_tape m_code m_value r.2.2.2.2.1 r.2.2.2.2.2 m_testFrom m_sumFrom m_sumTo m_letters m_stack m_readRule m_readBoy m_readMarble m_readFarm m_rule m_boy m_marble m_farm m_now m_refused m_kept m_notePlace m_noteKind m_noteIs m_toldBy m_image ++ fr)) 0 [(0, .ref (aM B 0)), (1, .int p0)] [] (wdM B m_thrown m_size m_at m_wrong m_deep m_laws m_text m_readBoys m_readMarbles m_readFarms m_boys m_marbles m_farms m_holding m_spills m_acts m_draws m_bestRow m_bestMany m_noted m_hasImage m_tape m_code m_value m_codes m_clauses m_testFrom m_sumFrom m_sumTo m_letters m_stack m_readRule m_readBoy m_readMarble m_readFarm m_rule m_boy m_marble m_farm m_now m_refused m_kept m_notePlace m_noteKind m_noteIs m_toldBy m_image ++ fr) (f_M_open m_at m_wrong m_deep m_text m_codes m_clauses p0) := by
  unfold f_M_open
  refine h_aload_n hX dX11_open_0 rfl rfl ?_
  refine h_iload_n hX dX11_open_1 rfl rfl ?_
  refine put_RX11_113_M0 hX dX11_open_2 ?_
  refine h_aload_n hX dX11_open_5 rfl rfl ?_
  refine h_iconst hX dX11_open_6 ki_0 ?_
  refine put_RX11_103_M0 hX dX11_open_7 ?_
  refine h_aload_n hX dX11_open_10 rfl rfl ?_
  refine h_iconst hX dX11_open_11 ki_m1 ?_
  refine put_RX11_110_M0 hX dX11_open_12 ?_
  refine h_aload_n hX dX11_open_15 rfl rfl ?_
  refine h_iconst hX dX11_open_16 ki_0 ?_
  refine put_RX11_116_M0 hX dX11_open_17 ?_
  refine h_aload_n hX dX11_open_20 rfl rfl ?_
  refine get_RX11_19_M0 hX dX11_open_21 ?_
  refine h_iload_n hX dX11_open_24 rfl rfl ?_
  refine h_iconst hX dX11_open_25 ki_0 ?_
  refine ast_M4 hX dX11_open_26 ?_
  refine gH.letw (w := fun y => wdM B m_thrown m_size 0 ((-1)) 0 m_laws p0 m_readBoys m_readMarbles m_readFarms m_boys m_marbles m_farms m_holding m_spills m_acts m_draws m_bestRow m_bestMany m_noted m_hasImage m_tape m_code m_value y m_clauses m_testFrom m_sumFrom m_sumTo m_letters m_stack m_readRule m_readBoy m_readMarble m_readFarm m_rule m_boy m_marble m_farm m_now m_refused m_kept m_notePlace m_noteKind m_noteIs m_toldBy m_image ++ fr) (fun m_codes_1 => ?_)
  refine h_aload_n hX dX11_open_27 rfl rfl ?_
  refine get_RX11_22_M0 hX dX11_open_28 ?_
  refine h_iload_n hX dX11_open_31 rfl rfl ?_
  refine h_iconst hX dX11_open_32 ki_0 ?_
  refine ast_M5 hX dX11_open_33 ?_
  refine gH.letw (w := fun y => wdM B m_thrown m_size 0 ((-1)) 0 m_laws p0 m_readBoys m_readMarbles m_readFarms m_boys m_marbles m_farms m_holding m_spills m_acts m_draws m_bestRow m_bestMany m_noted m_hasImage m_tape m_code m_value m_codes_1 y m_testFrom m_sumFrom m_sumTo m_letters m_stack m_readRule m_readBoy m_readMarble m_readFarm m_rule m_boy m_marble m_farm m_now m_refused m_kept m_notePlace m_noteKind m_noteIs m_toldBy m_image ++ fr) (fun m_clauses_2 => ?_)
  exact h_ret hX (rv := none) dX11_open_34 trivial (fun h => h)
theorem c_M_open {p0 : Int32} {r : (Int32 × Int32 × Int32 × Int32 × (Nat → Int32) × (Nat → Int32))} (h : f_M_open m_at m_wrong m_deep m_text m_codes m_clauses p0 = some r) : gMet B 0 yX11_open cX11_open 2 none [.ref (aM B 0), .int p0] (wdM B m_thrown m_size m_at m_wrong m_deep m_laws m_text m_readBoys m_readMarbles m_readFarms m_boys m_marbles m_farms m_holding m_spills m_acts m_draws m_bestRow m_bestMany m_noted m_hasImage m_tape m_code m_value m_codes m_clauses m_testFrom m_sumFrom m_sumTo m_letters m_stack m_readRule m_readBoy m_readMarble m_readFarm m_rule m_boy m_marble m_farm m_now m_refused m_kept m_notePlace m_noteKind m_noteIs m_toldBy m_image ++ fr) (none) (wdM B m_thrown m_size r.1 r.2.1 r.2.2.1 m_laws r.2.2.2.1 m_readBoys m_readMarbles m_readFarms m_boys m_marbles m_farms m_holding m_spills m_acts m_draws m_bestRow m_bestMany m_noted m_hasImage m_tape m_code m_value r.2.2.2.2.1 r.2.2.2.2.2 m_testFrom m_sumFrom m_sumTo m_letters m_stack m_readRule m_readBoy m_readMarble m_readFarm m_rule m_boy m_marble m_farm m_now m_refused m_kept m_notePlace m_noteKind m_noteIs m_toldBy m_image ++ fr) :=
  gMet.of rfl (Nat.le_of_ble_eq_true rfl) (fun X hX hF => w_M_open hX r h hF)
set_option maxRecDepth 4000 in
theorem w_M_readLaw_J43 (hX : gOk B X RX11 cX11_readLaw 2 342 (some .int)) : gH B X (fun r : (Int32 × Int32 × Int32 × Int32 × Int32 × (Nat → Int32) × (Nat → Int32) × (Nat → Int32) × (Nat → Int32) × (Nat → Int32) × (Nat → Int32) × (Nat → Int32)) => gFin X (some (.int r.1)) (wdM B m_thrown m_size r.2.1 r.2.2.1 r.2.2.2.1 m_laws r.2.2.2.2.1 m_readBoys m_readMarbles m_readFarms m_boys m_marbles m_farms m_holding m_spills m_acts m_draws m_bestRow m_bestMany m_noted m_hasImage m_tape r.2.2.2.2.2.1 r.2.2.2.2.2.2.1 r.2.2.2.2.2.2.2.1 r.2.2.2.2.2.2.2.2.1 r.2.2.2.2.2.2.2.2.2.1 r.2.2.2.2.2.2.2.2.2.2.1 r.2.2.2.2.2.2.2.2.2.2.2 m_letters m_stack m_readRule m_readBoy m_readMarble m_readFarm m_rule m_boy m_marble m_farm m_now m_refused m_kept m_notePlace m_noteKind m_noteIs m_toldBy m_image ++ fr)) 43 [(0, .ref (aM B 0))] [] (wdM B m_thrown m_size m_at m_wrong m_deep m_laws m_text m_readBoys m_readMarbles m_readFarms m_boys m_marbles m_farms m_holding m_spills m_acts m_draws m_bestRow m_bestMany m_noted m_hasImage m_tape m_code m_value m_codes m_clauses m_testFrom m_sumFrom m_sumTo m_letters m_stack m_readRule m_readBoy m_readMarble m_readFarm m_rule m_boy m_marble m_farm m_now m_refused m_kept m_notePlace m_noteKind m_noteIs m_toldBy m_image ++ fr) (f_M_readLaw_J43 m_size m_at m_wrong m_deep m_text m_tape m_code m_value m_codes m_clauses m_testFrom m_sumFrom m_sumTo) := by
  unfold f_M_readLaw_J43
  refine h_aload_n hX dX11_readLaw_43 rfl rfl ?_
  refine h_callVi hX dX11_readLaw_44 (cv_RX11_180) rc_M0 (As := []) (st := []) (fun _ h => c_M_atEnd h) rfl rfl (by decide) (Nat.le_of_ble_eq_true rfl) (fun a_3 => ?_)
  exact h_ret hX (rv := some (.int a_3.1)) dX11_readLaw_47 trivial (fun h => h)
set_option maxRecDepth 4000 in
theorem w_M_readLaw_L9 (hX : gOk B X RX11 cX11_readLaw 2 342 (some .int)) (s : (Int32 × Int32 × Int32 × (Nat → Int32) × (Nat → Int32) × (Nat → Int32) × (Nat → Int32) × (Nat → Int32) × (Nat → Int32) × (Nat → Int32))) : gH B X (Sum.elim (fun s : (Int32 × Int32 × Int32 × (Nat → Int32) × (Nat → Int32) × (Nat → Int32) × (Nat → Int32) × (Nat → Int32) × (Nat → Int32) × (Nat → Int32)) => gG B X 9 [(0, .ref (aM B 0))] [] (wdM B m_thrown m_size s.1 s.2.1 s.2.2.1 m_laws m_text m_readBoys m_readMarbles m_readFarms m_boys m_marbles m_farms m_holding m_spills m_acts m_draws m_bestRow m_bestMany m_noted m_hasImage m_tape s.2.2.2.1 s.2.2.2.2.1 s.2.2.2.2.2.1 s.2.2.2.2.2.2.1 s.2.2.2.2.2.2.2.1 s.2.2.2.2.2.2.2.2.1 s.2.2.2.2.2.2.2.2.2 m_letters m_stack m_readRule m_readBoy m_readMarble m_readFarm m_rule m_boy m_marble m_farm m_now m_refused m_kept m_notePlace m_noteKind m_noteIs m_toldBy m_image ++ fr)) (fun r : (Int32 × Int32 × Int32 × Int32 × Int32 × (Nat → Int32) × (Nat → Int32) × (Nat → Int32) × (Nat → Int32) × (Nat → Int32) × (Nat → Int32) × (Nat → Int32)) => gFin X (some (.int r.1)) (wdM B m_thrown m_size r.2.1 r.2.2.1 r.2.2.2.1 m_laws r.2.2.2.2.1 m_readBoys m_readMarbles m_readFarms m_boys m_marbles m_farms m_holding m_spills m_acts m_draws m_bestRow m_bestMany m_noted m_hasImage m_tape r.2.2.2.2.2.1 r.2.2.2.2.2.2.1 r.2.2.2.2.2.2.2.1 r.2.2.2.2.2.2.2.2.1 r.2.2.2.2.2.2.2.2.2.1 r.2.2.2.2.2.2.2.2.2.2.1 r.2.2.2.2.2.2.2.2.2.2.2 m_letters m_stack m_readRule m_readBoy m_readMarble m_readFarm m_rule m_boy m_marble m_farm m_now m_refused m_kept m_notePlace m_noteKind m_noteIs m_toldBy m_image ++ fr))) 9 [(0, .ref (aM B 0))] [] (wdM B m_thrown m_size s.1 s.2.1 s.2.2.1 m_laws m_text m_readBoys m_readMarbles m_readFarms m_boys m_marbles m_farms m_holding m_spills m_acts m_draws m_bestRow m_bestMany m_noted m_hasImage m_tape s.2.2.2.1 s.2.2.2.2.1 s.2.2.2.2.2.1 s.2.2.2.2.2.2.1 s.2.2.2.2.2.2.2.1 s.2.2.2.2.2.2.2.2.1 s.2.2.2.2.2.2.2.2.2 m_letters m_stack m_readRule m_readBoy m_readMarble m_readFarm m_rule m_boy m_marble m_farm m_now m_refused m_kept m_notePlace m_noteKind m_noteIs m_toldBy m_image ++ fr) (f_M_readLaw_L9 m_size m_text m_tape s) := by
  unfold f_M_readLaw_L9
  refine h_aload_n hX dX11_readLaw_9 rfl rfl ?_
  refine get_RX11_110_M0 hX dX11_readLaw_10 ?_
  refine h_iconst hX dX11_readLaw_13 ki_m1 ?_
  refine h_icmp_ne hX dX11_readLaw_14 (tgt := 43) (by decide) (fun _ => ?_) (fun _ => ?_)
  · refine gH.inr ?_
    exact w_M_readLaw_J43 hX
  · refine h_aload_n hX dX11_readLaw_17 rfl rfl ?_
    refine h_callVi hX dX11_readLaw_18 (cv_RX11_122) rc_M0 (As := []) (st := []) (fun _ h => c_M_look h) rfl rfl (by decide) (Nat.le_of_ble_eq_true rfl) (fun a_4 => ?_)
    refine h_bipush hX dX11_readLaw_21 kb_59 ?_
    refine h_icmp_ne hX dX11_readLaw_23 (tgt := 43) (by decide) (fun _ => ?_) (fun _ => ?_)
    · refine gH.inr ?_
      exact w_M_readLaw_J43 hX
    · refine h_aload_n hX dX11_readLaw_26 rfl rfl ?_
      refine h_dup hX dX11_readLaw_27 rfl ?_
      refine get_RX11_103_M0 hX dX11_readLaw_28 ?_
      refine h_iconst hX dX11_readLaw_31 ki_1 ?_
      refine h_iadd hX dX11_readLaw_32 ?_
      refine put_RX11_103_M0 hX dX11_readLaw_33 ?_
      refine gH.letw (w := fun y => wdM B m_thrown m_size y s.2.1 s.2.2.1 m_laws m_text m_readBoys m_readMarbles m_readFarms m_boys m_marbles m_farms m_holding m_spills m_acts m_draws m_bestRow m_bestMany m_noted m_hasImage m_tape s.2.2.2.1 s.2.2.2.2.1 s.2.2.2.2.2.1 s.2.2.2.2.2.2.1 s.2.2.2.2.2.2.2.1 s.2.2.2.2.2.2.2.2.1 s.2.2.2.2.2.2.2.2.2 m_letters m_stack m_readRule m_readBoy m_readMarble m_readFarm m_rule m_boy m_marble m_farm m_now m_refused m_kept m_notePlace m_noteKind m_noteIs m_toldBy m_image ++ fr) (fun m_at_5 => ?_)
      refine h_aload_n hX dX11_readLaw_36 rfl rfl ?_
      refine h_callVv hX dX11_readLaw_37 (cv_RX11_177) rc_M0 (As := []) (st := []) (fun _ h => c_M_clause h) rfl rfl (by decide) (Nat.le_of_ble_eq_true rfl) (fun a_6 => ?_)
      refine h_goto hX dX11_readLaw_40 (tgt := 9) (by decide) ?_
      exact gH.some' (fun h => h)
set_option maxRecDepth 4000 in
theorem w_M_readLaw {p0 : Int32} (hX : gOk B X RX11 cX11_readLaw 2 342 (some .int)) : gH B X (fun r : (Int32 × Int32 × Int32 × Int32 × Int32 × (Nat → Int32) × (Nat → Int32) × (Nat → Int32) × (Nat → Int32) × (Nat → Int32) × (Nat → Int32) × (Nat → Int32)) => gFin X (some (.int r.1)) (wdM B m_thrown m_size r.2.1 r.2.2.1 r.2.2.2.1 m_laws r.2.2.2.2.1 m_readBoys m_readMarbles m_readFarms m_boys m_marbles m_farms m_holding m_spills m_acts m_draws m_bestRow m_bestMany m_noted m_hasImage m_tape r.2.2.2.2.2.1 r.2.2.2.2.2.2.1 r.2.2.2.2.2.2.2.1 r.2.2.2.2.2.2.2.2.1 r.2.2.2.2.2.2.2.2.2.1 r.2.2.2.2.2.2.2.2.2.2.1 r.2.2.2.2.2.2.2.2.2.2.2 m_letters m_stack m_readRule m_readBoy m_readMarble m_readFarm m_rule m_boy m_marble m_farm m_now m_refused m_kept m_notePlace m_noteKind m_noteIs m_toldBy m_image ++ fr)) 0 [(0, .ref (aM B 0)), (1, .int p0)] [] (wdM B m_thrown m_size m_at m_wrong m_deep m_laws m_text m_readBoys m_readMarbles m_readFarms m_boys m_marbles m_farms m_holding m_spills m_acts m_draws m_bestRow m_bestMany m_noted m_hasImage m_tape m_code m_value m_codes m_clauses m_testFrom m_sumFrom m_sumTo m_letters m_stack m_readRule m_readBoy m_readMarble m_readFarm m_rule m_boy m_marble m_farm m_now m_refused m_kept m_notePlace m_noteKind m_noteIs m_toldBy m_image ++ fr) (f_M_readLaw m_size m_at m_wrong m_deep m_text m_tape m_code m_value m_codes m_clauses m_testFrom m_sumFrom m_sumTo p0) := by
  unfold f_M_readLaw
  refine h_aload_n hX dX11_readLaw_0 rfl rfl ?_
  refine h_iload_n hX dX11_readLaw_1 rfl rfl ?_
  refine h_callVv hX dX11_readLaw_2 (cv_RX11_174) rc_M0 (As := [.int p0]) (st := []) (fun _ h => c_M_open h) rfl rfl (by decide) (Nat.le_of_ble_eq_true rfl) (fun a_1 => ?_)
  refine h_aload_n hX dX11_readLaw_5 rfl rfl ?_
  refine h_callVv hX dX11_readLaw_6 (cv_RX11_177) rc_M0 (As := []) (st := []) (fun _ h => c_M_clause h) rfl rfl (by decide) (Nat.le_of_ble_eq_true rfl) (fun a_2 => ?_)
  refine gH.dead [0] rfl ?_
  exact gH.loop (lvf := fun z : (Int32 × Int32 × Int32 × (Nat → Int32) × (Nat → Int32) × (Nat → Int32) × (Nat → Int32) × (Nat → Int32) × (Nat → Int32) × (Nat → Int32)) => [(0, .ref (aM B 0))]) (wf := fun z : (Int32 × Int32 × Int32 × (Nat → Int32) × (Nat → Int32) × (Nat → Int32) × (Nat → Int32) × (Nat → Int32) × (Nat → Int32) × (Nat → Int32)) => wdM B m_thrown m_size z.1 z.2.1 z.2.2.1 m_laws a_1.2.2.2.1 m_readBoys m_readMarbles m_readFarms m_boys m_marbles m_farms m_holding m_spills m_acts m_draws m_bestRow m_bestMany m_noted m_hasImage m_tape z.2.2.2.1 z.2.2.2.2.1 z.2.2.2.2.2.1 z.2.2.2.2.2.2.1 z.2.2.2.2.2.2.2.1 z.2.2.2.2.2.2.2.2.1 z.2.2.2.2.2.2.2.2.2 m_letters m_stack m_readRule m_readBoy m_readMarble m_readFarm m_rule m_boy m_marble m_farm m_now m_refused m_kept m_notePlace m_noteKind m_noteIs m_toldBy m_image ++ fr) (fun z => w_M_readLaw_L9 hX z) (a_2.1, a_2.2.1, a_2.2.2.1, a_2.2.2.2.1, a_2.2.2.2.2.1, a_2.2.2.2.2.2.1, a_2.2.2.2.2.2.2.1, a_2.2.2.2.2.2.2.2.1, a_2.2.2.2.2.2.2.2.2.1, a_2.2.2.2.2.2.2.2.2.2)
theorem c_M_readLaw {p0 : Int32} {r : (Int32 × Int32 × Int32 × Int32 × Int32 × (Nat → Int32) × (Nat → Int32) × (Nat → Int32) × (Nat → Int32) × (Nat → Int32) × (Nat → Int32) × (Nat → Int32))} (h : f_M_readLaw m_size m_at m_wrong m_deep m_text m_tape m_code m_value m_codes m_clauses m_testFrom m_sumFrom m_sumTo p0 = some r) : gMet B 342 yX11_readLaw cX11_readLaw 2 (some .int) [.ref (aM B 0), .int p0] (wdM B m_thrown m_size m_at m_wrong m_deep m_laws m_text m_readBoys m_readMarbles m_readFarms m_boys m_marbles m_farms m_holding m_spills m_acts m_draws m_bestRow m_bestMany m_noted m_hasImage m_tape m_code m_value m_codes m_clauses m_testFrom m_sumFrom m_sumTo m_letters m_stack m_readRule m_readBoy m_readMarble m_readFarm m_rule m_boy m_marble m_farm m_now m_refused m_kept m_notePlace m_noteKind m_noteIs m_toldBy m_image ++ fr) (some (.int r.1)) (wdM B m_thrown m_size r.2.1 r.2.2.1 r.2.2.2.1 m_laws r.2.2.2.2.1 m_readBoys m_readMarbles m_readFarms m_boys m_marbles m_farms m_holding m_spills m_acts m_draws m_bestRow m_bestMany m_noted m_hasImage m_tape r.2.2.2.2.2.1 r.2.2.2.2.2.2.1 r.2.2.2.2.2.2.2.1 r.2.2.2.2.2.2.2.2.1 r.2.2.2.2.2.2.2.2.2.1 r.2.2.2.2.2.2.2.2.2.2.1 r.2.2.2.2.2.2.2.2.2.2.2 m_letters m_stack m_readRule m_readBoy m_readMarble m_readFarm m_rule m_boy m_marble m_farm m_now m_refused m_kept m_notePlace m_noteKind m_noteIs m_toldBy m_image ++ fr) :=
  gMet.of rfl (Nat.le_of_ble_eq_true rfl) (fun X hX hF => w_M_readLaw hX r h hF)
set_option maxRecDepth 4000 in
theorem w_M_fault {p0 : Int32} (hX : gOk B X RX11 cX11_fault 2 343 (some .int)) : gH B X (fun r : (Int32 × Int32 × Int32 × Int32 × Int32 × Int32 × Int32 × Int32 × (Nat → Int32) × (Nat → Int32) × (Nat → Int32) × (Nat → Int32) × (Nat → Int32) × (Nat → Int32) × (Nat → Int32) × (Nat → Int32) × (Nat → Int32) × (Nat → Int32) × (Nat → Int32)) => gFin X (some (.int r.1)) (wdM B m_thrown m_size r.2.1 r.2.2.1 r.2.2.2.1 m_laws r.2.2.2.2.1 r.2.2.2.2.2.1 r.2.2.2.2.2.2.1 r.2.2.2.2.2.2.2.1 m_boys m_marbles m_farms m_holding m_spills m_acts m_draws m_bestRow m_bestMany m_noted m_hasImage m_tape r.2.2.2.2.2.2.2.2.1 r.2.2.2.2.2.2.2.2.2.1 r.2.2.2.2.2.2.2.2.2.2.1 r.2.2.2.2.2.2.2.2.2.2.2.1 r.2.2.2.2.2.2.2.2.2.2.2.2.1 r.2.2.2.2.2.2.2.2.2.2.2.2.2.1 r.2.2.2.2.2.2.2.2.2.2.2.2.2.2.1 m_letters m_stack r.2.2.2.2.2.2.2.2.2.2.2.2.2.2.2.1 r.2.2.2.2.2.2.2.2.2.2.2.2.2.2.2.2.1 r.2.2.2.2.2.2.2.2.2.2.2.2.2.2.2.2.2.1 r.2.2.2.2.2.2.2.2.2.2.2.2.2.2.2.2.2.2 m_rule m_boy m_marble m_farm m_now m_refused m_kept m_notePlace m_noteKind m_noteIs m_toldBy m_image ++ fr)) 0 [(0, .ref (aM B 0)), (1, .int p0)] [] (wdM B m_thrown m_size m_at m_wrong m_deep m_laws m_text m_readBoys m_readMarbles m_readFarms m_boys m_marbles m_farms m_holding m_spills m_acts m_draws m_bestRow m_bestMany m_noted m_hasImage m_tape m_code m_value m_codes m_clauses m_testFrom m_sumFrom m_sumTo m_letters m_stack m_readRule m_readBoy m_readMarble m_readFarm m_rule m_boy m_marble m_farm m_now m_refused m_kept m_notePlace m_noteKind m_noteIs m_toldBy m_image ++ fr) (f_M_fault m_size m_at m_wrong m_deep m_text m_readBoys m_readMarbles m_readFarms m_tape m_code m_value m_codes m_clauses m_testFrom m_sumFrom m_sumTo m_readRule m_readBoy m_readMarble m_readFarm p0) := by
  unfold f_M_fault
  refine h_iload_n hX dX11_fault_0 rfl rfl ?_
  refine h_if_ne hX dX11_fault_1 (tgt := 11) (by decide) (fun _ => ?_) (fun _ => ?_)
  · refine h_iload_n hX dX11_fault_11 rfl rfl ?_
    refine h_iconst hX dX11_fault_12 ki_1 ?_
    refine h_icmp_ne hX dX11_fault_13 (tgt := 24) (by decide) (fun _ => ?_) (fun _ => ?_)
    · refine h_bipush hX dX11_fault_24 kb_m2 ?_
      exact h_ret hX (rv := some (.int ((-2)))) dX11_fault_26 trivial (fun h => h)
    · refine h_aload_n hX dX11_fault_16 rfl rfl ?_
      refine h_iconst hX dX11_fault_17 ki_4 ?_
      refine h_callVi hX dX11_fault_18 (cv_RX11_255) rc_M0 (As := [.int 4]) (st := []) (fun _ h => c_M_readLaw h) rfl rfl (by decide) (Nat.le_of_ble_eq_true rfl) (fun a_1 => ?_)
      refine h_goto hX dX11_fault_21 (tgt := 26) (by decide) ?_
      exact h_ret hX (rv := some (.int a_1.1)) dX11_fault_26 trivial (fun h => h)
  · refine h_aload_n hX dX11_fault_4 rfl rfl ?_
    refine h_callVi hX dX11_fault_5 (cv_RX11_252) rc_M0 (As := []) (st := []) (fun _ h => c_M_readYard h) rfl rfl (by decide) (Nat.le_of_ble_eq_true rfl) (fun a_2 => ?_)
    refine h_goto hX dX11_fault_8 (tgt := 26) (by decide) ?_
    exact h_ret hX (rv := some (.int a_2.1)) dX11_fault_26 trivial (fun h => h)
theorem c_M_fault {p0 : Int32} {r : (Int32 × Int32 × Int32 × Int32 × Int32 × Int32 × Int32 × Int32 × (Nat → Int32) × (Nat → Int32) × (Nat → Int32) × (Nat → Int32) × (Nat → Int32) × (Nat → Int32) × (Nat → Int32) × (Nat → Int32) × (Nat → Int32) × (Nat → Int32) × (Nat → Int32))} (h : f_M_fault m_size m_at m_wrong m_deep m_text m_readBoys m_readMarbles m_readFarms m_tape m_code m_value m_codes m_clauses m_testFrom m_sumFrom m_sumTo m_readRule m_readBoy m_readMarble m_readFarm p0 = some r) : gMet B 343 yX11_fault cX11_fault 2 (some .int) [.ref (aM B 0), .int p0] (wdM B m_thrown m_size m_at m_wrong m_deep m_laws m_text m_readBoys m_readMarbles m_readFarms m_boys m_marbles m_farms m_holding m_spills m_acts m_draws m_bestRow m_bestMany m_noted m_hasImage m_tape m_code m_value m_codes m_clauses m_testFrom m_sumFrom m_sumTo m_letters m_stack m_readRule m_readBoy m_readMarble m_readFarm m_rule m_boy m_marble m_farm m_now m_refused m_kept m_notePlace m_noteKind m_noteIs m_toldBy m_image ++ fr) (some (.int r.1)) (wdM B m_thrown m_size r.2.1 r.2.2.1 r.2.2.2.1 m_laws r.2.2.2.2.1 r.2.2.2.2.2.1 r.2.2.2.2.2.2.1 r.2.2.2.2.2.2.2.1 m_boys m_marbles m_farms m_holding m_spills m_acts m_draws m_bestRow m_bestMany m_noted m_hasImage m_tape r.2.2.2.2.2.2.2.2.1 r.2.2.2.2.2.2.2.2.2.1 r.2.2.2.2.2.2.2.2.2.2.1 r.2.2.2.2.2.2.2.2.2.2.2.1 r.2.2.2.2.2.2.2.2.2.2.2.2.1 r.2.2.2.2.2.2.2.2.2.2.2.2.2.1 r.2.2.2.2.2.2.2.2.2.2.2.2.2.2.1 m_letters m_stack r.2.2.2.2.2.2.2.2.2.2.2.2.2.2.2.1 r.2.2.2.2.2.2.2.2.2.2.2.2.2.2.2.2.1 r.2.2.2.2.2.2.2.2.2.2.2.2.2.2.2.2.2.1 r.2.2.2.2.2.2.2.2.2.2.2.2.2.2.2.2.2.2 m_rule m_boy m_marble m_farm m_now m_refused m_kept m_notePlace m_noteKind m_noteIs m_toldBy m_image ++ fr) :=
  gMet.of rfl (Nat.le_of_ble_eq_true rfl) (fun X hX hF => w_M_fault hX r h hF)
set_option maxRecDepth 4000 in
theorem w_M_feed_J109 {v1 : Int32} {v2 : Int32} {v3 : Int32} {v4 : Int32} {v5 : Int32} {v7 : Int32} (hX : gOk B X RX11 cX11_feed 9 1 (some .int)) : gH B X (Sum.elim (fun s : (Int32 × Int32 × (Nat → Int32)) => gG B X 62 [(0, .ref (aM B 0)), (1, .int v1), (2, .int v2), (3, .int v3), (4, .int v4), (5, .int v5), (7, .int s.1)] [] (wdM B m_thrown s.2.1 m_at m_wrong m_deep m_laws m_text m_readBoys m_readMarbles m_readFarms m_boys m_marbles m_farms m_holding m_spills m_acts m_draws m_bestRow m_bestMany m_noted m_hasImage s.2.2 m_code m_value m_codes m_clauses m_testFrom m_sumFrom m_sumTo m_letters m_stack m_readRule m_readBoy m_readMarble m_readFarm m_rule m_boy m_marble m_farm m_now m_refused m_kept m_notePlace m_noteKind m_noteIs m_toldBy m_image ++ fr)) (fun r : (Int32 × Int32 × (Nat → Int32)) => gFin X (some (.int r.1)) (wdM B m_thrown r.2.1 m_at m_wrong m_deep m_laws m_text m_readBoys m_readMarbles m_readFarms m_boys m_marbles m_farms m_holding m_spills m_acts m_draws m_bestRow m_bestMany m_noted m_hasImage r.2.2 m_code m_value m_codes m_clauses m_testFrom m_sumFrom m_sumTo m_letters m_stack m_readRule m_readBoy m_readMarble m_readFarm m_rule m_boy m_marble m_farm m_now m_refused m_kept m_notePlace m_noteKind m_noteIs m_toldBy m_image ++ fr))) 109 [(0, .ref (aM B 0)), (1, .int v1), (2, .int v2), (3, .int v3), (4, .int v4), (5, .int v5), (7, .int v7)] [] (wdM B m_thrown m_size m_at m_wrong m_deep m_laws m_text m_readBoys m_readMarbles m_readFarms m_boys m_marbles m_farms m_holding m_spills m_acts m_draws m_bestRow m_bestMany m_noted m_hasImage m_tape m_code m_value m_codes m_clauses m_testFrom m_sumFrom m_sumTo m_letters m_stack m_readRule m_readBoy m_readMarble m_readFarm m_rule m_boy m_marble m_farm m_now m_refused m_kept m_notePlace m_noteKind m_noteIs m_toldBy m_image ++ fr) (f_M_feed_J109 m_size m_tape v7) := by
  unfold f_M_feed_J109
  refine h_iincc hX dX11_feed_109 rfl ki_1 (by decide) (lv' := [(0, .ref (aM B 0)), (1, .int v1), (2, .int v2), (3, .int v3), (4, .int v4), (5, .int v5), (7, .int (v7 + 1))]) rfl ?_
  refine h_goto hX dX11_feed_112 (tgt := 62) (by decide) ?_
  exact gH.some' (fun h => h)
set_option maxRecDepth 4000 in
theorem w_M_feed_L62 {v1 : Int32} {v2 : Int32} {v3 : Int32} {v4 : Int32} {v5 : Int32} (hX : gOk B X RX11 cX11_feed 9 1 (some .int)) (s : (Int32 × Int32 × (Nat → Int32))) : gH B X (Sum.elim (fun s : (Int32 × Int32 × (Nat → Int32)) => gG B X 62 [(0, .ref (aM B 0)), (1, .int v1), (2, .int v2), (3, .int v3), (4, .int v4), (5, .int v5), (7, .int s.1)] [] (wdM B m_thrown s.2.1 m_at m_wrong m_deep m_laws m_text m_readBoys m_readMarbles m_readFarms m_boys m_marbles m_farms m_holding m_spills m_acts m_draws m_bestRow m_bestMany m_noted m_hasImage s.2.2 m_code m_value m_codes m_clauses m_testFrom m_sumFrom m_sumTo m_letters m_stack m_readRule m_readBoy m_readMarble m_readFarm m_rule m_boy m_marble m_farm m_now m_refused m_kept m_notePlace m_noteKind m_noteIs m_toldBy m_image ++ fr)) (fun r : (Int32 × Int32 × (Nat → Int32)) => gFin X (some (.int r.1)) (wdM B m_thrown r.2.1 m_at m_wrong m_deep m_laws m_text m_readBoys m_readMarbles m_readFarms m_boys m_marbles m_farms m_holding m_spills m_acts m_draws m_bestRow m_bestMany m_noted m_hasImage r.2.2 m_code m_value m_codes m_clauses m_testFrom m_sumFrom m_sumTo m_letters m_stack m_readRule m_readBoy m_readMarble m_readFarm m_rule m_boy m_marble m_farm m_now m_refused m_kept m_notePlace m_noteKind m_noteIs m_toldBy m_image ++ fr))) 62 [(0, .ref (aM B 0)), (1, .int v1), (2, .int v2), (3, .int v3), (4, .int v4), (5, .int v5), (7, .int s.1)] [] (wdM B m_thrown s.2.1 m_at m_wrong m_deep m_laws m_text m_readBoys m_readMarbles m_readFarms m_boys m_marbles m_farms m_holding m_spills m_acts m_draws m_bestRow m_bestMany m_noted m_hasImage s.2.2 m_code m_value m_codes m_clauses m_testFrom m_sumFrom m_sumTo m_letters m_stack m_readRule m_readBoy m_readMarble m_readFarm m_rule m_boy m_marble m_farm m_now m_refused m_kept m_notePlace m_noteKind m_noteIs m_toldBy m_image ++ fr) (f_M_feed_L62 v1 v2 v3 v4 v5 s) := by
  unfold f_M_feed_L62
  refine h_iload hX dX11_feed_62 rfl ?_
  refine h_bipush hX dX11_feed_64 kb_20 ?_
  refine h_icmp_ge hX dX11_feed_66 (tgt := 115) (by decide) (fun _ => ?_) (fun _ => ?_)
  · refine h_aload_n hX dX11_feed_115 rfl rfl ?_
    refine get_RX11_100_M0 hX dX11_feed_116 ?_
    exact h_ret hX (rv := some (.int s.2.1)) dX11_feed_119 trivial (fun h => h)
  · refine h_iload_n hX dX11_feed_69 rfl rfl ?_
    refine h_iload_n hX dX11_feed_70 rfl rfl ?_
    refine h_iload_n hX dX11_feed_71 rfl rfl ?_
    refine h_iload hX dX11_feed_72 rfl ?_
    refine h_iload hX dX11_feed_74 rfl ?_
    refine h_iload hX dX11_feed_76 rfl ?_
    refine h_callSi hX dX11_feed_78 (cs_RX11_96) (As := [.int v1, .int v2, .int v3, .int v4, .int v5, .int s.1]) (st := []) (fun _ h => c_M_byteOf h) rfl rfl (by decide) (Nat.le_of_ble_eq_true rfl) (fun a_1 => ?_)
    refine h_istore hX dX11_feed_81 (by decide) (lv' := [(0, .ref (aM B 0)), (1, .int v1), (2, .int v2), (3, .int v3), (4, .int v4), (5, .int v5), (7, .int s.1), (8, .int a_1)]) rfl ?_
    refine h_iload hX dX11_feed_83 rfl ?_
    refine h_if_eq hX dX11_feed_85 (tgt := 109) (by decide) (fun _ => ?_) (fun _ => ?_)
    · refine gH.dead [0, 1, 2, 3, 4, 5, 6] rfl ?_
      exact w_M_feed_J109 hX
    · refine h_aload_n hX dX11_feed_88 rfl rfl ?_
      refine get_RX11_9_M0 hX dX11_feed_89 ?_
      refine h_aload_n hX dX11_feed_92 rfl rfl ?_
      refine get_RX11_100_M0 hX dX11_feed_93 ?_
      refine h_iload hX dX11_feed_96 rfl ?_
      refine ast_M1 hX dX11_feed_98 ?_
      refine gH.letw (w := fun y => wdM B m_thrown s.2.1 m_at m_wrong m_deep m_laws m_text m_readBoys m_readMarbles m_readFarms m_boys m_marbles m_farms m_holding m_spills m_acts m_draws m_bestRow m_bestMany m_noted m_hasImage y m_code m_value m_codes m_clauses m_testFrom m_sumFrom m_sumTo m_letters m_stack m_readRule m_readBoy m_readMarble m_readFarm m_rule m_boy m_marble m_farm m_now m_refused m_kept m_notePlace m_noteKind m_noteIs m_toldBy m_image ++ fr) (fun m_tape_3 => ?_)
      refine h_aload_n hX dX11_feed_99 rfl rfl ?_
      refine h_dup hX dX11_feed_100 rfl ?_
      refine get_RX11_100_M0 hX dX11_feed_101 ?_
      refine h_iconst hX dX11_feed_104 ki_1 ?_
      refine h_iadd hX dX11_feed_105 ?_
      refine put_RX11_100_M0 hX dX11_feed_106 ?_
      refine gH.letw (w := fun y => wdM B m_thrown y m_at m_wrong m_deep m_laws m_text m_readBoys m_readMarbles m_readFarms m_boys m_marbles m_farms m_holding m_spills m_acts m_draws m_bestRow m_bestMany m_noted m_hasImage m_tape_3 m_code m_value m_codes m_clauses m_testFrom m_sumFrom m_sumTo m_letters m_stack m_readRule m_readBoy m_readMarble m_readFarm m_rule m_boy m_marble m_farm m_now m_refused m_kept m_notePlace m_noteKind m_noteIs m_toldBy m_image ++ fr) (fun m_size_4 => ?_)
      refine gH.dead [0, 1, 2, 3, 4, 5, 6] rfl ?_
      exact w_M_feed_J109 hX
set_option maxRecDepth 4000 in
theorem w_M_feed_J35 {v1 : Int32} {v2 : Int32} {v3 : Int32} {v4 : Int32} {v5 : Int32} {v7 : Int32} {k0 : Int32} {k1 : Int32} (hX : gOk B X RX11 cX11_feed 9 1 (some .int)) : gH B X (Sum.elim (fun s : (Int32 × Int32) => gG B X 6 [(0, .ref (aM B 0)), (1, .int v1), (2, .int v2), (3, .int v3), (4, .int v4), (5, .int v5), (6, .int s.1), (7, .int s.2)] [] (wdM B m_thrown m_size m_at m_wrong m_deep m_laws m_text m_readBoys m_readMarbles m_readFarms m_boys m_marbles m_farms m_holding m_spills m_acts m_draws m_bestRow m_bestMany m_noted m_hasImage m_tape m_code m_value m_codes m_clauses m_testFrom m_sumFrom m_sumTo m_letters m_stack m_readRule m_readBoy m_readMarble m_readFarm m_rule m_boy m_marble m_farm m_now m_refused m_kept m_notePlace m_noteKind m_noteIs m_toldBy m_image ++ fr)) (fun r : (Int32 × Int32 × (Nat → Int32)) => gFin X (some (.int r.1)) (wdM B m_thrown r.2.1 m_at m_wrong m_deep m_laws m_text m_readBoys m_readMarbles m_readFarms m_boys m_marbles m_farms m_holding m_spills m_acts m_draws m_bestRow m_bestMany m_noted m_hasImage r.2.2 m_code m_value m_codes m_clauses m_testFrom m_sumFrom m_sumTo m_letters m_stack m_readRule m_readBoy m_readMarble m_readFarm m_rule m_boy m_marble m_farm m_now m_refused m_kept m_notePlace m_noteKind m_noteIs m_toldBy m_image ++ fr))) 35 [(0, .ref (aM B 0)), (1, .int v1), (2, .int v2), (3, .int v3), (4, .int v4), (5, .int v5), (7, .int v7)] [.int k1, .int k0] (wdM B m_thrown m_size m_at m_wrong m_deep m_laws m_text m_readBoys m_readMarbles m_readFarms m_boys m_marbles m_farms m_holding m_spills m_acts m_draws m_bestRow m_bestMany m_noted m_hasImage m_tape m_code m_value m_codes m_clauses m_testFrom m_sumFrom m_sumTo m_letters m_stack m_readRule m_readBoy m_readMarble m_readFarm m_rule m_boy m_marble m_farm m_now m_refused m_kept m_notePlace m_noteKind m_noteIs m_toldBy m_image ++ fr) (f_M_feed_J35 v7 k0 k1) := by
  unfold f_M_feed_J35
  refine h_iadd hX dX11_feed_35 ?_
  refine gH.leti (fun v6_6 => ?_)
  refine h_istore hX dX11_feed_36 (by decide) (lv' := [(0, .ref (aM B 0)), (1, .int v1), (2, .int v2), (3, .int v3), (4, .int v4), (5, .int v5), (6, .int v6_6), (7, .int v7)]) rfl ?_
  refine h_iincc hX dX11_feed_38 rfl ki_1 (by decide) (lv' := [(0, .ref (aM B 0)), (1, .int v1), (2, .int v2), (3, .int v3), (4, .int v4), (5, .int v5), (6, .int v6_6), (7, .int (v7 + 1))]) rfl ?_
  refine h_goto hX dX11_feed_41 (tgt := 6) (by decide) ?_
  exact gH.some' (fun h => h)
set_option maxRecDepth 4000 in
theorem w_M_feed_L6 {v1 : Int32} {v2 : Int32} {v3 : Int32} {v4 : Int32} {v5 : Int32} (hX : gOk B X RX11 cX11_feed 9 1 (some .int)) (s : (Int32 × Int32)) : gH B X (Sum.elim (fun s : (Int32 × Int32) => gG B X 6 [(0, .ref (aM B 0)), (1, .int v1), (2, .int v2), (3, .int v3), (4, .int v4), (5, .int v5), (6, .int s.1), (7, .int s.2)] [] (wdM B m_thrown m_size m_at m_wrong m_deep m_laws m_text m_readBoys m_readMarbles m_readFarms m_boys m_marbles m_farms m_holding m_spills m_acts m_draws m_bestRow m_bestMany m_noted m_hasImage m_tape m_code m_value m_codes m_clauses m_testFrom m_sumFrom m_sumTo m_letters m_stack m_readRule m_readBoy m_readMarble m_readFarm m_rule m_boy m_marble m_farm m_now m_refused m_kept m_notePlace m_noteKind m_noteIs m_toldBy m_image ++ fr)) (fun r : (Int32 × Int32 × (Nat → Int32)) => gFin X (some (.int r.1)) (wdM B m_thrown r.2.1 m_at m_wrong m_deep m_laws m_text m_readBoys m_readMarbles m_readFarms m_boys m_marbles m_farms m_holding m_spills m_acts m_draws m_bestRow m_bestMany m_noted m_hasImage r.2.2 m_code m_value m_codes m_clauses m_testFrom m_sumFrom m_sumTo m_letters m_stack m_readRule m_readBoy m_readMarble m_readFarm m_rule m_boy m_marble m_farm m_now m_refused m_kept m_notePlace m_noteKind m_noteIs m_toldBy m_image ++ fr))) 6 [(0, .ref (aM B 0)), (1, .int v1), (2, .int v2), (3, .int v3), (4, .int v4), (5, .int v5), (6, .int s.1), (7, .int s.2)] [] (wdM B m_thrown m_size m_at m_wrong m_deep m_laws m_text m_readBoys m_readMarbles m_readFarms m_boys m_marbles m_farms m_holding m_spills m_acts m_draws m_bestRow m_bestMany m_noted m_hasImage m_tape m_code m_value m_codes m_clauses m_testFrom m_sumFrom m_sumTo m_letters m_stack m_readRule m_readBoy m_readMarble m_readFarm m_rule m_boy m_marble m_farm m_now m_refused m_kept m_notePlace m_noteKind m_noteIs m_toldBy m_image ++ fr) (f_M_feed_L6 m_size m_tape v1 v2 v3 v4 v5 s) := by
  unfold f_M_feed_L6
  refine h_iload hX dX11_feed_6 rfl ?_
  refine h_bipush hX dX11_feed_8 kb_20 ?_
  refine h_icmp_ge hX dX11_feed_10 (tgt := 44) (by decide) (fun _ => ?_) (fun _ => ?_)
  · refine gH.inr ?_
    refine h_aload_n hX dX11_feed_44 rfl rfl ?_
    refine get_RX11_100_M0 hX dX11_feed_45 ?_
    refine h_iload hX dX11_feed_48 rfl ?_
    refine h_iadd hX dX11_feed_50 ?_
    refine h_sipush hX dX11_feed_51 ks_240 ?_
    refine h_icmp_le hX dX11_feed_54 (tgt := 59) (by decide) (fun _ => ?_) (fun _ => ?_)
    · refine h_iconst hX dX11_feed_59 ki_0 ?_
      refine h_istore hX dX11_feed_60 (by decide) (lv' := [(0, .ref (aM B 0)), (1, .int v1), (2, .int v2), (3, .int v3), (4, .int v4), (5, .int v5), (6, .int s.1), (7, .int 0)]) rfl ?_
      refine gH.dead [0, 1, 2, 3, 4, 5, 7] rfl ?_
      exact gH.loop (lvf := fun z : (Int32 × Int32 × (Nat → Int32)) => [(0, .ref (aM B 0)), (1, .int v1), (2, .int v2), (3, .int v3), (4, .int v4), (5, .int v5), (7, .int z.1)]) (wf := fun z : (Int32 × Int32 × (Nat → Int32)) => wdM B m_thrown z.2.1 m_at m_wrong m_deep m_laws m_text m_readBoys m_readMarbles m_readFarms m_boys m_marbles m_farms m_holding m_spills m_acts m_draws m_bestRow m_bestMany m_noted m_hasImage z.2.2 m_code m_value m_codes m_clauses m_testFrom m_sumFrom m_sumTo m_letters m_stack m_readRule m_readBoy m_readMarble m_readFarm m_rule m_boy m_marble m_farm m_now m_refused m_kept m_notePlace m_noteKind m_noteIs m_toldBy m_image ++ fr) (fun z => w_M_feed_L62 hX z) (0, m_size, m_tape)
    · refine h_iconst hX dX11_feed_57 ki_m1 ?_
      exact h_ret hX (rv := some (.int ((-1)))) dX11_feed_58 trivial (fun h => h)
  · refine h_iload hX dX11_feed_13 rfl ?_
    refine h_iload_n hX dX11_feed_15 rfl rfl ?_
    refine h_iload_n hX dX11_feed_16 rfl rfl ?_
    refine h_iload_n hX dX11_feed_17 rfl rfl ?_
    refine h_iload hX dX11_feed_18 rfl ?_
    refine h_iload hX dX11_feed_20 rfl ?_
    refine h_iload hX dX11_feed_22 rfl ?_
    refine h_callSi hX dX11_feed_24 (cs_RX11_96) (As := [.int v1, .int v2, .int v3, .int v4, .int v5, .int s.2]) (st := [.int s.1]) (fun _ h => c_M_byteOf h) rfl rfl (by decide) (Nat.le_of_ble_eq_true rfl) (fun a_5 => ?_)
    refine h_if_eq hX dX11_feed_27 (tgt := 34) (by decide) (fun _ => ?_) (fun _ => ?_)
    · refine h_iconst hX dX11_feed_34 ki_0 ?_
      refine gH.dead [0, 1, 2, 3, 4, 5, 7] rfl ?_
      exact w_M_feed_J35 hX
    · refine h_iconst hX dX11_feed_30 ki_1 ?_
      refine h_goto hX dX11_feed_31 (tgt := 35) (by decide) ?_
      refine gH.dead [0, 1, 2, 3, 4, 5, 7] rfl ?_
      exact w_M_feed_J35 hX
set_option maxRecDepth 4000 in
theorem w_M_feed {p0 : Int32} {p1 : Int32} {p2 : Int32} {p3 : Int32} {p4 : Int32} (hX : gOk B X RX11 cX11_feed 9 1 (some .int)) : gH B X (fun r : (Int32 × Int32 × (Nat → Int32)) => gFin X (some (.int r.1)) (wdM B m_thrown r.2.1 m_at m_wrong m_deep m_laws m_text m_readBoys m_readMarbles m_readFarms m_boys m_marbles m_farms m_holding m_spills m_acts m_draws m_bestRow m_bestMany m_noted m_hasImage r.2.2 m_code m_value m_codes m_clauses m_testFrom m_sumFrom m_sumTo m_letters m_stack m_readRule m_readBoy m_readMarble m_readFarm m_rule m_boy m_marble m_farm m_now m_refused m_kept m_notePlace m_noteKind m_noteIs m_toldBy m_image ++ fr)) 0 [(0, .ref (aM B 0)), (1, .int p0), (2, .int p1), (3, .int p2), (4, .int p3), (5, .int p4)] [] (wdM B m_thrown m_size m_at m_wrong m_deep m_laws m_text m_readBoys m_readMarbles m_readFarms m_boys m_marbles m_farms m_holding m_spills m_acts m_draws m_bestRow m_bestMany m_noted m_hasImage m_tape m_code m_value m_codes m_clauses m_testFrom m_sumFrom m_sumTo m_letters m_stack m_readRule m_readBoy m_readMarble m_readFarm m_rule m_boy m_marble m_farm m_now m_refused m_kept m_notePlace m_noteKind m_noteIs m_toldBy m_image ++ fr) (f_M_feed m_size m_tape p0 p1 p2 p3 p4) := by
  unfold f_M_feed
  refine h_iconst hX dX11_feed_0 ki_0 ?_
  refine h_istore hX dX11_feed_1 (by decide) (lv' := [(0, .ref (aM B 0)), (1, .int p0), (2, .int p1), (3, .int p2), (4, .int p3), (5, .int p4), (6, .int 0)]) rfl ?_
  refine h_iconst hX dX11_feed_3 ki_0 ?_
  refine h_istore hX dX11_feed_4 (by decide) (lv' := [(0, .ref (aM B 0)), (1, .int p0), (2, .int p1), (3, .int p2), (4, .int p3), (5, .int p4), (6, .int 0), (7, .int 0)]) rfl ?_
  exact gH.loop (lvf := fun z : (Int32 × Int32) => [(0, .ref (aM B 0)), (1, .int p0), (2, .int p1), (3, .int p2), (4, .int p3), (5, .int p4), (6, .int z.1), (7, .int z.2)]) (wf := fun z : (Int32 × Int32) => wdM B m_thrown m_size m_at m_wrong m_deep m_laws m_text m_readBoys m_readMarbles m_readFarms m_boys m_marbles m_farms m_holding m_spills m_acts m_draws m_bestRow m_bestMany m_noted m_hasImage m_tape m_code m_value m_codes m_clauses m_testFrom m_sumFrom m_sumTo m_letters m_stack m_readRule m_readBoy m_readMarble m_readFarm m_rule m_boy m_marble m_farm m_now m_refused m_kept m_notePlace m_noteKind m_noteIs m_toldBy m_image ++ fr) (fun z => w_M_feed_L6 hX z) (0, 0)
theorem c_M_feed {p0 : Int32} {p1 : Int32} {p2 : Int32} {p3 : Int32} {p4 : Int32} {r : (Int32 × Int32 × (Nat → Int32))} (h : f_M_feed m_size m_tape p0 p1 p2 p3 p4 = some r) : gMet B 1 yX11_feed cX11_feed 9 (some .int) [.ref (aM B 0), .int p0, .int p1, .int p2, .int p3, .int p4] (wdM B m_thrown m_size m_at m_wrong m_deep m_laws m_text m_readBoys m_readMarbles m_readFarms m_boys m_marbles m_farms m_holding m_spills m_acts m_draws m_bestRow m_bestMany m_noted m_hasImage m_tape m_code m_value m_codes m_clauses m_testFrom m_sumFrom m_sumTo m_letters m_stack m_readRule m_readBoy m_readMarble m_readFarm m_rule m_boy m_marble m_farm m_now m_refused m_kept m_notePlace m_noteKind m_noteIs m_toldBy m_image ++ fr) (some (.int r.1)) (wdM B m_thrown r.2.1 m_at m_wrong m_deep m_laws m_text m_readBoys m_readMarbles m_readFarms m_boys m_marbles m_farms m_holding m_spills m_acts m_draws m_bestRow m_bestMany m_noted m_hasImage r.2.2 m_code m_value m_codes m_clauses m_testFrom m_sumFrom m_sumTo m_letters m_stack m_readRule m_readBoy m_readMarble m_readFarm m_rule m_boy m_marble m_farm m_now m_refused m_kept m_notePlace m_noteKind m_noteIs m_toldBy m_image ++ fr) :=
  gMet.of rfl (Nat.le_of_ble_eq_true rfl) (fun X hX hF => w_M_feed hX r h hF)
set_option maxRecDepth 4000 in
theorem w_M_whyNotPlay {p0 : Int32} {p1 : Int32} {p2 : Int32} {p3 : Int32} (hX : gOk B X RX11 cX11_whyNotPlay 6 3 (some .int)) : gH B X (fun r : Int32 => gFin X (some (.int r)) (wdM B m_thrown m_size m_at m_wrong m_deep m_laws m_text m_readBoys m_readMarbles m_readFarms m_boys m_marbles m_farms m_holding m_spills m_acts m_draws m_bestRow m_bestMany m_noted m_hasImage m_tape m_code m_value m_codes m_clauses m_testFrom m_sumFrom m_sumTo m_letters m_stack m_readRule m_readBoy m_readMarble m_readFarm m_rule m_boy m_marble m_farm m_now m_refused m_kept m_notePlace m_noteKind m_noteIs m_toldBy m_image ++ fr)) 0 [(0, .ref (aM B 0)), (1, .int p0), (2, .int p1), (3, .int p2), (4, .int p3)] [] (wdM B m_thrown m_size m_at m_wrong m_deep m_laws m_text m_readBoys m_readMarbles m_readFarms m_boys m_marbles m_farms m_holding m_spills m_acts m_draws m_bestRow m_bestMany m_noted m_hasImage m_tape m_code m_value m_codes m_clauses m_testFrom m_sumFrom m_sumTo m_letters m_stack m_readRule m_readBoy m_readMarble m_readFarm m_rule m_boy m_marble m_farm m_now m_refused m_kept m_notePlace m_noteKind m_noteIs m_toldBy m_image ++ fr) (f_M_whyNotPlay m_marbles m_now p0 p1 p2 p3) := by
  unfold f_M_whyNotPlay
  refine h_aload_n hX dX11_whyNotPlay_0 rfl rfl ?_
  refine h_iload_n hX dX11_whyNotPlay_1 rfl rfl ?_
  refine h_iload_n hX dX11_whyNotPlay_2 rfl rfl ?_
  refine h_callVi hX dX11_whyNotPlay_3 (cv_RX11_335) rc_M0 (As := [.int p0, .int p2]) (st := []) (fun _ h => c_M_whyNot h) rfl rfl (by decide) (Nat.le_of_ble_eq_true rfl) (fun a_1 => ?_)
  refine h_istore hX dX11_whyNotPlay_6 (by decide) (lv' := [(0, .ref (aM B 0)), (1, .int p0), (2, .int p1), (3, .int p2), (4, .int p3), (5, .int a_1)]) rfl ?_
  refine h_iload hX dX11_whyNotPlay_8 rfl ?_
  refine h_if_ne hX dX11_whyNotPlay_10 (tgt := 17) (by decide) (fun _ => ?_) (fun _ => ?_)
  · refine h_iload_n hX dX11_whyNotPlay_17 rfl rfl ?_
    refine h_callSi hX dX11_whyNotPlay_18 (cs_RX11_338) (As := [.int p1]) (st := []) (fun _ h => c_M_isPower h) rfl rfl (by decide) (Nat.le_of_ble_eq_true rfl) (fun a_2 => ?_)
    refine h_if_eq hX dX11_whyNotPlay_21 (tgt := 32) (by decide) (fun _ => ?_) (fun _ => ?_)
    · refine h_iconst hX dX11_whyNotPlay_32 ki_1 ?_
      refine h_goto hX dX11_whyNotPlay_33 (tgt := 38) (by decide) ?_
      exact h_ret hX (rv := some (.int 1)) dX11_whyNotPlay_38 trivial (fun h => h)
    · refine h_iload hX dX11_whyNotPlay_24 rfl ?_
      refine h_callSi hX dX11_whyNotPlay_26 (cs_RX11_338) (As := [.int p3]) (st := []) (fun _ h => c_M_isPower h) rfl rfl (by decide) (Nat.le_of_ble_eq_true rfl) (fun a_3 => ?_)
      refine h_if_ne hX dX11_whyNotPlay_29 (tgt := 36) (by decide) (fun _ => ?_) (fun _ => ?_)
      · refine h_iload hX dX11_whyNotPlay_36 rfl ?_
        exact h_ret hX (rv := some (.int a_1)) dX11_whyNotPlay_38 trivial (fun h => h)
      · refine h_iconst hX dX11_whyNotPlay_32 ki_1 ?_
        refine h_goto hX dX11_whyNotPlay_33 (tgt := 38) (by decide) ?_
        exact h_ret hX (rv := some (.int 1)) dX11_whyNotPlay_38 trivial (fun h => h)
  · refine h_iconst hX dX11_whyNotPlay_13 ki_0 ?_
    refine h_goto hX dX11_whyNotPlay_14 (tgt := 38) (by decide) ?_
    exact h_ret hX (rv := some (.int 0)) dX11_whyNotPlay_38 trivial (fun h => h)
theorem c_M_whyNotPlay {p0 : Int32} {p1 : Int32} {p2 : Int32} {p3 : Int32} {r : Int32} (h : f_M_whyNotPlay m_marbles m_now p0 p1 p2 p3 = some r) : gMet B 3 yX11_whyNotPlay cX11_whyNotPlay 6 (some .int) [.ref (aM B 0), .int p0, .int p1, .int p2, .int p3] (wdM B m_thrown m_size m_at m_wrong m_deep m_laws m_text m_readBoys m_readMarbles m_readFarms m_boys m_marbles m_farms m_holding m_spills m_acts m_draws m_bestRow m_bestMany m_noted m_hasImage m_tape m_code m_value m_codes m_clauses m_testFrom m_sumFrom m_sumTo m_letters m_stack m_readRule m_readBoy m_readMarble m_readFarm m_rule m_boy m_marble m_farm m_now m_refused m_kept m_notePlace m_noteKind m_noteIs m_toldBy m_image ++ fr) (some (.int r)) (wdM B m_thrown m_size m_at m_wrong m_deep m_laws m_text m_readBoys m_readMarbles m_readFarms m_boys m_marbles m_farms m_holding m_spills m_acts m_draws m_bestRow m_bestMany m_noted m_hasImage m_tape m_code m_value m_codes m_clauses m_testFrom m_sumFrom m_sumTo m_letters m_stack m_readRule m_readBoy m_readMarble m_readFarm m_rule m_boy m_marble m_farm m_now m_refused m_kept m_notePlace m_noteKind m_noteIs m_toldBy m_image ++ fr) :=
  gMet.of rfl (Nat.le_of_ble_eq_true rfl) (fun X hX hF => w_M_whyNotPlay hX r h hF)
set_option maxRecDepth 4000 in
theorem w_M_gameOf_J38 {v1 : Int32} (hX : gOk B X RX11 cX11_gameOf 7 7 (some .int)) : gH B X (fun r : (Int32 × (Nat → Int32) × (Nat → Int32)) => gFin X (some (.int r.1)) (wdM B m_thrown m_size m_at m_wrong m_deep m_laws m_text m_readBoys m_readMarbles m_readFarms m_boys m_marbles m_farms m_holding m_spills m_acts m_draws m_bestRow m_bestMany m_noted m_hasImage m_tape m_code m_value m_codes m_clauses m_testFrom m_sumFrom m_sumTo r.2.1 r.2.2 m_readRule m_readBoy m_readMarble m_readFarm m_rule m_boy m_marble m_farm m_now m_refused m_kept m_notePlace m_noteKind m_noteIs m_toldBy m_image ++ fr)) 38 [(0, .ref (aM B 0)), (1, .int v1)] [] (wdM B m_thrown m_size m_at m_wrong m_deep m_laws m_text m_readBoys m_readMarbles m_readFarms m_boys m_marbles m_farms m_holding m_spills m_acts m_draws m_bestRow m_bestMany m_noted m_hasImage m_tape m_code m_value m_codes m_clauses m_testFrom m_sumFrom m_sumTo m_letters m_stack m_readRule m_readBoy m_readMarble m_readFarm m_rule m_boy m_marble m_farm m_now m_refused m_kept m_notePlace m_noteKind m_noteIs m_toldBy m_image ++ fr) (f_M_gameOf_J38 m_letters m_stack m_marble v1) := by
  unfold f_M_gameOf_J38
  refine h_aload_n hX dX11_gameOf_38 rfl rfl ?_
  refine h_iload_n hX dX11_gameOf_39 rfl rfl ?_
  refine h_iconst hX dX11_gameOf_40 ki_2 ?_
  refine h_callVi hX dX11_gameOf_41 (cv_RX11_267) rc_M0 (As := [.int v1, .int 2]) (st := []) (fun _ h => c_M_of h) rfl rfl (by decide) (Nat.le_of_ble_eq_true rfl) (fun a_5 => ?_)
  refine h_ineg hX dX11_gameOf_44 ?_
  refine h_goto hX dX11_gameOf_45 (tgt := 64) (by decide) ?_
  exact h_ret hX (rv := some (.int (-a_5))) dX11_gameOf_64 trivial (fun h => h)
set_option maxRecDepth 4000 in
theorem w_M_gameOf {p0 : Int32} {p1 : Int32} {p2 : Int32} {p3 : Int32} (hX : gOk B X RX11 cX11_gameOf 7 7 (some .int)) : gH B X (fun r : (Int32 × (Nat → Int32) × (Nat → Int32)) => gFin X (some (.int r.1)) (wdM B m_thrown m_size m_at m_wrong m_deep m_laws m_text m_readBoys m_readMarbles m_readFarms m_boys m_marbles m_farms m_holding m_spills m_acts m_draws m_bestRow m_bestMany m_noted m_hasImage m_tape m_code m_value m_codes m_clauses m_testFrom m_sumFrom m_sumTo r.2.1 r.2.2 m_readRule m_readBoy m_readMarble m_readFarm m_rule m_boy m_marble m_farm m_now m_refused m_kept m_notePlace m_noteKind m_noteIs m_toldBy m_image ++ fr)) 0 [(0, .ref (aM B 0)), (1, .int p0), (2, .int p1), (3, .int p2), (4, .int p3)] [] (wdM B m_thrown m_size m_at m_wrong m_deep m_laws m_text m_readBoys m_readMarbles m_readFarms m_boys m_marbles m_farms m_holding m_spills m_acts m_draws m_bestRow m_bestMany m_noted m_hasImage m_tape m_code m_value m_codes m_clauses m_testFrom m_sumFrom m_sumTo m_letters m_stack m_readRule m_readBoy m_readMarble m_readFarm m_rule m_boy m_marble m_farm m_now m_refused m_kept m_notePlace m_noteKind m_noteIs m_toldBy m_image ++ fr) (f_M_gameOf m_marbles m_holding m_code m_value m_clauses m_testFrom m_sumFrom m_sumTo m_letters m_stack m_rule m_boy m_marble m_now p0 p1 p2 p3) := by
  unfold f_M_gameOf
  refine h_aload_n hX dX11_gameOf_0 rfl rfl ?_
  refine h_iload_n hX dX11_gameOf_1 rfl rfl ?_
  refine h_iload_n hX dX11_gameOf_2 rfl rfl ?_
  refine h_callVi hX dX11_gameOf_3 (cv_RX11_344) rc_M0 (As := [.int p0, .int p1]) (st := []) (fun _ h => c_M_cellOf h) rfl rfl (by decide) (Nat.le_of_ble_eq_true rfl) (fun a_1 => ?_)
  refine h_istore hX dX11_gameOf_6 (by decide) (lv' := [(0, .ref (aM B 0)), (1, .int p0), (2, .int p1), (3, .int p2), (4, .int p3), (5, .int a_1.1)]) rfl ?_
  refine h_aload_n hX dX11_gameOf_8 rfl rfl ?_
  refine h_iload hX dX11_gameOf_9 rfl ?_
  refine h_aload_n hX dX11_gameOf_11 rfl rfl ?_
  refine h_iload_n hX dX11_gameOf_12 rfl rfl ?_
  refine h_iload hX dX11_gameOf_13 rfl ?_
  refine h_callVi hX dX11_gameOf_15 (cv_RX11_344) rc_M0 (As := [.int p2, .int p3]) (st := [.int a_1.1, .ref (aM B 0)]) (fun _ h => c_M_cellOf h) rfl rfl (by decide) (Nat.le_of_ble_eq_true rfl) (fun a_2 => ?_)
  refine h_callVi hX dX11_gameOf_18 (cv_RX11_347) rc_M0 (As := [.int a_1.1, .int a_2.1]) (st := []) (fun _ h => c_M_winner h) rfl rfl (by decide) (Nat.le_of_ble_eq_true rfl) (fun a_3 => ?_)
  refine h_istore hX dX11_gameOf_21 (by decide) (lv' := [(0, .ref (aM B 0)), (1, .int p0), (2, .int p1), (3, .int p2), (4, .int p3), (5, .int a_1.1), (6, .int a_3)]) rfl ?_
  refine h_aload_n hX dX11_gameOf_23 rfl rfl ?_
  refine h_iload hX dX11_gameOf_24 rfl ?_
  refine h_callVi hX dX11_gameOf_26 (cv_RX11_304) rc_M0 (As := [.int a_1.1]) (st := []) (fun _ h => c_M_isDrain h) rfl rfl (by decide) (Nat.le_of_ble_eq_true rfl) (fun a_4 => ?_)
  refine h_if_ne hX dX11_gameOf_29 (tgt := 38) (by decide) (fun _ => ?_) (fun _ => ?_)
  · refine gH.dead [0, 1] rfl ?_
    exact w_M_gameOf_J38 hX
  · refine h_iload hX dX11_gameOf_32 rfl ?_
    refine h_iconst hX dX11_gameOf_34 ki_2 ?_
    refine h_icmp_ne hX dX11_gameOf_35 (tgt := 48) (by decide) (fun _ => ?_) (fun _ => ?_)
    · refine h_iload hX dX11_gameOf_48 rfl ?_
      refine h_iconst hX dX11_gameOf_50 ki_1 ?_
      refine h_icmp_ne hX dX11_gameOf_51 (tgt := 63) (by decide) (fun _ => ?_) (fun _ => ?_)
      · refine h_iconst hX dX11_gameOf_63 ki_0 ?_
        exact h_ret hX (rv := some (.int 0)) dX11_gameOf_64 trivial (fun h => h)
      · refine h_aload_n hX dX11_gameOf_54 rfl rfl ?_
        refine h_iload_n hX dX11_gameOf_55 rfl rfl ?_
        refine h_iconst hX dX11_gameOf_56 ki_2 ?_
        refine h_callVi hX dX11_gameOf_57 (cv_RX11_267) rc_M0 (As := [.int p2, .int 2]) (st := []) (fun _ h => c_M_of h) rfl rfl (by decide) (Nat.le_of_ble_eq_true rfl) (fun a_6 => ?_)
        refine h_goto hX dX11_gameOf_60 (tgt := 64) (by decide) ?_
        exact h_ret hX (rv := some (.int a_6)) dX11_gameOf_64 trivial (fun h => h)
    · refine gH.dead [0, 1] rfl ?_
      exact w_M_gameOf_J38 hX
theorem c_M_gameOf {p0 : Int32} {p1 : Int32} {p2 : Int32} {p3 : Int32} {r : (Int32 × (Nat → Int32) × (Nat → Int32))} (h : f_M_gameOf m_marbles m_holding m_code m_value m_clauses m_testFrom m_sumFrom m_sumTo m_letters m_stack m_rule m_boy m_marble m_now p0 p1 p2 p3 = some r) : gMet B 7 yX11_gameOf cX11_gameOf 7 (some .int) [.ref (aM B 0), .int p0, .int p1, .int p2, .int p3] (wdM B m_thrown m_size m_at m_wrong m_deep m_laws m_text m_readBoys m_readMarbles m_readFarms m_boys m_marbles m_farms m_holding m_spills m_acts m_draws m_bestRow m_bestMany m_noted m_hasImage m_tape m_code m_value m_codes m_clauses m_testFrom m_sumFrom m_sumTo m_letters m_stack m_readRule m_readBoy m_readMarble m_readFarm m_rule m_boy m_marble m_farm m_now m_refused m_kept m_notePlace m_noteKind m_noteIs m_toldBy m_image ++ fr) (some (.int r.1)) (wdM B m_thrown m_size m_at m_wrong m_deep m_laws m_text m_readBoys m_readMarbles m_readFarms m_boys m_marbles m_farms m_holding m_spills m_acts m_draws m_bestRow m_bestMany m_noted m_hasImage m_tape m_code m_value m_codes m_clauses m_testFrom m_sumFrom m_sumTo r.2.1 r.2.2 m_readRule m_readBoy m_readMarble m_readFarm m_rule m_boy m_marble m_farm m_now m_refused m_kept m_notePlace m_noteKind m_noteIs m_toldBy m_image ++ fr) :=
  gMet.of rfl (Nat.le_of_ble_eq_true rfl) (fun X hX hF => w_M_gameOf hX r h hF)
set_option maxRecDepth 4000 in
theorem w_M_game {p0 : Int32} {p1 : Int32} {p2 : Int32} {p3 : Int32} {p4 : Int32} (hX : gOk B X RX11 cX11_game 6 8 (some .int)) : gH B X (fun r : (Int32 × (Nat → Int32) × (Nat → Int32)) => gFin X (some (.int r.1)) (wdM B m_thrown m_size m_at m_wrong m_deep m_laws m_text m_readBoys m_readMarbles m_readFarms m_boys m_marbles m_farms m_holding m_spills m_acts m_draws m_bestRow m_bestMany m_noted m_hasImage m_tape m_code m_value m_codes m_clauses m_testFrom m_sumFrom m_sumTo r.2.1 r.2.2 m_readRule m_readBoy m_readMarble m_readFarm m_rule m_boy m_marble m_farm m_now m_refused m_kept m_notePlace m_noteKind m_noteIs m_toldBy m_image ++ fr)) 0 [(0, .ref (aM B 0)), (1, .int p0), (2, .int p1), (3, .int p2), (4, .int p3), (5, .int p4)] [] (wdM B m_thrown m_size m_at m_wrong m_deep m_laws m_text m_readBoys m_readMarbles m_readFarms m_boys m_marbles m_farms m_holding m_spills m_acts m_draws m_bestRow m_bestMany m_noted m_hasImage m_tape m_code m_value m_codes m_clauses m_testFrom m_sumFrom m_sumTo m_letters m_stack m_readRule m_readBoy m_readMarble m_readFarm m_rule m_boy m_marble m_farm m_now m_refused m_kept m_notePlace m_noteKind m_noteIs m_toldBy m_image ++ fr) (f_M_game m_marbles m_holding m_code m_value m_clauses m_testFrom m_sumFrom m_sumTo m_letters m_stack m_rule m_boy m_marble m_now p0 p1 p2 p3 p4) := by
  unfold f_M_game
  refine h_aload_n hX dX11_game_0 rfl rfl ?_
  refine h_iload_n hX dX11_game_1 rfl rfl ?_
  refine h_iload_n hX dX11_game_2 rfl rfl ?_
  refine h_iload_n hX dX11_game_3 rfl rfl ?_
  refine h_iload hX dX11_game_4 rfl ?_
  refine h_callVi hX dX11_game_6 (cv_RX11_350) rc_M0 (As := [.int p0, .int p1, .int p2, .int p3]) (st := []) (fun _ h => c_M_whyNotPlay h) rfl rfl (by decide) (Nat.le_of_ble_eq_true rfl) (fun a_1 => ?_)
  refine h_iconst hX dX11_game_9 ki_m1 ?_
  refine h_icmp_ne hX dX11_game_10 (tgt := 23) (by decide) (fun _ => ?_) (fun _ => ?_)
  · refine h_ldcw hX dX11_game_23 cst_RX11_331 ?_
    exact h_ret hX (rv := some (.int ((-1000000)))) dX11_game_26 trivial (fun h => h)
  · refine h_iload hX dX11_game_13 rfl ?_
    refine h_iconst hX dX11_game_15 ki_0 ?_
    refine h_iconst hX dX11_game_16 ki_1 ?_
    refine h_callSi hX dX11_game_17 (cs_RX11_208) (As := [.int p4, .int 0, .int 1]) (st := []) (fun _ h => c_M_in h) rfl rfl (by decide) (Nat.le_of_ble_eq_true rfl) (fun a_2 => ?_)
    refine h_if_ne hX dX11_game_20 (tgt := 27) (by decide) (fun _ => ?_) (fun _ => ?_)
    · refine h_iload hX dX11_game_27 rfl ?_
      refine h_if_ne hX dX11_game_29 (tgt := 44) (by decide) (fun _ => ?_) (fun _ => ?_)
      · refine h_aload_n hX dX11_game_44 rfl rfl ?_
        refine h_iload_n hX dX11_game_45 rfl rfl ?_
        refine h_iload hX dX11_game_46 rfl ?_
        refine h_iload_n hX dX11_game_48 rfl rfl ?_
        refine h_iload_n hX dX11_game_49 rfl rfl ?_
        refine h_callVi hX dX11_game_50 (cv_RX11_432) rc_M0 (As := [.int p2, .int p3, .int p0, .int p1]) (st := []) (fun _ h => c_M_gameOf h) rfl rfl (by decide) (Nat.le_of_ble_eq_true rfl) (fun a_3 => ?_)
        exact h_ret hX (rv := some (.int a_3.1)) dX11_game_53 trivial (fun h => h)
      · refine h_aload_n hX dX11_game_32 rfl rfl ?_
        refine h_iload_n hX dX11_game_33 rfl rfl ?_
        refine h_iload_n hX dX11_game_34 rfl rfl ?_
        refine h_iload_n hX dX11_game_35 rfl rfl ?_
        refine h_iload hX dX11_game_36 rfl ?_
        refine h_callVi hX dX11_game_38 (cv_RX11_432) rc_M0 (As := [.int p0, .int p1, .int p2, .int p3]) (st := []) (fun _ h => c_M_gameOf h) rfl rfl (by decide) (Nat.le_of_ble_eq_true rfl) (fun a_4 => ?_)
        refine h_goto hX dX11_game_41 (tgt := 53) (by decide) ?_
        exact h_ret hX (rv := some (.int a_4.1)) dX11_game_53 trivial (fun h => h)
    · refine h_ldcw hX dX11_game_23 cst_RX11_331 ?_
      exact h_ret hX (rv := some (.int ((-1000000)))) dX11_game_26 trivial (fun h => h)
theorem c_M_game {p0 : Int32} {p1 : Int32} {p2 : Int32} {p3 : Int32} {p4 : Int32} {r : (Int32 × (Nat → Int32) × (Nat → Int32))} (h : f_M_game m_marbles m_holding m_code m_value m_clauses m_testFrom m_sumFrom m_sumTo m_letters m_stack m_rule m_boy m_marble m_now p0 p1 p2 p3 p4 = some r) : gMet B 8 yX11_game cX11_game 6 (some .int) [.ref (aM B 0), .int p0, .int p1, .int p2, .int p3, .int p4] (wdM B m_thrown m_size m_at m_wrong m_deep m_laws m_text m_readBoys m_readMarbles m_readFarms m_boys m_marbles m_farms m_holding m_spills m_acts m_draws m_bestRow m_bestMany m_noted m_hasImage m_tape m_code m_value m_codes m_clauses m_testFrom m_sumFrom m_sumTo m_letters m_stack m_readRule m_readBoy m_readMarble m_readFarm m_rule m_boy m_marble m_farm m_now m_refused m_kept m_notePlace m_noteKind m_noteIs m_toldBy m_image ++ fr) (some (.int r.1)) (wdM B m_thrown m_size m_at m_wrong m_deep m_laws m_text m_readBoys m_readMarbles m_readFarms m_boys m_marbles m_farms m_holding m_spills m_acts m_draws m_bestRow m_bestMany m_noted m_hasImage m_tape m_code m_value m_codes m_clauses m_testFrom m_sumFrom m_sumTo r.2.1 r.2.2 m_readRule m_readBoy m_readMarble m_readFarm m_rule m_boy m_marble m_farm m_now m_refused m_kept m_notePlace m_noteKind m_noteIs m_toldBy m_image ++ fr) :=
  gMet.of rfl (Nat.le_of_ble_eq_true rfl) (fun X hX hF => w_M_game hX r h hF)
set_option maxRecDepth 4000 in
theorem w_M_give_J66 {v1 : Int32} {v2 : Int32} {k1 : Int32} (hX : gOk B X RX11 cX11_give 3 2 (some .int)) : gH B X (fun r : (Int32 × Int32 × (Nat → Int32) × (Nat → Int32) × (Nat → Int32)) => gFin X (some (.int r.1)) (wdM B m_thrown m_size m_at m_wrong m_deep m_laws m_text m_readBoys m_readMarbles m_readFarms m_boys m_marbles m_farms m_holding m_spills r.2.1 m_draws m_bestRow m_bestMany m_noted m_hasImage m_tape m_code m_value m_codes m_clauses m_testFrom m_sumFrom m_sumTo m_letters m_stack m_readRule m_readBoy m_readMarble m_readFarm m_rule m_boy m_marble m_farm r.2.2.1 r.2.2.2.1 r.2.2.2.2 m_notePlace m_noteKind m_noteIs m_toldBy m_image ++ fr)) 66 [(0, .ref (aM B 0)), (1, .int v1), (2, .int v2)] [.int k1, .ref (aM B 0)] (wdM B m_thrown m_size m_at m_wrong m_deep m_laws m_text m_readBoys m_readMarbles m_readFarms m_boys m_marbles m_farms m_holding m_spills m_acts m_draws m_bestRow m_bestMany m_noted m_hasImage m_tape m_code m_value m_codes m_clauses m_testFrom m_sumFrom m_sumTo m_letters m_stack m_readRule m_readBoy m_readMarble m_readFarm m_rule m_boy m_marble m_farm m_now m_refused m_kept m_notePlace m_noteKind m_noteIs m_toldBy m_image ++ fr) (f_M_give_J66 m_acts m_marble m_now m_refused m_kept v1 v2 k1) := by
  unfold f_M_give_J66
  refine h_callVi hX dX11_give_66 (cv_RX11_354) rc_M0 (As := [.int k1]) (st := []) (fun _ h => c_M_isRefused h) rfl rfl (by decide) (Nat.le_of_ble_eq_true rfl) (fun a_2 => ?_)
  refine h_if_eq hX dX11_give_69 (tgt := 74) (by decide) (fun _ => ?_) (fun _ => ?_)
  · refine h_aload_n hX dX11_give_74 rfl rfl ?_
    refine h_callVv hX dX11_give_75 (cv_RX11_357) rc_M0 (As := []) (st := []) (fun _ h => c_M_keep h) rfl rfl (by decide) (Nat.le_of_ble_eq_true rfl) (fun a_3 => ?_)
    refine h_aload_n hX dX11_give_78 rfl rfl ?_
    refine get_RX11_64_M0 hX dX11_give_79 ?_
    refine h_iconst hX dX11_give_82 ki_0 ?_
    refine h_iload_n hX dX11_give_83 rfl rfl ?_
    refine h_iadd hX dX11_give_84 ?_
    refine h_iload_n hX dX11_give_85 rfl rfl ?_
    refine ast_M19 hX dX11_give_86 ?_
    refine gH.letw (w := fun y => wdM B m_thrown m_size m_at m_wrong m_deep m_laws m_text m_readBoys m_readMarbles m_readFarms m_boys m_marbles m_farms m_holding m_spills a_3.1 m_draws m_bestRow m_bestMany m_noted m_hasImage m_tape m_code m_value m_codes m_clauses m_testFrom m_sumFrom m_sumTo m_letters m_stack m_readRule m_readBoy m_readMarble m_readFarm m_rule m_boy m_marble m_farm y a_2.2 a_3.2 m_notePlace m_noteKind m_noteIs m_toldBy m_image ++ fr) (fun m_now_4 => ?_)
    refine h_aload_n hX dX11_give_87 rfl rfl ?_
    refine get_RX11_64_M0 hX dX11_give_88 ?_
    refine h_bipush hX dX11_give_91 kb_8 ?_
    refine h_dup2 hX dX11_give_93 rfl rfl ?_
    refine ald_M19 hX dX11_give_94 ?_
    refine h_aload_n hX dX11_give_95 rfl rfl ?_
    refine h_iload_n hX dX11_give_96 rfl rfl ?_
    refine h_iconst hX dX11_give_97 ki_2 ?_
    refine h_callVi hX dX11_give_98 (cv_RX11_267) rc_M0 (As := [.int v1, .int 2]) (st := [.int (m_now_4 (8 : Int32).toNatClampNeg), .int 8, .ref (aM B 19)]) (fun _ h => c_M_of h) rfl rfl (by decide) (Nat.le_of_ble_eq_true rfl) (fun a_5 => ?_)
    refine h_isub hX dX11_give_101 ?_
    refine ast_M19 hX dX11_give_102 ?_
    refine gH.letw (w := fun y => wdM B m_thrown m_size m_at m_wrong m_deep m_laws m_text m_readBoys m_readMarbles m_readFarms m_boys m_marbles m_farms m_holding m_spills a_3.1 m_draws m_bestRow m_bestMany m_noted m_hasImage m_tape m_code m_value m_codes m_clauses m_testFrom m_sumFrom m_sumTo m_letters m_stack m_readRule m_readBoy m_readMarble m_readFarm m_rule m_boy m_marble m_farm y a_2.2 a_3.2 m_notePlace m_noteKind m_noteIs m_toldBy m_image ++ fr) (fun m_now_6 => ?_)
    refine h_aload_n hX dX11_give_103 rfl rfl ?_
    refine get_RX11_64_M0 hX dX11_give_104 ?_
    refine h_bipush hX dX11_give_107 kb_8 ?_
    refine ald_M19 hX dX11_give_109 ?_
    exact h_ret hX (rv := some (.int (m_now_6 (8 : Int32).toNatClampNeg))) dX11_give_110 trivial (fun h => h)
  · refine h_iconst hX dX11_give_72 ki_m1 ?_
    exact h_ret hX (rv := some (.int ((-1)))) dX11_give_73 trivial (fun h => h)
set_option maxRecDepth 4000 in
theorem w_M_give_J17 {v1 : Int32} {v2 : Int32} (hX : gOk B X RX11 cX11_give 3 2 (some .int)) : gH B X (fun r : (Int32 × Int32 × (Nat → Int32) × (Nat → Int32) × (Nat → Int32)) => gFin X (some (.int r.1)) (wdM B m_thrown m_size m_at m_wrong m_deep m_laws m_text m_readBoys m_readMarbles m_readFarms m_boys m_marbles m_farms m_holding m_spills r.2.1 m_draws m_bestRow m_bestMany m_noted m_hasImage m_tape m_code m_value m_codes m_clauses m_testFrom m_sumFrom m_sumTo m_letters m_stack m_readRule m_readBoy m_readMarble m_readFarm m_rule m_boy m_marble m_farm r.2.2.1 r.2.2.2.1 r.2.2.2.2 m_notePlace m_noteKind m_noteIs m_toldBy m_image ++ fr)) 17 [(0, .ref (aM B 0)), (1, .int v1), (2, .int v2)] [.ref (aM B 0)] (wdM B m_thrown m_size m_at m_wrong m_deep m_laws m_text m_readBoys m_readMarbles m_readFarms m_boys m_marbles m_farms m_holding m_spills m_acts m_draws m_bestRow m_bestMany m_noted m_hasImage m_tape m_code m_value m_codes m_clauses m_testFrom m_sumFrom m_sumTo m_letters m_stack m_readRule m_readBoy m_readMarble m_readFarm m_rule m_boy m_marble m_farm m_now m_refused m_kept m_notePlace m_noteKind m_noteIs m_toldBy m_image ++ fr) (f_M_give_J17 m_acts m_marble m_now m_refused m_kept v1 v2) := by
  unfold f_M_give_J17
  refine h_iconst hX dX11_give_17 ki_0 ?_
  refine h_goto hX dX11_give_18 (tgt := 66) (by decide) ?_
  exact w_M_give_J66 hX
set_option maxRecDepth 4000 in
theorem w_M_give_J41 {v1 : Int32} {v2 : Int32} (hX : gOk B X RX11 cX11_give 3 2 (some .int)) : gH B X (fun r : (Int32 × Int32 × (Nat → Int32) × (Nat → Int32) × (Nat → Int32)) => gFin X (some (.int r.1)) (wdM B m_thrown m_size m_at m_wrong m_deep m_laws m_text m_readBoys m_readMarbles m_readFarms m_boys m_marbles m_farms m_holding m_spills r.2.1 m_draws m_bestRow m_bestMany m_noted m_hasImage m_tape m_code m_value m_codes m_clauses m_testFrom m_sumFrom m_sumTo m_letters m_stack m_readRule m_readBoy m_readMarble m_readFarm m_rule m_boy m_marble m_farm r.2.2.1 r.2.2.2.1 r.2.2.2.2 m_notePlace m_noteKind m_noteIs m_toldBy m_image ++ fr)) 41 [(0, .ref (aM B 0)), (1, .int v1), (2, .int v2)] [.ref (aM B 0)] (wdM B m_thrown m_size m_at m_wrong m_deep m_laws m_text m_readBoys m_readMarbles m_readFarms m_boys m_marbles m_farms m_holding m_spills m_acts m_draws m_bestRow m_bestMany m_noted m_hasImage m_tape m_code m_value m_codes m_clauses m_testFrom m_sumFrom m_sumTo m_letters m_stack m_readRule m_readBoy m_readMarble m_readFarm m_rule m_boy m_marble m_farm m_now m_refused m_kept m_notePlace m_noteKind m_noteIs m_toldBy m_image ++ fr) (f_M_give_J41 m_acts m_marble m_now m_refused m_kept v1 v2) := by
  unfold f_M_give_J41
  refine h_iconst hX dX11_give_41 ki_2 ?_
  refine h_goto hX dX11_give_42 (tgt := 66) (by decide) ?_
  exact w_M_give_J66 hX
set_option maxRecDepth 4000 in
theorem w_M_give {p0 : Int32} {p1 : Int32} (hX : gOk B X RX11 cX11_give 3 2 (some .int)) : gH B X (fun r : (Int32 × Int32 × (Nat → Int32) × (Nat → Int32) × (Nat → Int32)) => gFin X (some (.int r.1)) (wdM B m_thrown m_size m_at m_wrong m_deep m_laws m_text m_readBoys m_readMarbles m_readFarms m_boys m_marbles m_farms m_holding m_spills r.2.1 m_draws m_bestRow m_bestMany m_noted m_hasImage m_tape m_code m_value m_codes m_clauses m_testFrom m_sumFrom m_sumTo m_letters m_stack m_readRule m_readBoy m_readMarble m_readFarm m_rule m_boy m_marble m_farm r.2.2.1 r.2.2.2.1 r.2.2.2.2 m_notePlace m_noteKind m_noteIs m_toldBy m_image ++ fr)) 0 [(0, .ref (aM B 0)), (1, .int p0), (2, .int p1)] [] (wdM B m_thrown m_size m_at m_wrong m_deep m_laws m_text m_readBoys m_readMarbles m_readFarms m_boys m_marbles m_farms m_holding m_spills m_acts m_draws m_bestRow m_bestMany m_noted m_hasImage m_tape m_code m_value m_codes m_clauses m_testFrom m_sumFrom m_sumTo m_letters m_stack m_readRule m_readBoy m_readMarble m_readFarm m_rule m_boy m_marble m_farm m_now m_refused m_kept m_notePlace m_noteKind m_noteIs m_toldBy m_image ++ fr) (f_M_give m_boys m_marbles m_acts m_marble m_now m_refused m_kept p0 p1) := by
  unfold f_M_give
  refine h_aload_n hX dX11_give_0 rfl rfl ?_
  refine h_aload_n hX dX11_give_1 rfl rfl ?_
  refine h_iload_n hX dX11_give_2 rfl rfl ?_
  refine h_callVi hX dX11_give_3 (cv_RX11_328) rc_M0 (As := [.int p0]) (st := [.ref (aM B 0)]) (fun _ h => c_M_isMarble h) rfl rfl (by decide) (Nat.le_of_ble_eq_true rfl) (fun a_1 => ?_)
  refine h_if_eq hX dX11_give_6 (tgt := 17) (by decide) (fun _ => ?_) (fun _ => ?_)
  · exact w_M_give_J17 hX
  · refine h_aload_n hX dX11_give_9 rfl rfl ?_
    refine h_iload_n hX dX11_give_10 rfl rfl ?_
    refine h_callVi hX dX11_give_11 (cv_RX11_325) rc_M0 (As := [.int p1]) (st := [.ref (aM B 0)]) (fun _ h => c_M_isBoy h) rfl rfl (by decide) (Nat.le_of_ble_eq_true rfl) (fun a_7 => ?_)
    refine h_if_ne hX dX11_give_14 (tgt := 21) (by decide) (fun _ => ?_) (fun _ => ?_)
    · refine h_aload_n hX dX11_give_21 rfl rfl ?_
      refine h_iload_n hX dX11_give_22 rfl rfl ?_
      refine h_callVi hX dX11_give_23 (cv_RX11_332) rc_M0 (As := [.int p0]) (st := [.ref (aM B 0)]) (fun _ h => c_M_isLoose h) rfl rfl (by decide) (Nat.le_of_ble_eq_true rfl) (fun a_8 => ?_)
      refine h_if_eq hX dX11_give_26 (tgt := 41) (by decide) (fun _ => ?_) (fun _ => ?_)
      · exact w_M_give_J41 hX
      · refine h_aload_n hX dX11_give_29 rfl rfl ?_
        refine get_RX11_64_M0 hX dX11_give_30 ?_
        refine h_iconst hX dX11_give_33 ki_0 ?_
        refine h_iload_n hX dX11_give_34 rfl rfl ?_
        refine h_iadd hX dX11_give_35 ?_
        refine ald_M19 hX dX11_give_36 ?_
        refine h_iload_n hX dX11_give_37 rfl rfl ?_
        refine h_icmp_ne hX dX11_give_38 (tgt := 45) (by decide) (fun _ => ?_) (fun _ => ?_)
        · refine h_aload_n hX dX11_give_45 rfl rfl ?_
          refine get_RX11_64_M0 hX dX11_give_46 ?_
          refine h_bipush hX dX11_give_49 kb_8 ?_
          refine ald_M19 hX dX11_give_51 ?_
          refine h_aload_n hX dX11_give_52 rfl rfl ?_
          refine h_iload_n hX dX11_give_53 rfl rfl ?_
          refine h_iconst hX dX11_give_54 ki_2 ?_
          refine h_callVi hX dX11_give_55 (cv_RX11_267) rc_M0 (As := [.int p0, .int 2]) (st := [.int (m_now (8 : Int32).toNatClampNeg), .ref (aM B 0)]) (fun _ h => c_M_of h) rfl rfl (by decide) (Nat.le_of_ble_eq_true rfl) (fun a_9 => ?_)
          refine h_icmp_ge hX dX11_give_58 (tgt := 65) (by decide) (fun _ => ?_) (fun _ => ?_)
          · refine h_iconst hX dX11_give_65 ki_m1 ?_
            exact w_M_give_J66 hX
          · refine h_iconst hX dX11_give_61 ki_3 ?_
            refine h_goto hX dX11_give_62 (tgt := 66) (by decide) ?_
            exact w_M_give_J66 hX
        · exact w_M_give_J41 hX
    · exact w_M_give_J17 hX
theorem c_M_give {p0 : Int32} {p1 : Int32} {r : (Int32 × Int32 × (Nat → Int32) × (Nat → Int32) × (Nat → Int32))} (h : f_M_give m_boys m_marbles m_acts m_marble m_now m_refused m_kept p0 p1 = some r) : gMet B 2 yX11_give cX11_give 3 (some .int) [.ref (aM B 0), .int p0, .int p1] (wdM B m_thrown m_size m_at m_wrong m_deep m_laws m_text m_readBoys m_readMarbles m_readFarms m_boys m_marbles m_farms m_holding m_spills m_acts m_draws m_bestRow m_bestMany m_noted m_hasImage m_tape m_code m_value m_codes m_clauses m_testFrom m_sumFrom m_sumTo m_letters m_stack m_readRule m_readBoy m_readMarble m_readFarm m_rule m_boy m_marble m_farm m_now m_refused m_kept m_notePlace m_noteKind m_noteIs m_toldBy m_image ++ fr) (some (.int r.1)) (wdM B m_thrown m_size m_at m_wrong m_deep m_laws m_text m_readBoys m_readMarbles m_readFarms m_boys m_marbles m_farms m_holding m_spills r.2.1 m_draws m_bestRow m_bestMany m_noted m_hasImage m_tape m_code m_value m_codes m_clauses m_testFrom m_sumFrom m_sumTo m_letters m_stack m_readRule m_readBoy m_readMarble m_readFarm m_rule m_boy m_marble m_farm r.2.2.1 r.2.2.2.1 r.2.2.2.2 m_notePlace m_noteKind m_noteIs m_toldBy m_image ++ fr) :=
  gMet.of rfl (Nat.le_of_ble_eq_true rfl) (fun X hX hF => w_M_give hX r h hF)
set_option maxRecDepth 4000 in
theorem w_M_hands {p0 : Int32} (hX : gOk B X RX11 cX11_hands 2 2 (some .int)) : gH B X (fun r : Int32 => gFin X (some (.int r)) (wdM B m_thrown m_size m_at m_wrong m_deep m_laws m_text m_readBoys m_readMarbles m_readFarms m_boys m_marbles m_farms m_holding m_spills m_acts m_draws m_bestRow m_bestMany m_noted m_hasImage m_tape m_code m_value m_codes m_clauses m_testFrom m_sumFrom m_sumTo m_letters m_stack m_readRule m_readBoy m_readMarble m_readFarm m_rule m_boy m_marble m_farm m_now m_refused m_kept m_notePlace m_noteKind m_noteIs m_toldBy m_image ++ fr)) 0 [(0, .ref (aM B 0)), (1, .int p0)] [] (wdM B m_thrown m_size m_at m_wrong m_deep m_laws m_text m_readBoys m_readMarbles m_readFarms m_boys m_marbles m_farms m_holding m_spills m_acts m_draws m_bestRow m_bestMany m_noted m_hasImage m_tape m_code m_value m_codes m_clauses m_testFrom m_sumFrom m_sumTo m_letters m_stack m_readRule m_readBoy m_readMarble m_readFarm m_rule m_boy m_marble m_farm m_now m_refused m_kept m_notePlace m_noteKind m_noteIs m_toldBy m_image ++ fr) (f_M_hands m_boys m_marbles m_now p0) := by
  unfold f_M_hands
  refine h_aload_n hX dX11_hands_0 rfl rfl ?_
  refine h_iload_n hX dX11_hands_1 rfl rfl ?_
  refine h_callVi hX dX11_hands_2 (cv_RX11_325) rc_M0 (As := [.int p0]) (st := []) (fun _ h => c_M_isBoy h) rfl rfl (by decide) (Nat.le_of_ble_eq_true rfl) (fun a_1 => ?_)
  refine h_if_eq hX dX11_hands_5 (tgt := 16) (by decide) (fun _ => ?_) (fun _ => ?_)
  · refine h_iconst hX dX11_hands_16 ki_m1 ?_
    exact h_ret hX (rv := some (.int ((-1)))) dX11_hands_17 trivial (fun h => h)
  · refine h_aload_n hX dX11_hands_8 rfl rfl ?_
    refine h_iload_n hX dX11_hands_9 rfl rfl ?_
    refine h_callVi hX dX11_hands_10 (cv_RX11_286) rc_M0 (As := [.int p0]) (st := []) (fun _ h => c_M_handsOf h) rfl rfl (by decide) (Nat.le_of_ble_eq_true rfl) (fun a_2 => ?_)
    refine h_goto hX dX11_hands_13 (tgt := 17) (by decide) ?_
    exact h_ret hX (rv := some (.int a_2)) dX11_hands_17 trivial (fun h => h)
theorem c_M_hands {p0 : Int32} {r : Int32} (h : f_M_hands m_boys m_marbles m_now p0 = some r) : gMet B 2 yX11_hands cX11_hands 2 (some .int) [.ref (aM B 0), .int p0] (wdM B m_thrown m_size m_at m_wrong m_deep m_laws m_text m_readBoys m_readMarbles m_readFarms m_boys m_marbles m_farms m_holding m_spills m_acts m_draws m_bestRow m_bestMany m_noted m_hasImage m_tape m_code m_value m_codes m_clauses m_testFrom m_sumFrom m_sumTo m_letters m_stack m_readRule m_readBoy m_readMarble m_readFarm m_rule m_boy m_marble m_farm m_now m_refused m_kept m_notePlace m_noteKind m_noteIs m_toldBy m_image ++ fr) (some (.int r)) (wdM B m_thrown m_size m_at m_wrong m_deep m_laws m_text m_readBoys m_readMarbles m_readFarms m_boys m_marbles m_farms m_holding m_spills m_acts m_draws m_bestRow m_bestMany m_noted m_hasImage m_tape m_code m_value m_codes m_clauses m_testFrom m_sumFrom m_sumTo m_letters m_stack m_readRule m_readBoy m_readMarble m_readFarm m_rule m_boy m_marble m_farm m_now m_refused m_kept m_notePlace m_noteKind m_noteIs m_toldBy m_image ++ fr) :=
  gMet.of rfl (Nat.le_of_ble_eq_true rfl) (fun X hX hF => w_M_hands hX r h hF)
set_option maxRecDepth 4000 in
theorem w_M_image_L11 (hX : gOk B X RX11 cX11_image 2 0 (some .int)) (s : (Int32 × (Nat → Int32))) : gH B X (Sum.elim (fun s : (Int32 × (Nat → Int32)) => gG B X 11 [(0, .ref (aM B 0)), (1, .int s.1)] [] (wdM B m_thrown m_size m_at m_wrong m_deep m_laws m_text m_readBoys m_readMarbles m_readFarms m_boys m_marbles m_farms m_holding m_spills m_acts m_draws m_bestRow m_bestMany m_noted m_hasImage m_tape m_code m_value m_codes m_clauses m_testFrom m_sumFrom m_sumTo m_letters m_stack m_readRule m_readBoy m_readMarble m_readFarm m_rule m_boy m_marble m_farm m_now m_refused m_kept m_notePlace m_noteKind m_noteIs m_toldBy s.2 ++ fr)) (fun r : (Int32 × Int32 × (Nat → Int32)) => gFin X (some (.int r.1)) (wdM B m_thrown m_size m_at m_wrong m_deep m_laws m_text m_readBoys m_readMarbles m_readFarms m_boys m_marbles m_farms m_holding m_spills m_acts m_draws m_bestRow m_bestMany m_noted r.2.1 m_tape m_code m_value m_codes m_clauses m_testFrom m_sumFrom m_sumTo m_letters m_stack m_readRule m_readBoy m_readMarble m_readFarm m_rule m_boy m_marble m_farm m_now m_refused m_kept m_notePlace m_noteKind m_noteIs m_toldBy r.2.2 ++ fr))) 11 [(0, .ref (aM B 0)), (1, .int s.1)] [] (wdM B m_thrown m_size m_at m_wrong m_deep m_laws m_text m_readBoys m_readMarbles m_readFarms m_boys m_marbles m_farms m_holding m_spills m_acts m_draws m_bestRow m_bestMany m_noted m_hasImage m_tape m_code m_value m_codes m_clauses m_testFrom m_sumFrom m_sumTo m_letters m_stack m_readRule m_readBoy m_readMarble m_readFarm m_rule m_boy m_marble m_farm m_now m_refused m_kept m_notePlace m_noteKind m_noteIs m_toldBy s.2 ++ fr) (f_M_image_L11 m_now s) := by
  unfold f_M_image_L11
  refine h_iload_n hX dX11_image_11 rfl rfl ?_
  refine h_sipush hX dX11_image_12 ks_131 ?_
  refine h_icmp_ge hX dX11_image_15 (tgt := 36) (by decide) (fun _ => ?_) (fun _ => ?_)
  · refine gH.inr ?_
    refine h_aload_n hX dX11_image_36 rfl rfl ?_
    refine h_iconst hX dX11_image_37 ki_1 ?_
    refine put_RX11_276_M0 hX dX11_image_38 rfl rfl ?_
    refine h_aload_n hX dX11_image_41 rfl rfl ?_
    refine get_RX11_64_M0 hX dX11_image_42 ?_
    refine h_bipush hX dX11_image_45 kb_9 ?_
    refine ald_M19 hX dX11_image_47 ?_
    exact h_ret hX (rv := some (.int (m_now (9 : Int32).toNatClampNeg))) dX11_image_48 trivial (fun h => h)
  · refine h_aload_n hX dX11_image_18 rfl rfl ?_
    refine get_RX11_90_M0 hX dX11_image_19 ?_
    refine h_iload_n hX dX11_image_22 rfl rfl ?_
    refine h_aload_n hX dX11_image_23 rfl rfl ?_
    refine get_RX11_64_M0 hX dX11_image_24 ?_
    refine h_iload_n hX dX11_image_27 rfl rfl ?_
    refine ald_M19 hX dX11_image_28 ?_
    refine ast_M26 hX dX11_image_29 ?_
    refine gH.letw (w := fun y => wdM B m_thrown m_size m_at m_wrong m_deep m_laws m_text m_readBoys m_readMarbles m_readFarms m_boys m_marbles m_farms m_holding m_spills m_acts m_draws m_bestRow m_bestMany m_noted m_hasImage m_tape m_code m_value m_codes m_clauses m_testFrom m_sumFrom m_sumTo m_letters m_stack m_readRule m_readBoy m_readMarble m_readFarm m_rule m_boy m_marble m_farm m_now m_refused m_kept m_notePlace m_noteKind m_noteIs m_toldBy y ++ fr) (fun m_image_1 => ?_)
    refine h_iincc hX dX11_image_30 rfl ki_1 (by decide) (lv' := [(0, .ref (aM B 0)), (1, .int (s.1 + 1))]) rfl ?_
    refine h_goto hX dX11_image_33 (tgt := 11) (by decide) ?_
    exact gH.some' (fun h => h)
set_option maxRecDepth 4000 in
theorem w_M_image (hX : gOk B X RX11 cX11_image 2 0 (some .int)) : gH B X (fun r : (Int32 × Int32 × (Nat → Int32)) => gFin X (some (.int r.1)) (wdM B m_thrown m_size m_at m_wrong m_deep m_laws m_text m_readBoys m_readMarbles m_readFarms m_boys m_marbles m_farms m_holding m_spills m_acts m_draws m_bestRow m_bestMany m_noted r.2.1 m_tape m_code m_value m_codes m_clauses m_testFrom m_sumFrom m_sumTo m_letters m_stack m_readRule m_readBoy m_readMarble m_readFarm m_rule m_boy m_marble m_farm m_now m_refused m_kept m_notePlace m_noteKind m_noteIs m_toldBy r.2.2 ++ fr)) 0 [(0, .ref (aM B 0))] [] (wdM B m_thrown m_size m_at m_wrong m_deep m_laws m_text m_readBoys m_readMarbles m_readFarms m_boys m_marbles m_farms m_holding m_spills m_acts m_draws m_bestRow m_bestMany m_noted m_hasImage m_tape m_code m_value m_codes m_clauses m_testFrom m_sumFrom m_sumTo m_letters m_stack m_readRule m_readBoy m_readMarble m_readFarm m_rule m_boy m_marble m_farm m_now m_refused m_kept m_notePlace m_noteKind m_noteIs m_toldBy m_image ++ fr) (f_M_image m_marbles m_hasImage m_now m_image) := by
  unfold f_M_image
  refine h_aload_n hX dX11_image_0 rfl rfl ?_
  refine get_RX11_261_M0 hX dX11_image_1 ?_
  refine h_if_ne hX dX11_image_4 (tgt := 9) (by decide) (fun _ => ?_) (fun _ => ?_)
  · refine h_iconst hX dX11_image_9 ki_0 ?_
    refine h_istore_n hX dX11_image_10 rfl (by decide) (lv' := [(0, .ref (aM B 0)), (1, .int 0)]) rfl ?_
    exact gH.loop (lvf := fun z : (Int32 × (Nat → Int32)) => [(0, .ref (aM B 0)), (1, .int z.1)]) (wf := fun z : (Int32 × (Nat → Int32)) => wdM B m_thrown m_size m_at m_wrong m_deep m_laws m_text m_readBoys m_readMarbles m_readFarms m_boys m_marbles m_farms m_holding m_spills m_acts m_draws m_bestRow m_bestMany m_noted m_hasImage m_tape m_code m_value m_codes m_clauses m_testFrom m_sumFrom m_sumTo m_letters m_stack m_readRule m_readBoy m_readMarble m_readFarm m_rule m_boy m_marble m_farm m_now m_refused m_kept m_notePlace m_noteKind m_noteIs m_toldBy z.2 ++ fr) (fun z => w_M_image_L11 hX z) (0, m_image)
  · refine h_iconst hX dX11_image_7 ki_m1 ?_
    exact h_ret hX (rv := some (.int ((-1)))) dX11_image_8 trivial (fun h => h)
theorem c_M_image {r : (Int32 × Int32 × (Nat → Int32))} (h : f_M_image m_marbles m_hasImage m_now m_image = some r) : gMet B 0 yX11_image cX11_image 2 (some .int) [.ref (aM B 0)] (wdM B m_thrown m_size m_at m_wrong m_deep m_laws m_text m_readBoys m_readMarbles m_readFarms m_boys m_marbles m_farms m_holding m_spills m_acts m_draws m_bestRow m_bestMany m_noted m_hasImage m_tape m_code m_value m_codes m_clauses m_testFrom m_sumFrom m_sumTo m_letters m_stack m_readRule m_readBoy m_readMarble m_readFarm m_rule m_boy m_marble m_farm m_now m_refused m_kept m_notePlace m_noteKind m_noteIs m_toldBy m_image ++ fr) (some (.int r.1)) (wdM B m_thrown m_size m_at m_wrong m_deep m_laws m_text m_readBoys m_readMarbles m_readFarms m_boys m_marbles m_farms m_holding m_spills m_acts m_draws m_bestRow m_bestMany m_noted r.2.1 m_tape m_code m_value m_codes m_clauses m_testFrom m_sumFrom m_sumTo m_letters m_stack m_readRule m_readBoy m_readMarble m_readFarm m_rule m_boy m_marble m_farm m_now m_refused m_kept m_notePlace m_noteKind m_noteIs m_toldBy r.2.2 ++ fr) :=
  gMet.of rfl (Nat.le_of_ble_eq_true rfl) (fun X hX hF => w_M_image hX r h hF)
set_option maxRecDepth 4000 in
theorem w_M_isRest_L3 {v1 : Int32} {v2 : Int32} {v3 : Int32} {v4 : Int32} (hX : gOk B X RX11 cX11_isRest 6 8 (some .boolean)) (s : (Int32 × (Nat → Int32) × (Nat → Int32))) : gH B X (Sum.elim (fun s : (Int32 × (Nat → Int32) × (Nat → Int32)) => gG B X 3 [(0, .ref (aM B 0)), (1, .int v1), (2, .int v2), (3, .int v3), (4, .int v4), (5, .int s.1)] [] (wdM B m_thrown m_size m_at m_wrong m_deep m_laws m_text m_readBoys m_readMarbles m_readFarms m_boys m_marbles m_farms m_holding m_spills m_acts m_draws m_bestRow m_bestMany m_noted m_hasImage m_tape m_code m_value m_codes m_clauses m_testFrom m_sumFrom m_sumTo s.2.1 s.2.2 m_readRule m_readBoy m_readMarble m_readFarm m_rule m_boy m_marble m_farm m_now m_refused m_kept m_notePlace m_noteKind m_noteIs m_toldBy m_image ++ fr)) (fun r : (Int32 × (Nat → Int32) × (Nat → Int32)) => gFin X (some (.int r.1)) (wdM B m_thrown m_size m_at m_wrong m_deep m_laws m_text m_readBoys m_readMarbles m_readFarms m_boys m_marbles m_farms m_holding m_spills m_acts m_draws m_bestRow m_bestMany m_noted m_hasImage m_tape m_code m_value m_codes m_clauses m_testFrom m_sumFrom m_sumTo r.2.1 r.2.2 m_readRule m_readBoy m_readMarble m_readFarm m_rule m_boy m_marble m_farm m_now m_refused m_kept m_notePlace m_noteKind m_noteIs m_toldBy m_image ++ fr))) 3 [(0, .ref (aM B 0)), (1, .int v1), (2, .int v2), (3, .int v3), (4, .int v4), (5, .int s.1)] [] (wdM B m_thrown m_size m_at m_wrong m_deep m_laws m_text m_readBoys m_readMarbles m_readFarms m_boys m_marbles m_farms m_holding m_spills m_acts m_draws m_bestRow m_bestMany m_noted m_hasImage m_tape m_code m_value m_codes m_clauses m_testFrom m_sumFrom m_sumTo s.2.1 s.2.2 m_readRule m_readBoy m_readMarble m_readFarm m_rule m_boy m_marble m_farm m_now m_refused m_kept m_notePlace m_noteKind m_noteIs m_toldBy m_image ++ fr) (f_M_isRest_L3 m_marbles m_holding m_code m_value m_clauses m_testFrom m_sumFrom m_sumTo m_rule m_boy m_marble m_now v1 v2 v3 v4 s) := by
  unfold f_M_isRest_L3
  refine h_iload hX dX11_isRest_3 rfl ?_
  refine h_bipush hX dX11_isRest_5 kb_9 ?_
  refine h_icmp_gt hX dX11_isRest_7 (tgt := 61) (by decide) (fun _ => ?_) (fun _ => ?_)
  · refine h_iconst hX dX11_isRest_61 ki_1 ?_
    exact h_ret hX (rv := some (.int 1)) dX11_isRest_62 rfl (fun h => h)
  · refine h_aload_n hX dX11_isRest_10 rfl rfl ?_
    refine h_iload_n hX dX11_isRest_11 rfl rfl ?_
    refine h_iload hX dX11_isRest_12 rfl ?_
    refine h_iload_n hX dX11_isRest_14 rfl rfl ?_
    refine h_iload hX dX11_isRest_15 rfl ?_
    refine h_callVi hX dX11_isRest_17 (cv_RX11_432) rc_M0 (As := [.int v1, .int s.1, .int v3, .int v4]) (st := []) (fun _ h => c_M_gameOf h) rfl rfl (by decide) (Nat.le_of_ble_eq_true rfl) (fun a_1 => ?_)
    refine h_aload_n hX dX11_isRest_20 rfl rfl ?_
    refine h_iload_n hX dX11_isRest_21 rfl rfl ?_
    refine h_iload_n hX dX11_isRest_22 rfl rfl ?_
    refine h_iload_n hX dX11_isRest_23 rfl rfl ?_
    refine h_iload hX dX11_isRest_24 rfl ?_
    refine h_callVi hX dX11_isRest_26 (cv_RX11_432) rc_M0 (As := [.int v1, .int v2, .int v3, .int v4]) (st := [.int a_1.1]) (fun _ h => c_M_gameOf h) rfl rfl (by decide) (Nat.le_of_ble_eq_true rfl) (fun a_2 => ?_)
    refine h_icmp_gt hX dX11_isRest_29 (tgt := 53) (by decide) (fun _ => ?_) (fun _ => ?_)
    · refine h_iconst hX dX11_isRest_53 ki_0 ?_
      exact h_ret hX (rv := some (.int 0)) dX11_isRest_54 rfl (fun h => h)
    · refine h_aload_n hX dX11_isRest_32 rfl rfl ?_
      refine h_iload_n hX dX11_isRest_33 rfl rfl ?_
      refine h_iload hX dX11_isRest_34 rfl ?_
      refine h_iload_n hX dX11_isRest_36 rfl rfl ?_
      refine h_iload_n hX dX11_isRest_37 rfl rfl ?_
      refine h_callVi hX dX11_isRest_38 (cv_RX11_432) rc_M0 (As := [.int v3, .int s.1, .int v1, .int v2]) (st := []) (fun _ h => c_M_gameOf h) rfl rfl (by decide) (Nat.le_of_ble_eq_true rfl) (fun a_3 => ?_)
      refine h_aload_n hX dX11_isRest_41 rfl rfl ?_
      refine h_iload_n hX dX11_isRest_42 rfl rfl ?_
      refine h_iload hX dX11_isRest_43 rfl ?_
      refine h_iload_n hX dX11_isRest_45 rfl rfl ?_
      refine h_iload_n hX dX11_isRest_46 rfl rfl ?_
      refine h_callVi hX dX11_isRest_47 (cv_RX11_432) rc_M0 (As := [.int v3, .int v4, .int v1, .int v2]) (st := [.int a_3.1]) (fun _ h => c_M_gameOf h) rfl rfl (by decide) (Nat.le_of_ble_eq_true rfl) (fun a_4 => ?_)
      refine h_icmp_le hX dX11_isRest_50 (tgt := 55) (by decide) (fun _ => ?_) (fun _ => ?_)
      · refine h_iincc hX dX11_isRest_55 rfl ki_1 (by decide) (lv' := [(0, .ref (aM B 0)), (1, .int v1), (2, .int v2), (3, .int v3), (4, .int v4), (5, .int (s.1 + 1))]) rfl ?_
        refine h_goto hX dX11_isRest_58 (tgt := 3) (by decide) ?_
        exact gH.some' (fun h => h)
      · refine h_iconst hX dX11_isRest_53 ki_0 ?_
        exact h_ret hX (rv := some (.int 0)) dX11_isRest_54 rfl (fun h => h)
set_option maxRecDepth 4000 in
theorem w_M_isRest {p0 : Int32} {p1 : Int32} {p2 : Int32} {p3 : Int32} (hX : gOk B X RX11 cX11_isRest 6 8 (some .boolean)) : gH B X (fun r : (Int32 × (Nat → Int32) × (Nat → Int32)) => gFin X (some (.int r.1)) (wdM B m_thrown m_size m_at m_wrong m_deep m_laws m_text m_readBoys m_readMarbles m_readFarms m_boys m_marbles m_farms m_holding m_spills m_acts m_draws m_bestRow m_bestMany m_noted m_hasImage m_tape m_code m_value m_codes m_clauses m_testFrom m_sumFrom m_sumTo r.2.1 r.2.2 m_readRule m_readBoy m_readMarble m_readFarm m_rule m_boy m_marble m_farm m_now m_refused m_kept m_notePlace m_noteKind m_noteIs m_toldBy m_image ++ fr)) 0 [(0, .ref (aM B 0)), (1, .int p0), (2, .int p1), (3, .int p2), (4, .int p3)] [] (wdM B m_thrown m_size m_at m_wrong m_deep m_laws m_text m_readBoys m_readMarbles m_readFarms m_boys m_marbles m_farms m_holding m_spills m_acts m_draws m_bestRow m_bestMany m_noted m_hasImage m_tape m_code m_value m_codes m_clauses m_testFrom m_sumFrom m_sumTo m_letters m_stack m_readRule m_readBoy m_readMarble m_readFarm m_rule m_boy m_marble m_farm m_now m_refused m_kept m_notePlace m_noteKind m_noteIs m_toldBy m_image ++ fr) (f_M_isRest m_marbles m_holding m_code m_value m_clauses m_testFrom m_sumFrom m_sumTo m_letters m_stack m_rule m_boy m_marble m_now p0 p1 p2 p3) := by
  unfold f_M_isRest
  refine h_iconst hX dX11_isRest_0 ki_1 ?_
  refine h_istore hX dX11_isRest_1 (by decide) (lv' := [(0, .ref (aM B 0)), (1, .int p0), (2, .int p1), (3, .int p2), (4, .int p3), (5, .int 1)]) rfl ?_
  exact gH.loop (lvf := fun z : (Int32 × (Nat → Int32) × (Nat → Int32)) => [(0, .ref (aM B 0)), (1, .int p0), (2, .int p1), (3, .int p2), (4, .int p3), (5, .int z.1)]) (wf := fun z : (Int32 × (Nat → Int32) × (Nat → Int32)) => wdM B m_thrown m_size m_at m_wrong m_deep m_laws m_text m_readBoys m_readMarbles m_readFarms m_boys m_marbles m_farms m_holding m_spills m_acts m_draws m_bestRow m_bestMany m_noted m_hasImage m_tape m_code m_value m_codes m_clauses m_testFrom m_sumFrom m_sumTo z.2.1 z.2.2 m_readRule m_readBoy m_readMarble m_readFarm m_rule m_boy m_marble m_farm m_now m_refused m_kept m_notePlace m_noteKind m_noteIs m_toldBy m_image ++ fr) (fun z => w_M_isRest_L3 hX z) (1, m_letters, m_stack)
theorem c_M_isRest {p0 : Int32} {p1 : Int32} {p2 : Int32} {p3 : Int32} {r : (Int32 × (Nat → Int32) × (Nat → Int32))} (h : f_M_isRest m_marbles m_holding m_code m_value m_clauses m_testFrom m_sumFrom m_sumTo m_letters m_stack m_rule m_boy m_marble m_now p0 p1 p2 p3 = some r) : gMet B 8 yX11_isRest cX11_isRest 6 (some .boolean) [.ref (aM B 0), .int p0, .int p1, .int p2, .int p3] (wdM B m_thrown m_size m_at m_wrong m_deep m_laws m_text m_readBoys m_readMarbles m_readFarms m_boys m_marbles m_farms m_holding m_spills m_acts m_draws m_bestRow m_bestMany m_noted m_hasImage m_tape m_code m_value m_codes m_clauses m_testFrom m_sumFrom m_sumTo m_letters m_stack m_readRule m_readBoy m_readMarble m_readFarm m_rule m_boy m_marble m_farm m_now m_refused m_kept m_notePlace m_noteKind m_noteIs m_toldBy m_image ++ fr) (some (.int r.1)) (wdM B m_thrown m_size m_at m_wrong m_deep m_laws m_text m_readBoys m_readMarbles m_readFarms m_boys m_marbles m_farms m_holding m_spills m_acts m_draws m_bestRow m_bestMany m_noted m_hasImage m_tape m_code m_value m_codes m_clauses m_testFrom m_sumFrom m_sumTo r.2.1 r.2.2 m_readRule m_readBoy m_readMarble m_readFarm m_rule m_boy m_marble m_farm m_now m_refused m_kept m_notePlace m_noteKind m_noteIs m_toldBy m_image ++ fr) :=
  gMet.of rfl (Nat.le_of_ble_eq_true rfl) (fun X hX hF => w_M_isRest hX r h hF)
set_option maxRecDepth 4000 in
theorem w_M_likingOf_J55 {v1 : Int32} {v2 : Int32} {v4 : Int32} {k0 : Int32} (hX : gOk B X RX11 cX11_likingOf 5 2 (some .int)) : gH B X (Sum.elim (fun s : (Int32 × Int32) => gG B X 5 [(0, .ref (aM B 0)), (1, .int v1), (2, .int v2), (3, .int s.1), (4, .int s.2)] [] (wdM B m_thrown m_size m_at m_wrong m_deep m_laws m_text m_readBoys m_readMarbles m_readFarms m_boys m_marbles m_farms m_holding m_spills m_acts m_draws m_bestRow m_bestMany m_noted m_hasImage m_tape m_code m_value m_codes m_clauses m_testFrom m_sumFrom m_sumTo m_letters m_stack m_readRule m_readBoy m_readMarble m_readFarm m_rule m_boy m_marble m_farm m_now m_refused m_kept m_notePlace m_noteKind m_noteIs m_toldBy m_image ++ fr)) (fun r : Int32 => gFin X (some (.int r)) (wdM B m_thrown m_size m_at m_wrong m_deep m_laws m_text m_readBoys m_readMarbles m_readFarms m_boys m_marbles m_farms m_holding m_spills m_acts m_draws m_bestRow m_bestMany m_noted m_hasImage m_tape m_code m_value m_codes m_clauses m_testFrom m_sumFrom m_sumTo m_letters m_stack m_readRule m_readBoy m_readMarble m_readFarm m_rule m_boy m_marble m_farm m_now m_refused m_kept m_notePlace m_noteKind m_noteIs m_toldBy m_image ++ fr))) 55 [(0, .ref (aM B 0)), (1, .int v1), (2, .int v2), (4, .int v4)] [.int k0] (wdM B m_thrown m_size m_at m_wrong m_deep m_laws m_text m_readBoys m_readMarbles m_readFarms m_boys m_marbles m_farms m_holding m_spills m_acts m_draws m_bestRow m_bestMany m_noted m_hasImage m_tape m_code m_value m_codes m_clauses m_testFrom m_sumFrom m_sumTo m_letters m_stack m_readRule m_readBoy m_readMarble m_readFarm m_rule m_boy m_marble m_farm m_now m_refused m_kept m_notePlace m_noteKind m_noteIs m_toldBy m_image ++ fr) (f_M_likingOf_J55 v4 k0) := by
  unfold f_M_likingOf_J55
  refine h_istore_n hX dX11_likingOf_55 rfl (by decide) (lv' := [(0, .ref (aM B 0)), (1, .int v1), (2, .int v2), (3, .int k0), (4, .int v4)]) rfl ?_
  refine h_iincc hX dX11_likingOf_56 rfl ki_1 (by decide) (lv' := [(0, .ref (aM B 0)), (1, .int v1), (2, .int v2), (3, .int k0), (4, .int (v4 + 1))]) rfl ?_
  refine h_goto hX dX11_likingOf_59 (tgt := 5) (by decide) ?_
  exact gH.some' (fun h => h)
set_option maxRecDepth 4000 in
theorem w_M_likingOf_J54 {v1 : Int32} {v2 : Int32} {v3 : Int32} {v4 : Int32} (hX : gOk B X RX11 cX11_likingOf 5 2 (some .int)) : gH B X (Sum.elim (fun s : (Int32 × Int32) => gG B X 5 [(0, .ref (aM B 0)), (1, .int v1), (2, .int v2), (3, .int s.1), (4, .int s.2)] [] (wdM B m_thrown m_size m_at m_wrong m_deep m_laws m_text m_readBoys m_readMarbles m_readFarms m_boys m_marbles m_farms m_holding m_spills m_acts m_draws m_bestRow m_bestMany m_noted m_hasImage m_tape m_code m_value m_codes m_clauses m_testFrom m_sumFrom m_sumTo m_letters m_stack m_readRule m_readBoy m_readMarble m_readFarm m_rule m_boy m_marble m_farm m_now m_refused m_kept m_notePlace m_noteKind m_noteIs m_toldBy m_image ++ fr)) (fun r : Int32 => gFin X (some (.int r)) (wdM B m_thrown m_size m_at m_wrong m_deep m_laws m_text m_readBoys m_readMarbles m_readFarms m_boys m_marbles m_farms m_holding m_spills m_acts m_draws m_bestRow m_bestMany m_noted m_hasImage m_tape m_code m_value m_codes m_clauses m_testFrom m_sumFrom m_sumTo m_letters m_stack m_readRule m_readBoy m_readMarble m_readFarm m_rule m_boy m_marble m_farm m_now m_refused m_kept m_notePlace m_noteKind m_noteIs m_toldBy m_image ++ fr))) 54 [(0, .ref (aM B 0)), (1, .int v1), (2, .int v2), (3, .int v3), (4, .int v4)] [] (wdM B m_thrown m_size m_at m_wrong m_deep m_laws m_text m_readBoys m_readMarbles m_readFarms m_boys m_marbles m_farms m_holding m_spills m_acts m_draws m_bestRow m_bestMany m_noted m_hasImage m_tape m_code m_value m_codes m_clauses m_testFrom m_sumFrom m_sumTo m_letters m_stack m_readRule m_readBoy m_readMarble m_readFarm m_rule m_boy m_marble m_farm m_now m_refused m_kept m_notePlace m_noteKind m_noteIs m_toldBy m_image ++ fr) (f_M_likingOf_J54 v3 v4) := by
  unfold f_M_likingOf_J54
  refine h_iload_n hX dX11_likingOf_54 rfl rfl ?_
  refine gH.dead [0, 1, 2, 4] rfl ?_
  exact w_M_likingOf_J55 hX
set_option maxRecDepth 4000 in
theorem w_M_likingOf_L5 {v1 : Int32} {v2 : Int32} (hX : gOk B X RX11 cX11_likingOf 5 2 (some .int)) (s : (Int32 × Int32)) : gH B X (Sum.elim (fun s : (Int32 × Int32) => gG B X 5 [(0, .ref (aM B 0)), (1, .int v1), (2, .int v2), (3, .int s.1), (4, .int s.2)] [] (wdM B m_thrown m_size m_at m_wrong m_deep m_laws m_text m_readBoys m_readMarbles m_readFarms m_boys m_marbles m_farms m_holding m_spills m_acts m_draws m_bestRow m_bestMany m_noted m_hasImage m_tape m_code m_value m_codes m_clauses m_testFrom m_sumFrom m_sumTo m_letters m_stack m_readRule m_readBoy m_readMarble m_readFarm m_rule m_boy m_marble m_farm m_now m_refused m_kept m_notePlace m_noteKind m_noteIs m_toldBy m_image ++ fr)) (fun r : Int32 => gFin X (some (.int r)) (wdM B m_thrown m_size m_at m_wrong m_deep m_laws m_text m_readBoys m_readMarbles m_readFarms m_boys m_marbles m_farms m_holding m_spills m_acts m_draws m_bestRow m_bestMany m_noted m_hasImage m_tape m_code m_value m_codes m_clauses m_testFrom m_sumFrom m_sumTo m_letters m_stack m_readRule m_readBoy m_readMarble m_readFarm m_rule m_boy m_marble m_farm m_now m_refused m_kept m_notePlace m_noteKind m_noteIs m_toldBy m_image ++ fr))) 5 [(0, .ref (aM B 0)), (1, .int v1), (2, .int v2), (3, .int s.1), (4, .int s.2)] [] (wdM B m_thrown m_size m_at m_wrong m_deep m_laws m_text m_readBoys m_readMarbles m_readFarms m_boys m_marbles m_farms m_holding m_spills m_acts m_draws m_bestRow m_bestMany m_noted m_hasImage m_tape m_code m_value m_codes m_clauses m_testFrom m_sumFrom m_sumTo m_letters m_stack m_readRule m_readBoy m_readMarble m_readFarm m_rule m_boy m_marble m_farm m_now m_refused m_kept m_notePlace m_noteKind m_noteIs m_toldBy m_image ++ fr) (f_M_likingOf_L5 m_farms m_boy m_marble m_farm m_now v1 v2 s) := by
  unfold f_M_likingOf_L5
  refine h_iload hX dX11_likingOf_5 rfl ?_
  refine h_aload_n hX dX11_likingOf_7 rfl rfl ?_
  refine get_RX11_264_M0 hX dX11_likingOf_8 ?_
  refine h_icmp_ge hX dX11_likingOf_11 (tgt := 62) (by decide) (fun _ => ?_) (fun _ => ?_)
  · refine gH.inr ?_
    refine h_aload_n hX dX11_likingOf_62 rfl rfl ?_
    refine h_iload_n hX dX11_likingOf_63 rfl rfl ?_
    refine h_callVi hX dX11_likingOf_64 (cv_RX11_310) rc_M0 (As := [.int v2]) (st := []) (fun _ h => c_M_worthNow h) rfl rfl (by decide) (Nat.le_of_ble_eq_true rfl) (fun a_1 => ?_)
    refine h_iload_n hX dX11_likingOf_67 rfl rfl ?_
    refine h_iadd hX dX11_likingOf_68 ?_
    exact h_ret hX (rv := some (.int (a_1 + s.1))) dX11_likingOf_69 trivial (fun h => h)
  · refine h_aload_n hX dX11_likingOf_14 rfl rfl ?_
    refine h_iload hX dX11_likingOf_15 rfl ?_
    refine h_iconst hX dX11_likingOf_17 ki_0 ?_
    refine h_callVi hX dX11_likingOf_18 (cv_RX11_316) rc_M0 (As := [.int s.2, .int 0]) (st := []) (fun _ h => c_M_ofFarm h) rfl rfl (by decide) (Nat.le_of_ble_eq_true rfl) (fun a_2 => ?_)
    refine h_aload_n hX dX11_likingOf_21 rfl rfl ?_
    refine get_RX11_55_M0 hX dX11_likingOf_22 ?_
    refine h_iconst hX dX11_likingOf_25 ki_2 ?_
    refine h_iload_n hX dX11_likingOf_26 rfl rfl ?_
    refine h_imul hX dX11_likingOf_27 ?_
    refine h_iconst hX dX11_likingOf_28 ki_1 ?_
    refine h_iadd hX dX11_likingOf_29 ?_
    refine ald_M16 hX dX11_likingOf_30 ?_
    refine h_icmp_ne hX dX11_likingOf_31 (tgt := 54) (by decide) (fun _ => ?_) (fun _ => ?_)
    · exact w_M_likingOf_J54 hX
    · refine h_aload_n hX dX11_likingOf_34 rfl rfl ?_
      refine h_iload hX dX11_likingOf_35 rfl ?_
      refine h_iconst hX dX11_likingOf_37 ki_1 ?_
      refine h_callVi hX dX11_likingOf_38 (cv_RX11_316) rc_M0 (As := [.int s.2, .int 1]) (st := []) (fun _ h => c_M_ofFarm h) rfl rfl (by decide) (Nat.le_of_ble_eq_true rfl) (fun a_4 => ?_)
      refine h_aload_n hX dX11_likingOf_41 rfl rfl ?_
      refine h_iload_n hX dX11_likingOf_42 rfl rfl ?_
      refine h_iconst hX dX11_likingOf_43 ki_1 ?_
      refine h_callVi hX dX11_likingOf_44 (cv_RX11_267) rc_M0 (As := [.int v2, .int 1]) (st := [.int a_4]) (fun _ h => c_M_of h) rfl rfl (by decide) (Nat.le_of_ble_eq_true rfl) (fun a_5 => ?_)
      refine h_icmp_ne hX dX11_likingOf_47 (tgt := 54) (by decide) (fun _ => ?_) (fun _ => ?_)
      · exact w_M_likingOf_J54 hX
      · refine h_iconst hX dX11_likingOf_50 ki_5 ?_
        refine h_goto hX dX11_likingOf_51 (tgt := 55) (by decide) ?_
        refine gH.dead [0, 1, 2, 4] rfl ?_
        exact w_M_likingOf_J55 hX
set_option maxRecDepth 4000 in
theorem w_M_likingOf {p0 : Int32} {p1 : Int32} (hX : gOk B X RX11 cX11_likingOf 5 2 (some .int)) : gH B X (fun r : Int32 => gFin X (some (.int r)) (wdM B m_thrown m_size m_at m_wrong m_deep m_laws m_text m_readBoys m_readMarbles m_readFarms m_boys m_marbles m_farms m_holding m_spills m_acts m_draws m_bestRow m_bestMany m_noted m_hasImage m_tape m_code m_value m_codes m_clauses m_testFrom m_sumFrom m_sumTo m_letters m_stack m_readRule m_readBoy m_readMarble m_readFarm m_rule m_boy m_marble m_farm m_now m_refused m_kept m_notePlace m_noteKind m_noteIs m_toldBy m_image ++ fr)) 0 [(0, .ref (aM B 0)), (1, .int p0), (2, .int p1)] [] (wdM B m_thrown m_size m_at m_wrong m_deep m_laws m_text m_readBoys m_readMarbles m_readFarms m_boys m_marbles m_farms m_holding m_spills m_acts m_draws m_bestRow m_bestMany m_noted m_hasImage m_tape m_code m_value m_codes m_clauses m_testFrom m_sumFrom m_sumTo m_letters m_stack m_readRule m_readBoy m_readMarble m_readFarm m_rule m_boy m_marble m_farm m_now m_refused m_kept m_notePlace m_noteKind m_noteIs m_toldBy m_image ++ fr) (f_M_likingOf m_farms m_boy m_marble m_farm m_now p0 p1) := by
  unfold f_M_likingOf
  refine h_iconst hX dX11_likingOf_0 ki_0 ?_
  refine h_istore_n hX dX11_likingOf_1 rfl (by decide) (lv' := [(0, .ref (aM B 0)), (1, .int p0), (2, .int p1), (3, .int 0)]) rfl ?_
  refine h_iconst hX dX11_likingOf_2 ki_0 ?_
  refine h_istore hX dX11_likingOf_3 (by decide) (lv' := [(0, .ref (aM B 0)), (1, .int p0), (2, .int p1), (3, .int 0), (4, .int 0)]) rfl ?_
  exact gH.loop (lvf := fun z : (Int32 × Int32) => [(0, .ref (aM B 0)), (1, .int p0), (2, .int p1), (3, .int z.1), (4, .int z.2)]) (wf := fun z : (Int32 × Int32) => wdM B m_thrown m_size m_at m_wrong m_deep m_laws m_text m_readBoys m_readMarbles m_readFarms m_boys m_marbles m_farms m_holding m_spills m_acts m_draws m_bestRow m_bestMany m_noted m_hasImage m_tape m_code m_value m_codes m_clauses m_testFrom m_sumFrom m_sumTo m_letters m_stack m_readRule m_readBoy m_readMarble m_readFarm m_rule m_boy m_marble m_farm m_now m_refused m_kept m_notePlace m_noteKind m_noteIs m_toldBy m_image ++ fr) (fun z => w_M_likingOf_L5 hX z) (0, 0)
theorem c_M_likingOf {p0 : Int32} {p1 : Int32} {r : Int32} (h : f_M_likingOf m_farms m_boy m_marble m_farm m_now p0 p1 = some r) : gMet B 2 yX11_likingOf cX11_likingOf 5 (some .int) [.ref (aM B 0), .int p0, .int p1] (wdM B m_thrown m_size m_at m_wrong m_deep m_laws m_text m_readBoys m_readMarbles m_readFarms m_boys m_marbles m_farms m_holding m_spills m_acts m_draws m_bestRow m_bestMany m_noted m_hasImage m_tape m_code m_value m_codes m_clauses m_testFrom m_sumFrom m_sumTo m_letters m_stack m_readRule m_readBoy m_readMarble m_readFarm m_rule m_boy m_marble m_farm m_now m_refused m_kept m_notePlace m_noteKind m_noteIs m_toldBy m_image ++ fr) (some (.int r)) (wdM B m_thrown m_size m_at m_wrong m_deep m_laws m_text m_readBoys m_readMarbles m_readFarms m_boys m_marbles m_farms m_holding m_spills m_acts m_draws m_bestRow m_bestMany m_noted m_hasImage m_tape m_code m_value m_codes m_clauses m_testFrom m_sumFrom m_sumTo m_letters m_stack m_readRule m_readBoy m_readMarble m_readFarm m_rule m_boy m_marble m_farm m_now m_refused m_kept m_notePlace m_noteKind m_noteIs m_toldBy m_image ++ fr) :=
  gMet.of rfl (Nat.le_of_ble_eq_true rfl) (fun X hX hF => w_M_likingOf hX r h hF)
set_option maxRecDepth 4000 in
theorem w_M_isTrade {p0 : Int32} {p1 : Int32} (hX : gOk B X RX11 cX11_isTrade 5 3 (some .boolean)) : gH B X (fun r : Int32 => gFin X (some (.int r)) (wdM B m_thrown m_size m_at m_wrong m_deep m_laws m_text m_readBoys m_readMarbles m_readFarms m_boys m_marbles m_farms m_holding m_spills m_acts m_draws m_bestRow m_bestMany m_noted m_hasImage m_tape m_code m_value m_codes m_clauses m_testFrom m_sumFrom m_sumTo m_letters m_stack m_readRule m_readBoy m_readMarble m_readFarm m_rule m_boy m_marble m_farm m_now m_refused m_kept m_notePlace m_noteKind m_noteIs m_toldBy m_image ++ fr)) 0 [(0, .ref (aM B 0)), (1, .int p0), (2, .int p1)] [] (wdM B m_thrown m_size m_at m_wrong m_deep m_laws m_text m_readBoys m_readMarbles m_readFarms m_boys m_marbles m_farms m_holding m_spills m_acts m_draws m_bestRow m_bestMany m_noted m_hasImage m_tape m_code m_value m_codes m_clauses m_testFrom m_sumFrom m_sumTo m_letters m_stack m_readRule m_readBoy m_readMarble m_readFarm m_rule m_boy m_marble m_farm m_now m_refused m_kept m_notePlace m_noteKind m_noteIs m_toldBy m_image ++ fr) (f_M_isTrade m_marbles m_farms m_boy m_marble m_farm m_now p0 p1) := by
  unfold f_M_isTrade
  refine h_aload_n hX dX11_isTrade_0 rfl rfl ?_
  refine h_iload_n hX dX11_isTrade_1 rfl rfl ?_
  refine h_iload_n hX dX11_isTrade_2 rfl rfl ?_
  refine h_callVi hX dX11_isTrade_3 (cv_RX11_335) rc_M0 (As := [.int p0, .int p1]) (st := []) (fun _ h => c_M_whyNot h) rfl rfl (by decide) (Nat.le_of_ble_eq_true rfl) (fun a_1 => ?_)
  refine h_iconst hX dX11_isTrade_6 ki_m1 ?_
  refine h_icmp_eq hX dX11_isTrade_7 (tgt := 12) (by decide) (fun _ => ?_) (fun _ => ?_)
  · refine h_aload_n hX dX11_isTrade_12 rfl rfl ?_
    refine get_RX11_64_M0 hX dX11_isTrade_13 ?_
    refine h_iconst hX dX11_isTrade_16 ki_0 ?_
    refine h_iload_n hX dX11_isTrade_17 rfl rfl ?_
    refine h_iadd hX dX11_isTrade_18 ?_
    refine ald_M19 hX dX11_isTrade_19 ?_
    refine gH.leti (fun v3_2 => ?_)
    refine h_istore_n hX dX11_isTrade_20 rfl (by decide) (lv' := [(0, .ref (aM B 0)), (1, .int p0), (2, .int p1), (3, .int v3_2)]) rfl ?_
    refine h_aload_n hX dX11_isTrade_21 rfl rfl ?_
    refine get_RX11_64_M0 hX dX11_isTrade_22 ?_
    refine h_iconst hX dX11_isTrade_25 ki_0 ?_
    refine h_iload_n hX dX11_isTrade_26 rfl rfl ?_
    refine h_iadd hX dX11_isTrade_27 ?_
    refine ald_M19 hX dX11_isTrade_28 ?_
    refine gH.leti (fun v4_3 => ?_)
    refine h_istore hX dX11_isTrade_29 (by decide) (lv' := [(0, .ref (aM B 0)), (1, .int p0), (2, .int p1), (3, .int v3_2), (4, .int v4_3)]) rfl ?_
    refine h_aload_n hX dX11_isTrade_31 rfl rfl ?_
    refine h_iload_n hX dX11_isTrade_32 rfl rfl ?_
    refine h_iload_n hX dX11_isTrade_33 rfl rfl ?_
    refine h_callVi hX dX11_isTrade_34 (cv_RX11_439) rc_M0 (As := [.int v3_2, .int p1]) (st := []) (fun _ h => c_M_likingOf h) rfl rfl (by decide) (Nat.le_of_ble_eq_true rfl) (fun a_4 => ?_)
    refine h_aload_n hX dX11_isTrade_37 rfl rfl ?_
    refine h_iload_n hX dX11_isTrade_38 rfl rfl ?_
    refine h_iload_n hX dX11_isTrade_39 rfl rfl ?_
    refine h_callVi hX dX11_isTrade_40 (cv_RX11_439) rc_M0 (As := [.int v3_2, .int p0]) (st := [.int a_4]) (fun _ h => c_M_likingOf h) rfl rfl (by decide) (Nat.le_of_ble_eq_true rfl) (fun a_5 => ?_)
    refine h_icmp_le hX dX11_isTrade_43 (tgt := 67) (by decide) (fun _ => ?_) (fun _ => ?_)
    · refine h_iconst hX dX11_isTrade_67 ki_0 ?_
      exact h_ret hX (rv := some (.int 0)) dX11_isTrade_68 rfl (fun h => h)
    · refine h_aload_n hX dX11_isTrade_46 rfl rfl ?_
      refine h_iload hX dX11_isTrade_47 rfl ?_
      refine h_iload_n hX dX11_isTrade_49 rfl rfl ?_
      refine h_callVi hX dX11_isTrade_50 (cv_RX11_439) rc_M0 (As := [.int v4_3, .int p0]) (st := []) (fun _ h => c_M_likingOf h) rfl rfl (by decide) (Nat.le_of_ble_eq_true rfl) (fun a_6 => ?_)
      refine h_aload_n hX dX11_isTrade_53 rfl rfl ?_
      refine h_iload hX dX11_isTrade_54 rfl ?_
      refine h_iload_n hX dX11_isTrade_56 rfl rfl ?_
      refine h_callVi hX dX11_isTrade_57 (cv_RX11_439) rc_M0 (As := [.int v4_3, .int p1]) (st := [.int a_6]) (fun _ h => c_M_likingOf h) rfl rfl (by decide) (Nat.le_of_ble_eq_true rfl) (fun a_7 => ?_)
      refine h_icmp_le hX dX11_isTrade_60 (tgt := 67) (by decide) (fun _ => ?_) (fun _ => ?_)
      · refine h_iconst hX dX11_isTrade_67 ki_0 ?_
        exact h_ret hX (rv := some (.int 0)) dX11_isTrade_68 rfl (fun h => h)
      · refine h_iconst hX dX11_isTrade_63 ki_1 ?_
        refine h_goto hX dX11_isTrade_64 (tgt := 68) (by decide) ?_
        exact h_ret hX (rv := some (.int 1)) dX11_isTrade_68 rfl (fun h => h)
  · refine h_iconst hX dX11_isTrade_10 ki_0 ?_
    exact h_ret hX (rv := some (.int 0)) dX11_isTrade_11 rfl (fun h => h)
theorem c_M_isTrade {p0 : Int32} {p1 : Int32} {r : Int32} (h : f_M_isTrade m_marbles m_farms m_boy m_marble m_farm m_now p0 p1 = some r) : gMet B 3 yX11_isTrade cX11_isTrade 5 (some .boolean) [.ref (aM B 0), .int p0, .int p1] (wdM B m_thrown m_size m_at m_wrong m_deep m_laws m_text m_readBoys m_readMarbles m_readFarms m_boys m_marbles m_farms m_holding m_spills m_acts m_draws m_bestRow m_bestMany m_noted m_hasImage m_tape m_code m_value m_codes m_clauses m_testFrom m_sumFrom m_sumTo m_letters m_stack m_readRule m_readBoy m_readMarble m_readFarm m_rule m_boy m_marble m_farm m_now m_refused m_kept m_notePlace m_noteKind m_noteIs m_toldBy m_image ++ fr) (some (.int r)) (wdM B m_thrown m_size m_at m_wrong m_deep m_laws m_text m_readBoys m_readMarbles m_readFarms m_boys m_marbles m_farms m_holding m_spills m_acts m_draws m_bestRow m_bestMany m_noted m_hasImage m_tape m_code m_value m_codes m_clauses m_testFrom m_sumFrom m_sumTo m_letters m_stack m_readRule m_readBoy m_readMarble m_readFarm m_rule m_boy m_marble m_farm m_now m_refused m_kept m_notePlace m_noteKind m_noteIs m_toldBy m_image ++ fr) :=
  gMet.of rfl (Nat.le_of_ble_eq_true rfl) (fun X hX hF => w_M_isTrade hX r h hF)
set_option maxRecDepth 4000 in
theorem w_M_lands {p0 : Int32} {p1 : Int32} {p2 : Int32} (hX : gOk B X RX11 cX11_lands 4 6 (some .int)) : gH B X (fun r : (Int32 × (Nat → Int32) × (Nat → Int32)) => gFin X (some (.int r.1)) (wdM B m_thrown m_size m_at m_wrong m_deep m_laws m_text m_readBoys m_readMarbles m_readFarms m_boys m_marbles m_farms m_holding m_spills m_acts m_draws m_bestRow m_bestMany m_noted m_hasImage m_tape m_code m_value m_codes m_clauses m_testFrom m_sumFrom m_sumTo r.2.1 r.2.2 m_readRule m_readBoy m_readMarble m_readFarm m_rule m_boy m_marble m_farm m_now m_refused m_kept m_notePlace m_noteKind m_noteIs m_toldBy m_image ++ fr)) 0 [(0, .ref (aM B 0)), (1, .int p0), (2, .int p1), (3, .int p2)] [] (wdM B m_thrown m_size m_at m_wrong m_deep m_laws m_text m_readBoys m_readMarbles m_readFarms m_boys m_marbles m_farms m_holding m_spills m_acts m_draws m_bestRow m_bestMany m_noted m_hasImage m_tape m_code m_value m_codes m_clauses m_testFrom m_sumFrom m_sumTo m_letters m_stack m_readRule m_readBoy m_readMarble m_readFarm m_rule m_boy m_marble m_farm m_now m_refused m_kept m_notePlace m_noteKind m_noteIs m_toldBy m_image ++ fr) (f_M_lands m_boys m_marbles m_holding m_code m_value m_clauses m_testFrom m_sumFrom m_sumTo m_letters m_stack m_boy m_marble m_now p0 p1 p2) := by
  unfold f_M_lands
  refine h_aload_n hX dX11_lands_0 rfl rfl ?_
  refine h_iload_n hX dX11_lands_1 rfl rfl ?_
  refine h_callVi hX dX11_lands_2 (cv_RX11_325) rc_M0 (As := [.int p0]) (st := []) (fun _ h => c_M_isBoy h) rfl rfl (by decide) (Nat.le_of_ble_eq_true rfl) (fun a_1 => ?_)
  refine h_if_eq hX dX11_lands_5 (tgt := 33) (by decide) (fun _ => ?_) (fun _ => ?_)
  · refine h_iconst hX dX11_lands_33 ki_m1 ?_
    exact h_ret hX (rv := some (.int ((-1)))) dX11_lands_34 trivial (fun h => h)
  · refine h_aload_n hX dX11_lands_8 rfl rfl ?_
    refine h_iload_n hX dX11_lands_9 rfl rfl ?_
    refine h_callVi hX dX11_lands_10 (cv_RX11_328) rc_M0 (As := [.int p1]) (st := []) (fun _ h => c_M_isMarble h) rfl rfl (by decide) (Nat.le_of_ble_eq_true rfl) (fun a_2 => ?_)
    refine h_if_eq hX dX11_lands_13 (tgt := 33) (by decide) (fun _ => ?_) (fun _ => ?_)
    · refine h_iconst hX dX11_lands_33 ki_m1 ?_
      exact h_ret hX (rv := some (.int ((-1)))) dX11_lands_34 trivial (fun h => h)
    · refine h_iload_n hX dX11_lands_16 rfl rfl ?_
      refine h_callSi hX dX11_lands_17 (cs_RX11_338) (As := [.int p2]) (st := []) (fun _ h => c_M_isPower h) rfl rfl (by decide) (Nat.le_of_ble_eq_true rfl) (fun a_3 => ?_)
      refine h_if_eq hX dX11_lands_20 (tgt := 33) (by decide) (fun _ => ?_) (fun _ => ?_)
      · refine h_iconst hX dX11_lands_33 ki_m1 ?_
        exact h_ret hX (rv := some (.int ((-1)))) dX11_lands_34 trivial (fun h => h)
      · refine h_aload_n hX dX11_lands_23 rfl rfl ?_
        refine h_iload_n hX dX11_lands_24 rfl rfl ?_
        refine h_iload_n hX dX11_lands_25 rfl rfl ?_
        refine h_iload_n hX dX11_lands_26 rfl rfl ?_
        refine h_callVi hX dX11_lands_27 (cv_RX11_341) rc_M0 (As := [.int p0, .int p1, .int p2]) (st := []) (fun _ h => c_M_landsAt h) rfl rfl (by decide) (Nat.le_of_ble_eq_true rfl) (fun a_4 => ?_)
        refine h_goto hX dX11_lands_30 (tgt := 34) (by decide) ?_
        exact h_ret hX (rv := some (.int a_4.1)) dX11_lands_34 trivial (fun h => h)
theorem c_M_lands {p0 : Int32} {p1 : Int32} {p2 : Int32} {r : (Int32 × (Nat → Int32) × (Nat → Int32))} (h : f_M_lands m_boys m_marbles m_holding m_code m_value m_clauses m_testFrom m_sumFrom m_sumTo m_letters m_stack m_boy m_marble m_now p0 p1 p2 = some r) : gMet B 6 yX11_lands cX11_lands 4 (some .int) [.ref (aM B 0), .int p0, .int p1, .int p2] (wdM B m_thrown m_size m_at m_wrong m_deep m_laws m_text m_readBoys m_readMarbles m_readFarms m_boys m_marbles m_farms m_holding m_spills m_acts m_draws m_bestRow m_bestMany m_noted m_hasImage m_tape m_code m_value m_codes m_clauses m_testFrom m_sumFrom m_sumTo m_letters m_stack m_readRule m_readBoy m_readMarble m_readFarm m_rule m_boy m_marble m_farm m_now m_refused m_kept m_notePlace m_noteKind m_noteIs m_toldBy m_image ++ fr) (some (.int r.1)) (wdM B m_thrown m_size m_at m_wrong m_deep m_laws m_text m_readBoys m_readMarbles m_readFarms m_boys m_marbles m_farms m_holding m_spills m_acts m_draws m_bestRow m_bestMany m_noted m_hasImage m_tape m_code m_value m_codes m_clauses m_testFrom m_sumFrom m_sumTo r.2.1 r.2.2 m_readRule m_readBoy m_readMarble m_readFarm m_rule m_boy m_marble m_farm m_now m_refused m_kept m_notePlace m_noteKind m_noteIs m_toldBy m_image ++ fr) :=
  gMet.of rfl (Nat.le_of_ble_eq_true rfl) (fun X hX hF => w_M_lands hX r h hF)
set_option maxRecDepth 4000 in
theorem w_M_law {p0 : Int32} (hX : gOk B X RX11 cX11_law 2 1 (some .boolean)) : gH B X (fun r : (Int32 × Int32) => gFin X (some (.int r.1)) (wdM B m_thrown m_size m_at m_wrong m_deep m_laws m_text m_readBoys m_readMarbles m_readFarms m_boys m_marbles m_farms r.2 m_spills m_acts m_draws m_bestRow m_bestMany m_noted m_hasImage m_tape m_code m_value m_codes m_clauses m_testFrom m_sumFrom m_sumTo m_letters m_stack m_readRule m_readBoy m_readMarble m_readFarm m_rule m_boy m_marble m_farm m_now m_refused m_kept m_notePlace m_noteKind m_noteIs m_toldBy m_image ++ fr)) 0 [(0, .ref (aM B 0)), (1, .int p0)] [] (wdM B m_thrown m_size m_at m_wrong m_deep m_laws m_text m_readBoys m_readMarbles m_readFarms m_boys m_marbles m_farms m_holding m_spills m_acts m_draws m_bestRow m_bestMany m_noted m_hasImage m_tape m_code m_value m_codes m_clauses m_testFrom m_sumFrom m_sumTo m_letters m_stack m_readRule m_readBoy m_readMarble m_readFarm m_rule m_boy m_marble m_farm m_now m_refused m_kept m_notePlace m_noteKind m_noteIs m_toldBy m_image ++ fr) (f_M_law m_laws m_holding p0) := by
  unfold f_M_law
  refine h_iload_n hX dX11_law_0 rfl rfl ?_
  refine h_iconst hX dX11_law_1 ki_m1 ?_
  refine h_aload_n hX dX11_law_2 rfl rfl ?_
  refine get_RX11_283_M0 hX dX11_law_3 ?_
  refine h_iconst hX dX11_law_6 ki_1 ?_
  refine h_isub hX dX11_law_7 ?_
  refine h_callSi hX dX11_law_8 (cs_RX11_208) (As := [.int p0, .int ((-1)), .int (m_laws - 1)]) (st := []) (fun _ h => c_M_in h) rfl rfl (by decide) (Nat.le_of_ble_eq_true rfl) (fun a_1 => ?_)
  refine h_if_ne hX dX11_law_11 (tgt := 16) (by decide) (fun _ => ?_) (fun _ => ?_)
  · refine h_aload_n hX dX11_law_16 rfl rfl ?_
    refine h_iload_n hX dX11_law_17 rfl rfl ?_
    refine put_RX11_70_M0 hX dX11_law_18 ?_
    refine h_iconst hX dX11_law_21 ki_1 ?_
    exact h_ret hX (rv := some (.int 1)) dX11_law_22 rfl (fun h => h)
  · refine h_iconst hX dX11_law_14 ki_0 ?_
    exact h_ret hX (rv := some (.int 0)) dX11_law_15 rfl (fun h => h)
theorem c_M_law {p0 : Int32} {r : (Int32 × Int32)} (h : f_M_law m_laws m_holding p0 = some r) : gMet B 1 yX11_law cX11_law 2 (some .boolean) [.ref (aM B 0), .int p0] (wdM B m_thrown m_size m_at m_wrong m_deep m_laws m_text m_readBoys m_readMarbles m_readFarms m_boys m_marbles m_farms m_holding m_spills m_acts m_draws m_bestRow m_bestMany m_noted m_hasImage m_tape m_code m_value m_codes m_clauses m_testFrom m_sumFrom m_sumTo m_letters m_stack m_readRule m_readBoy m_readMarble m_readFarm m_rule m_boy m_marble m_farm m_now m_refused m_kept m_notePlace m_noteKind m_noteIs m_toldBy m_image ++ fr) (some (.int r.1)) (wdM B m_thrown m_size m_at m_wrong m_deep m_laws m_text m_readBoys m_readMarbles m_readFarms m_boys m_marbles m_farms r.2 m_spills m_acts m_draws m_bestRow m_bestMany m_noted m_hasImage m_tape m_code m_value m_codes m_clauses m_testFrom m_sumFrom m_sumTo m_letters m_stack m_readRule m_readBoy m_readMarble m_readFarm m_rule m_boy m_marble m_farm m_now m_refused m_kept m_notePlace m_noteKind m_noteIs m_toldBy m_image ++ fr) :=
  gMet.of rfl (Nat.le_of_ble_eq_true rfl) (fun X hX hF => w_M_law hX r h hF)
set_option maxRecDepth 4000 in
theorem w_M_liking {p0 : Int32} {p1 : Int32} (hX : gOk B X RX11 cX11_liking 3 3 (some .int)) : gH B X (fun r : Int32 => gFin X (some (.int r)) (wdM B m_thrown m_size m_at m_wrong m_deep m_laws m_text m_readBoys m_readMarbles m_readFarms m_boys m_marbles m_farms m_holding m_spills m_acts m_draws m_bestRow m_bestMany m_noted m_hasImage m_tape m_code m_value m_codes m_clauses m_testFrom m_sumFrom m_sumTo m_letters m_stack m_readRule m_readBoy m_readMarble m_readFarm m_rule m_boy m_marble m_farm m_now m_refused m_kept m_notePlace m_noteKind m_noteIs m_toldBy m_image ++ fr)) 0 [(0, .ref (aM B 0)), (1, .int p0), (2, .int p1)] [] (wdM B m_thrown m_size m_at m_wrong m_deep m_laws m_text m_readBoys m_readMarbles m_readFarms m_boys m_marbles m_farms m_holding m_spills m_acts m_draws m_bestRow m_bestMany m_noted m_hasImage m_tape m_code m_value m_codes m_clauses m_testFrom m_sumFrom m_sumTo m_letters m_stack m_readRule m_readBoy m_readMarble m_readFarm m_rule m_boy m_marble m_farm m_now m_refused m_kept m_notePlace m_noteKind m_noteIs m_toldBy m_image ++ fr) (f_M_liking m_boys m_marbles m_farms m_boy m_marble m_farm m_now p0 p1) := by
  unfold f_M_liking
  refine h_aload_n hX dX11_liking_0 rfl rfl ?_
  refine h_iload_n hX dX11_liking_1 rfl rfl ?_
  refine h_callVi hX dX11_liking_2 (cv_RX11_325) rc_M0 (As := [.int p0]) (st := []) (fun _ h => c_M_isBoy h) rfl rfl (by decide) (Nat.le_of_ble_eq_true rfl) (fun a_1 => ?_)
  refine h_if_eq hX dX11_liking_5 (tgt := 25) (by decide) (fun _ => ?_) (fun _ => ?_)
  · refine h_iconst hX dX11_liking_25 ki_m1 ?_
    exact h_ret hX (rv := some (.int ((-1)))) dX11_liking_26 trivial (fun h => h)
  · refine h_aload_n hX dX11_liking_8 rfl rfl ?_
    refine h_iload_n hX dX11_liking_9 rfl rfl ?_
    refine h_callVi hX dX11_liking_10 (cv_RX11_328) rc_M0 (As := [.int p1]) (st := []) (fun _ h => c_M_isMarble h) rfl rfl (by decide) (Nat.le_of_ble_eq_true rfl) (fun a_2 => ?_)
    refine h_if_eq hX dX11_liking_13 (tgt := 25) (by decide) (fun _ => ?_) (fun _ => ?_)
    · refine h_iconst hX dX11_liking_25 ki_m1 ?_
      exact h_ret hX (rv := some (.int ((-1)))) dX11_liking_26 trivial (fun h => h)
    · refine h_aload_n hX dX11_liking_16 rfl rfl ?_
      refine h_iload_n hX dX11_liking_17 rfl rfl ?_
      refine h_iload_n hX dX11_liking_18 rfl rfl ?_
      refine h_callVi hX dX11_liking_19 (cv_RX11_439) rc_M0 (As := [.int p0, .int p1]) (st := []) (fun _ h => c_M_likingOf h) rfl rfl (by decide) (Nat.le_of_ble_eq_true rfl) (fun a_3 => ?_)
      refine h_goto hX dX11_liking_22 (tgt := 26) (by decide) ?_
      exact h_ret hX (rv := some (.int a_3)) dX11_liking_26 trivial (fun h => h)
theorem c_M_liking {p0 : Int32} {p1 : Int32} {r : Int32} (h : f_M_liking m_boys m_marbles m_farms m_boy m_marble m_farm m_now p0 p1 = some r) : gMet B 3 yX11_liking cX11_liking 3 (some .int) [.ref (aM B 0), .int p0, .int p1] (wdM B m_thrown m_size m_at m_wrong m_deep m_laws m_text m_readBoys m_readMarbles m_readFarms m_boys m_marbles m_farms m_holding m_spills m_acts m_draws m_bestRow m_bestMany m_noted m_hasImage m_tape m_code m_value m_codes m_clauses m_testFrom m_sumFrom m_sumTo m_letters m_stack m_readRule m_readBoy m_readMarble m_readFarm m_rule m_boy m_marble m_farm m_now m_refused m_kept m_notePlace m_noteKind m_noteIs m_toldBy m_image ++ fr) (some (.int r)) (wdM B m_thrown m_size m_at m_wrong m_deep m_laws m_text m_readBoys m_readMarbles m_readFarms m_boys m_marbles m_farms m_holding m_spills m_acts m_draws m_bestRow m_bestMany m_noted m_hasImage m_tape m_code m_value m_codes m_clauses m_testFrom m_sumFrom m_sumTo m_letters m_stack m_readRule m_readBoy m_readMarble m_readFarm m_rule m_boy m_marble m_farm m_now m_refused m_kept m_notePlace m_noteKind m_noteIs m_toldBy m_image ++ fr) :=
  gMet.of rfl (Nat.le_of_ble_eq_true rfl) (fun X hX hF => w_M_liking hX r h hF)
set_option maxRecDepth 4000 in
theorem w_M_log {p0 : Int32} {p1 : Int32} (hX : gOk B X RX11 cX11_log 3 1 (some .int)) : gH B X (fun r : Int32 => gFin X (some (.int r)) (wdM B m_thrown m_size m_at m_wrong m_deep m_laws m_text m_readBoys m_readMarbles m_readFarms m_boys m_marbles m_farms m_holding m_spills m_acts m_draws m_bestRow m_bestMany m_noted m_hasImage m_tape m_code m_value m_codes m_clauses m_testFrom m_sumFrom m_sumTo m_letters m_stack m_readRule m_readBoy m_readMarble m_readFarm m_rule m_boy m_marble m_farm m_now m_refused m_kept m_notePlace m_noteKind m_noteIs m_toldBy m_image ++ fr)) 0 [(0, .ref (aM B 0)), (1, .int p0), (2, .int p1)] [] (wdM B m_thrown m_size m_at m_wrong m_deep m_laws m_text m_readBoys m_readMarbles m_readFarms m_boys m_marbles m_farms m_holding m_spills m_acts m_draws m_bestRow m_bestMany m_noted m_hasImage m_tape m_code m_value m_codes m_clauses m_testFrom m_sumFrom m_sumTo m_letters m_stack m_readRule m_readBoy m_readMarble m_readFarm m_rule m_boy m_marble m_farm m_now m_refused m_kept m_notePlace m_noteKind m_noteIs m_toldBy m_image ++ fr) (f_M_log m_now p0 p1) := by
  unfold f_M_log
  refine h_iload_n hX dX11_log_0 rfl rfl ?_
  refine h_iconst hX dX11_log_1 ki_0 ?_
  refine h_aload_n hX dX11_log_2 rfl rfl ?_
  refine get_RX11_64_M0 hX dX11_log_3 ?_
  refine h_bipush hX dX11_log_6 kb_10 ?_
  refine ald_M19 hX dX11_log_8 ?_
  refine h_iconst hX dX11_log_9 ki_1 ?_
  refine h_isub hX dX11_log_10 ?_
  refine h_callSi hX dX11_log_11 (cs_RX11_208) (As := [.int p0, .int 0, .int ((m_now (10 : Int32).toNatClampNeg) - 1)]) (st := []) (fun _ h => c_M_in h) rfl rfl (by decide) (Nat.le_of_ble_eq_true rfl) (fun a_1 => ?_)
  refine h_if_eq hX dX11_log_14 (tgt := 52) (by decide) (fun _ => ?_) (fun _ => ?_)
  · refine h_iconst hX dX11_log_52 ki_m1 ?_
    exact h_ret hX (rv := some (.int ((-1)))) dX11_log_53 trivial (fun h => h)
  · refine h_iload_n hX dX11_log_17 rfl rfl ?_
    refine h_iconst hX dX11_log_18 ki_0 ?_
    refine h_iconst hX dX11_log_19 ki_1 ?_
    refine h_callSi hX dX11_log_20 (cs_RX11_208) (As := [.int p1, .int 0, .int 1]) (st := []) (fun _ h => c_M_in h) rfl rfl (by decide) (Nat.le_of_ble_eq_true rfl) (fun a_2 => ?_)
    refine h_if_eq hX dX11_log_23 (tgt := 52) (by decide) (fun _ => ?_) (fun _ => ?_)
    · refine h_iconst hX dX11_log_52 ki_m1 ?_
      exact h_ret hX (rv := some (.int ((-1)))) dX11_log_53 trivial (fun h => h)
    · refine h_aload_n hX dX11_log_26 rfl rfl ?_
      refine get_RX11_64_M0 hX dX11_log_27 ?_
      refine h_bipush hX dX11_log_30 kb_11 ?_
      refine h_iconst hX dX11_log_32 ki_2 ?_
      refine h_aload_n hX dX11_log_33 rfl rfl ?_
      refine get_RX11_64_M0 hX dX11_log_34 ?_
      refine h_bipush hX dX11_log_37 kb_10 ?_
      refine ald_M19 hX dX11_log_39 ?_
      refine h_iconst hX dX11_log_40 ki_1 ?_
      refine h_isub hX dX11_log_41 ?_
      refine h_iload_n hX dX11_log_42 rfl rfl ?_
      refine h_isub hX dX11_log_43 ?_
      refine h_imul hX dX11_log_44 ?_
      refine h_iadd hX dX11_log_45 ?_
      refine h_iload_n hX dX11_log_46 rfl rfl ?_
      refine h_iadd hX dX11_log_47 ?_
      refine ald_M19 hX dX11_log_48 ?_
      refine h_goto hX dX11_log_49 (tgt := 53) (by decide) ?_
      exact h_ret hX (rv := some (.int (m_now ((11 + (2 * (((m_now (10 : Int32).toNatClampNeg) - 1) - p0))) + p1 : Int32).toNatClampNeg))) dX11_log_53 trivial (fun h => h)
theorem c_M_log {p0 : Int32} {p1 : Int32} {r : Int32} (h : f_M_log m_now p0 p1 = some r) : gMet B 1 yX11_log cX11_log 3 (some .int) [.ref (aM B 0), .int p0, .int p1] (wdM B m_thrown m_size m_at m_wrong m_deep m_laws m_text m_readBoys m_readMarbles m_readFarms m_boys m_marbles m_farms m_holding m_spills m_acts m_draws m_bestRow m_bestMany m_noted m_hasImage m_tape m_code m_value m_codes m_clauses m_testFrom m_sumFrom m_sumTo m_letters m_stack m_readRule m_readBoy m_readMarble m_readFarm m_rule m_boy m_marble m_farm m_now m_refused m_kept m_notePlace m_noteKind m_noteIs m_toldBy m_image ++ fr) (some (.int r)) (wdM B m_thrown m_size m_at m_wrong m_deep m_laws m_text m_readBoys m_readMarbles m_readFarms m_boys m_marbles m_farms m_holding m_spills m_acts m_draws m_bestRow m_bestMany m_noted m_hasImage m_tape m_code m_value m_codes m_clauses m_testFrom m_sumFrom m_sumTo m_letters m_stack m_readRule m_readBoy m_readMarble m_readFarm m_rule m_boy m_marble m_farm m_now m_refused m_kept m_notePlace m_noteKind m_noteIs m_toldBy m_image ++ fr) :=
  gMet.of rfl (Nat.le_of_ble_eq_true rfl) (fun X hX hF => w_M_log hX r h hF)
set_option maxRecDepth 4000 in
theorem w_M_marble {p0 : Int32} {p1 : Int32} (hX : gOk B X RX11 cX11_marble 3 2 (some .int)) : gH B X (fun r : Int32 => gFin X (some (.int r)) (wdM B m_thrown m_size m_at m_wrong m_deep m_laws m_text m_readBoys m_readMarbles m_readFarms m_boys m_marbles m_farms m_holding m_spills m_acts m_draws m_bestRow m_bestMany m_noted m_hasImage m_tape m_code m_value m_codes m_clauses m_testFrom m_sumFrom m_sumTo m_letters m_stack m_readRule m_readBoy m_readMarble m_readFarm m_rule m_boy m_marble m_farm m_now m_refused m_kept m_notePlace m_noteKind m_noteIs m_toldBy m_image ++ fr)) 0 [(0, .ref (aM B 0)), (1, .int p0), (2, .int p1)] [] (wdM B m_thrown m_size m_at m_wrong m_deep m_laws m_text m_readBoys m_readMarbles m_readFarms m_boys m_marbles m_farms m_holding m_spills m_acts m_draws m_bestRow m_bestMany m_noted m_hasImage m_tape m_code m_value m_codes m_clauses m_testFrom m_sumFrom m_sumTo m_letters m_stack m_readRule m_readBoy m_readMarble m_readFarm m_rule m_boy m_marble m_farm m_now m_refused m_kept m_notePlace m_noteKind m_noteIs m_toldBy m_image ++ fr) (f_M_marble m_marbles m_marble m_now p0 p1) := by
  unfold f_M_marble
  refine h_aload_n hX dX11_marble_0 rfl rfl ?_
  refine h_iload_n hX dX11_marble_1 rfl rfl ?_
  refine h_callVi hX dX11_marble_2 (cv_RX11_328) rc_M0 (As := [.int p0]) (st := []) (fun _ h => c_M_isMarble h) rfl rfl (by decide) (Nat.le_of_ble_eq_true rfl) (fun a_1 => ?_)
  refine h_if_eq hX dX11_marble_5 (tgt := 17) (by decide) (fun _ => ?_) (fun _ => ?_)
  · refine h_ldcw hX dX11_marble_17 cst_RX11_331 ?_
    exact h_ret hX (rv := some (.int ((-1000000)))) dX11_marble_20 trivial (fun h => h)
  · refine h_iload_n hX dX11_marble_8 rfl rfl ?_
    refine h_iconst hX dX11_marble_9 ki_0 ?_
    refine h_iconst hX dX11_marble_10 ki_4 ?_
    refine h_callSi hX dX11_marble_11 (cs_RX11_208) (As := [.int p1, .int 0, .int 4]) (st := []) (fun _ h => c_M_in h) rfl rfl (by decide) (Nat.le_of_ble_eq_true rfl) (fun a_2 => ?_)
    refine h_if_ne hX dX11_marble_14 (tgt := 21) (by decide) (fun _ => ?_) (fun _ => ?_)
    · refine h_iload_n hX dX11_marble_21 rfl rfl ?_
      refine gH.ite (fun hc0 => ?_) (fun hc0 => ?_)
      · refine h_tsin hX dX11_marble_22 hc0 (by decide) (by decide) rfl (tgt := 56) (by decide) ?_
        refine h_aload_n hX dX11_marble_56 rfl rfl ?_
        refine get_RX11_64_M0 hX dX11_marble_57 ?_
        refine h_iconst hX dX11_marble_60 ki_0 ?_
        refine h_iload_n hX dX11_marble_61 rfl rfl ?_
        refine h_iadd hX dX11_marble_62 ?_
        refine ald_M19 hX dX11_marble_63 ?_
        exact h_ret hX (rv := some (.int (m_now (0 + p0 : Int32).toNatClampNeg))) dX11_marble_64 trivial (fun h => h)
      refine gH.ite (fun hc3 => ?_) (fun hc3 => ?_)
      · refine h_tsin hX dX11_marble_22 hc3 (by decide) (by decide) rfl (tgt := 65) (by decide) ?_
        refine h_aload_n hX dX11_marble_65 rfl rfl ?_
        refine get_RX11_64_M0 hX dX11_marble_66 ?_
        refine h_bipush hX dX11_marble_69 kb_6 ?_
        refine ald_M19 hX dX11_marble_71 ?_
        refine h_iload_n hX dX11_marble_72 rfl rfl ?_
        refine h_ishr hX dX11_marble_73 ?_
        refine h_iconst hX dX11_marble_74 ki_1 ?_
        refine h_iand hX dX11_marble_75 ?_
        exact h_ret hX (rv := some (.int (((m_now (6 : Int32).toNatClampNeg) >>> (p0 &&& 31)) &&& 1))) dX11_marble_76 trivial (fun h => h)
      refine gH.ite (fun hc4 => ?_) (fun hc4 => ?_)
      · refine h_tsin hX dX11_marble_22 hc4 (by decide) (by decide) rfl (tgt := 77) (by decide) ?_
        refine h_aload_n hX dX11_marble_77 rfl rfl ?_
        refine get_RX11_64_M0 hX dX11_marble_78 ?_
        refine h_bipush hX dX11_marble_81 kb_7 ?_
        refine ald_M19 hX dX11_marble_83 ?_
        refine h_iload_n hX dX11_marble_84 rfl rfl ?_
        refine h_ishr hX dX11_marble_85 ?_
        refine h_iconst hX dX11_marble_86 ki_1 ?_
        refine h_iand hX dX11_marble_87 ?_
        exact h_ret hX (rv := some (.int (((m_now (7 : Int32).toNatClampNeg) >>> (p0 &&& 31)) &&& 1))) dX11_marble_88 trivial (fun h => h)
      refine h_tsdef hX dX11_marble_22 (cs := [0, 3, 4]) (by decide) (by decide) (List.forall_mem_cons.mpr ⟨hc0, (List.forall_mem_cons.mpr ⟨hc3, (List.forall_mem_cons.mpr ⟨hc4, fun _ h => absurd h List.not_mem_nil⟩)⟩)⟩) (tgt := 89) (by decide) ?_
      refine h_aload_n hX dX11_marble_89 rfl rfl ?_
      refine h_iload_n hX dX11_marble_90 rfl rfl ?_
      refine h_iload_n hX dX11_marble_91 rfl rfl ?_
      refine h_callVi hX dX11_marble_92 (cv_RX11_267) rc_M0 (As := [.int p0, .int p1]) (st := []) (fun _ h => c_M_of h) rfl rfl (by decide) (Nat.le_of_ble_eq_true rfl) (fun a_3 => ?_)
      exact h_ret hX (rv := some (.int a_3)) dX11_marble_95 trivial (fun h => h)
    · refine h_ldcw hX dX11_marble_17 cst_RX11_331 ?_
      exact h_ret hX (rv := some (.int ((-1000000)))) dX11_marble_20 trivial (fun h => h)
theorem c_M_marble {p0 : Int32} {p1 : Int32} {r : Int32} (h : f_M_marble m_marbles m_marble m_now p0 p1 = some r) : gMet B 2 yX11_marble cX11_marble 3 (some .int) [.ref (aM B 0), .int p0, .int p1] (wdM B m_thrown m_size m_at m_wrong m_deep m_laws m_text m_readBoys m_readMarbles m_readFarms m_boys m_marbles m_farms m_holding m_spills m_acts m_draws m_bestRow m_bestMany m_noted m_hasImage m_tape m_code m_value m_codes m_clauses m_testFrom m_sumFrom m_sumTo m_letters m_stack m_readRule m_readBoy m_readMarble m_readFarm m_rule m_boy m_marble m_farm m_now m_refused m_kept m_notePlace m_noteKind m_noteIs m_toldBy m_image ++ fr) (some (.int r)) (wdM B m_thrown m_size m_at m_wrong m_deep m_laws m_text m_readBoys m_readMarbles m_readFarms m_boys m_marbles m_farms m_holding m_spills m_acts m_draws m_bestRow m_bestMany m_noted m_hasImage m_tape m_code m_value m_codes m_clauses m_testFrom m_sumFrom m_sumTo m_letters m_stack m_readRule m_readBoy m_readMarble m_readFarm m_rule m_boy m_marble m_farm m_now m_refused m_kept m_notePlace m_noteKind m_noteIs m_toldBy m_image ++ fr) :=
  gMet.of rfl (Nat.le_of_ble_eq_true rfl) (fun X hX hF => w_M_marble hX r h hF)
