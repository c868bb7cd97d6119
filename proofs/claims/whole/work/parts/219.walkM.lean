variable {B : gB} {X : gX} {fr : va_W} {m_thrown : Int32} {m_size : Int32} {m_at : Int32} {m_wrong : Int32} {m_deep : Int32} {m_laws : Int32} {m_text : Int32} {m_readBoys : Int32} {m_readMarbles : Int32} {m_readFarms : Int32} {m_boys : Int32} {m_marbles : Int32} {m_farms : Int32} {m_holding : Int32} {m_spills : Int32} {m_acts : Int32} {m_draws : Int64} {m_bestRow : Int32} {m_bestMany : Int32} {m_noted : Int32} {m_hasImage : Int32} {m_tape : Nat → Int32} {m_code : Nat → Int32} {m_value : Nat → Int32} {m_codes : Nat → Int32} {m_clauses : Nat → Int32} {m_testFrom : Nat → Int32} {m_sumFrom : Nat → Int32} {m_sumTo : Nat → Int32} {m_letters : Nat → Int32} {m_stack : Nat → Int32} {m_readRule : Nat → Int32} {m_readBoy : Nat → Int32} {m_readMarble : Nat → Int32} {m_readFarm : Nat → Int32} {m_rule : Nat → Int32} {m_boy : Nat → Int32} {m_marble : Nat → Int32} {m_farm : Nat → Int32} {m_now : Nat → Int32} {m_refused : Nat → Int32} {m_kept : Nat → Int32} {m_notePlace : Nat → Int32} {m_noteKind : Nat → Int32} {m_noteIs : Nat → Int32} {m_toldBy : Nat → Int32} {m_image : Nat → Int32}
set_option maxRecDepth 4000 in
theorem w_M_text_J22 {v1 : Int32} (hX : gOk B X RX11 cX11_text 2 343 (some .int)) : gH B X (fun r : (Int32 × Int32 × Int32 × Int32 × Int32 × Int32 × Int32 × Int32 × Int32 × Int32 × Int32 × Int32 × Int32 × Int32 × Int32 × Int32 × (Nat → Int32) × (Nat → Int32) × (Nat → Int32) × (Nat → Int32) × (Nat → Int32) × (Nat → Int32) × (Nat → Int32) × (Nat → Int32) × (Nat → Int32) × (Nat → Int32) × (Nat → Int32) × (Nat → Int32) × (Nat → Int32) × (Nat → Int32) × (Nat → Int32) × (Nat → Int32)) => gFin X (some (.int r.1)) (wdM B m_thrown r.2.1 r.2.2.1 r.2.2.2.1 r.2.2.2.2.1 r.2.2.2.2.2.1 r.2.2.2.2.2.2.1 r.2.2.2.2.2.2.2.1 r.2.2.2.2.2.2.2.2.1 r.2.2.2.2.2.2.2.2.2.1 r.2.2.2.2.2.2.2.2.2.2.1 r.2.2.2.2.2.2.2.2.2.2.2.1 r.2.2.2.2.2.2.2.2.2.2.2.2.1 m_holding m_spills r.2.2.2.2.2.2.2.2.2.2.2.2.2.1 m_draws m_bestRow m_bestMany r.2.2.2.2.2.2.2.2.2.2.2.2.2.2.1 r.2.2.2.2.2.2.2.2.2.2.2.2.2.2.2.1 m_tape r.2.2.2.2.2.2.2.2.2.2.2.2.2.2.2.2.1 r.2.2.2.2.2.2.2.2.2.2.2.2.2.2.2.2.2.1 r.2.2.2.2.2.2.2.2.2.2.2.2.2.2.2.2.2.2.1 r.2.2.2.2.2.2.2.2.2.2.2.2.2.2.2.2.2.2.2.1 r.2.2.2.2.2.2.2.2.2.2.2.2.2.2.2.2.2.2.2.2.1 r.2.2.2.2.2.2.2.2.2.2.2.2.2.2.2.2.2.2.2.2.2.1 r.2.2.2.2.2.2.2.2.2.2.2.2.2.2.2.2.2.2.2.2.2.2.1 m_letters m_stack r.2.2.2.2.2.2.2.2.2.2.2.2.2.2.2.2.2.2.2.2.2.2.2.1 r.2.2.2.2.2.2.2.2.2.2.2.2.2.2.2.2.2.2.2.2.2.2.2.2.1 r.2.2.2.2.2.2.2.2.2.2.2.2.2.2.2.2.2.2.2.2.2.2.2.2.2.1 r.2.2.2.2.2.2.2.2.2.2.2.2.2.2.2.2.2.2.2.2.2.2.2.2.2.2.1 r.2.2.2.2.2.2.2.2.2.2.2.2.2.2.2.2.2.2.2.2.2.2.2.2.2.2.2.1 r.2.2.2.2.2.2.2.2.2.2.2.2.2.2.2.2.2.2.2.2.2.2.2.2.2.2.2.2.1 r.2.2.2.2.2.2.2.2.2.2.2.2.2.2.2.2.2.2.2.2.2.2.2.2.2.2.2.2.2.1 r.2.2.2.2.2.2.2.2.2.2.2.2.2.2.2.2.2.2.2.2.2.2.2.2.2.2.2.2.2.2.1 r.2.2.2.2.2.2.2.2.2.2.2.2.2.2.2.2.2.2.2.2.2.2.2.2.2.2.2.2.2.2.2 m_refused m_kept m_notePlace m_noteKind m_noteIs m_toldBy m_image ++ fr)) 22 [(0, .ref (aM B 0)), (1, .int v1)] [] (wdM B m_thrown m_size m_at m_wrong m_deep m_laws m_text m_readBoys m_readMarbles m_readFarms m_boys m_marbles m_farms m_holding m_spills m_acts m_draws m_bestRow m_bestMany m_noted m_hasImage m_tape m_code m_value m_codes m_clauses m_testFrom m_sumFrom m_sumTo m_letters m_stack m_readRule m_readBoy m_readMarble m_readFarm m_rule m_boy m_marble m_farm m_now m_refused m_kept m_notePlace m_noteKind m_noteIs m_toldBy m_image ++ fr) (f_M_text_J22 m_size m_at m_wrong m_deep m_laws m_text m_readBoys m_readMarbles m_readFarms m_boys m_marbles m_farms m_acts m_noted m_hasImage m_tape m_code m_value m_codes m_clauses m_testFrom m_sumFrom m_sumTo m_readRule m_readBoy m_readMarble m_readFarm m_rule m_boy m_marble m_farm m_now v1) := by
  unfold f_M_text_J22
  refine h_iload_n hX dX11_text_22 rfl rfl ?_
  refine h_iconst hX dX11_text_23 ki_1 ?_
  refine h_icmp_ne hX dX11_text_24 (tgt := 69) (by decide) (fun _ => ?_) (fun _ => ?_)
  · refine h_iconst hX dX11_text_69 ki_m1 ?_
    exact h_ret hX (rv := some (.int ((-1)))) dX11_text_70 trivial (fun h => h)
  · refine h_aload_n hX dX11_text_27 rfl rfl ?_
    refine get_RX11_283_M0 hX dX11_text_28 ?_
    refine h_iconst hX dX11_text_31 ki_4 ?_
    refine h_icmp_ge hX dX11_text_32 (tgt := 69) (by decide) (fun _ => ?_) (fun _ => ?_)
    · refine h_iconst hX dX11_text_69 ki_m1 ?_
      exact h_ret hX (rv := some (.int ((-1)))) dX11_text_70 trivial (fun h => h)
    · refine h_aload_n hX dX11_text_35 rfl rfl ?_
      refine h_aload_n hX dX11_text_36 rfl rfl ?_
      refine get_RX11_283_M0 hX dX11_text_37 ?_
      refine h_callVi hX dX11_text_40 (cv_RX11_255) rc_M0 (As := [.int m_laws]) (st := []) (fun _ h => c_M_readLaw h) rfl rfl (by decide) (Nat.le_of_ble_eq_true rfl) (fun a_1 => ?_)
      refine h_iconst hX dX11_text_43 ki_m1 ?_
      refine h_icmp_ne hX dX11_text_44 (tgt := 69) (by decide) (fun _ => ?_) (fun _ => ?_)
      · refine h_iconst hX dX11_text_69 ki_m1 ?_
        exact h_ret hX (rv := some (.int ((-1)))) dX11_text_70 trivial (fun h => h)
      · refine h_aload_n hX dX11_text_47 rfl rfl ?_
        refine h_iconst hX dX11_text_48 ki_0 ?_
        refine put_RX11_100_M0 hX dX11_text_49 ?_
        refine h_aload_n hX dX11_text_52 rfl rfl ?_
        refine h_dup hX dX11_text_53 rfl ?_
        refine get_RX11_283_M0 hX dX11_text_54 ?_
        refine h_iconst hX dX11_text_57 ki_1 ?_
        refine h_iadd hX dX11_text_58 ?_
        refine put_RX11_283_M0 hX dX11_text_59 ?_
        refine gH.letw (w := fun y => wdM B m_thrown 0 a_1.2.1 a_1.2.2.1 a_1.2.2.2.1 y a_1.2.2.2.2.1 m_readBoys m_readMarbles m_readFarms m_boys m_marbles m_farms m_holding m_spills m_acts m_draws m_bestRow m_bestMany m_noted m_hasImage m_tape a_1.2.2.2.2.2.1 a_1.2.2.2.2.2.2.1 a_1.2.2.2.2.2.2.2.1 a_1.2.2.2.2.2.2.2.2.1 a_1.2.2.2.2.2.2.2.2.2.1 a_1.2.2.2.2.2.2.2.2.2.2.1 a_1.2.2.2.2.2.2.2.2.2.2.2 m_letters m_stack m_readRule m_readBoy m_readMarble m_readFarm m_rule m_boy m_marble m_farm m_now m_refused m_kept m_notePlace m_noteKind m_noteIs m_toldBy m_image ++ fr) (fun m_laws_2 => ?_)
        refine h_aload_n hX dX11_text_62 rfl rfl ?_
        refine get_RX11_283_M0 hX dX11_text_63 ?_
        refine h_iconst hX dX11_text_66 ki_1 ?_
        refine h_isub hX dX11_text_67 ?_
        exact h_ret hX (rv := some (.int (m_laws_2 - 1))) dX11_text_68 trivial (fun h => h)
set_option maxRecDepth 4000 in
theorem w_M_text {p0 : Int32} (hX : gOk B X RX11 cX11_text 2 343 (some .int)) : gH B X (fun r : (Int32 × Int32 × Int32 × Int32 × Int32 × Int32 × Int32 × Int32 × Int32 × Int32 × Int32 × Int32 × Int32 × Int32 × Int32 × Int32 × (Nat → Int32) × (Nat → Int32) × (Nat → Int32) × (Nat → Int32) × (Nat → Int32) × (Nat → Int32) × (Nat → Int32) × (Nat → Int32) × (Nat → Int32) × (Nat → Int32) × (Nat → Int32) × (Nat → Int32) × (Nat → Int32) × (Nat → Int32) × (Nat → Int32) × (Nat → Int32)) => gFin X (some (.int r.1)) (wdM B m_thrown r.2.1 r.2.2.1 r.2.2.2.1 r.2.2.2.2.1 r.2.2.2.2.2.1 r.2.2.2.2.2.2.1 r.2.2.2.2.2.2.2.1 r.2.2.2.2.2.2.2.2.1 r.2.2.2.2.2.2.2.2.2.1 r.2.2.2.2.2.2.2.2.2.2.1 r.2.2.2.2.2.2.2.2.2.2.2.1 r.2.2.2.2.2.2.2.2.2.2.2.2.1 m_holding m_spills r.2.2.2.2.2.2.2.2.2.2.2.2.2.1 m_draws m_bestRow m_bestMany r.2.2.2.2.2.2.2.2.2.2.2.2.2.2.1 r.2.2.2.2.2.2.2.2.2.2.2.2.2.2.2.1 m_tape r.2.2.2.2.2.2.2.2.2.2.2.2.2.2.2.2.1 r.2.2.2.2.2.2.2.2.2.2.2.2.2.2.2.2.2.1 r.2.2.2.2.2.2.2.2.2.2.2.2.2.2.2.2.2.2.1 r.2.2.2.2.2.2.2.2.2.2.2.2.2.2.2.2.2.2.2.1 r.2.2.2.2.2.2.2.2.2.2.2.2.2.2.2.2.2.2.2.2.1 r.2.2.2.2.2.2.2.2.2.2.2.2.2.2.2.2.2.2.2.2.2.1 r.2.2.2.2.2.2.2.2.2.2.2.2.2.2.2.2.2.2.2.2.2.2.1 m_letters m_stack r.2.2.2.2.2.2.2.2.2.2.2.2.2.2.2.2.2.2.2.2.2.2.2.1 r.2.2.2.2.2.2.2.2.2.2.2.2.2.2.2.2.2.2.2.2.2.2.2.2.1 r.2.2.2.2.2.2.2.2.2.2.2.2.2.2.2.2.2.2.2.2.2.2.2.2.2.1 r.2.2.2.2.2.2.2.2.2.2.2.2.2.2.2.2.2.2.2.2.2.2.2.2.2.2.1 r.2.2.2.2.2.2.2.2.2.2.2.2.2.2.2.2.2.2.2.2.2.2.2.2.2.2.2.1 r.2.2.2.2.2.2.2.2.2.2.2.2.2.2.2.2.2.2.2.2.2.2.2.2.2.2.2.2.1 r.2.2.2.2.2.2.2.2.2.2.2.2.2.2.2.2.2.2.2.2.2.2.2.2.2.2.2.2.2.1 r.2.2.2.2.2.2.2.2.2.2.2.2.2.2.2.2.2.2.2.2.2.2.2.2.2.2.2.2.2.2.1 r.2.2.2.2.2.2.2.2.2.2.2.2.2.2.2.2.2.2.2.2.2.2.2.2.2.2.2.2.2.2.2 m_refused m_kept m_notePlace m_noteKind m_noteIs m_toldBy m_image ++ fr)) 0 [(0, .ref (aM B 0)), (1, .int p0)] [] (wdM B m_thrown m_size m_at m_wrong m_deep m_laws m_text m_readBoys m_readMarbles m_readFarms m_boys m_marbles m_farms m_holding m_spills m_acts m_draws m_bestRow m_bestMany m_noted m_hasImage m_tape m_code m_value m_codes m_clauses m_testFrom m_sumFrom m_sumTo m_letters m_stack m_readRule m_readBoy m_readMarble m_readFarm m_rule m_boy m_marble m_farm m_now m_refused m_kept m_notePlace m_noteKind m_noteIs m_toldBy m_image ++ fr) (f_M_text m_size m_at m_wrong m_deep m_laws m_text m_readBoys m_readMarbles m_readFarms m_boys m_marbles m_farms m_acts m_noted m_hasImage m_tape m_code m_value m_codes m_clauses m_testFrom m_sumFrom m_sumTo m_readRule m_readBoy m_readMarble m_readFarm m_rule m_boy m_marble m_farm m_now p0) := by
  unfold f_M_text
  refine h_iload_n hX dX11_text_0 rfl rfl ?_
  refine h_if_ne hX dX11_text_1 (tgt := 22) (by decide) (fun _ => ?_) (fun _ => ?_)
  · exact w_M_text_J22 hX
  · refine h_aload_n hX dX11_text_4 rfl rfl ?_
    refine h_callVi hX dX11_text_5 (cv_RX11_252) rc_M0 (As := []) (st := []) (fun _ h => c_M_readYard h) rfl rfl (by decide) (Nat.le_of_ble_eq_true rfl) (fun a_3 => ?_)
    refine h_iconst hX dX11_text_8 ki_m1 ?_
    refine h_icmp_ne hX dX11_text_9 (tgt := 22) (by decide) (fun _ => ?_) (fun _ => ?_)
    · exact w_M_text_J22 hX
    · refine h_aload_n hX dX11_text_12 rfl rfl ?_
      refine h_iconst hX dX11_text_13 ki_0 ?_
      refine put_RX11_100_M0 hX dX11_text_14 ?_
      refine h_aload_n hX dX11_text_17 rfl rfl ?_
      refine h_callVi hX dX11_text_18 (cv_RX11_280) rc_M0 (As := []) (st := []) (fun _ h => c_M_takeYard h) rfl rfl (by decide) (Nat.le_of_ble_eq_true rfl) (fun a_4 => ?_)
      exact h_ret hX (rv := some (.int a_4.1)) dX11_text_21 trivial (fun h => h)
theorem c_M_text {p0 : Int32} {r : (Int32 × Int32 × Int32 × Int32 × Int32 × Int32 × Int32 × Int32 × Int32 × Int32 × Int32 × Int32 × Int32 × Int32 × Int32 × Int32 × (Nat → Int32) × (Nat → Int32) × (Nat → Int32) × (Nat → Int32) × (Nat → Int32) × (Nat → Int32) × (Nat → Int32) × (Nat → Int32) × (Nat → Int32) × (Nat → Int32) × (Nat → Int32) × (Nat → Int32) × (Nat → Int32) × (Nat → Int32) × (Nat → Int32) × (Nat → Int32))} (h : f_M_text m_size m_at m_wrong m_deep m_laws m_text m_readBoys m_readMarbles m_readFarms m_boys m_marbles m_farms m_acts m_noted m_hasImage m_tape m_code m_value m_codes m_clauses m_testFrom m_sumFrom m_sumTo m_readRule m_readBoy m_readMarble m_readFarm m_rule m_boy m_marble m_farm m_now p0 = some r) : gMet B 343 yX11_text cX11_text 2 (some .int) [.ref (aM B 0), .int p0] (wdM B m_thrown m_size m_at m_wrong m_deep m_laws m_text m_readBoys m_readMarbles m_readFarms m_boys m_marbles m_farms m_holding m_spills m_acts m_draws m_bestRow m_bestMany m_noted m_hasImage m_tape m_code m_value m_codes m_clauses m_testFrom m_sumFrom m_sumTo m_letters m_stack m_readRule m_readBoy m_readMarble m_readFarm m_rule m_boy m_marble m_farm m_now m_refused m_kept m_notePlace m_noteKind m_noteIs m_toldBy m_image ++ fr) (some (.int r.1)) (wdM B m_thrown r.2.1 r.2.2.1 r.2.2.2.1 r.2.2.2.2.1 r.2.2.2.2.2.1 r.2.2.2.2.2.2.1 r.2.2.2.2.2.2.2.1 r.2.2.2.2.2.2.2.2.1 r.2.2.2.2.2.2.2.2.2.1 r.2.2.2.2.2.2.2.2.2.2.1 r.2.2.2.2.2.2.2.2.2.2.2.1 r.2.2.2.2.2.2.2.2.2.2.2.2.1 m_holding m_spills r.2.2.2.2.2.2.2.2.2.2.2.2.2.1 m_draws m_bestRow m_bestMany r.2.2.2.2.2.2.2.2.2.2.2.2.2.2.1 r.2.2.2.2.2.2.2.2.2.2.2.2.2.2.2.1 m_tape r.2.2.2.2.2.2.2.2.2.2.2.2.2.2.2.2.1 r.2.2.2.2.2.2.2.2.2.2.2.2.2.2.2.2.2.1 r.2.2.2.2.2.2.2.2.2.2.2.2.2.2.2.2.2.2.1 r.2.2.2.2.2.2.2.2.2.2.2.2.2.2.2.2.2.2.2.1 r.2.2.2.2.2.2.2.2.2.2.2.2.2.2.2.2.2.2.2.2.1 r.2.2.2.2.2.2.2.2.2.2.2.2.2.2.2.2.2.2.2.2.2.1 r.2.2.2.2.2.2.2.2.2.2.2.2.2.2.2.2.2.2.2.2.2.2.1 m_letters m_stack r.2.2.2.2.2.2.2.2.2.2.2.2.2.2.2.2.2.2.2.2.2.2.2.1 r.2.2.2.2.2.2.2.2.2.2.2.2.2.2.2.2.2.2.2.2.2.2.2.2.1 r.2.2.2.2.2.2.2.2.2.2.2.2.2.2.2.2.2.2.2.2.2.2.2.2.2.1 r.2.2.2.2.2.2.2.2.2.2.2.2.2.2.2.2.2.2.2.2.2.2.2.2.2.2.1 r.2.2.2.2.2.2.2.2.2.2.2.2.2.2.2.2.2.2.2.2.2.2.2.2.2.2.2.1 r.2.2.2.2.2.2.2.2.2.2.2.2.2.2.2.2.2.2.2.2.2.2.2.2.2.2.2.2.1 r.2.2.2.2.2.2.2.2.2.2.2.2.2.2.2.2.2.2.2.2.2.2.2.2.2.2.2.2.2.1 r.2.2.2.2.2.2.2.2.2.2.2.2.2.2.2.2.2.2.2.2.2.2.2.2.2.2.2.2.2.2.1 r.2.2.2.2.2.2.2.2.2.2.2.2.2.2.2.2.2.2.2.2.2.2.2.2.2.2.2.2.2.2.2 m_refused m_kept m_notePlace m_noteKind m_noteIs m_toldBy m_image ++ fr) :=
  gMet.of rfl (Nat.le_of_ble_eq_true rfl) (fun X hX hF => w_M_text hX r h hF)
set_option maxRecDepth 4000 in
theorem w_M_thrown (hX : gOk B X RX11 cX11_thrown 1 0 (some .int)) : gH B X (fun r : Int32 => gFin X (some (.int r)) (wdM B m_thrown m_size m_at m_wrong m_deep m_laws m_text m_readBoys m_readMarbles m_readFarms m_boys m_marbles m_farms m_holding m_spills m_acts m_draws m_bestRow m_bestMany m_noted m_hasImage m_tape m_code m_value m_codes m_clauses m_testFrom m_sumFrom m_sumTo m_letters m_stack m_readRule m_readBoy m_readMarble m_readFarm m_rule m_boy m_marble m_farm m_now m_refused m_kept m_notePlace m_noteKind m_noteIs m_toldBy m_image ++ fr)) 0 [(0, .ref (aM B 0))] [] (wdM B m_thrown m_size m_at m_wrong m_deep m_laws m_text m_readBoys m_readMarbles m_readFarms m_boys m_marbles m_farms m_holding m_spills m_acts m_draws m_bestRow m_bestMany m_noted m_hasImage m_tape m_code m_value m_codes m_clauses m_testFrom m_sumFrom m_sumTo m_letters m_stack m_readRule m_readBoy m_readMarble m_readFarm m_rule m_boy m_marble m_farm m_now m_refused m_kept m_notePlace m_noteKind m_noteIs m_toldBy m_image ++ fr) (f_M_thrown m_thrown) := by
  unfold f_M_thrown
  refine h_aload_n hX dX11_thrown_0 rfl rfl ?_
  refine get_RX11_93_M0 hX dX11_thrown_1 ?_
  exact h_ret hX (rv := some (.int m_thrown)) dX11_thrown_4 trivial (fun h => h)
theorem c_M_thrown {r : Int32} (h : f_M_thrown m_thrown = some r) : gMet B 0 yX11_thrown cX11_thrown 1 (some .int) [.ref (aM B 0)] (wdM B m_thrown m_size m_at m_wrong m_deep m_laws m_text m_readBoys m_readMarbles m_readFarms m_boys m_marbles m_farms m_holding m_spills m_acts m_draws m_bestRow m_bestMany m_noted m_hasImage m_tape m_code m_value m_codes m_clauses m_testFrom m_sumFrom m_sumTo m_letters m_stack m_readRule m_readBoy m_readMarble m_readFarm m_rule m_boy m_marble m_farm m_now m_refused m_kept m_notePlace m_noteKind m_noteIs m_toldBy m_image ++ fr) (some (.int r)) (wdM B m_thrown m_size m_at m_wrong m_deep m_laws m_text m_readBoys m_readMarbles m_readFarms m_boys m_marbles m_farms m_holding m_spills m_acts m_draws m_bestRow m_bestMany m_noted m_hasImage m_tape m_code m_value m_codes m_clauses m_testFrom m_sumFrom m_sumTo m_letters m_stack m_readRule m_readBoy m_readMarble m_readFarm m_rule m_boy m_marble m_farm m_now m_refused m_kept m_notePlace m_noteKind m_noteIs m_toldBy m_image ++ fr) :=
  gMet.of rfl (Nat.le_of_ble_eq_true rfl) (fun X hX hF => w_M_thrown hX r h hF)
set_option maxRecDepth 4000 in
theorem w_M_trades_J66 {v1 : Int32} {v2 : Int32} {v3 : Int32} {v4 : Int32} (hX : gOk B X RX11 cX11_trades 5 4 (some .int)) : gH B X (Sum.elim (fun s : (Int32 × Int32) => gG B X 31 [(0, .ref (aM B 0)), (1, .int v1), (2, .int s.1), (3, .int v3), (4, .int s.2)] [] (wdM B m_thrown m_size m_at m_wrong m_deep m_laws m_text m_readBoys m_readMarbles m_readFarms m_boys m_marbles m_farms m_holding m_spills m_acts m_draws m_bestRow m_bestMany m_noted m_hasImage m_tape m_code m_value m_codes m_clauses m_testFrom m_sumFrom m_sumTo m_letters m_stack m_readRule m_readBoy m_readMarble m_readFarm m_rule m_boy m_marble m_farm m_now m_refused m_kept m_notePlace m_noteKind m_noteIs m_toldBy m_image ++ fr)) (Sum.elim (fun s : (Int32 × Int32) => gG B X 18 [(0, .ref (aM B 0)), (1, .int v1), (2, .int s.1), (3, .int s.2)] [] (wdM B m_thrown m_size m_at m_wrong m_deep m_laws m_text m_readBoys m_readMarbles m_readFarms m_boys m_marbles m_farms m_holding m_spills m_acts m_draws m_bestRow m_bestMany m_noted m_hasImage m_tape m_code m_value m_codes m_clauses m_testFrom m_sumFrom m_sumTo m_letters m_stack m_readRule m_readBoy m_readMarble m_readFarm m_rule m_boy m_marble m_farm m_now m_refused m_kept m_notePlace m_noteKind m_noteIs m_toldBy m_image ++ fr)) (fun r : Int32 => gFin X (some (.int r)) (wdM B m_thrown m_size m_at m_wrong m_deep m_laws m_text m_readBoys m_readMarbles m_readFarms m_boys m_marbles m_farms m_holding m_spills m_acts m_draws m_bestRow m_bestMany m_noted m_hasImage m_tape m_code m_value m_codes m_clauses m_testFrom m_sumFrom m_sumTo m_letters m_stack m_readRule m_readBoy m_readMarble m_readFarm m_rule m_boy m_marble m_farm m_now m_refused m_kept m_notePlace m_noteKind m_noteIs m_toldBy m_image ++ fr)))) 66 [(0, .ref (aM B 0)), (1, .int v1), (2, .int v2), (3, .int v3), (4, .int v4)] [] (wdM B m_thrown m_size m_at m_wrong m_deep m_laws m_text m_readBoys m_readMarbles m_readFarms m_boys m_marbles m_farms m_holding m_spills m_acts m_draws m_bestRow m_bestMany m_noted m_hasImage m_tape m_code m_value m_codes m_clauses m_testFrom m_sumFrom m_sumTo m_letters m_stack m_readRule m_readBoy m_readMarble m_readFarm m_rule m_boy m_marble m_farm m_now m_refused m_kept m_notePlace m_noteKind m_noteIs m_toldBy m_image ++ fr) (f_M_trades_J66 v2 v4) := by
  unfold f_M_trades_J66
  refine h_iincc hX dX11_trades_66 rfl ki_1 (by decide) (lv' := [(0, .ref (aM B 0)), (1, .int v1), (2, .int v2), (3, .int v3), (4, .int (v4 + 1))]) rfl ?_
  refine h_goto hX dX11_trades_69 (tgt := 31) (by decide) ?_
  exact gH.some' (fun h => h)
set_option maxRecDepth 4000 in
theorem w_M_trades_L31 {v1 : Int32} {v3 : Int32} (hX : gOk B X RX11 cX11_trades 5 4 (some .int)) (s : (Int32 × Int32)) : gH B X (Sum.elim (fun s : (Int32 × Int32) => gG B X 31 [(0, .ref (aM B 0)), (1, .int v1), (2, .int s.1), (3, .int v3), (4, .int s.2)] [] (wdM B m_thrown m_size m_at m_wrong m_deep m_laws m_text m_readBoys m_readMarbles m_readFarms m_boys m_marbles m_farms m_holding m_spills m_acts m_draws m_bestRow m_bestMany m_noted m_hasImage m_tape m_code m_value m_codes m_clauses m_testFrom m_sumFrom m_sumTo m_letters m_stack m_readRule m_readBoy m_readMarble m_readFarm m_rule m_boy m_marble m_farm m_now m_refused m_kept m_notePlace m_noteKind m_noteIs m_toldBy m_image ++ fr)) (Sum.elim (fun s : (Int32 × Int32) => gG B X 18 [(0, .ref (aM B 0)), (1, .int v1), (2, .int s.1), (3, .int s.2)] [] (wdM B m_thrown m_size m_at m_wrong m_deep m_laws m_text m_readBoys m_readMarbles m_readFarms m_boys m_marbles m_farms m_holding m_spills m_acts m_draws m_bestRow m_bestMany m_noted m_hasImage m_tape m_code m_value m_codes m_clauses m_testFrom m_sumFrom m_sumTo m_letters m_stack m_readRule m_readBoy m_readMarble m_readFarm m_rule m_boy m_marble m_farm m_now m_refused m_kept m_notePlace m_noteKind m_noteIs m_toldBy m_image ++ fr)) (fun r : Int32 => gFin X (some (.int r)) (wdM B m_thrown m_size m_at m_wrong m_deep m_laws m_text m_readBoys m_readMarbles m_readFarms m_boys m_marbles m_farms m_holding m_spills m_acts m_draws m_bestRow m_bestMany m_noted m_hasImage m_tape m_code m_value m_codes m_clauses m_testFrom m_sumFrom m_sumTo m_letters m_stack m_readRule m_readBoy m_readMarble m_readFarm m_rule m_boy m_marble m_farm m_now m_refused m_kept m_notePlace m_noteKind m_noteIs m_toldBy m_image ++ fr)))) 31 [(0, .ref (aM B 0)), (1, .int v1), (2, .int s.1), (3, .int v3), (4, .int s.2)] [] (wdM B m_thrown m_size m_at m_wrong m_deep m_laws m_text m_readBoys m_readMarbles m_readFarms m_boys m_marbles m_farms m_holding m_spills m_acts m_draws m_bestRow m_bestMany m_noted m_hasImage m_tape m_code m_value m_codes m_clauses m_testFrom m_sumFrom m_sumTo m_letters m_stack m_readRule m_readBoy m_readMarble m_readFarm m_rule m_boy m_marble m_farm m_now m_refused m_kept m_notePlace m_noteKind m_noteIs m_toldBy m_image ++ fr) (f_M_trades_L31 m_marbles m_farms m_boy m_marble m_farm m_now v1 v3 s) := by
  unfold f_M_trades_L31
  refine h_iload hX dX11_trades_31 rfl ?_
  refine h_aload_n hX dX11_trades_33 rfl rfl ?_
  refine get_RX11_261_M0 hX dX11_trades_34 ?_
  refine h_icmp_ge hX dX11_trades_37 (tgt := 72) (by decide) (fun _ => ?_) (fun _ => ?_)
  · refine gH.inr ?_
    refine h_iincc hX dX11_trades_72 rfl ki_1 (by decide) (lv' := [(0, .ref (aM B 0)), (1, .int v1), (2, .int s.1), (3, .int (v3 + 1)), (4, .int s.2)]) rfl ?_
    refine h_goto hX dX11_trades_75 (tgt := 18) (by decide) ?_
    refine gH.dead [0, 1, 2, 3] rfl ?_
    exact gH.some' (fun h => h)
  · refine h_aload_n hX dX11_trades_40 rfl rfl ?_
    refine h_iload_n hX dX11_trades_41 rfl rfl ?_
    refine h_iload hX dX11_trades_42 rfl ?_
    refine h_callVi hX dX11_trades_44 (cv_RX11_442) rc_M0 (As := [.int v3, .int s.2]) (st := []) (fun _ h => c_M_isTrade h) rfl rfl (by decide) (Nat.le_of_ble_eq_true rfl) (fun a_3 => ?_)
    refine h_if_eq hX dX11_trades_47 (tgt := 66) (by decide) (fun _ => ?_) (fun _ => ?_)
    · exact w_M_trades_J66 hX
    · refine h_iload_n hX dX11_trades_50 rfl rfl ?_
      refine h_iload_n hX dX11_trades_51 rfl rfl ?_
      refine h_icmp_ne hX dX11_trades_52 (tgt := 63) (by decide) (fun _ => ?_) (fun _ => ?_)
      · refine h_iincc hX dX11_trades_63 rfl ki_1 (by decide) (lv' := [(0, .ref (aM B 0)), (1, .int v1), (2, .int (s.1 + 1)), (3, .int v3), (4, .int s.2)]) rfl ?_
        exact w_M_trades_J66 hX
      · refine h_bipush hX dX11_trades_55 kb_10 ?_
        refine h_iload_n hX dX11_trades_57 rfl rfl ?_
        refine h_imul hX dX11_trades_58 ?_
        refine h_iload hX dX11_trades_59 rfl ?_
        refine h_iadd hX dX11_trades_61 ?_
        exact h_ret hX (rv := some (.int ((10 * v3) + s.2))) dX11_trades_62 trivial (fun h => h)
set_option maxRecDepth 4000 in
theorem w_M_trades_L18 {v1 : Int32} (hX : gOk B X RX11 cX11_trades 5 4 (some .int)) (s : (Int32 × Int32)) : gH B X (Sum.elim (fun s : (Int32 × Int32) => gG B X 18 [(0, .ref (aM B 0)), (1, .int v1), (2, .int s.1), (3, .int s.2)] [] (wdM B m_thrown m_size m_at m_wrong m_deep m_laws m_text m_readBoys m_readMarbles m_readFarms m_boys m_marbles m_farms m_holding m_spills m_acts m_draws m_bestRow m_bestMany m_noted m_hasImage m_tape m_code m_value m_codes m_clauses m_testFrom m_sumFrom m_sumTo m_letters m_stack m_readRule m_readBoy m_readMarble m_readFarm m_rule m_boy m_marble m_farm m_now m_refused m_kept m_notePlace m_noteKind m_noteIs m_toldBy m_image ++ fr)) (fun r : Int32 => gFin X (some (.int r)) (wdM B m_thrown m_size m_at m_wrong m_deep m_laws m_text m_readBoys m_readMarbles m_readFarms m_boys m_marbles m_farms m_holding m_spills m_acts m_draws m_bestRow m_bestMany m_noted m_hasImage m_tape m_code m_value m_codes m_clauses m_testFrom m_sumFrom m_sumTo m_letters m_stack m_readRule m_readBoy m_readMarble m_readFarm m_rule m_boy m_marble m_farm m_now m_refused m_kept m_notePlace m_noteKind m_noteIs m_toldBy m_image ++ fr))) 18 [(0, .ref (aM B 0)), (1, .int v1), (2, .int s.1), (3, .int s.2)] [] (wdM B m_thrown m_size m_at m_wrong m_deep m_laws m_text m_readBoys m_readMarbles m_readFarms m_boys m_marbles m_farms m_holding m_spills m_acts m_draws m_bestRow m_bestMany m_noted m_hasImage m_tape m_code m_value m_codes m_clauses m_testFrom m_sumFrom m_sumTo m_letters m_stack m_readRule m_readBoy m_readMarble m_readFarm m_rule m_boy m_marble m_farm m_now m_refused m_kept m_notePlace m_noteKind m_noteIs m_toldBy m_image ++ fr) (f_M_trades_L18 m_marbles m_farms m_boy m_marble m_farm m_now v1 s) := by
  unfold f_M_trades_L18
  refine h_iload_n hX dX11_trades_18 rfl rfl ?_
  refine h_aload_n hX dX11_trades_19 rfl rfl ?_
  refine get_RX11_261_M0 hX dX11_trades_20 ?_
  refine h_icmp_ge hX dX11_trades_23 (tgt := 78) (by decide) (fun _ => ?_) (fun _ => ?_)
  · refine gH.inr ?_
    refine h_iload_n hX dX11_trades_78 rfl rfl ?_
    refine h_iconst hX dX11_trades_79 ki_m1 ?_
    refine h_icmp_ne hX dX11_trades_80 (tgt := 87) (by decide) (fun _ => ?_) (fun _ => ?_)
    · refine h_iconst hX dX11_trades_87 ki_m1 ?_
      exact h_ret hX (rv := some (.int ((-1)))) dX11_trades_88 trivial (fun h => h)
    · refine h_iload_n hX dX11_trades_83 rfl rfl ?_
      refine h_goto hX dX11_trades_84 (tgt := 88) (by decide) ?_
      exact h_ret hX (rv := some (.int s.1)) dX11_trades_88 trivial (fun h => h)
  · refine h_iload_n hX dX11_trades_26 rfl rfl ?_
    refine h_iconst hX dX11_trades_27 ki_1 ?_
    refine h_iadd hX dX11_trades_28 ?_
    refine gH.leti (fun v4_1 => ?_)
    refine h_istore hX dX11_trades_29 (by decide) (lv' := [(0, .ref (aM B 0)), (1, .int v1), (2, .int s.1), (3, .int s.2), (4, .int v4_1)]) rfl ?_
    exact gH.loop (lvf := fun z : (Int32 × Int32) => [(0, .ref (aM B 0)), (1, .int v1), (2, .int z.1), (3, .int s.2), (4, .int z.2)]) (wf := fun z : (Int32 × Int32) => wdM B m_thrown m_size m_at m_wrong m_deep m_laws m_text m_readBoys m_readMarbles m_readFarms m_boys m_marbles m_farms m_holding m_spills m_acts m_draws m_bestRow m_bestMany m_noted m_hasImage m_tape m_code m_value m_codes m_clauses m_testFrom m_sumFrom m_sumTo m_letters m_stack m_readRule m_readBoy m_readMarble m_readFarm m_rule m_boy m_marble m_farm m_now m_refused m_kept m_notePlace m_noteKind m_noteIs m_toldBy m_image ++ fr) (fun z => w_M_trades_L31 hX z) (s.1, v4_1)
set_option maxRecDepth 4000 in
theorem w_M_trades {p0 : Int32} (hX : gOk B X RX11 cX11_trades 5 4 (some .int)) : gH B X (fun r : Int32 => gFin X (some (.int r)) (wdM B m_thrown m_size m_at m_wrong m_deep m_laws m_text m_readBoys m_readMarbles m_readFarms m_boys m_marbles m_farms m_holding m_spills m_acts m_draws m_bestRow m_bestMany m_noted m_hasImage m_tape m_code m_value m_codes m_clauses m_testFrom m_sumFrom m_sumTo m_letters m_stack m_readRule m_readBoy m_readMarble m_readFarm m_rule m_boy m_marble m_farm m_now m_refused m_kept m_notePlace m_noteKind m_noteIs m_toldBy m_image ++ fr)) 0 [(0, .ref (aM B 0)), (1, .int p0)] [] (wdM B m_thrown m_size m_at m_wrong m_deep m_laws m_text m_readBoys m_readMarbles m_readFarms m_boys m_marbles m_farms m_holding m_spills m_acts m_draws m_bestRow m_bestMany m_noted m_hasImage m_tape m_code m_value m_codes m_clauses m_testFrom m_sumFrom m_sumTo m_letters m_stack m_readRule m_readBoy m_readMarble m_readFarm m_rule m_boy m_marble m_farm m_now m_refused m_kept m_notePlace m_noteKind m_noteIs m_toldBy m_image ++ fr) (f_M_trades m_marbles m_farms m_boy m_marble m_farm m_now p0) := by
  unfold f_M_trades
  refine h_aload_n hX dX11_trades_0 rfl rfl ?_
  refine get_RX11_261_M0 hX dX11_trades_1 ?_
  refine h_if_eq hX dX11_trades_4 (tgt := 12) (by decide) (fun _ => ?_) (fun _ => ?_)
  · refine h_iconst hX dX11_trades_12 ki_m1 ?_
    exact h_ret hX (rv := some (.int ((-1)))) dX11_trades_13 trivial (fun h => h)
  · refine h_iload_n hX dX11_trades_7 rfl rfl ?_
    refine h_iconst hX dX11_trades_8 ki_m1 ?_
    refine h_icmp_ge hX dX11_trades_9 (tgt := 14) (by decide) (fun _ => ?_) (fun _ => ?_)
    · refine h_iconst hX dX11_trades_14 ki_0 ?_
      refine h_istore_n hX dX11_trades_15 rfl (by decide) (lv' := [(0, .ref (aM B 0)), (1, .int p0), (2, .int 0)]) rfl ?_
      refine h_iconst hX dX11_trades_16 ki_0 ?_
      refine h_istore_n hX dX11_trades_17 rfl (by decide) (lv' := [(0, .ref (aM B 0)), (1, .int p0), (2, .int 0), (3, .int 0)]) rfl ?_
      exact gH.loop (lvf := fun z : (Int32 × Int32) => [(0, .ref (aM B 0)), (1, .int p0), (2, .int z.1), (3, .int z.2)]) (wf := fun z : (Int32 × Int32) => wdM B m_thrown m_size m_at m_wrong m_deep m_laws m_text m_readBoys m_readMarbles m_readFarms m_boys m_marbles m_farms m_holding m_spills m_acts m_draws m_bestRow m_bestMany m_noted m_hasImage m_tape m_code m_value m_codes m_clauses m_testFrom m_sumFrom m_sumTo m_letters m_stack m_readRule m_readBoy m_readMarble m_readFarm m_rule m_boy m_marble m_farm m_now m_refused m_kept m_notePlace m_noteKind m_noteIs m_toldBy m_image ++ fr) (fun z => w_M_trades_L18 hX z) (0, 0)
    · refine h_iconst hX dX11_trades_12 ki_m1 ?_
      exact h_ret hX (rv := some (.int ((-1)))) dX11_trades_13 trivial (fun h => h)
theorem c_M_trades {p0 : Int32} {r : Int32} (h : f_M_trades m_marbles m_farms m_boy m_marble m_farm m_now p0 = some r) : gMet B 4 yX11_trades cX11_trades 5 (some .int) [.ref (aM B 0), .int p0] (wdM B m_thrown m_size m_at m_wrong m_deep m_laws m_text m_readBoys m_readMarbles m_readFarms m_boys m_marbles m_farms m_holding m_spills m_acts m_draws m_bestRow m_bestMany m_noted m_hasImage m_tape m_code m_value m_codes m_clauses m_testFrom m_sumFrom m_sumTo m_letters m_stack m_readRule m_readBoy m_readMarble m_readFarm m_rule m_boy m_marble m_farm m_now m_refused m_kept m_notePlace m_noteKind m_noteIs m_toldBy m_image ++ fr) (some (.int r)) (wdM B m_thrown m_size m_at m_wrong m_deep m_laws m_text m_readBoys m_readMarbles m_readFarms m_boys m_marbles m_farms m_holding m_spills m_acts m_draws m_bestRow m_bestMany m_noted m_hasImage m_tape m_code m_value m_codes m_clauses m_testFrom m_sumFrom m_sumTo m_letters m_stack m_readRule m_readBoy m_readMarble m_readFarm m_rule m_boy m_marble m_farm m_now m_refused m_kept m_notePlace m_noteKind m_noteIs m_toldBy m_image ++ fr) :=
  gMet.of rfl (Nat.le_of_ble_eq_true rfl) (fun X hX hF => w_M_trades hX r h hF)
set_option maxRecDepth 4000 in
theorem w_M_undo_L21 (hX : gOk B X RX11 cX11_undo 2 0 (some .int)) (s : (Int32 × (Nat → Int32))) : gH B X (Sum.elim (fun s : (Int32 × (Nat → Int32)) => gG B X 21 [(0, .ref (aM B 0)), (1, .int s.1)] [] (wdM B m_thrown m_size m_at m_wrong m_deep m_laws m_text m_readBoys m_readMarbles m_readFarms m_boys m_marbles m_farms m_holding m_spills m_acts m_draws m_bestRow m_bestMany m_noted m_hasImage m_tape m_code m_value m_codes m_clauses m_testFrom m_sumFrom m_sumTo m_letters m_stack m_readRule m_readBoy m_readMarble m_readFarm m_rule m_boy m_marble m_farm s.2 m_refused m_kept m_notePlace m_noteKind m_noteIs m_toldBy m_image ++ fr)) (fun r : (Int32 × Int32 × (Nat → Int32)) => gFin X (some (.int r.1)) (wdM B m_thrown m_size m_at m_wrong m_deep m_laws m_text m_readBoys m_readMarbles m_readFarms m_boys m_marbles m_farms m_holding m_spills r.2.1 m_draws m_bestRow m_bestMany m_noted m_hasImage m_tape m_code m_value m_codes m_clauses m_testFrom m_sumFrom m_sumTo m_letters m_stack m_readRule m_readBoy m_readMarble m_readFarm m_rule m_boy m_marble m_farm r.2.2 m_refused m_kept m_notePlace m_noteKind m_noteIs m_toldBy m_image ++ fr))) 21 [(0, .ref (aM B 0)), (1, .int s.1)] [] (wdM B m_thrown m_size m_at m_wrong m_deep m_laws m_text m_readBoys m_readMarbles m_readFarms m_boys m_marbles m_farms m_holding m_spills m_acts m_draws m_bestRow m_bestMany m_noted m_hasImage m_tape m_code m_value m_codes m_clauses m_testFrom m_sumFrom m_sumTo m_letters m_stack m_readRule m_readBoy m_readMarble m_readFarm m_rule m_boy m_marble m_farm s.2 m_refused m_kept m_notePlace m_noteKind m_noteIs m_toldBy m_image ++ fr) (f_M_undo_L21 m_acts m_kept s) := by
  unfold f_M_undo_L21
  refine h_iload_n hX dX11_undo_21 rfl rfl ?_
  refine h_sipush hX dX11_undo_22 ks_131 ?_
  refine h_icmp_ge hX dX11_undo_25 (tgt := 55) (by decide) (fun _ => ?_) (fun _ => ?_)
  · refine h_aload_n hX dX11_undo_55 rfl rfl ?_
    refine get_RX11_273_M0 hX dX11_undo_56 ?_
    exact h_ret hX (rv := some (.int m_acts)) dX11_undo_59 trivial (fun h => h)
  · refine h_aload_n hX dX11_undo_28 rfl rfl ?_
    refine get_RX11_64_M0 hX dX11_undo_29 ?_
    refine h_iload_n hX dX11_undo_32 rfl rfl ?_
    refine h_aload_n hX dX11_undo_33 rfl rfl ?_
    refine get_RX11_74_M0 hX dX11_undo_34 ?_
    refine h_sipush hX dX11_undo_37 ks_131 ?_
    refine h_aload_n hX dX11_undo_40 rfl rfl ?_
    refine get_RX11_273_M0 hX dX11_undo_41 ?_
    refine h_imul hX dX11_undo_44 ?_
    refine h_iload_n hX dX11_undo_45 rfl rfl ?_
    refine h_iadd hX dX11_undo_46 ?_
    refine ald_M21 hX dX11_undo_47 ?_
    refine ast_M19 hX dX11_undo_48 ?_
    refine gH.letw (w := fun y => wdM B m_thrown m_size m_at m_wrong m_deep m_laws m_text m_readBoys m_readMarbles m_readFarms m_boys m_marbles m_farms m_holding m_spills m_acts m_draws m_bestRow m_bestMany m_noted m_hasImage m_tape m_code m_value m_codes m_clauses m_testFrom m_sumFrom m_sumTo m_letters m_stack m_readRule m_readBoy m_readMarble m_readFarm m_rule m_boy m_marble m_farm y m_refused m_kept m_notePlace m_noteKind m_noteIs m_toldBy m_image ++ fr) (fun m_now_2 => ?_)
    refine h_iincc hX dX11_undo_49 rfl ki_1 (by decide) (lv' := [(0, .ref (aM B 0)), (1, .int (s.1 + 1))]) rfl ?_
    refine h_goto hX dX11_undo_52 (tgt := 21) (by decide) ?_
    exact gH.some' (fun h => h)
set_option maxRecDepth 4000 in
theorem w_M_undo (hX : gOk B X RX11 cX11_undo 2 0 (some .int)) : gH B X (fun r : (Int32 × Int32 × (Nat → Int32)) => gFin X (some (.int r.1)) (wdM B m_thrown m_size m_at m_wrong m_deep m_laws m_text m_readBoys m_readMarbles m_readFarms m_boys m_marbles m_farms m_holding m_spills r.2.1 m_draws m_bestRow m_bestMany m_noted m_hasImage m_tape m_code m_value m_codes m_clauses m_testFrom m_sumFrom m_sumTo m_letters m_stack m_readRule m_readBoy m_readMarble m_readFarm m_rule m_boy m_marble m_farm r.2.2 m_refused m_kept m_notePlace m_noteKind m_noteIs m_toldBy m_image ++ fr)) 0 [(0, .ref (aM B 0))] [] (wdM B m_thrown m_size m_at m_wrong m_deep m_laws m_text m_readBoys m_readMarbles m_readFarms m_boys m_marbles m_farms m_holding m_spills m_acts m_draws m_bestRow m_bestMany m_noted m_hasImage m_tape m_code m_value m_codes m_clauses m_testFrom m_sumFrom m_sumTo m_letters m_stack m_readRule m_readBoy m_readMarble m_readFarm m_rule m_boy m_marble m_farm m_now m_refused m_kept m_notePlace m_noteKind m_noteIs m_toldBy m_image ++ fr) (f_M_undo m_acts m_now m_kept) := by
  unfold f_M_undo
  refine h_aload_n hX dX11_undo_0 rfl rfl ?_
  refine get_RX11_273_M0 hX dX11_undo_1 ?_
  refine h_if_ne hX dX11_undo_4 (tgt := 9) (by decide) (fun _ => ?_) (fun _ => ?_)
  · refine h_aload_n hX dX11_undo_9 rfl rfl ?_
    refine h_dup hX dX11_undo_10 rfl ?_
    refine get_RX11_273_M0 hX dX11_undo_11 ?_
    refine h_iconst hX dX11_undo_14 ki_1 ?_
    refine h_isub hX dX11_undo_15 ?_
    refine put_RX11_273_M0 hX dX11_undo_16 ?_
    refine gH.letw (w := fun y => wdM B m_thrown m_size m_at m_wrong m_deep m_laws m_text m_readBoys m_readMarbles m_readFarms m_boys m_marbles m_farms m_holding m_spills y m_draws m_bestRow m_bestMany m_noted m_hasImage m_tape m_code m_value m_codes m_clauses m_testFrom m_sumFrom m_sumTo m_letters m_stack m_readRule m_readBoy m_readMarble m_readFarm m_rule m_boy m_marble m_farm m_now m_refused m_kept m_notePlace m_noteKind m_noteIs m_toldBy m_image ++ fr) (fun m_acts_1 => ?_)
    refine h_iconst hX dX11_undo_19 ki_0 ?_
    refine h_istore_n hX dX11_undo_20 rfl (by decide) (lv' := [(0, .ref (aM B 0)), (1, .int 0)]) rfl ?_
    exact gH.loop (lvf := fun z : (Int32 × (Nat → Int32)) => [(0, .ref (aM B 0)), (1, .int z.1)]) (wf := fun z : (Int32 × (Nat → Int32)) => wdM B m_thrown m_size m_at m_wrong m_deep m_laws m_text m_readBoys m_readMarbles m_readFarms m_boys m_marbles m_farms m_holding m_spills m_acts_1 m_draws m_bestRow m_bestMany m_noted m_hasImage m_tape m_code m_value m_codes m_clauses m_testFrom m_sumFrom m_sumTo m_letters m_stack m_readRule m_readBoy m_readMarble m_readFarm m_rule m_boy m_marble m_farm z.2 m_refused m_kept m_notePlace m_noteKind m_noteIs m_toldBy m_image ++ fr) (fun z => w_M_undo_L21 hX z) (0, m_now)
  · refine h_iconst hX dX11_undo_7 ki_m1 ?_
    exact h_ret hX (rv := some (.int ((-1)))) dX11_undo_8 trivial (fun h => h)
theorem c_M_undo {r : (Int32 × Int32 × (Nat → Int32))} (h : f_M_undo m_acts m_now m_kept = some r) : gMet B 0 yX11_undo cX11_undo 2 (some .int) [.ref (aM B 0)] (wdM B m_thrown m_size m_at m_wrong m_deep m_laws m_text m_readBoys m_readMarbles m_readFarms m_boys m_marbles m_farms m_holding m_spills m_acts m_draws m_bestRow m_bestMany m_noted m_hasImage m_tape m_code m_value m_codes m_clauses m_testFrom m_sumFrom m_sumTo m_letters m_stack m_readRule m_readBoy m_readMarble m_readFarm m_rule m_boy m_marble m_farm m_now m_refused m_kept m_notePlace m_noteKind m_noteIs m_toldBy m_image ++ fr) (some (.int r.1)) (wdM B m_thrown m_size m_at m_wrong m_deep m_laws m_text m_readBoys m_readMarbles m_readFarms m_boys m_marbles m_farms m_holding m_spills r.2.1 m_draws m_bestRow m_bestMany m_noted m_hasImage m_tape m_code m_value m_codes m_clauses m_testFrom m_sumFrom m_sumTo m_letters m_stack m_readRule m_readBoy m_readMarble m_readFarm m_rule m_boy m_marble m_farm r.2.2 m_refused m_kept m_notePlace m_noteKind m_noteIs m_toldBy m_image ++ fr) :=
  gMet.of rfl (Nat.le_of_ble_eq_true rfl) (fun X hX hF => w_M_undo hX r h hF)
set_option maxRecDepth 4000 in
theorem w_M_weather {p0 : Int32} (hX : gOk B X RX11 cX11_weather 2 4 (some .int)) : gH B X (fun r : Int32 => gFin X (some (.int r)) (wdM B m_thrown m_size m_at m_wrong m_deep m_laws m_text m_readBoys m_readMarbles m_readFarms m_boys m_marbles m_farms m_holding m_spills m_acts m_draws m_bestRow m_bestMany m_noted m_hasImage m_tape m_code m_value m_codes m_clauses m_testFrom m_sumFrom m_sumTo m_letters m_stack m_readRule m_readBoy m_readMarble m_readFarm m_rule m_boy m_marble m_farm m_now m_refused m_kept m_notePlace m_noteKind m_noteIs m_toldBy m_image ++ fr)) 0 [(0, .ref (aM B 0)), (1, .int p0)] [] (wdM B m_thrown m_size m_at m_wrong m_deep m_laws m_text m_readBoys m_readMarbles m_readFarms m_boys m_marbles m_farms m_holding m_spills m_acts m_draws m_bestRow m_bestMany m_noted m_hasImage m_tape m_code m_value m_codes m_clauses m_testFrom m_sumFrom m_sumTo m_letters m_stack m_readRule m_readBoy m_readMarble m_readFarm m_rule m_boy m_marble m_farm m_now m_refused m_kept m_notePlace m_noteKind m_noteIs m_toldBy m_image ++ fr) (f_M_weather m_marbles m_boy m_marble m_now p0) := by
  unfold f_M_weather
  refine h_aload_n hX dX11_weather_0 rfl rfl ?_
  refine get_RX11_261_M0 hX dX11_weather_1 ?_
  refine h_if_le hX dX11_weather_4 (tgt := 22) (by decide) (fun _ => ?_) (fun _ => ?_)
  · refine h_ldcw hX dX11_weather_22 cst_RX11_331 ?_
    exact h_ret hX (rv := some (.int ((-1000000)))) dX11_weather_25 trivial (fun h => h)
  · refine h_iload_n hX dX11_weather_7 rfl rfl ?_
    refine h_callSi hX dX11_weather_8 (cs_RX11_401) (As := [.int p0]) (st := []) (fun _ h => c_M_isPlace h) rfl rfl (by decide) (Nat.le_of_ble_eq_true rfl) (fun a_1 => ?_)
    refine h_if_eq hX dX11_weather_11 (tgt := 22) (by decide) (fun _ => ?_) (fun _ => ?_)
    · refine h_ldcw hX dX11_weather_22 cst_RX11_331 ?_
      exact h_ret hX (rv := some (.int ((-1000000)))) dX11_weather_25 trivial (fun h => h)
    · refine h_aload_n hX dX11_weather_14 rfl rfl ?_
      refine h_iload_n hX dX11_weather_15 rfl rfl ?_
      refine h_callVi hX dX11_weather_16 (cv_RX11_319) rc_M0 (As := [.int p0]) (st := []) (fun _ h => c_M_weatherOf h) rfl rfl (by decide) (Nat.le_of_ble_eq_true rfl) (fun a_2 => ?_)
      refine h_goto hX dX11_weather_19 (tgt := 25) (by decide) ?_
      exact h_ret hX (rv := some (.int a_2)) dX11_weather_25 trivial (fun h => h)
theorem c_M_weather {p0 : Int32} {r : Int32} (h : f_M_weather m_marbles m_boy m_marble m_now p0 = some r) : gMet B 4 yX11_weather cX11_weather 2 (some .int) [.ref (aM B 0), .int p0] (wdM B m_thrown m_size m_at m_wrong m_deep m_laws m_text m_readBoys m_readMarbles m_readFarms m_boys m_marbles m_farms m_holding m_spills m_acts m_draws m_bestRow m_bestMany m_noted m_hasImage m_tape m_code m_value m_codes m_clauses m_testFrom m_sumFrom m_sumTo m_letters m_stack m_readRule m_readBoy m_readMarble m_readFarm m_rule m_boy m_marble m_farm m_now m_refused m_kept m_notePlace m_noteKind m_noteIs m_toldBy m_image ++ fr) (some (.int r)) (wdM B m_thrown m_size m_at m_wrong m_deep m_laws m_text m_readBoys m_readMarbles m_readFarms m_boys m_marbles m_farms m_holding m_spills m_acts m_draws m_bestRow m_bestMany m_noted m_hasImage m_tape m_code m_value m_codes m_clauses m_testFrom m_sumFrom m_sumTo m_letters m_stack m_readRule m_readBoy m_readMarble m_readFarm m_rule m_boy m_marble m_farm m_now m_refused m_kept m_notePlace m_noteKind m_noteIs m_toldBy m_image ++ fr) :=
  gMet.of rfl (Nat.le_of_ble_eq_true rfl) (fun X hX hF => w_M_weather hX r h hF)
set_option maxRecDepth 4000 in
theorem w_M_wins {p0 : Int32} {p1 : Int32} {p2 : Int32} {p3 : Int32} (hX : gOk B X RX11 cX11_wins 5 7 (some .int)) : gH B X (fun r : (Int32 × (Nat → Int32) × (Nat → Int32)) => gFin X (some (.int r.1)) (wdM B m_thrown m_size m_at m_wrong m_deep m_laws m_text m_readBoys m_readMarbles m_readFarms m_boys m_marbles m_farms m_holding m_spills m_acts m_draws m_bestRow m_bestMany m_noted m_hasImage m_tape m_code m_value m_codes m_clauses m_testFrom m_sumFrom m_sumTo r.2.1 r.2.2 m_readRule m_readBoy m_readMarble m_readFarm m_rule m_boy m_marble m_farm m_now m_refused m_kept m_notePlace m_noteKind m_noteIs m_toldBy m_image ++ fr)) 0 [(0, .ref (aM B 0)), (1, .int p0), (2, .int p1), (3, .int p2), (4, .int p3)] [] (wdM B m_thrown m_size m_at m_wrong m_deep m_laws m_text m_readBoys m_readMarbles m_readFarms m_boys m_marbles m_farms m_holding m_spills m_acts m_draws m_bestRow m_bestMany m_noted m_hasImage m_tape m_code m_value m_codes m_clauses m_testFrom m_sumFrom m_sumTo m_letters m_stack m_readRule m_readBoy m_readMarble m_readFarm m_rule m_boy m_marble m_farm m_now m_refused m_kept m_notePlace m_noteKind m_noteIs m_toldBy m_image ++ fr) (f_M_wins m_marbles m_holding m_code m_value m_clauses m_testFrom m_sumFrom m_sumTo m_letters m_stack m_rule m_boy m_marble m_now p0 p1 p2 p3) := by
  unfold f_M_wins
  refine h_aload_n hX dX11_wins_0 rfl rfl ?_
  refine h_iload_n hX dX11_wins_1 rfl rfl ?_
  refine h_iload_n hX dX11_wins_2 rfl rfl ?_
  refine h_iload_n hX dX11_wins_3 rfl rfl ?_
  refine h_iload hX dX11_wins_4 rfl ?_
  refine h_callVi hX dX11_wins_6 (cv_RX11_350) rc_M0 (As := [.int p0, .int p1, .int p2, .int p3]) (st := []) (fun _ h => c_M_whyNotPlay h) rfl rfl (by decide) (Nat.le_of_ble_eq_true rfl) (fun a_1 => ?_)
  refine h_iconst hX dX11_wins_9 ki_m1 ?_
  refine h_icmp_ne hX dX11_wins_10 (tgt := 33) (by decide) (fun _ => ?_) (fun _ => ?_)
  · refine h_ldcw hX dX11_wins_33 cst_RX11_331 ?_
    exact h_ret hX (rv := some (.int ((-1000000)))) dX11_wins_36 trivial (fun h => h)
  · refine h_aload_n hX dX11_wins_13 rfl rfl ?_
    refine h_aload_n hX dX11_wins_14 rfl rfl ?_
    refine h_iload_n hX dX11_wins_15 rfl rfl ?_
    refine h_iload_n hX dX11_wins_16 rfl rfl ?_
    refine h_callVi hX dX11_wins_17 (cv_RX11_344) rc_M0 (As := [.int p0, .int p1]) (st := [.ref (aM B 0)]) (fun _ h => c_M_cellOf h) rfl rfl (by decide) (Nat.le_of_ble_eq_true rfl) (fun a_2 => ?_)
    refine h_aload_n hX dX11_wins_20 rfl rfl ?_
    refine h_iload_n hX dX11_wins_21 rfl rfl ?_
    refine h_iload hX dX11_wins_22 rfl ?_
    refine h_callVi hX dX11_wins_24 (cv_RX11_344) rc_M0 (As := [.int p2, .int p3]) (st := [.int a_2.1, .ref (aM B 0)]) (fun _ h => c_M_cellOf h) rfl rfl (by decide) (Nat.le_of_ble_eq_true rfl) (fun a_3 => ?_)
    refine h_callVi hX dX11_wins_27 (cv_RX11_347) rc_M0 (As := [.int a_2.1, .int a_3.1]) (st := []) (fun _ h => c_M_winner h) rfl rfl (by decide) (Nat.le_of_ble_eq_true rfl) (fun a_4 => ?_)
    refine h_goto hX dX11_wins_30 (tgt := 36) (by decide) ?_
    exact h_ret hX (rv := some (.int a_4)) dX11_wins_36 trivial (fun h => h)
theorem c_M_wins {p0 : Int32} {p1 : Int32} {p2 : Int32} {p3 : Int32} {r : (Int32 × (Nat → Int32) × (Nat → Int32))} (h : f_M_wins m_marbles m_holding m_code m_value m_clauses m_testFrom m_sumFrom m_sumTo m_letters m_stack m_rule m_boy m_marble m_now p0 p1 p2 p3 = some r) : gMet B 7 yX11_wins cX11_wins 5 (some .int) [.ref (aM B 0), .int p0, .int p1, .int p2, .int p3] (wdM B m_thrown m_size m_at m_wrong m_deep m_laws m_text m_readBoys m_readMarbles m_readFarms m_boys m_marbles m_farms m_holding m_spills m_acts m_draws m_bestRow m_bestMany m_noted m_hasImage m_tape m_code m_value m_codes m_clauses m_testFrom m_sumFrom m_sumTo m_letters m_stack m_readRule m_readBoy m_readMarble m_readFarm m_rule m_boy m_marble m_farm m_now m_refused m_kept m_notePlace m_noteKind m_noteIs m_toldBy m_image ++ fr) (some (.int r.1)) (wdM B m_thrown m_size m_at m_wrong m_deep m_laws m_text m_readBoys m_readMarbles m_readFarms m_boys m_marbles m_farms m_holding m_spills m_acts m_draws m_bestRow m_bestMany m_noted m_hasImage m_tape m_code m_value m_codes m_clauses m_testFrom m_sumFrom m_sumTo r.2.1 r.2.2 m_readRule m_readBoy m_readMarble m_readFarm m_rule m_boy m_marble m_farm m_now m_refused m_kept m_notePlace m_noteKind m_noteIs m_toldBy m_image ++ fr) :=
  gMet.of rfl (Nat.le_of_ble_eq_true rfl) (fun X hX hF => w_M_wins hX r h hF)
set_option maxRecDepth 4000 in
theorem w_M_years_L25 {v1 : Int32} (hX : gOk B X RX11 cX11_years 5 9 (some .int)) (s : (Int32 × Int32 × Int64 × (Nat → Int32) × (Nat → Int32) × (Nat → Int32) × (Nat → Int32))) : gH B X (Sum.elim (fun s : (Int32 × Int32 × Int64 × (Nat → Int32) × (Nat → Int32) × (Nat → Int32) × (Nat → Int32)) => gG B X 25 [(0, .ref (aM B 0)), (1, .int v1), (4, .int s.1)] [] (wdM B m_thrown m_size m_at m_wrong m_deep m_laws m_text m_readBoys m_readMarbles m_readFarms m_boys m_marbles m_farms m_holding m_spills s.2.1 s.2.2.1 m_bestRow m_bestMany m_noted m_hasImage m_tape m_code m_value m_codes m_clauses m_testFrom m_sumFrom m_sumTo s.2.2.2.1 s.2.2.2.2.1 m_readRule m_readBoy m_readMarble m_readFarm m_rule m_boy m_marble m_farm s.2.2.2.2.2.1 m_refused s.2.2.2.2.2.2 m_notePlace m_noteKind m_noteIs m_toldBy m_image ++ fr)) (fun r : (Int32 × Int32 × Int64 × (Nat → Int32) × (Nat → Int32) × (Nat → Int32) × (Nat → Int32)) => gFin X (some (.int r.1)) (wdM B m_thrown m_size m_at m_wrong m_deep m_laws m_text m_readBoys m_readMarbles m_readFarms m_boys m_marbles m_farms m_holding m_spills r.2.1 r.2.2.1 m_bestRow m_bestMany m_noted m_hasImage m_tape m_code m_value m_codes m_clauses m_testFrom m_sumFrom m_sumTo r.2.2.2.1 r.2.2.2.2.1 m_readRule m_readBoy m_readMarble m_readFarm m_rule m_boy m_marble m_farm r.2.2.2.2.2.1 m_refused r.2.2.2.2.2.2 m_notePlace m_noteKind m_noteIs m_toldBy m_image ++ fr))) 25 [(0, .ref (aM B 0)), (1, .int v1), (4, .int s.1)] [] (wdM B m_thrown m_size m_at m_wrong m_deep m_laws m_text m_readBoys m_readMarbles m_readFarms m_boys m_marbles m_farms m_holding m_spills s.2.1 s.2.2.1 m_bestRow m_bestMany m_noted m_hasImage m_tape m_code m_value m_codes m_clauses m_testFrom m_sumFrom m_sumTo s.2.2.2.1 s.2.2.2.2.1 m_readRule m_readBoy m_readMarble m_readFarm m_rule m_boy m_marble m_farm s.2.2.2.2.2.1 m_refused s.2.2.2.2.2.2 m_notePlace m_noteKind m_noteIs m_toldBy m_image ++ fr) (f_M_years_L25 m_marbles m_farms m_holding m_spills m_code m_value m_clauses m_testFrom m_sumFrom m_sumTo m_rule m_boy m_marble m_farm v1 s) := by
  unfold f_M_years_L25
  refine h_iload hX dX11_years_25 rfl ?_
  refine h_iload_n hX dX11_years_27 rfl rfl ?_
  refine h_icmp_ge hX dX11_years_28 (tgt := 49) (by decide) (fun _ => ?_) (fun _ => ?_)
  · refine gH.inr ?_
    refine h_aload_n hX dX11_years_49 rfl rfl ?_
    refine get_RX11_64_M0 hX dX11_years_50 ?_
    refine h_bipush hX dX11_years_53 kb_9 ?_
    refine ald_M19 hX dX11_years_55 ?_
    exact h_ret hX (rv := some (.int (s.2.2.2.2.2.1 (9 : Int32).toNatClampNeg))) dX11_years_56 trivial (fun h => h)
  · refine h_aload_n hX dX11_years_31 rfl rfl ?_
    refine h_callVv hX dX11_years_32 (cv_RX11_357) rc_M0 (As := []) (st := []) (fun _ h => c_M_keep h) rfl rfl (by decide) (Nat.le_of_ble_eq_true rfl) (fun a_2 => ?_)
    refine h_aload_n hX dX11_years_35 rfl rfl ?_
    refine h_callVv hX dX11_years_36 (cv_RX11_395) rc_M0 (As := []) (st := []) (fun _ h => c_M_drawDay h) rfl rfl (by decide) (Nat.le_of_ble_eq_true rfl) (fun a_3 => ?_)
    refine h_aload_n hX dX11_years_39 rfl rfl ?_
    refine h_callVv hX dX11_years_40 (cv_RX11_378) rc_M0 (As := []) (st := []) (fun _ h => c_M_passDay h) rfl rfl (by decide) (Nat.le_of_ble_eq_true rfl) (fun a_4 => ?_)
    refine h_iincc hX dX11_years_43 rfl ki_1 (by decide) (lv' := [(0, .ref (aM B 0)), (1, .int v1), (4, .int (s.1 + 1))]) rfl ?_
    refine h_goto hX dX11_years_46 (tgt := 25) (by decide) ?_
    exact gH.some' (fun h => h)
set_option maxRecDepth 4000 in
theorem w_M_years {p0 : Int32} {p1 : Int64} (hX : gOk B X RX11 cX11_years 5 9 (some .int)) : gH B X (fun r : (Int32 × Int32 × Int64 × (Nat → Int32) × (Nat → Int32) × (Nat → Int32) × (Nat → Int32)) => gFin X (some (.int r.1)) (wdM B m_thrown m_size m_at m_wrong m_deep m_laws m_text m_readBoys m_readMarbles m_readFarms m_boys m_marbles m_farms m_holding m_spills r.2.1 r.2.2.1 m_bestRow m_bestMany m_noted m_hasImage m_tape m_code m_value m_codes m_clauses m_testFrom m_sumFrom m_sumTo r.2.2.2.1 r.2.2.2.2.1 m_readRule m_readBoy m_readMarble m_readFarm m_rule m_boy m_marble m_farm r.2.2.2.2.2.1 m_refused r.2.2.2.2.2.2 m_notePlace m_noteKind m_noteIs m_toldBy m_image ++ fr)) 0 [(0, .ref (aM B 0)), (1, .int p0), (2, .long p1)] [] (wdM B m_thrown m_size m_at m_wrong m_deep m_laws m_text m_readBoys m_readMarbles m_readFarms m_boys m_marbles m_farms m_holding m_spills m_acts m_draws m_bestRow m_bestMany m_noted m_hasImage m_tape m_code m_value m_codes m_clauses m_testFrom m_sumFrom m_sumTo m_letters m_stack m_readRule m_readBoy m_readMarble m_readFarm m_rule m_boy m_marble m_farm m_now m_refused m_kept m_notePlace m_noteKind m_noteIs m_toldBy m_image ++ fr) (f_M_years m_marbles m_farms m_holding m_spills m_acts m_draws m_code m_value m_clauses m_testFrom m_sumFrom m_sumTo m_letters m_stack m_rule m_boy m_marble m_farm m_now m_kept p0 p1) := by
  unfold f_M_years
  refine h_aload_n hX dX11_years_0 rfl rfl ?_
  refine get_RX11_261_M0 hX dX11_years_1 ?_
  refine h_if_eq hX dX11_years_4 (tgt := 15) (by decide) (fun _ => ?_) (fun _ => ?_)
  · refine h_iconst hX dX11_years_15 ki_m1 ?_
    exact h_ret hX (rv := some (.int ((-1)))) dX11_years_16 trivial (fun h => h)
  · refine h_aload_n hX dX11_years_7 rfl rfl ?_
    refine h_iload_n hX dX11_years_8 rfl rfl ?_
    refine h_callVi hX dX11_years_9 (cv_RX11_375) rc_M0 (As := [.int p0]) (st := []) (fun _ h => c_M_areDays h) rfl rfl (by decide) (Nat.le_of_ble_eq_true rfl) (fun a_1 => ?_)
    refine h_if_ne hX dX11_years_12 (tgt := 17) (by decide) (fun _ => ?_) (fun _ => ?_)
    · refine h_aload_n hX dX11_years_17 rfl rfl ?_
      refine h_lload_n hX dX11_years_18 rfl rfl ?_
      refine put_RX11_384_M0 hX dX11_years_19 ?_
      refine h_iconst hX dX11_years_22 ki_0 ?_
      refine h_istore hX dX11_years_23 (by decide) (lv' := [(0, .ref (aM B 0)), (1, .int p0), (2, .long p1), (4, .int 0)]) rfl ?_
      refine gH.dead [0, 1, 3] rfl ?_
      exact gH.loop (lvf := fun z : (Int32 × Int32 × Int64 × (Nat → Int32) × (Nat → Int32) × (Nat → Int32) × (Nat → Int32)) => [(0, .ref (aM B 0)), (1, .int p0), (4, .int z.1)]) (wf := fun z : (Int32 × Int32 × Int64 × (Nat → Int32) × (Nat → Int32) × (Nat → Int32) × (Nat → Int32)) => wdM B m_thrown m_size m_at m_wrong m_deep m_laws m_text m_readBoys m_readMarbles m_readFarms m_boys m_marbles m_farms m_holding m_spills z.2.1 z.2.2.1 m_bestRow m_bestMany m_noted m_hasImage m_tape m_code m_value m_codes m_clauses m_testFrom m_sumFrom m_sumTo z.2.2.2.1 z.2.2.2.2.1 m_readRule m_readBoy m_readMarble m_readFarm m_rule m_boy m_marble m_farm z.2.2.2.2.2.1 m_refused z.2.2.2.2.2.2 m_notePlace m_noteKind m_noteIs m_toldBy m_image ++ fr) (fun z => w_M_years_L25 hX z) (0, m_acts, p1, m_letters, m_stack, m_now, m_kept)
    · refine h_iconst hX dX11_years_15 ki_m1 ?_
      exact h_ret hX (rv := some (.int ((-1)))) dX11_years_16 trivial (fun h => h)
theorem c_M_years {p0 : Int32} {p1 : Int64} {r : (Int32 × Int32 × Int64 × (Nat → Int32) × (Nat → Int32) × (Nat → Int32) × (Nat → Int32))} (h : f_M_years m_marbles m_farms m_holding m_spills m_acts m_draws m_code m_value m_clauses m_testFrom m_sumFrom m_sumTo m_letters m_stack m_rule m_boy m_marble m_farm m_now m_kept p0 p1 = some r) : gMet B 9 yX11_years cX11_years 5 (some .int) [.ref (aM B 0), .int p0, .long p1] (wdM B m_thrown m_size m_at m_wrong m_deep m_laws m_text m_readBoys m_readMarbles m_readFarms m_boys m_marbles m_farms m_holding m_spills m_acts m_draws m_bestRow m_bestMany m_noted m_hasImage m_tape m_code m_value m_codes m_clauses m_testFrom m_sumFrom m_sumTo m_letters m_stack m_readRule m_readBoy m_readMarble m_readFarm m_rule m_boy m_marble m_farm m_now m_refused m_kept m_notePlace m_noteKind m_noteIs m_toldBy m_image ++ fr) (some (.int r.1)) (wdM B m_thrown m_size m_at m_wrong m_deep m_laws m_text m_readBoys m_readMarbles m_readFarms m_boys m_marbles m_farms m_holding m_spills r.2.1 r.2.2.1 m_bestRow m_bestMany m_noted m_hasImage m_tape m_code m_value m_codes m_clauses m_testFrom m_sumFrom m_sumTo r.2.2.2.1 r.2.2.2.2.1 m_readRule m_readBoy m_readMarble m_readFarm m_rule m_boy m_marble m_farm r.2.2.2.2.2.1 m_refused r.2.2.2.2.2.2 m_notePlace m_noteKind m_noteIs m_toldBy m_image ++ fr) :=
  gMet.of rfl (Nat.le_of_ble_eq_true rfl) (fun X hX hF => w_M_years hX r h hF)
