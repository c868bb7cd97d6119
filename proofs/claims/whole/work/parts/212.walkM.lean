variable {B : gB} {X : gX} {fr : va_W} {m_thrown : Int32} {m_size : Int32} {m_at : Int32} {m_wrong : Int32} {m_deep : Int32} {m_laws : Int32} {m_text : Int32} {m_readBoys : Int32} {m_readMarbles : Int32} {m_readFarms : Int32} {m_boys : Int32} {m_marbles : Int32} {m_farms : Int32} {m_holding : Int32} {m_spills : Int32} {m_acts : Int32} {m_draws : Int64} {m_bestRow : Int32} {m_bestMany : Int32} {m_noted : Int32} {m_hasImage : Int32} {m_tape : Nat → Int32} {m_code : Nat → Int32} {m_value : Nat → Int32} {m_codes : Nat → Int32} {m_clauses : Nat → Int32} {m_testFrom : Nat → Int32} {m_sumFrom : Nat → Int32} {m_sumTo : Nat → Int32} {m_letters : Nat → Int32} {m_stack : Nat → Int32} {m_readRule : Nat → Int32} {m_readBoy : Nat → Int32} {m_readMarble : Nat → Int32} {m_readFarm : Nat → Int32} {m_rule : Nat → Int32} {m_boy : Nat → Int32} {m_marble : Nat → Int32} {m_farm : Nat → Int32} {m_now : Nat → Int32} {m_refused : Nat → Int32} {m_kept : Nat → Int32} {m_notePlace : Nat → Int32} {m_noteKind : Nat → Int32} {m_noteIs : Nat → Int32} {m_toldBy : Nat → Int32} {m_image : Nat → Int32}
set_option maxRecDepth 4000 in
theorem w_M_isLoose {p0 : Int32} (hX : gOk B X RX11 cX11_isLoose 2 1 (some .boolean)) : gH B X (fun r : Int32 => gFin X (some (.int r)) (wdM B m_thrown m_size m_at m_wrong m_deep m_laws m_text m_readBoys m_readMarbles m_readFarms m_boys m_marbles m_farms m_holding m_spills m_acts m_draws m_bestRow m_bestMany m_noted m_hasImage m_tape m_code m_value m_codes m_clauses m_testFrom m_sumFrom m_sumTo m_letters m_stack m_readRule m_readBoy m_readMarble m_readFarm m_rule m_boy m_marble m_farm m_now m_refused m_kept m_notePlace m_noteKind m_noteIs m_toldBy m_image ++ fr)) 0 [(0, .ref (aM B 0)), (1, .int p0)] [] (wdM B m_thrown m_size m_at m_wrong m_deep m_laws m_text m_readBoys m_readMarbles m_readFarms m_boys m_marbles m_farms m_holding m_spills m_acts m_draws m_bestRow m_bestMany m_noted m_hasImage m_tape m_code m_value m_codes m_clauses m_testFrom m_sumFrom m_sumTo m_letters m_stack m_readRule m_readBoy m_readMarble m_readFarm m_rule m_boy m_marble m_farm m_now m_refused m_kept m_notePlace m_noteKind m_noteIs m_toldBy m_image ++ fr) (f_M_isLoose m_now p0) := by
  unfold f_M_isLoose
  refine h_aload_n hX dX11_isLoose_0 rfl rfl ?_
  refine get_RX11_64_M0 hX dX11_isLoose_1 ?_
  refine h_iconst hX dX11_isLoose_4 ki_0 ?_
  refine h_iload_n hX dX11_isLoose_5 rfl rfl ?_
  refine h_iadd hX dX11_isLoose_6 ?_
  refine ald_M19 hX dX11_isLoose_7 ?_
  refine h_iconst hX dX11_isLoose_8 ki_m1 ?_
  refine h_icmp_eq hX dX11_isLoose_9 (tgt := 30) (by decide) (fun _ => ?_) (fun _ => ?_)
  · refine h_iconst hX dX11_isLoose_30 ki_0 ?_
    exact h_ret hX (rv := some (.int 0)) dX11_isLoose_31 rfl (fun h => h)
  · refine h_aload_n hX dX11_isLoose_12 rfl rfl ?_
    refine get_RX11_64_M0 hX dX11_isLoose_13 ?_
    refine h_bipush hX dX11_isLoose_16 kb_7 ?_
    refine ald_M19 hX dX11_isLoose_18 ?_
    refine h_iload_n hX dX11_isLoose_19 rfl rfl ?_
    refine h_callSi hX dX11_isLoose_20 (cs_RX11_219) (As := [.int (m_now (7 : Int32).toNatClampNeg), .int p0]) (st := []) (fun _ h => c_M_has h) rfl rfl (by decide) (Nat.le_of_ble_eq_true rfl) (fun a_1 => ?_)
    refine h_if_ne hX dX11_isLoose_23 (tgt := 30) (by decide) (fun _ => ?_) (fun _ => ?_)
    · refine h_iconst hX dX11_isLoose_30 ki_0 ?_
      exact h_ret hX (rv := some (.int 0)) dX11_isLoose_31 rfl (fun h => h)
    · refine h_iconst hX dX11_isLoose_26 ki_1 ?_
      refine h_goto hX dX11_isLoose_27 (tgt := 31) (by decide) ?_
      exact h_ret hX (rv := some (.int 1)) dX11_isLoose_31 rfl (fun h => h)
theorem c_M_isLoose {p0 : Int32} {r : Int32} (h : f_M_isLoose m_now p0 = some r) : gMet B 1 yX11_isLoose cX11_isLoose 2 (some .boolean) [.ref (aM B 0), .int p0] (wdM B m_thrown m_size m_at m_wrong m_deep m_laws m_text m_readBoys m_readMarbles m_readFarms m_boys m_marbles m_farms m_holding m_spills m_acts m_draws m_bestRow m_bestMany m_noted m_hasImage m_tape m_code m_value m_codes m_clauses m_testFrom m_sumFrom m_sumTo m_letters m_stack m_readRule m_readBoy m_readMarble m_readFarm m_rule m_boy m_marble m_farm m_now m_refused m_kept m_notePlace m_noteKind m_noteIs m_toldBy m_image ++ fr) (some (.int r)) (wdM B m_thrown m_size m_at m_wrong m_deep m_laws m_text m_readBoys m_readMarbles m_readFarms m_boys m_marbles m_farms m_holding m_spills m_acts m_draws m_bestRow m_bestMany m_noted m_hasImage m_tape m_code m_value m_codes m_clauses m_testFrom m_sumFrom m_sumTo m_letters m_stack m_readRule m_readBoy m_readMarble m_readFarm m_rule m_boy m_marble m_farm m_now m_refused m_kept m_notePlace m_noteKind m_noteIs m_toldBy m_image ++ fr) :=
  gMet.of rfl (Nat.le_of_ble_eq_true rfl) (fun X hX hF => w_M_isLoose hX r h hF)
set_option maxRecDepth 4000 in
theorem w_M_tryOwners_J179 {RR : Int32 → Int32 → Int32 → Int32 → Int32 → (Nat → Int32) → (Nat → Int32) → (Nat → Int32) → (Nat → Int32) → Int32 → Int32 → Int32 → Option (Int32 × Int32 × (Nat → Int32))} {dR : Nat} (hR : ∀ (fr : va_W) (m_thrown : Int32) (m_size : Int32) (m_at : Int32) (m_wrong : Int32) (m_deep : Int32) (m_laws : Int32) (m_text : Int32) (m_readBoys : Int32) (m_readMarbles : Int32) (m_readFarms : Int32) (m_boys : Int32) (m_marbles : Int32) (m_farms : Int32) (m_holding : Int32) (m_spills : Int32) (m_acts : Int32) (m_draws : Int64) (m_bestRow : Int32) (m_bestMany : Int32) (m_noted : Int32) (m_hasImage : Int32) (m_tape : Nat → Int32) (m_code : Nat → Int32) (m_value : Nat → Int32) (m_codes : Nat → Int32) (m_clauses : Nat → Int32) (m_testFrom : Nat → Int32) (m_sumFrom : Nat → Int32) (m_sumTo : Nat → Int32) (m_letters : Nat → Int32) (m_stack : Nat → Int32) (m_readRule : Nat → Int32) (m_readBoy : Nat → Int32) (m_readMarble : Nat → Int32) (m_readFarm : Nat → Int32) (m_rule : Nat → Int32) (m_boy : Nat → Int32) (m_marble : Nat → Int32) (m_farm : Nat → Int32) (m_now : Nat → Int32) (m_refused : Nat → Int32) (m_kept : Nat → Int32) (m_notePlace : Nat → Int32) (m_noteKind : Nat → Int32) (m_noteIs : Nat → Int32) (m_toldBy : Nat → Int32) (m_image : Nat → Int32) (p0 : Int32) (p1 : Int32) (p2 : Int32) (r : (Int32 × Int32 × (Nat → Int32))), RR m_boys m_marbles m_farms m_bestRow m_bestMany m_boy m_marble m_farm m_now p0 p1 p2 = some r → gMet B dR yX11_tryOwners cX11_tryOwners 6 none [.ref (aM B 0), .int p0, .int p1, .int p2] (wdM B m_thrown m_size m_at m_wrong m_deep m_laws m_text m_readBoys m_readMarbles m_readFarms m_boys m_marbles m_farms m_holding m_spills m_acts m_draws m_bestRow m_bestMany m_noted m_hasImage m_tape m_code m_value m_codes m_clauses m_testFrom m_sumFrom m_sumTo m_letters m_stack m_readRule m_readBoy m_readMarble m_readFarm m_rule m_boy m_marble m_farm m_now m_refused m_kept m_notePlace m_noteKind m_noteIs m_toldBy m_image ++ fr) (none) (wdM B m_thrown m_size m_at m_wrong m_deep m_laws m_text m_readBoys m_readMarbles m_readFarms m_boys m_marbles m_farms m_holding m_spills m_acts m_draws r.1 r.2.1 m_noted m_hasImage m_tape m_code m_value m_codes m_clauses m_testFrom m_sumFrom m_sumTo m_letters m_stack m_readRule m_readBoy m_readMarble m_readFarm m_rule m_boy m_marble m_farm r.2.2 m_refused m_kept m_notePlace m_noteKind m_noteIs m_toldBy m_image ++ fr)) {v1 : Int32} {v2 : Int32} {v3 : Int32} {v4 : Int32} {v5 : Int32} {k1 : Int32} {k2 : Int32} {k3 : Int32} (hX : gOk B X RX11 cX11_tryOwners 6 (dR + 6) none) : gH B X (Sum.elim (fun s : (Int32 × Int32 × Int32 × (Nat → Int32)) => gG B X 135 [(0, .ref (aM B 0)), (1, .int v1), (2, .int v2), (3, .int v3), (4, .int v4), (5, .int s.1)] [] (wdM B m_thrown m_size m_at m_wrong m_deep m_laws m_text m_readBoys m_readMarbles m_readFarms m_boys m_marbles m_farms m_holding m_spills m_acts m_draws s.2.1 s.2.2.1 m_noted m_hasImage m_tape m_code m_value m_codes m_clauses m_testFrom m_sumFrom m_sumTo m_letters m_stack m_readRule m_readBoy m_readMarble m_readFarm m_rule m_boy m_marble m_farm s.2.2.2 m_refused m_kept m_notePlace m_noteKind m_noteIs m_toldBy m_image ++ fr)) (fun r : (Int32 × Int32 × (Nat → Int32)) => gFin X (none) (wdM B m_thrown m_size m_at m_wrong m_deep m_laws m_text m_readBoys m_readMarbles m_readFarms m_boys m_marbles m_farms m_holding m_spills m_acts m_draws r.1 r.2.1 m_noted m_hasImage m_tape m_code m_value m_codes m_clauses m_testFrom m_sumFrom m_sumTo m_letters m_stack m_readRule m_readBoy m_readMarble m_readFarm m_rule m_boy m_marble m_farm r.2.2 m_refused m_kept m_notePlace m_noteKind m_noteIs m_toldBy m_image ++ fr))) 179 [(0, .ref (aM B 0)), (1, .int v1), (2, .int v2), (3, .int v3), (4, .int v4), (5, .int v5)] [.int k3, .int k2, .int k1, .ref (aM B 0)] (wdM B m_thrown m_size m_at m_wrong m_deep m_laws m_text m_readBoys m_readMarbles m_readFarms m_boys m_marbles m_farms m_holding m_spills m_acts m_draws m_bestRow m_bestMany m_noted m_hasImage m_tape m_code m_value m_codes m_clauses m_testFrom m_sumFrom m_sumTo m_letters m_stack m_readRule m_readBoy m_readMarble m_readFarm m_rule m_boy m_marble m_farm m_now m_refused m_kept m_notePlace m_noteKind m_noteIs m_toldBy m_image ++ fr) (f_M_tryOwners_J179 RR m_boys m_marbles m_farms m_bestRow m_bestMany m_boy m_marble m_farm m_now v5 k1 k2 k3) := by
  unfold f_M_tryOwners_J179
  refine h_callVv hX dX11_tryOwners_179 (cv_RX11_413) rc_M0 (As := [.int k1, .int k2, .int k3]) (st := []) (fun _ h => hR _ _ _ _ _ _ _ _ _ _ _ _ _ _ _ _ _ _ _ _ _ _ _ _ _ _ _ _ _ _ _ _ _ _ _ _ _ _ _ _ _ _ _ _ _ _ _ _ _ _ _ _ h) rfl rfl (by constructor <;> omega) (Nat.le_of_ble_eq_true rfl) (fun a_5 => ?_)
  refine h_iincc hX dX11_tryOwners_182 rfl ki_1 (by decide) (lv' := [(0, .ref (aM B 0)), (1, .int v1), (2, .int v2), (3, .int v3), (4, .int v4), (5, .int (v5 + 1))]) rfl ?_
  refine h_goto hX dX11_tryOwners_185 (tgt := 135) (by decide) ?_
  exact gH.some' (fun h => h)
set_option maxRecDepth 4000 in
theorem w_M_tryOwners_L135 {RR : Int32 → Int32 → Int32 → Int32 → Int32 → (Nat → Int32) → (Nat → Int32) → (Nat → Int32) → (Nat → Int32) → Int32 → Int32 → Int32 → Option (Int32 × Int32 × (Nat → Int32))} {dR : Nat} (hR : ∀ (fr : va_W) (m_thrown : Int32) (m_size : Int32) (m_at : Int32) (m_wrong : Int32) (m_deep : Int32) (m_laws : Int32) (m_text : Int32) (m_readBoys : Int32) (m_readMarbles : Int32) (m_readFarms : Int32) (m_boys : Int32) (m_marbles : Int32) (m_farms : Int32) (m_holding : Int32) (m_spills : Int32) (m_acts : Int32) (m_draws : Int64) (m_bestRow : Int32) (m_bestMany : Int32) (m_noted : Int32) (m_hasImage : Int32) (m_tape : Nat → Int32) (m_code : Nat → Int32) (m_value : Nat → Int32) (m_codes : Nat → Int32) (m_clauses : Nat → Int32) (m_testFrom : Nat → Int32) (m_sumFrom : Nat → Int32) (m_sumTo : Nat → Int32) (m_letters : Nat → Int32) (m_stack : Nat → Int32) (m_readRule : Nat → Int32) (m_readBoy : Nat → Int32) (m_readMarble : Nat → Int32) (m_readFarm : Nat → Int32) (m_rule : Nat → Int32) (m_boy : Nat → Int32) (m_marble : Nat → Int32) (m_farm : Nat → Int32) (m_now : Nat → Int32) (m_refused : Nat → Int32) (m_kept : Nat → Int32) (m_notePlace : Nat → Int32) (m_noteKind : Nat → Int32) (m_noteIs : Nat → Int32) (m_toldBy : Nat → Int32) (m_image : Nat → Int32) (p0 : Int32) (p1 : Int32) (p2 : Int32) (r : (Int32 × Int32 × (Nat → Int32))), RR m_boys m_marbles m_farms m_bestRow m_bestMany m_boy m_marble m_farm m_now p0 p1 p2 = some r → gMet B dR yX11_tryOwners cX11_tryOwners 6 none [.ref (aM B 0), .int p0, .int p1, .int p2] (wdM B m_thrown m_size m_at m_wrong m_deep m_laws m_text m_readBoys m_readMarbles m_readFarms m_boys m_marbles m_farms m_holding m_spills m_acts m_draws m_bestRow m_bestMany m_noted m_hasImage m_tape m_code m_value m_codes m_clauses m_testFrom m_sumFrom m_sumTo m_letters m_stack m_readRule m_readBoy m_readMarble m_readFarm m_rule m_boy m_marble m_farm m_now m_refused m_kept m_notePlace m_noteKind m_noteIs m_toldBy m_image ++ fr) (none) (wdM B m_thrown m_size m_at m_wrong m_deep m_laws m_text m_readBoys m_readMarbles m_readFarms m_boys m_marbles m_farms m_holding m_spills m_acts m_draws r.1 r.2.1 m_noted m_hasImage m_tape m_code m_value m_codes m_clauses m_testFrom m_sumFrom m_sumTo m_letters m_stack m_readRule m_readBoy m_readMarble m_readFarm m_rule m_boy m_marble m_farm r.2.2 m_refused m_kept m_notePlace m_noteKind m_noteIs m_toldBy m_image ++ fr)) {v1 : Int32} {v2 : Int32} {v3 : Int32} {v4 : Int32} (hX : gOk B X RX11 cX11_tryOwners 6 (dR + 6) none) (s : (Int32 × Int32 × Int32 × (Nat → Int32))) : gH B X (Sum.elim (fun s : (Int32 × Int32 × Int32 × (Nat → Int32)) => gG B X 135 [(0, .ref (aM B 0)), (1, .int v1), (2, .int v2), (3, .int v3), (4, .int v4), (5, .int s.1)] [] (wdM B m_thrown m_size m_at m_wrong m_deep m_laws m_text m_readBoys m_readMarbles m_readFarms m_boys m_marbles m_farms m_holding m_spills m_acts m_draws s.2.1 s.2.2.1 m_noted m_hasImage m_tape m_code m_value m_codes m_clauses m_testFrom m_sumFrom m_sumTo m_letters m_stack m_readRule m_readBoy m_readMarble m_readFarm m_rule m_boy m_marble m_farm s.2.2.2 m_refused m_kept m_notePlace m_noteKind m_noteIs m_toldBy m_image ++ fr)) (fun r : (Int32 × Int32 × (Nat → Int32)) => gFin X (none) (wdM B m_thrown m_size m_at m_wrong m_deep m_laws m_text m_readBoys m_readMarbles m_readFarms m_boys m_marbles m_farms m_holding m_spills m_acts m_draws r.1 r.2.1 m_noted m_hasImage m_tape m_code m_value m_codes m_clauses m_testFrom m_sumFrom m_sumTo m_letters m_stack m_readRule m_readBoy m_readMarble m_readFarm m_rule m_boy m_marble m_farm r.2.2 m_refused m_kept m_notePlace m_noteKind m_noteIs m_toldBy m_image ++ fr))) 135 [(0, .ref (aM B 0)), (1, .int v1), (2, .int v2), (3, .int v3), (4, .int v4), (5, .int s.1)] [] (wdM B m_thrown m_size m_at m_wrong m_deep m_laws m_text m_readBoys m_readMarbles m_readFarms m_boys m_marbles m_farms m_holding m_spills m_acts m_draws s.2.1 s.2.2.1 m_noted m_hasImage m_tape m_code m_value m_codes m_clauses m_testFrom m_sumFrom m_sumTo m_letters m_stack m_readRule m_readBoy m_readMarble m_readFarm m_rule m_boy m_marble m_farm s.2.2.2 m_refused m_kept m_notePlace m_noteKind m_noteIs m_toldBy m_image ++ fr) (f_M_tryOwners_L135 RR m_boys m_marbles m_farms m_boy m_marble m_farm v1 v2 v3 v4 s) := by
  unfold f_M_tryOwners_L135
  refine h_iload hX dX11_tryOwners_135 rfl ?_
  refine h_aload_n hX dX11_tryOwners_137 rfl rfl ?_
  refine get_RX11_258_M0 hX dX11_tryOwners_138 ?_
  refine h_icmp_ge hX dX11_tryOwners_141 (tgt := 188) (by decide) (fun _ => ?_) (fun _ => ?_)
  · refine gH.inr ?_
    refine h_aload_n hX dX11_tryOwners_188 rfl rfl ?_
    refine get_RX11_64_M0 hX dX11_tryOwners_189 ?_
    refine h_iconst hX dX11_tryOwners_192 ki_0 ?_
    refine h_iload_n hX dX11_tryOwners_193 rfl rfl ?_
    refine h_iadd hX dX11_tryOwners_194 ?_
    refine h_iload hX dX11_tryOwners_195 rfl ?_
    refine ast_M19 hX dX11_tryOwners_197 ?_
    refine gH.letw (w := fun y => wdM B m_thrown m_size m_at m_wrong m_deep m_laws m_text m_readBoys m_readMarbles m_readFarms m_boys m_marbles m_farms m_holding m_spills m_acts m_draws s.2.1 s.2.2.1 m_noted m_hasImage m_tape m_code m_value m_codes m_clauses m_testFrom m_sumFrom m_sumTo m_letters m_stack m_readRule m_readBoy m_readMarble m_readFarm m_rule m_boy m_marble m_farm y m_refused m_kept m_notePlace m_noteKind m_noteIs m_toldBy m_image ++ fr) (fun m_now_3 => ?_)
    exact h_ret hX (rv := none) dX11_tryOwners_198 trivial (fun h => h)
  · refine h_aload_n hX dX11_tryOwners_144 rfl rfl ?_
    refine get_RX11_64_M0 hX dX11_tryOwners_145 ?_
    refine h_iconst hX dX11_tryOwners_148 ki_0 ?_
    refine h_iload_n hX dX11_tryOwners_149 rfl rfl ?_
    refine h_iadd hX dX11_tryOwners_150 ?_
    refine h_iload hX dX11_tryOwners_151 rfl ?_
    refine ast_M19 hX dX11_tryOwners_153 ?_
    refine gH.letw (w := fun y => wdM B m_thrown m_size m_at m_wrong m_deep m_laws m_text m_readBoys m_readMarbles m_readFarms m_boys m_marbles m_farms m_holding m_spills m_acts m_draws s.2.1 s.2.2.1 m_noted m_hasImage m_tape m_code m_value m_codes m_clauses m_testFrom m_sumFrom m_sumTo m_letters m_stack m_readRule m_readBoy m_readMarble m_readFarm m_rule m_boy m_marble m_farm y m_refused m_kept m_notePlace m_noteKind m_noteIs m_toldBy m_image ++ fr) (fun m_now_4 => ?_)
    refine h_aload_n hX dX11_tryOwners_154 rfl rfl ?_
    refine h_iload_n hX dX11_tryOwners_155 rfl rfl ?_
    refine h_iconst hX dX11_tryOwners_156 ki_1 ?_
    refine h_iadd hX dX11_tryOwners_157 ?_
    refine h_bipush hX dX11_tryOwners_158 kb_10 ?_
    refine h_iload_n hX dX11_tryOwners_160 rfl rfl ?_
    refine h_imul hX dX11_tryOwners_161 ?_
    refine h_iload hX dX11_tryOwners_162 rfl ?_
    refine h_iadd hX dX11_tryOwners_164 ?_
    refine h_iload hX dX11_tryOwners_165 rfl ?_
    refine h_iload hX dX11_tryOwners_167 rfl ?_
    refine h_icmp_ne hX dX11_tryOwners_169 (tgt := 176) (by decide) (fun _ => ?_) (fun _ => ?_)
    · refine h_iload_n hX dX11_tryOwners_176 rfl rfl ?_
      refine h_iconst hX dX11_tryOwners_177 ki_1 ?_
      refine h_iadd hX dX11_tryOwners_178 ?_
      exact w_M_tryOwners_J179 hR hX
    · refine h_iload_n hX dX11_tryOwners_172 rfl rfl ?_
      refine h_goto hX dX11_tryOwners_173 (tgt := 179) (by decide) ?_
      exact w_M_tryOwners_J179 hR hX
set_option maxRecDepth 4000 in
theorem w_M_tryOwners_J126 {RR : Int32 → Int32 → Int32 → Int32 → Int32 → (Nat → Int32) → (Nat → Int32) → (Nat → Int32) → (Nat → Int32) → Int32 → Int32 → Int32 → Option (Int32 × Int32 × (Nat → Int32))} {dR : Nat} (hR : ∀ (fr : va_W) (m_thrown : Int32) (m_size : Int32) (m_at : Int32) (m_wrong : Int32) (m_deep : Int32) (m_laws : Int32) (m_text : Int32) (m_readBoys : Int32) (m_readMarbles : Int32) (m_readFarms : Int32) (m_boys : Int32) (m_marbles : Int32) (m_farms : Int32) (m_holding : Int32) (m_spills : Int32) (m_acts : Int32) (m_draws : Int64) (m_bestRow : Int32) (m_bestMany : Int32) (m_noted : Int32) (m_hasImage : Int32) (m_tape : Nat → Int32) (m_code : Nat → Int32) (m_value : Nat → Int32) (m_codes : Nat → Int32) (m_clauses : Nat → Int32) (m_testFrom : Nat → Int32) (m_sumFrom : Nat → Int32) (m_sumTo : Nat → Int32) (m_letters : Nat → Int32) (m_stack : Nat → Int32) (m_readRule : Nat → Int32) (m_readBoy : Nat → Int32) (m_readMarble : Nat → Int32) (m_readFarm : Nat → Int32) (m_rule : Nat → Int32) (m_boy : Nat → Int32) (m_marble : Nat → Int32) (m_farm : Nat → Int32) (m_now : Nat → Int32) (m_refused : Nat → Int32) (m_kept : Nat → Int32) (m_notePlace : Nat → Int32) (m_noteKind : Nat → Int32) (m_noteIs : Nat → Int32) (m_toldBy : Nat → Int32) (m_image : Nat → Int32) (p0 : Int32) (p1 : Int32) (p2 : Int32) (r : (Int32 × Int32 × (Nat → Int32))), RR m_boys m_marbles m_farms m_bestRow m_bestMany m_boy m_marble m_farm m_now p0 p1 p2 = some r → gMet B dR yX11_tryOwners cX11_tryOwners 6 none [.ref (aM B 0), .int p0, .int p1, .int p2] (wdM B m_thrown m_size m_at m_wrong m_deep m_laws m_text m_readBoys m_readMarbles m_readFarms m_boys m_marbles m_farms m_holding m_spills m_acts m_draws m_bestRow m_bestMany m_noted m_hasImage m_tape m_code m_value m_codes m_clauses m_testFrom m_sumFrom m_sumTo m_letters m_stack m_readRule m_readBoy m_readMarble m_readFarm m_rule m_boy m_marble m_farm m_now m_refused m_kept m_notePlace m_noteKind m_noteIs m_toldBy m_image ++ fr) (none) (wdM B m_thrown m_size m_at m_wrong m_deep m_laws m_text m_readBoys m_readMarbles m_readFarms m_boys m_marbles m_farms m_holding m_spills m_acts m_draws r.1 r.2.1 m_noted m_hasImage m_tape m_code m_value m_codes m_clauses m_testFrom m_sumFrom m_sumTo m_letters m_stack m_readRule m_readBoy m_readMarble m_readFarm m_rule m_boy m_marble m_farm r.2.2 m_refused m_kept m_notePlace m_noteKind m_noteIs m_toldBy m_image ++ fr)) {v3 : Int32} {k1 : Int32} {k2 : Int32} {k3 : Int32} (hX : gOk B X RX11 cX11_tryOwners 6 (dR + 6) none) : gH B X (fun r : (Int32 × Int32 × (Nat → Int32)) => gFin X (none) (wdM B m_thrown m_size m_at m_wrong m_deep m_laws m_text m_readBoys m_readMarbles m_readFarms m_boys m_marbles m_farms m_holding m_spills m_acts m_draws r.1 r.2.1 m_noted m_hasImage m_tape m_code m_value m_codes m_clauses m_testFrom m_sumFrom m_sumTo m_letters m_stack m_readRule m_readBoy m_readMarble m_readFarm m_rule m_boy m_marble m_farm r.2.2 m_refused m_kept m_notePlace m_noteKind m_noteIs m_toldBy m_image ++ fr)) 126 [(3, .int v3)] [.int k3, .int k2, .int k1, .ref (aM B 0)] (wdM B m_thrown m_size m_at m_wrong m_deep m_laws m_text m_readBoys m_readMarbles m_readFarms m_boys m_marbles m_farms m_holding m_spills m_acts m_draws m_bestRow m_bestMany m_noted m_hasImage m_tape m_code m_value m_codes m_clauses m_testFrom m_sumFrom m_sumTo m_letters m_stack m_readRule m_readBoy m_readMarble m_readFarm m_rule m_boy m_marble m_farm m_now m_refused m_kept m_notePlace m_noteKind m_noteIs m_toldBy m_image ++ fr) (f_M_tryOwners_J126 RR m_boys m_marbles m_farms m_bestRow m_bestMany m_boy m_marble m_farm m_now v3 k1 k2 k3) := by
  unfold f_M_tryOwners_J126
  refine h_iadd hX dX11_tryOwners_126 ?_
  refine h_iload_n hX dX11_tryOwners_127 rfl rfl ?_
  refine h_callVv hX dX11_tryOwners_128 (cv_RX11_413) rc_M0 (As := [.int k1, .int (k2 + k3), .int v3]) (st := []) (fun _ h => hR _ _ _ _ _ _ _ _ _ _ _ _ _ _ _ _ _ _ _ _ _ _ _ _ _ _ _ _ _ _ _ _ _ _ _ _ _ _ _ _ _ _ _ _ _ _ _ _ _ _ _ _ h) rfl rfl (by constructor <;> omega) (Nat.le_of_ble_eq_true rfl) (fun a_7 => ?_)
  exact h_ret hX (rv := none) dX11_tryOwners_131 trivial (fun h => h)
set_option maxRecDepth 4000 in
theorem w_M_tryOwners_J76 {RR : Int32 → Int32 → Int32 → Int32 → Int32 → (Nat → Int32) → (Nat → Int32) → (Nat → Int32) → (Nat → Int32) → Int32 → Int32 → Int32 → Option (Int32 × Int32 × (Nat → Int32))} {dR : Nat} (hR : ∀ (fr : va_W) (m_thrown : Int32) (m_size : Int32) (m_at : Int32) (m_wrong : Int32) (m_deep : Int32) (m_laws : Int32) (m_text : Int32) (m_readBoys : Int32) (m_readMarbles : Int32) (m_readFarms : Int32) (m_boys : Int32) (m_marbles : Int32) (m_farms : Int32) (m_holding : Int32) (m_spills : Int32) (m_acts : Int32) (m_draws : Int64) (m_bestRow : Int32) (m_bestMany : Int32) (m_noted : Int32) (m_hasImage : Int32) (m_tape : Nat → Int32) (m_code : Nat → Int32) (m_value : Nat → Int32) (m_codes : Nat → Int32) (m_clauses : Nat → Int32) (m_testFrom : Nat → Int32) (m_sumFrom : Nat → Int32) (m_sumTo : Nat → Int32) (m_letters : Nat → Int32) (m_stack : Nat → Int32) (m_readRule : Nat → Int32) (m_readBoy : Nat → Int32) (m_readMarble : Nat → Int32) (m_readFarm : Nat → Int32) (m_rule : Nat → Int32) (m_boy : Nat → Int32) (m_marble : Nat → Int32) (m_farm : Nat → Int32) (m_now : Nat → Int32) (m_refused : Nat → Int32) (m_kept : Nat → Int32) (m_notePlace : Nat → Int32) (m_noteKind : Nat → Int32) (m_noteIs : Nat → Int32) (m_toldBy : Nat → Int32) (m_image : Nat → Int32) (p0 : Int32) (p1 : Int32) (p2 : Int32) (r : (Int32 × Int32 × (Nat → Int32))), RR m_boys m_marbles m_farms m_bestRow m_bestMany m_boy m_marble m_farm m_now p0 p1 p2 = some r → gMet B dR yX11_tryOwners cX11_tryOwners 6 none [.ref (aM B 0), .int p0, .int p1, .int p2] (wdM B m_thrown m_size m_at m_wrong m_deep m_laws m_text m_readBoys m_readMarbles m_readFarms m_boys m_marbles m_farms m_holding m_spills m_acts m_draws m_bestRow m_bestMany m_noted m_hasImage m_tape m_code m_value m_codes m_clauses m_testFrom m_sumFrom m_sumTo m_letters m_stack m_readRule m_readBoy m_readMarble m_readFarm m_rule m_boy m_marble m_farm m_now m_refused m_kept m_notePlace m_noteKind m_noteIs m_toldBy m_image ++ fr) (none) (wdM B m_thrown m_size m_at m_wrong m_deep m_laws m_text m_readBoys m_readMarbles m_readFarms m_boys m_marbles m_farms m_holding m_spills m_acts m_draws r.1 r.2.1 m_noted m_hasImage m_tape m_code m_value m_codes m_clauses m_testFrom m_sumFrom m_sumTo m_letters m_stack m_readRule m_readBoy m_readMarble m_readFarm m_rule m_boy m_marble m_farm r.2.2 m_refused m_kept m_notePlace m_noteKind m_noteIs m_toldBy m_image ++ fr)) {v2 : Int32} {v3 : Int32} (hX : gOk B X RX11 cX11_tryOwners 6 (dR + 6) none) : gH B X (fun r : (Int32 × Int32 × (Nat → Int32)) => gFin X (none) (wdM B m_thrown m_size m_at m_wrong m_deep m_laws m_text m_readBoys m_readMarbles m_readFarms m_boys m_marbles m_farms m_holding m_spills m_acts m_draws r.1 r.2.1 m_noted m_hasImage m_tape m_code m_value m_codes m_clauses m_testFrom m_sumFrom m_sumTo m_letters m_stack m_readRule m_readBoy m_readMarble m_readFarm m_rule m_boy m_marble m_farm r.2.2 m_refused m_kept m_notePlace m_noteKind m_noteIs m_toldBy m_image ++ fr)) 76 [(0, .ref (aM B 0)), (2, .int v2), (3, .int v3)] [] (wdM B m_thrown m_size m_at m_wrong m_deep m_laws m_text m_readBoys m_readMarbles m_readFarms m_boys m_marbles m_farms m_holding m_spills m_acts m_draws m_bestRow m_bestMany m_noted m_hasImage m_tape m_code m_value m_codes m_clauses m_testFrom m_sumFrom m_sumTo m_letters m_stack m_readRule m_readBoy m_readMarble m_readFarm m_rule m_boy m_marble m_farm m_now m_refused m_kept m_notePlace m_noteKind m_noteIs m_toldBy m_image ++ fr) (f_M_tryOwners_J76 m_now v2 v3) := by
  unfold f_M_tryOwners_J76
  refine h_aload_n hX dX11_tryOwners_76 rfl rfl ?_
  refine h_iload_n hX dX11_tryOwners_77 rfl rfl ?_
  refine put_RX11_407_M0 hX dX11_tryOwners_78 ?_
  refine h_aload_n hX dX11_tryOwners_81 rfl rfl ?_
  refine h_iload_n hX dX11_tryOwners_82 rfl rfl ?_
  refine put_RX11_410_M0 hX dX11_tryOwners_83 ?_
  exact h_ret hX (rv := none) dX11_tryOwners_86 trivial (fun h => h)
set_option maxRecDepth 4000 in
theorem w_M_tryOwners_J45 {RR : Int32 → Int32 → Int32 → Int32 → Int32 → (Nat → Int32) → (Nat → Int32) → (Nat → Int32) → (Nat → Int32) → Int32 → Int32 → Int32 → Option (Int32 × Int32 × (Nat → Int32))} {dR : Nat} (hR : ∀ (fr : va_W) (m_thrown : Int32) (m_size : Int32) (m_at : Int32) (m_wrong : Int32) (m_deep : Int32) (m_laws : Int32) (m_text : Int32) (m_readBoys : Int32) (m_readMarbles : Int32) (m_readFarms : Int32) (m_boys : Int32) (m_marbles : Int32) (m_farms : Int32) (m_holding : Int32) (m_spills : Int32) (m_acts : Int32) (m_draws : Int64) (m_bestRow : Int32) (m_bestMany : Int32) (m_noted : Int32) (m_hasImage : Int32) (m_tape : Nat → Int32) (m_code : Nat → Int32) (m_value : Nat → Int32) (m_codes : Nat → Int32) (m_clauses : Nat → Int32) (m_testFrom : Nat → Int32) (m_sumFrom : Nat → Int32) (m_sumTo : Nat → Int32) (m_letters : Nat → Int32) (m_stack : Nat → Int32) (m_readRule : Nat → Int32) (m_readBoy : Nat → Int32) (m_readMarble : Nat → Int32) (m_readFarm : Nat → Int32) (m_rule : Nat → Int32) (m_boy : Nat → Int32) (m_marble : Nat → Int32) (m_farm : Nat → Int32) (m_now : Nat → Int32) (m_refused : Nat → Int32) (m_kept : Nat → Int32) (m_notePlace : Nat → Int32) (m_noteKind : Nat → Int32) (m_noteIs : Nat → Int32) (m_toldBy : Nat → Int32) (m_image : Nat → Int32) (p0 : Int32) (p1 : Int32) (p2 : Int32) (r : (Int32 × Int32 × (Nat → Int32))), RR m_boys m_marbles m_farms m_bestRow m_bestMany m_boy m_marble m_farm m_now p0 p1 p2 = some r → gMet B dR yX11_tryOwners cX11_tryOwners 6 none [.ref (aM B 0), .int p0, .int p1, .int p2] (wdM B m_thrown m_size m_at m_wrong m_deep m_laws m_text m_readBoys m_readMarbles m_readFarms m_boys m_marbles m_farms m_holding m_spills m_acts m_draws m_bestRow m_bestMany m_noted m_hasImage m_tape m_code m_value m_codes m_clauses m_testFrom m_sumFrom m_sumTo m_letters m_stack m_readRule m_readBoy m_readMarble m_readFarm m_rule m_boy m_marble m_farm m_now m_refused m_kept m_notePlace m_noteKind m_noteIs m_toldBy m_image ++ fr) (none) (wdM B m_thrown m_size m_at m_wrong m_deep m_laws m_text m_readBoys m_readMarbles m_readFarms m_boys m_marbles m_farms m_holding m_spills m_acts m_draws r.1 r.2.1 m_noted m_hasImage m_tape m_code m_value m_codes m_clauses m_testFrom m_sumFrom m_sumTo m_letters m_stack m_readRule m_readBoy m_readMarble m_readFarm m_rule m_boy m_marble m_farm r.2.2 m_refused m_kept m_notePlace m_noteKind m_noteIs m_toldBy m_image ++ fr)) {v2 : Int32} {v3 : Int32} {k0 : Int32} (hX : gOk B X RX11 cX11_tryOwners 6 (dR + 6) none) : gH B X (fun r : (Int32 × Int32 × (Nat → Int32)) => gFin X (none) (wdM B m_thrown m_size m_at m_wrong m_deep m_laws m_text m_readBoys m_readMarbles m_readFarms m_boys m_marbles m_farms m_holding m_spills m_acts m_draws r.1 r.2.1 m_noted m_hasImage m_tape m_code m_value m_codes m_clauses m_testFrom m_sumFrom m_sumTo m_letters m_stack m_readRule m_readBoy m_readMarble m_readFarm m_rule m_boy m_marble m_farm r.2.2 m_refused m_kept m_notePlace m_noteKind m_noteIs m_toldBy m_image ++ fr)) 45 [(0, .ref (aM B 0)), (2, .int v2), (3, .int v3)] [.int k0] (wdM B m_thrown m_size m_at m_wrong m_deep m_laws m_text m_readBoys m_readMarbles m_readFarms m_boys m_marbles m_farms m_holding m_spills m_acts m_draws m_bestRow m_bestMany m_noted m_hasImage m_tape m_code m_value m_codes m_clauses m_testFrom m_sumFrom m_sumTo m_letters m_stack m_readRule m_readBoy m_readMarble m_readFarm m_rule m_boy m_marble m_farm m_now m_refused m_kept m_notePlace m_noteKind m_noteIs m_toldBy m_image ++ fr) (f_M_tryOwners_J45 m_bestRow m_bestMany m_now v2 v3 k0) := by
  unfold f_M_tryOwners_J45
  refine h_istore hX dX11_tryOwners_45 (by decide) (lv' := [(0, .ref (aM B 0)), (2, .int v2), (3, .int v3), (4, .int k0)]) rfl ?_
  refine h_iload hX dX11_tryOwners_47 rfl ?_
  refine h_if_eq hX dX11_tryOwners_49 (tgt := 86) (by decide) (fun _ => ?_) (fun _ => ?_)
  · exact h_ret hX (rv := none) dX11_tryOwners_86 trivial (fun h => h)
  · refine h_aload_n hX dX11_tryOwners_52 rfl rfl ?_
    refine get_RX11_407_M0 hX dX11_tryOwners_53 ?_
    refine h_iconst hX dX11_tryOwners_56 ki_m1 ?_
    refine h_icmp_eq hX dX11_tryOwners_57 (tgt := 76) (by decide) (fun _ => ?_) (fun _ => ?_)
    · refine gH.dead [0, 1, 2] rfl ?_
      exact w_M_tryOwners_J76 hR hX
    · refine h_iload_n hX dX11_tryOwners_60 rfl rfl ?_
      refine h_aload_n hX dX11_tryOwners_61 rfl rfl ?_
      refine get_RX11_410_M0 hX dX11_tryOwners_62 ?_
      refine h_icmp_lt hX dX11_tryOwners_65 (tgt := 76) (by decide) (fun _ => ?_) (fun _ => ?_)
      · refine gH.dead [0, 1, 2] rfl ?_
        exact w_M_tryOwners_J76 hR hX
      · refine h_iload_n hX dX11_tryOwners_68 rfl rfl ?_
        refine h_aload_n hX dX11_tryOwners_69 rfl rfl ?_
        refine get_RX11_407_M0 hX dX11_tryOwners_70 ?_
        refine h_icmp_ge hX dX11_tryOwners_73 (tgt := 86) (by decide) (fun _ => ?_) (fun _ => ?_)
        · exact h_ret hX (rv := none) dX11_tryOwners_86 trivial (fun h => h)
        · refine gH.dead [0, 1, 2] rfl ?_
          exact w_M_tryOwners_J76 hR hX
set_option maxRecDepth 4000 in
theorem w_M_tryOwners_J17 {RR : Int32 → Int32 → Int32 → Int32 → Int32 → (Nat → Int32) → (Nat → Int32) → (Nat → Int32) → (Nat → Int32) → Int32 → Int32 → Int32 → Option (Int32 × Int32 × (Nat → Int32))} {dR : Nat} (hR : ∀ (fr : va_W) (m_thrown : Int32) (m_size : Int32) (m_at : Int32) (m_wrong : Int32) (m_deep : Int32) (m_laws : Int32) (m_text : Int32) (m_readBoys : Int32) (m_readMarbles : Int32) (m_readFarms : Int32) (m_boys : Int32) (m_marbles : Int32) (m_farms : Int32) (m_holding : Int32) (m_spills : Int32) (m_acts : Int32) (m_draws : Int64) (m_bestRow : Int32) (m_bestMany : Int32) (m_noted : Int32) (m_hasImage : Int32) (m_tape : Nat → Int32) (m_code : Nat → Int32) (m_value : Nat → Int32) (m_codes : Nat → Int32) (m_clauses : Nat → Int32) (m_testFrom : Nat → Int32) (m_sumFrom : Nat → Int32) (m_sumTo : Nat → Int32) (m_letters : Nat → Int32) (m_stack : Nat → Int32) (m_readRule : Nat → Int32) (m_readBoy : Nat → Int32) (m_readMarble : Nat → Int32) (m_readFarm : Nat → Int32) (m_rule : Nat → Int32) (m_boy : Nat → Int32) (m_marble : Nat → Int32) (m_farm : Nat → Int32) (m_now : Nat → Int32) (m_refused : Nat → Int32) (m_kept : Nat → Int32) (m_notePlace : Nat → Int32) (m_noteKind : Nat → Int32) (m_noteIs : Nat → Int32) (m_toldBy : Nat → Int32) (m_image : Nat → Int32) (p0 : Int32) (p1 : Int32) (p2 : Int32) (r : (Int32 × Int32 × (Nat → Int32))), RR m_boys m_marbles m_farms m_bestRow m_bestMany m_boy m_marble m_farm m_now p0 p1 p2 = some r → gMet B dR yX11_tryOwners cX11_tryOwners 6 none [.ref (aM B 0), .int p0, .int p1, .int p2] (wdM B m_thrown m_size m_at m_wrong m_deep m_laws m_text m_readBoys m_readMarbles m_readFarms m_boys m_marbles m_farms m_holding m_spills m_acts m_draws m_bestRow m_bestMany m_noted m_hasImage m_tape m_code m_value m_codes m_clauses m_testFrom m_sumFrom m_sumTo m_letters m_stack m_readRule m_readBoy m_readMarble m_readFarm m_rule m_boy m_marble m_farm m_now m_refused m_kept m_notePlace m_noteKind m_noteIs m_toldBy m_image ++ fr) (none) (wdM B m_thrown m_size m_at m_wrong m_deep m_laws m_text m_readBoys m_readMarbles m_readFarms m_boys m_marbles m_farms m_holding m_spills m_acts m_draws r.1 r.2.1 m_noted m_hasImage m_tape m_code m_value m_codes m_clauses m_testFrom m_sumFrom m_sumTo m_letters m_stack m_readRule m_readBoy m_readMarble m_readFarm m_rule m_boy m_marble m_farm r.2.2 m_refused m_kept m_notePlace m_noteKind m_noteIs m_toldBy m_image ++ fr)) {v1 : Int32} {v2 : Int32} {v3 : Int32} (hX : gOk B X RX11 cX11_tryOwners 6 (dR + 6) none) : gH B X (fun r : (Int32 × Int32 × (Nat → Int32)) => gFin X (none) (wdM B m_thrown m_size m_at m_wrong m_deep m_laws m_text m_readBoys m_readMarbles m_readFarms m_boys m_marbles m_farms m_holding m_spills m_acts m_draws r.1 r.2.1 m_noted m_hasImage m_tape m_code m_value m_codes m_clauses m_testFrom m_sumFrom m_sumTo m_letters m_stack m_readRule m_readBoy m_readMarble m_readFarm m_rule m_boy m_marble m_farm r.2.2 m_refused m_kept m_notePlace m_noteKind m_noteIs m_toldBy m_image ++ fr)) 17 [(0, .ref (aM B 0)), (1, .int v1), (2, .int v2), (3, .int v3)] [] (wdM B m_thrown m_size m_at m_wrong m_deep m_laws m_text m_readBoys m_readMarbles m_readFarms m_boys m_marbles m_farms m_holding m_spills m_acts m_draws m_bestRow m_bestMany m_noted m_hasImage m_tape m_code m_value m_codes m_clauses m_testFrom m_sumFrom m_sumTo m_letters m_stack m_readRule m_readBoy m_readMarble m_readFarm m_rule m_boy m_marble m_farm m_now m_refused m_kept m_notePlace m_noteKind m_noteIs m_toldBy m_image ++ fr) (f_M_tryOwners_J17 RR m_boys m_marbles m_farms m_bestRow m_bestMany m_boy m_marble m_farm m_now v1 v2 v3) := by
  unfold f_M_tryOwners_J17
  refine h_iload_n hX dX11_tryOwners_17 rfl rfl ?_
  refine h_aload_n hX dX11_tryOwners_18 rfl rfl ?_
  refine get_RX11_261_M0 hX dX11_tryOwners_19 ?_
  refine h_icmp_ne hX dX11_tryOwners_22 (tgt := 87) (by decide) (fun _ => ?_) (fun _ => ?_)
  · refine h_aload_n hX dX11_tryOwners_87 rfl rfl ?_
    refine get_RX11_64_M0 hX dX11_tryOwners_88 ?_
    refine h_iconst hX dX11_tryOwners_91 ki_0 ?_
    refine h_iload_n hX dX11_tryOwners_92 rfl rfl ?_
    refine h_iadd hX dX11_tryOwners_93 ?_
    refine ald_M19 hX dX11_tryOwners_94 ?_
    refine gH.leti (fun v4_1 => ?_)
    refine h_istore hX dX11_tryOwners_95 (by decide) (lv' := [(0, .ref (aM B 0)), (1, .int v1), (2, .int v2), (3, .int v3), (4, .int v4_1)]) rfl ?_
    refine h_aload_n hX dX11_tryOwners_97 rfl rfl ?_
    refine h_iload_n hX dX11_tryOwners_98 rfl rfl ?_
    refine h_callVi hX dX11_tryOwners_99 (cv_RX11_332) rc_M0 (As := [.int v1]) (st := []) (fun _ h => c_M_isLoose h) rfl rfl (by constructor <;> omega) (Nat.le_of_ble_eq_true rfl) (fun a_2 => ?_)
    refine h_if_ne hX dX11_tryOwners_102 (tgt := 132) (by decide) (fun _ => ?_) (fun _ => ?_)
    · refine h_iconst hX dX11_tryOwners_132 ki_0 ?_
      refine h_istore hX dX11_tryOwners_133 (by decide) (lv' := [(0, .ref (aM B 0)), (1, .int v1), (2, .int v2), (3, .int v3), (4, .int v4_1), (5, .int 0)]) rfl ?_
      exact gH.loop (lvf := fun z : (Int32 × Int32 × Int32 × (Nat → Int32)) => [(0, .ref (aM B 0)), (1, .int v1), (2, .int v2), (3, .int v3), (4, .int v4_1), (5, .int z.1)]) (wf := fun z : (Int32 × Int32 × Int32 × (Nat → Int32)) => wdM B m_thrown m_size m_at m_wrong m_deep m_laws m_text m_readBoys m_readMarbles m_readFarms m_boys m_marbles m_farms m_holding m_spills m_acts m_draws z.2.1 z.2.2.1 m_noted m_hasImage m_tape m_code m_value m_codes m_clauses m_testFrom m_sumFrom m_sumTo m_letters m_stack m_readRule m_readBoy m_readMarble m_readFarm m_rule m_boy m_marble m_farm z.2.2.2 m_refused m_kept m_notePlace m_noteKind m_noteIs m_toldBy m_image ++ fr) (fun z => w_M_tryOwners_L135 hR hX z) (0, m_bestRow, m_bestMany, m_now)
    · refine h_aload_n hX dX11_tryOwners_105 rfl rfl ?_
      refine h_iload_n hX dX11_tryOwners_106 rfl rfl ?_
      refine h_iconst hX dX11_tryOwners_107 ki_1 ?_
      refine h_iadd hX dX11_tryOwners_108 ?_
      refine h_bipush hX dX11_tryOwners_109 kb_10 ?_
      refine h_iload_n hX dX11_tryOwners_111 rfl rfl ?_
      refine h_imul hX dX11_tryOwners_112 ?_
      refine h_iload hX dX11_tryOwners_113 rfl ?_
      refine h_iconst hX dX11_tryOwners_115 ki_m1 ?_
      refine h_icmp_ne hX dX11_tryOwners_116 (tgt := 124) (by decide) (fun _ => ?_) (fun _ => ?_)
      · refine h_iload hX dX11_tryOwners_124 rfl ?_
        refine gH.dead [3] rfl ?_
        exact w_M_tryOwners_J126 hR hX
      · refine h_bipush hX dX11_tryOwners_119 kb_9 ?_
        refine h_goto hX dX11_tryOwners_121 (tgt := 126) (by decide) ?_
        refine gH.dead [3] rfl ?_
        exact w_M_tryOwners_J126 hR hX
  · refine h_aload_n hX dX11_tryOwners_25 rfl rfl ?_
    refine h_callVi hX dX11_tryOwners_26 (cv_RX11_369) rc_M0 (As := []) (st := []) (fun _ h => c_M_contents h) rfl rfl (by constructor <;> omega) (Nat.le_of_ble_eq_true rfl) (fun a_8 => ?_)
    refine h_iconst hX dX11_tryOwners_29 ki_1 ?_
    refine h_aload_n hX dX11_tryOwners_30 rfl rfl ?_
    refine get_RX11_264_M0 hX dX11_tryOwners_31 ?_
    refine h_ishl hX dX11_tryOwners_34 ?_
    refine h_iconst hX dX11_tryOwners_35 ki_1 ?_
    refine h_isub hX dX11_tryOwners_36 ?_
    refine h_icmp_ne hX dX11_tryOwners_37 (tgt := 44) (by decide) (fun _ => ?_) (fun _ => ?_)
    · refine h_iconst hX dX11_tryOwners_44 ki_0 ?_
      refine gH.dead [0, 2, 3] rfl ?_
      exact w_M_tryOwners_J45 hR hX
    · refine h_iconst hX dX11_tryOwners_40 ki_1 ?_
      refine h_goto hX dX11_tryOwners_41 (tgt := 45) (by decide) ?_
      refine gH.dead [0, 2, 3] rfl ?_
      exact w_M_tryOwners_J45 hR hX
set_option maxRecDepth 4000 in
theorem w_M_tryOwners {RR : Int32 → Int32 → Int32 → Int32 → Int32 → (Nat → Int32) → (Nat → Int32) → (Nat → Int32) → (Nat → Int32) → Int32 → Int32 → Int32 → Option (Int32 × Int32 × (Nat → Int32))} {dR : Nat} (hR : ∀ (fr : va_W) (m_thrown : Int32) (m_size : Int32) (m_at : Int32) (m_wrong : Int32) (m_deep : Int32) (m_laws : Int32) (m_text : Int32) (m_readBoys : Int32) (m_readMarbles : Int32) (m_readFarms : Int32) (m_boys : Int32) (m_marbles : Int32) (m_farms : Int32) (m_holding : Int32) (m_spills : Int32) (m_acts : Int32) (m_draws : Int64) (m_bestRow : Int32) (m_bestMany : Int32) (m_noted : Int32) (m_hasImage : Int32) (m_tape : Nat → Int32) (m_code : Nat → Int32) (m_value : Nat → Int32) (m_codes : Nat → Int32) (m_clauses : Nat → Int32) (m_testFrom : Nat → Int32) (m_sumFrom : Nat → Int32) (m_sumTo : Nat → Int32) (m_letters : Nat → Int32) (m_stack : Nat → Int32) (m_readRule : Nat → Int32) (m_readBoy : Nat → Int32) (m_readMarble : Nat → Int32) (m_readFarm : Nat → Int32) (m_rule : Nat → Int32) (m_boy : Nat → Int32) (m_marble : Nat → Int32) (m_farm : Nat → Int32) (m_now : Nat → Int32) (m_refused : Nat → Int32) (m_kept : Nat → Int32) (m_notePlace : Nat → Int32) (m_noteKind : Nat → Int32) (m_noteIs : Nat → Int32) (m_toldBy : Nat → Int32) (m_image : Nat → Int32) (p0 : Int32) (p1 : Int32) (p2 : Int32) (r : (Int32 × Int32 × (Nat → Int32))), RR m_boys m_marbles m_farms m_bestRow m_bestMany m_boy m_marble m_farm m_now p0 p1 p2 = some r → gMet B dR yX11_tryOwners cX11_tryOwners 6 none [.ref (aM B 0), .int p0, .int p1, .int p2] (wdM B m_thrown m_size m_at m_wrong m_deep m_laws m_text m_readBoys m_readMarbles m_readFarms m_boys m_marbles m_farms m_holding m_spills m_acts m_draws m_bestRow m_bestMany m_noted m_hasImage m_tape m_code m_value m_codes m_clauses m_testFrom m_sumFrom m_sumTo m_letters m_stack m_readRule m_readBoy m_readMarble m_readFarm m_rule m_boy m_marble m_farm m_now m_refused m_kept m_notePlace m_noteKind m_noteIs m_toldBy m_image ++ fr) (none) (wdM B m_thrown m_size m_at m_wrong m_deep m_laws m_text m_readBoys m_readMarbles m_readFarms m_boys m_marbles m_farms m_holding m_spills m_acts m_draws r.1 r.2.1 m_noted m_hasImage m_tape m_code m_value m_codes m_clauses m_testFrom m_sumFrom m_sumTo m_letters m_stack m_readRule m_readBoy m_readMarble m_readFarm m_rule m_boy m_marble m_farm r.2.2 m_refused m_kept m_notePlace m_noteKind m_noteIs m_toldBy m_image ++ fr)) {p0 : Int32} {p1 : Int32} {p2 : Int32} (hX : gOk B X RX11 cX11_tryOwners 6 (dR + 6) none) : gH B X (fun r : (Int32 × Int32 × (Nat → Int32)) => gFin X (none) (wdM B m_thrown m_size m_at m_wrong m_deep m_laws m_text m_readBoys m_readMarbles m_readFarms m_boys m_marbles m_farms m_holding m_spills m_acts m_draws r.1 r.2.1 m_noted m_hasImage m_tape m_code m_value m_codes m_clauses m_testFrom m_sumFrom m_sumTo m_letters m_stack m_readRule m_readBoy m_readMarble m_readFarm m_rule m_boy m_marble m_farm r.2.2 m_refused m_kept m_notePlace m_noteKind m_noteIs m_toldBy m_image ++ fr)) 0 [(0, .ref (aM B 0)), (1, .int p0), (2, .int p1), (3, .int p2)] [] (wdM B m_thrown m_size m_at m_wrong m_deep m_laws m_text m_readBoys m_readMarbles m_readFarms m_boys m_marbles m_farms m_holding m_spills m_acts m_draws m_bestRow m_bestMany m_noted m_hasImage m_tape m_code m_value m_codes m_clauses m_testFrom m_sumFrom m_sumTo m_letters m_stack m_readRule m_readBoy m_readMarble m_readFarm m_rule m_boy m_marble m_farm m_now m_refused m_kept m_notePlace m_noteKind m_noteIs m_toldBy m_image ++ fr) (f_M_tryOwnersB RR m_boys m_marbles m_farms m_bestRow m_bestMany m_boy m_marble m_farm m_now p0 p1 p2) := by
  unfold f_M_tryOwnersB
  refine h_aload_n hX dX11_tryOwners_0 rfl rfl ?_
  refine get_RX11_407_M0 hX dX11_tryOwners_1 ?_
  refine h_iconst hX dX11_tryOwners_4 ki_m1 ?_
  refine h_icmp_eq hX dX11_tryOwners_5 (tgt := 17) (by decide) (fun _ => ?_) (fun _ => ?_)
  · exact w_M_tryOwners_J17 hR hX
  · refine h_iload_n hX dX11_tryOwners_8 rfl rfl ?_
    refine h_aload_n hX dX11_tryOwners_9 rfl rfl ?_
    refine get_RX11_410_M0 hX dX11_tryOwners_10 ?_
    refine h_icmp_le hX dX11_tryOwners_13 (tgt := 17) (by decide) (fun _ => ?_) (fun _ => ?_)
    · exact w_M_tryOwners_J17 hR hX
    · exact h_ret hX (rv := none) dX11_tryOwners_16 trivial (fun h => h)
theorem c_M_tryOwners {RR : Int32 → Int32 → Int32 → Int32 → Int32 → (Nat → Int32) → (Nat → Int32) → (Nat → Int32) → (Nat → Int32) → Int32 → Int32 → Int32 → Option (Int32 × Int32 × (Nat → Int32))} {dR : Nat} (hR : ∀ (fr : va_W) (m_thrown : Int32) (m_size : Int32) (m_at : Int32) (m_wrong : Int32) (m_deep : Int32) (m_laws : Int32) (m_text : Int32) (m_readBoys : Int32) (m_readMarbles : Int32) (m_readFarms : Int32) (m_boys : Int32) (m_marbles : Int32) (m_farms : Int32) (m_holding : Int32) (m_spills : Int32) (m_acts : Int32) (m_draws : Int64) (m_bestRow : Int32) (m_bestMany : Int32) (m_noted : Int32) (m_hasImage : Int32) (m_tape : Nat → Int32) (m_code : Nat → Int32) (m_value : Nat → Int32) (m_codes : Nat → Int32) (m_clauses : Nat → Int32) (m_testFrom : Nat → Int32) (m_sumFrom : Nat → Int32) (m_sumTo : Nat → Int32) (m_letters : Nat → Int32) (m_stack : Nat → Int32) (m_readRule : Nat → Int32) (m_readBoy : Nat → Int32) (m_readMarble : Nat → Int32) (m_readFarm : Nat → Int32) (m_rule : Nat → Int32) (m_boy : Nat → Int32) (m_marble : Nat → Int32) (m_farm : Nat → Int32) (m_now : Nat → Int32) (m_refused : Nat → Int32) (m_kept : Nat → Int32) (m_notePlace : Nat → Int32) (m_noteKind : Nat → Int32) (m_noteIs : Nat → Int32) (m_toldBy : Nat → Int32) (m_image : Nat → Int32) (p0 : Int32) (p1 : Int32) (p2 : Int32) (r : (Int32 × Int32 × (Nat → Int32))), RR m_boys m_marbles m_farms m_bestRow m_bestMany m_boy m_marble m_farm m_now p0 p1 p2 = some r → gMet B dR yX11_tryOwners cX11_tryOwners 6 none [.ref (aM B 0), .int p0, .int p1, .int p2] (wdM B m_thrown m_size m_at m_wrong m_deep m_laws m_text m_readBoys m_readMarbles m_readFarms m_boys m_marbles m_farms m_holding m_spills m_acts m_draws m_bestRow m_bestMany m_noted m_hasImage m_tape m_code m_value m_codes m_clauses m_testFrom m_sumFrom m_sumTo m_letters m_stack m_readRule m_readBoy m_readMarble m_readFarm m_rule m_boy m_marble m_farm m_now m_refused m_kept m_notePlace m_noteKind m_noteIs m_toldBy m_image ++ fr) (none) (wdM B m_thrown m_size m_at m_wrong m_deep m_laws m_text m_readBoys m_readMarbles m_readFarms m_boys m_marbles m_farms m_holding m_spills m_acts m_draws r.1 r.2.1 m_noted m_hasImage m_tape m_code m_value m_codes m_clauses m_testFrom m_sumFrom m_sumTo m_letters m_stack m_readRule m_readBoy m_readMarble m_readFarm m_rule m_boy m_marble m_farm r.2.2 m_refused m_kept m_notePlace m_noteKind m_noteIs m_toldBy m_image ++ fr)) {p0 : Int32} {p1 : Int32} {p2 : Int32} {r : (Int32 × Int32 × (Nat → Int32))} (h : f_M_tryOwnersB RR m_boys m_marbles m_farms m_bestRow m_bestMany m_boy m_marble m_farm m_now p0 p1 p2 = some r) : gMet B (dR + 6) yX11_tryOwners cX11_tryOwners 6 none [.ref (aM B 0), .int p0, .int p1, .int p2] (wdM B m_thrown m_size m_at m_wrong m_deep m_laws m_text m_readBoys m_readMarbles m_readFarms m_boys m_marbles m_farms m_holding m_spills m_acts m_draws m_bestRow m_bestMany m_noted m_hasImage m_tape m_code m_value m_codes m_clauses m_testFrom m_sumFrom m_sumTo m_letters m_stack m_readRule m_readBoy m_readMarble m_readFarm m_rule m_boy m_marble m_farm m_now m_refused m_kept m_notePlace m_noteKind m_noteIs m_toldBy m_image ++ fr) (none) (wdM B m_thrown m_size m_at m_wrong m_deep m_laws m_text m_readBoys m_readMarbles m_readFarms m_boys m_marbles m_farms m_holding m_spills m_acts m_draws r.1 r.2.1 m_noted m_hasImage m_tape m_code m_value m_codes m_clauses m_testFrom m_sumFrom m_sumTo m_letters m_stack m_readRule m_readBoy m_readMarble m_readFarm m_rule m_boy m_marble m_farm r.2.2 m_refused m_kept m_notePlace m_noteKind m_noteIs m_toldBy m_image ++ fr) :=
  gMet.of rfl (Nat.le_of_ble_eq_true rfl) (fun X hX hF => w_M_tryOwners hR hX r h hF)
theorem cn_M_tryOwners (n : Nat) : ∀ (fr : va_W) (m_thrown : Int32) (m_size : Int32) (m_at : Int32) (m_wrong : Int32) (m_deep : Int32) (m_laws : Int32) (m_text : Int32) (m_readBoys : Int32) (m_readMarbles : Int32) (m_readFarms : Int32) (m_boys : Int32) (m_marbles : Int32) (m_farms : Int32) (m_holding : Int32) (m_spills : Int32) (m_acts : Int32) (m_draws : Int64) (m_bestRow : Int32) (m_bestMany : Int32) (m_noted : Int32) (m_hasImage : Int32) (m_tape : Nat → Int32) (m_code : Nat → Int32) (m_value : Nat → Int32) (m_codes : Nat → Int32) (m_clauses : Nat → Int32) (m_testFrom : Nat → Int32) (m_sumFrom : Nat → Int32) (m_sumTo : Nat → Int32) (m_letters : Nat → Int32) (m_stack : Nat → Int32) (m_readRule : Nat → Int32) (m_readBoy : Nat → Int32) (m_readMarble : Nat → Int32) (m_readFarm : Nat → Int32) (m_rule : Nat → Int32) (m_boy : Nat → Int32) (m_marble : Nat → Int32) (m_farm : Nat → Int32) (m_now : Nat → Int32) (m_refused : Nat → Int32) (m_kept : Nat → Int32) (m_notePlace : Nat → Int32) (m_noteKind : Nat → Int32) (m_noteIs : Nat → Int32) (m_toldBy : Nat → Int32) (m_image : Nat → Int32) (p0 : Int32) (p1 : Int32) (p2 : Int32) (r : (Int32 × Int32 × (Nat → Int32))), f_M_tryOwners n m_boys m_marbles m_farms m_bestRow m_bestMany m_boy m_marble m_farm m_now p0 p1 p2 = some r → gMet B (6 * n) yX11_tryOwners cX11_tryOwners 6 none [.ref (aM B 0), .int p0, .int p1, .int p2] (wdM B m_thrown m_size m_at m_wrong m_deep m_laws m_text m_readBoys m_readMarbles m_readFarms m_boys m_marbles m_farms m_holding m_spills m_acts m_draws m_bestRow m_bestMany m_noted m_hasImage m_tape m_code m_value m_codes m_clauses m_testFrom m_sumFrom m_sumTo m_letters m_stack m_readRule m_readBoy m_readMarble m_readFarm m_rule m_boy m_marble m_farm m_now m_refused m_kept m_notePlace m_noteKind m_noteIs m_toldBy m_image ++ fr) (none) (wdM B m_thrown m_size m_at m_wrong m_deep m_laws m_text m_readBoys m_readMarbles m_readFarms m_boys m_marbles m_farms m_holding m_spills m_acts m_draws r.1 r.2.1 m_noted m_hasImage m_tape m_code m_value m_codes m_clauses m_testFrom m_sumFrom m_sumTo m_letters m_stack m_readRule m_readBoy m_readMarble m_readFarm m_rule m_boy m_marble m_farm r.2.2 m_refused m_kept m_notePlace m_noteKind m_noteIs m_toldBy m_image ++ fr) := by
  induction n with
  | zero =>
    intros
    rename_i h
    cases h
  | succ n ih =>
    intro fr
    intros
    rename_i h
    rw [Nat.mul_succ]
    exact c_M_tryOwners ih h
set_option maxRecDepth 4000 in
theorem w_M_arrange {p0 : Int32} (hX : gOk B X RX11 cX11_arrange 2 49 (some .int)) : gH B X (fun r : (Int32 × Int32 × Int32 × (Nat → Int32)) => gFin X (some (.int r.1)) (wdM B m_thrown m_size m_at m_wrong m_deep m_laws m_text m_readBoys m_readMarbles m_readFarms m_boys m_marbles m_farms m_holding m_spills m_acts m_draws r.2.1 r.2.2.1 m_noted m_hasImage m_tape m_code m_value m_codes m_clauses m_testFrom m_sumFrom m_sumTo m_letters m_stack m_readRule m_readBoy m_readMarble m_readFarm m_rule m_boy m_marble m_farm r.2.2.2 m_refused m_kept m_notePlace m_noteKind m_noteIs m_toldBy m_image ++ fr)) 0 [(0, .ref (aM B 0)), (1, .int p0)] [] (wdM B m_thrown m_size m_at m_wrong m_deep m_laws m_text m_readBoys m_readMarbles m_readFarms m_boys m_marbles m_farms m_holding m_spills m_acts m_draws m_bestRow m_bestMany m_noted m_hasImage m_tape m_code m_value m_codes m_clauses m_testFrom m_sumFrom m_sumTo m_letters m_stack m_readRule m_readBoy m_readMarble m_readFarm m_rule m_boy m_marble m_farm m_now m_refused m_kept m_notePlace m_noteKind m_noteIs m_toldBy m_image ++ fr) (f_M_arrange m_boys m_marbles m_farms m_bestRow m_bestMany m_boy m_marble m_farm m_now p0) := by
  unfold f_M_arrange
  refine h_aload_n hX dX11_arrange_0 rfl rfl ?_
  refine get_RX11_261_M0 hX dX11_arrange_1 ?_
  refine h_if_eq hX dX11_arrange_4 (tgt := 16) (by decide) (fun _ => ?_) (fun _ => ?_)
  · refine h_iconst hX dX11_arrange_16 ki_m1 ?_
    exact h_ret hX (rv := some (.int ((-1)))) dX11_arrange_17 trivial (fun h => h)
  · refine h_iload_n hX dX11_arrange_7 rfl rfl ?_
    refine h_iconst hX dX11_arrange_8 ki_0 ?_
    refine h_iconst hX dX11_arrange_9 ki_1 ?_
    refine h_callSi hX dX11_arrange_10 (cs_RX11_208) (As := [.int p0, .int 0, .int 1]) (st := []) (fun _ h => c_M_in h) rfl rfl (by decide) (Nat.le_of_ble_eq_true rfl) (fun a_1 => ?_)
    refine h_if_ne hX dX11_arrange_13 (tgt := 18) (by decide) (fun _ => ?_) (fun _ => ?_)
    · refine h_aload_n hX dX11_arrange_18 rfl rfl ?_
      refine h_iconst hX dX11_arrange_19 ki_m1 ?_
      refine put_RX11_407_M0 hX dX11_arrange_20 ?_
      refine h_aload_n hX dX11_arrange_23 rfl rfl ?_
      refine h_iconst hX dX11_arrange_24 ki_0 ?_
      refine put_RX11_410_M0 hX dX11_arrange_25 ?_
      refine h_aload_n hX dX11_arrange_28 rfl rfl ?_
      refine h_iconst hX dX11_arrange_29 ki_0 ?_
      refine h_iconst hX dX11_arrange_30 ki_0 ?_
      refine h_iconst hX dX11_arrange_31 ki_0 ?_
      refine h_callVv hX dX11_arrange_32 (cv_RX11_413) rc_M0 (As := [.int 0, .int 0, .int 0]) (st := []) (fun _ h => cn_M_tryOwners 8 _ _ _ _ _ _ _ _ _ _ _ _ _ _ _ _ _ _ _ _ _ _ _ _ _ _ _ _ _ _ _ _ _ _ _ _ _ _ _ _ _ _ _ _ _ _ _ _ _ _ _ _ h) rfl rfl (by decide) (Nat.le_of_ble_eq_true rfl) (fun a_2 => ?_)
      refine h_aload_n hX dX11_arrange_35 rfl rfl ?_
      refine get_RX11_407_M0 hX dX11_arrange_36 ?_
      refine h_iconst hX dX11_arrange_39 ki_m1 ?_
      refine h_icmp_eq hX dX11_arrange_40 (tgt := 48) (by decide) (fun _ => ?_) (fun _ => ?_)
      · refine h_aload_n hX dX11_arrange_48 rfl rfl ?_
        refine get_RX11_407_M0 hX dX11_arrange_49 ?_
        refine h_goto hX dX11_arrange_52 (tgt := 59) (by decide) ?_
        exact h_ret hX (rv := some (.int a_2.1)) dX11_arrange_59 trivial (fun h => h)
      · refine h_iload_n hX dX11_arrange_43 rfl rfl ?_
        refine h_iconst hX dX11_arrange_44 ki_1 ?_
        refine h_icmp_ne hX dX11_arrange_45 (tgt := 55) (by decide) (fun _ => ?_) (fun _ => ?_)
        · refine h_aload_n hX dX11_arrange_55 rfl rfl ?_
          refine get_RX11_410_M0 hX dX11_arrange_56 ?_
          exact h_ret hX (rv := some (.int a_2.2.1)) dX11_arrange_59 trivial (fun h => h)
        · refine h_aload_n hX dX11_arrange_48 rfl rfl ?_
          refine get_RX11_407_M0 hX dX11_arrange_49 ?_
          refine h_goto hX dX11_arrange_52 (tgt := 59) (by decide) ?_
          exact h_ret hX (rv := some (.int a_2.1)) dX11_arrange_59 trivial (fun h => h)
    · refine h_iconst hX dX11_arrange_16 ki_m1 ?_
      exact h_ret hX (rv := some (.int ((-1)))) dX11_arrange_17 trivial (fun h => h)
theorem c_M_arrange {p0 : Int32} {r : (Int32 × Int32 × Int32 × (Nat → Int32))} (h : f_M_arrange m_boys m_marbles m_farms m_bestRow m_bestMany m_boy m_marble m_farm m_now p0 = some r) : gMet B 49 yX11_arrange cX11_arrange 2 (some .int) [.ref (aM B 0), .int p0] (wdM B m_thrown m_size m_at m_wrong m_deep m_laws m_text m_readBoys m_readMarbles m_readFarms m_boys m_marbles m_farms m_holding m_spills m_acts m_draws m_bestRow m_bestMany m_noted m_hasImage m_tape m_code m_value m_codes m_clauses m_testFrom m_sumFrom m_sumTo m_letters m_stack m_readRule m_readBoy m_readMarble m_readFarm m_rule m_boy m_marble m_farm m_now m_refused m_kept m_notePlace m_noteKind m_noteIs m_toldBy m_image ++ fr) (some (.int r.1)) (wdM B m_thrown m_size m_at m_wrong m_deep m_laws m_text m_readBoys m_readMarbles m_readFarms m_boys m_marbles m_farms m_holding m_spills m_acts m_draws r.2.1 r.2.2.1 m_noted m_hasImage m_tape m_code m_value m_codes m_clauses m_testFrom m_sumFrom m_sumTo m_letters m_stack m_readRule m_readBoy m_readMarble m_readFarm m_rule m_boy m_marble m_farm r.2.2.2 m_refused m_kept m_notePlace m_noteKind m_noteIs m_toldBy m_image ++ fr) :=
  gMet.of rfl (Nat.le_of_ble_eq_true rfl) (fun X hX hF => w_M_arrange hX r h hF)
set_option maxRecDepth 4000 in
theorem w_M_here (hX : gOk B X RX11 cX11_here 1 0 (some .int)) : gH B X (fun r : Int32 => gFin X (some (.int r)) (wdM B m_thrown m_size m_at m_wrong m_deep m_laws m_text m_readBoys m_readMarbles m_readFarms m_boys m_marbles m_farms m_holding m_spills m_acts m_draws m_bestRow m_bestMany m_noted m_hasImage m_tape m_code m_value m_codes m_clauses m_testFrom m_sumFrom m_sumTo m_letters m_stack m_readRule m_readBoy m_readMarble m_readFarm m_rule m_boy m_marble m_farm m_now m_refused m_kept m_notePlace m_noteKind m_noteIs m_toldBy m_image ++ fr)) 0 [(0, .ref (aM B 0))] [] (wdM B m_thrown m_size m_at m_wrong m_deep m_laws m_text m_readBoys m_readMarbles m_readFarms m_boys m_marbles m_farms m_holding m_spills m_acts m_draws m_bestRow m_bestMany m_noted m_hasImage m_tape m_code m_value m_codes m_clauses m_testFrom m_sumFrom m_sumTo m_letters m_stack m_readRule m_readBoy m_readMarble m_readFarm m_rule m_boy m_marble m_farm m_now m_refused m_kept m_notePlace m_noteKind m_noteIs m_toldBy m_image ++ fr) (f_M_here m_size m_at m_tape) := by
  unfold f_M_here
  refine h_aload_n hX dX11_here_0 rfl rfl ?_
  refine get_RX11_103_M0 hX dX11_here_1 ?_
  refine h_aload_n hX dX11_here_4 rfl rfl ?_
  refine get_RX11_100_M0 hX dX11_here_5 ?_
  refine h_icmp_ge hX dX11_here_8 (tgt := 23) (by decide) (fun _ => ?_) (fun _ => ?_)
  · refine h_iconst hX dX11_here_23 ki_m1 ?_
    exact h_ret hX (rv := some (.int ((-1)))) dX11_here_24 trivial (fun h => h)
  · refine h_aload_n hX dX11_here_11 rfl rfl ?_
    refine get_RX11_9_M0 hX dX11_here_12 ?_
    refine h_aload_n hX dX11_here_15 rfl rfl ?_
    refine get_RX11_103_M0 hX dX11_here_16 ?_
    refine ald_M1 hX dX11_here_19 ?_
    refine h_goto hX dX11_here_20 (tgt := 24) (by decide) ?_
    exact h_ret hX (rv := some (.int (m_tape m_at.toNatClampNeg))) dX11_here_24 trivial (fun h => h)
theorem c_M_here {r : Int32} (h : f_M_here m_size m_at m_tape = some r) : gMet B 0 yX11_here cX11_here 1 (some .int) [.ref (aM B 0)] (wdM B m_thrown m_size m_at m_wrong m_deep m_laws m_text m_readBoys m_readMarbles m_readFarms m_boys m_marbles m_farms m_holding m_spills m_acts m_draws m_bestRow m_bestMany m_noted m_hasImage m_tape m_code m_value m_codes m_clauses m_testFrom m_sumFrom m_sumTo m_letters m_stack m_readRule m_readBoy m_readMarble m_readFarm m_rule m_boy m_marble m_farm m_now m_refused m_kept m_notePlace m_noteKind m_noteIs m_toldBy m_image ++ fr) (some (.int r)) (wdM B m_thrown m_size m_at m_wrong m_deep m_laws m_text m_readBoys m_readMarbles m_readFarms m_boys m_marbles m_farms m_holding m_spills m_acts m_draws m_bestRow m_bestMany m_noted m_hasImage m_tape m_code m_value m_codes m_clauses m_testFrom m_sumFrom m_sumTo m_letters m_stack m_readRule m_readBoy m_readMarble m_readFarm m_rule m_boy m_marble m_farm m_now m_refused m_kept m_notePlace m_noteKind m_noteIs m_toldBy m_image ++ fr) :=
  gMet.of rfl (Nat.le_of_ble_eq_true rfl) (fun X hX hF => w_M_here hX r h hF)
set_option maxRecDepth 4000 in
theorem w_M_look_L0 (hX : gOk B X RX11 cX11_look 1 1 (some .int)) (s : Int32) : gH B X (Sum.elim (fun s : Int32 => gG B X 0 [(0, .ref (aM B 0))] [] (wdM B m_thrown m_size s m_wrong m_deep m_laws m_text m_readBoys m_readMarbles m_readFarms m_boys m_marbles m_farms m_holding m_spills m_acts m_draws m_bestRow m_bestMany m_noted m_hasImage m_tape m_code m_value m_codes m_clauses m_testFrom m_sumFrom m_sumTo m_letters m_stack m_readRule m_readBoy m_readMarble m_readFarm m_rule m_boy m_marble m_farm m_now m_refused m_kept m_notePlace m_noteKind m_noteIs m_toldBy m_image ++ fr)) (fun r : (Int32 × Int32) => gFin X (some (.int r.1)) (wdM B m_thrown m_size r.2 m_wrong m_deep m_laws m_text m_readBoys m_readMarbles m_readFarms m_boys m_marbles m_farms m_holding m_spills m_acts m_draws m_bestRow m_bestMany m_noted m_hasImage m_tape m_code m_value m_codes m_clauses m_testFrom m_sumFrom m_sumTo m_letters m_stack m_readRule m_readBoy m_readMarble m_readFarm m_rule m_boy m_marble m_farm m_now m_refused m_kept m_notePlace m_noteKind m_noteIs m_toldBy m_image ++ fr))) 0 [(0, .ref (aM B 0))] [] (wdM B m_thrown m_size s m_wrong m_deep m_laws m_text m_readBoys m_readMarbles m_readFarms m_boys m_marbles m_farms m_holding m_spills m_acts m_draws m_bestRow m_bestMany m_noted m_hasImage m_tape m_code m_value m_codes m_clauses m_testFrom m_sumFrom m_sumTo m_letters m_stack m_readRule m_readBoy m_readMarble m_readFarm m_rule m_boy m_marble m_farm m_now m_refused m_kept m_notePlace m_noteKind m_noteIs m_toldBy m_image ++ fr) (f_M_look_L0 m_size m_tape s) := by
  unfold f_M_look_L0
  refine h_aload_n hX dX11_look_0 rfl rfl ?_
  refine h_callVi hX dX11_look_1 (cv_RX11_106) rc_M0 (As := []) (st := []) (fun _ h => c_M_here h) rfl rfl (by decide) (Nat.le_of_ble_eq_true rfl) (fun a_1 => ?_)
  refine h_bipush hX dX11_look_4 kb_32 ?_
  refine h_icmp_ne hX dX11_look_6 (tgt := 22) (by decide) (fun _ => ?_) (fun _ => ?_)
  · refine gH.inr ?_
    refine h_aload_n hX dX11_look_22 rfl rfl ?_
    refine h_callVi hX dX11_look_23 (cv_RX11_106) rc_M0 (As := []) (st := []) (fun _ h => c_M_here h) rfl rfl (by decide) (Nat.le_of_ble_eq_true rfl) (fun a_2 => ?_)
    exact h_ret hX (rv := some (.int a_2)) dX11_look_26 trivial (fun h => h)
  · refine h_aload_n hX dX11_look_9 rfl rfl ?_
    refine h_dup hX dX11_look_10 rfl ?_
    refine get_RX11_103_M0 hX dX11_look_11 ?_
    refine h_iconst hX dX11_look_14 ki_1 ?_
    refine h_iadd hX dX11_look_15 ?_
    refine put_RX11_103_M0 hX dX11_look_16 ?_
    refine gH.letw (w := fun y => wdM B m_thrown m_size y m_wrong m_deep m_laws m_text m_readBoys m_readMarbles m_readFarms m_boys m_marbles m_farms m_holding m_spills m_acts m_draws m_bestRow m_bestMany m_noted m_hasImage m_tape m_code m_value m_codes m_clauses m_testFrom m_sumFrom m_sumTo m_letters m_stack m_readRule m_readBoy m_readMarble m_readFarm m_rule m_boy m_marble m_farm m_now m_refused m_kept m_notePlace m_noteKind m_noteIs m_toldBy m_image ++ fr) (fun m_at_3 => ?_)
    refine h_goto hX dX11_look_19 (tgt := 0) (by decide) ?_
    exact gH.some' (fun h => h)
set_option maxRecDepth 4000 in
theorem w_M_look (hX : gOk B X RX11 cX11_look 1 1 (some .int)) : gH B X (fun r : (Int32 × Int32) => gFin X (some (.int r.1)) (wdM B m_thrown m_size r.2 m_wrong m_deep m_laws m_text m_readBoys m_readMarbles m_readFarms m_boys m_marbles m_farms m_holding m_spills m_acts m_draws m_bestRow m_bestMany m_noted m_hasImage m_tape m_code m_value m_codes m_clauses m_testFrom m_sumFrom m_sumTo m_letters m_stack m_readRule m_readBoy m_readMarble m_readFarm m_rule m_boy m_marble m_farm m_now m_refused m_kept m_notePlace m_noteKind m_noteIs m_toldBy m_image ++ fr)) 0 [(0, .ref (aM B 0))] [] (wdM B m_thrown m_size m_at m_wrong m_deep m_laws m_text m_readBoys m_readMarbles m_readFarms m_boys m_marbles m_farms m_holding m_spills m_acts m_draws m_bestRow m_bestMany m_noted m_hasImage m_tape m_code m_value m_codes m_clauses m_testFrom m_sumFrom m_sumTo m_letters m_stack m_readRule m_readBoy m_readMarble m_readFarm m_rule m_boy m_marble m_farm m_now m_refused m_kept m_notePlace m_noteKind m_noteIs m_toldBy m_image ++ fr) (f_M_look m_size m_at m_tape) := by
  unfold f_M_look
  exact gH.loop (lvf := fun z : Int32 => [(0, .ref (aM B 0))]) (wf := fun z : Int32 => wdM B m_thrown m_size z m_wrong m_deep m_laws m_text m_readBoys m_readMarbles m_readFarms m_boys m_marbles m_farms m_holding m_spills m_acts m_draws m_bestRow m_bestMany m_noted m_hasImage m_tape m_code m_value m_codes m_clauses m_testFrom m_sumFrom m_sumTo m_letters m_stack m_readRule m_readBoy m_readMarble m_readFarm m_rule m_boy m_marble m_farm m_now m_refused m_kept m_notePlace m_noteKind m_noteIs m_toldBy m_image ++ fr) (fun z => w_M_look_L0 hX z) m_at
theorem c_M_look {r : (Int32 × Int32)} (h : f_M_look m_size m_at m_tape = some r) : gMet B 1 yX11_look cX11_look 1 (some .int) [.ref (aM B 0)] (wdM B m_thrown m_size m_at m_wrong m_deep m_laws m_text m_readBoys m_readMarbles m_readFarms m_boys m_marbles m_farms m_holding m_spills m_acts m_draws m_bestRow m_bestMany m_noted m_hasImage m_tape m_code m_value m_codes m_clauses m_testFrom m_sumFrom m_sumTo m_letters m_stack m_readRule m_readBoy m_readMarble m_readFarm m_rule m_boy m_marble m_farm m_now m_refused m_kept m_notePlace m_noteKind m_noteIs m_toldBy m_image ++ fr) (some (.int r.1)) (wdM B m_thrown m_size r.2 m_wrong m_deep m_laws m_text m_readBoys m_readMarbles m_readFarms m_boys m_marbles m_farms m_holding m_spills m_acts m_draws m_bestRow m_bestMany m_noted m_hasImage m_tape m_code m_value m_codes m_clauses m_testFrom m_sumFrom m_sumTo m_letters m_stack m_readRule m_readBoy m_readMarble m_readFarm m_rule m_boy m_marble m_farm m_now m_refused m_kept m_notePlace m_noteKind m_noteIs m_toldBy m_image ++ fr) :=
  gMet.of rfl (Nat.le_of_ble_eq_true rfl) (fun X hX hF => w_M_look hX r h hF)
set_option maxRecDepth 4000 in
theorem w_M_bad_J20 {k1 : Int32} (hX : gOk B X RX11 cX11_bad 1 0 none) : gH B X (fun r : Int32 => gFin X (none) (wdM B m_thrown m_size m_at r m_deep m_laws m_text m_readBoys m_readMarbles m_readFarms m_boys m_marbles m_farms m_holding m_spills m_acts m_draws m_bestRow m_bestMany m_noted m_hasImage m_tape m_code m_value m_codes m_clauses m_testFrom m_sumFrom m_sumTo m_letters m_stack m_readRule m_readBoy m_readMarble m_readFarm m_rule m_boy m_marble m_farm m_now m_refused m_kept m_notePlace m_noteKind m_noteIs m_toldBy m_image ++ fr)) 20 [] [.int k1, .ref (aM B 0)] (wdM B m_thrown m_size m_at m_wrong m_deep m_laws m_text m_readBoys m_readMarbles m_readFarms m_boys m_marbles m_farms m_holding m_spills m_acts m_draws m_bestRow m_bestMany m_noted m_hasImage m_tape m_code m_value m_codes m_clauses m_testFrom m_sumFrom m_sumTo m_letters m_stack m_readRule m_readBoy m_readMarble m_readFarm m_rule m_boy m_marble m_farm m_now m_refused m_kept m_notePlace m_noteKind m_noteIs m_toldBy m_image ++ fr) (f_M_bad_J20 k1) := by
  unfold f_M_bad_J20
  refine put_RX11_110_M0 hX dX11_bad_20 ?_
  exact h_ret hX (rv := none) dX11_bad_23 trivial (fun h => h)
set_option maxRecDepth 4000 in
theorem w_M_bad (hX : gOk B X RX11 cX11_bad 1 0 none) : gH B X (fun r : Int32 => gFin X (none) (wdM B m_thrown m_size m_at r m_deep m_laws m_text m_readBoys m_readMarbles m_readFarms m_boys m_marbles m_farms m_holding m_spills m_acts m_draws m_bestRow m_bestMany m_noted m_hasImage m_tape m_code m_value m_codes m_clauses m_testFrom m_sumFrom m_sumTo m_letters m_stack m_readRule m_readBoy m_readMarble m_readFarm m_rule m_boy m_marble m_farm m_now m_refused m_kept m_notePlace m_noteKind m_noteIs m_toldBy m_image ++ fr)) 0 [(0, .ref (aM B 0))] [] (wdM B m_thrown m_size m_at m_wrong m_deep m_laws m_text m_readBoys m_readMarbles m_readFarms m_boys m_marbles m_farms m_holding m_spills m_acts m_draws m_bestRow m_bestMany m_noted m_hasImage m_tape m_code m_value m_codes m_clauses m_testFrom m_sumFrom m_sumTo m_letters m_stack m_readRule m_readBoy m_readMarble m_readFarm m_rule m_boy m_marble m_farm m_now m_refused m_kept m_notePlace m_noteKind m_noteIs m_toldBy m_image ++ fr) (f_M_bad m_at m_wrong) := by
  unfold f_M_bad
  refine h_aload_n hX dX11_bad_0 rfl rfl ?_
  refine h_aload_n hX dX11_bad_1 rfl rfl ?_
  refine get_RX11_110_M0 hX dX11_bad_2 ?_
  refine h_iconst hX dX11_bad_5 ki_m1 ?_
  refine h_icmp_ne hX dX11_bad_6 (tgt := 16) (by decide) (fun _ => ?_) (fun _ => ?_)
  · refine h_aload_n hX dX11_bad_16 rfl rfl ?_
    refine get_RX11_110_M0 hX dX11_bad_17 ?_
    refine gH.dead [] rfl ?_
    exact w_M_bad_J20 hX
  · refine h_aload_n hX dX11_bad_9 rfl rfl ?_
    refine get_RX11_103_M0 hX dX11_bad_10 ?_
    refine h_goto hX dX11_bad_13 (tgt := 20) (by decide) ?_
    refine gH.dead [] rfl ?_
    exact w_M_bad_J20 hX
theorem c_M_bad {r : Int32} (h : f_M_bad m_at m_wrong = some r) : gMet B 0 yX11_bad cX11_bad 1 none [.ref (aM B 0)] (wdM B m_thrown m_size m_at m_wrong m_deep m_laws m_text m_readBoys m_readMarbles m_readFarms m_boys m_marbles m_farms m_holding m_spills m_acts m_draws m_bestRow m_bestMany m_noted m_hasImage m_tape m_code m_value m_codes m_clauses m_testFrom m_sumFrom m_sumTo m_letters m_stack m_readRule m_readBoy m_readMarble m_readFarm m_rule m_boy m_marble m_farm m_now m_refused m_kept m_notePlace m_noteKind m_noteIs m_toldBy m_image ++ fr) (none) (wdM B m_thrown m_size m_at r m_deep m_laws m_text m_readBoys m_readMarbles m_readFarms m_boys m_marbles m_farms m_holding m_spills m_acts m_draws m_bestRow m_bestMany m_noted m_hasImage m_tape m_code m_value m_codes m_clauses m_testFrom m_sumFrom m_sumTo m_letters m_stack m_readRule m_readBoy m_readMarble m_readFarm m_rule m_boy m_marble m_farm m_now m_refused m_kept m_notePlace m_noteKind m_noteIs m_toldBy m_image ++ fr) :=
  gMet.of rfl (Nat.le_of_ble_eq_true rfl) (fun X hX hF => w_M_bad hX r h hF)
set_option maxRecDepth 4000 in
theorem w_M_atEnd (hX : gOk B X RX11 cX11_atEnd 1 2 (some .int)) : gH B X (fun r : (Int32 × Int32 × Int32) => gFin X (some (.int r.1)) (wdM B m_thrown m_size r.2.1 r.2.2 m_deep m_laws m_text m_readBoys m_readMarbles m_readFarms m_boys m_marbles m_farms m_holding m_spills m_acts m_draws m_bestRow m_bestMany m_noted m_hasImage m_tape m_code m_value m_codes m_clauses m_testFrom m_sumFrom m_sumTo m_letters m_stack m_readRule m_readBoy m_readMarble m_readFarm m_rule m_boy m_marble m_farm m_now m_refused m_kept m_notePlace m_noteKind m_noteIs m_toldBy m_image ++ fr)) 0 [(0, .ref (aM B 0))] [] (wdM B m_thrown m_size m_at m_wrong m_deep m_laws m_text m_readBoys m_readMarbles m_readFarms m_boys m_marbles m_farms m_holding m_spills m_acts m_draws m_bestRow m_bestMany m_noted m_hasImage m_tape m_code m_value m_codes m_clauses m_testFrom m_sumFrom m_sumTo m_letters m_stack m_readRule m_readBoy m_readMarble m_readFarm m_rule m_boy m_marble m_farm m_now m_refused m_kept m_notePlace m_noteKind m_noteIs m_toldBy m_image ++ fr) (f_M_atEnd m_size m_at m_wrong m_tape) := by
  unfold f_M_atEnd
  refine h_aload_n hX dX11_atEnd_0 rfl rfl ?_
  refine get_RX11_110_M0 hX dX11_atEnd_1 ?_
  refine h_iconst hX dX11_atEnd_4 ki_m1 ?_
  refine h_icmp_ne hX dX11_atEnd_5 (tgt := 20) (by decide) (fun _ => ?_) (fun _ => ?_)
  · refine h_aload_n hX dX11_atEnd_20 rfl rfl ?_
    refine get_RX11_110_M0 hX dX11_atEnd_21 ?_
    exact h_ret hX (rv := some (.int m_wrong)) dX11_atEnd_24 trivial (fun h => h)
  · refine h_aload_n hX dX11_atEnd_8 rfl rfl ?_
    refine h_callVi hX dX11_atEnd_9 (cv_RX11_122) rc_M0 (As := []) (st := []) (fun _ h => c_M_look h) rfl rfl (by decide) (Nat.le_of_ble_eq_true rfl) (fun a_1 => ?_)
    refine h_iconst hX dX11_atEnd_12 ki_m1 ?_
    refine h_icmp_eq hX dX11_atEnd_13 (tgt := 20) (by decide) (fun _ => ?_) (fun _ => ?_)
    · refine h_aload_n hX dX11_atEnd_20 rfl rfl ?_
      refine get_RX11_110_M0 hX dX11_atEnd_21 ?_
      exact h_ret hX (rv := some (.int m_wrong)) dX11_atEnd_24 trivial (fun h => h)
    · refine h_aload_n hX dX11_atEnd_16 rfl rfl ?_
      refine h_callVv hX dX11_atEnd_17 (cv_RX11_119) rc_M0 (As := []) (st := []) (fun _ h => c_M_bad h) rfl rfl (by decide) (Nat.le_of_ble_eq_true rfl) (fun a_2 => ?_)
      refine h_aload_n hX dX11_atEnd_20 rfl rfl ?_
      refine get_RX11_110_M0 hX dX11_atEnd_21 ?_
      exact h_ret hX (rv := some (.int a_2)) dX11_atEnd_24 trivial (fun h => h)
theorem c_M_atEnd {r : (Int32 × Int32 × Int32)} (h : f_M_atEnd m_size m_at m_wrong m_tape = some r) : gMet B 2 yX11_atEnd cX11_atEnd 1 (some .int) [.ref (aM B 0)] (wdM B m_thrown m_size m_at m_wrong m_deep m_laws m_text m_readBoys m_readMarbles m_readFarms m_boys m_marbles m_farms m_holding m_spills m_acts m_draws m_bestRow m_bestMany m_noted m_hasImage m_tape m_code m_value m_codes m_clauses m_testFrom m_sumFrom m_sumTo m_letters m_stack m_readRule m_readBoy m_readMarble m_readFarm m_rule m_boy m_marble m_farm m_now m_refused m_kept m_notePlace m_noteKind m_noteIs m_toldBy m_image ++ fr) (some (.int r.1)) (wdM B m_thrown m_size r.2.1 r.2.2 m_deep m_laws m_text m_readBoys m_readMarbles m_readFarms m_boys m_marbles m_farms m_holding m_spills m_acts m_draws m_bestRow m_bestMany m_noted m_hasImage m_tape m_code m_value m_codes m_clauses m_testFrom m_sumFrom m_sumTo m_letters m_stack m_readRule m_readBoy m_readMarble m_readFarm m_rule m_boy m_marble m_farm m_now m_refused m_kept m_notePlace m_noteKind m_noteIs m_toldBy m_image ++ fr) :=
  gMet.of rfl (Nat.le_of_ble_eq_true rfl) (fun X hX hF => w_M_atEnd hX r h hF)
set_option maxRecDepth 4000 in
theorem w_M_plainNumber_J48 {v1 : Int32} (hX : gOk B X RX11 cX11_plainNumber 3 1 (some .int)) : gH B X (fun r : (Int32 × Int32 × Int32) => gFin X (some (.int r.1)) (wdM B m_thrown m_size r.2.1 r.2.2 m_deep m_laws m_text m_readBoys m_readMarbles m_readFarms m_boys m_marbles m_farms m_holding m_spills m_acts m_draws m_bestRow m_bestMany m_noted m_hasImage m_tape m_code m_value m_codes m_clauses m_testFrom m_sumFrom m_sumTo m_letters m_stack m_readRule m_readBoy m_readMarble m_readFarm m_rule m_boy m_marble m_farm m_now m_refused m_kept m_notePlace m_noteKind m_noteIs m_toldBy m_image ++ fr)) 48 [(0, .ref (aM B 0)), (1, .int v1)] [] (wdM B m_thrown m_size m_at m_wrong m_deep m_laws m_text m_readBoys m_readMarbles m_readFarms m_boys m_marbles m_farms m_holding m_spills m_acts m_draws m_bestRow m_bestMany m_noted m_hasImage m_tape m_code m_value m_codes m_clauses m_testFrom m_sumFrom m_sumTo m_letters m_stack m_readRule m_readBoy m_readMarble m_readFarm m_rule m_boy m_marble m_farm m_now m_refused m_kept m_notePlace m_noteKind m_noteIs m_toldBy m_image ++ fr) (f_M_plainNumber_J48 m_size m_at m_wrong m_tape v1) := by
  unfold f_M_plainNumber_J48
  refine h_aload_n hX dX11_plainNumber_48 rfl rfl ?_
  refine h_callVi hX dX11_plainNumber_49 (cv_RX11_106) rc_M0 (As := []) (st := []) (fun _ h => c_M_here h) rfl rfl (by decide) (Nat.le_of_ble_eq_true rfl) (fun a_1 => ?_)
  refine h_callSi hX dX11_plainNumber_52 (cs_RX11_125) (As := [.int a_1]) (st := []) (fun _ h => c_M_isDigit h) rfl rfl (by decide) (Nat.le_of_ble_eq_true rfl) (fun a_2 => ?_)
  refine h_if_eq hX dX11_plainNumber_55 (tgt := 62) (by decide) (fun _ => ?_) (fun _ => ?_)
  · refine h_iload_n hX dX11_plainNumber_62 rfl rfl ?_
    exact h_ret hX (rv := some (.int v1)) dX11_plainNumber_63 trivial (fun h => h)
  · refine h_aload_n hX dX11_plainNumber_58 rfl rfl ?_
    refine h_callVv hX dX11_plainNumber_59 (cv_RX11_119) rc_M0 (As := []) (st := []) (fun _ h => c_M_bad h) rfl rfl (by decide) (Nat.le_of_ble_eq_true rfl) (fun a_3 => ?_)
    refine h_iload_n hX dX11_plainNumber_62 rfl rfl ?_
    exact h_ret hX (rv := some (.int v1)) dX11_plainNumber_63 trivial (fun h => h)
set_option maxRecDepth 4000 in
theorem w_M_plainNumber_L4 (hX : gOk B X RX11 cX11_plainNumber 3 1 (some .int)) (s : (Int32 × Int32 × Int32)) : gH B X (Sum.elim (fun s : (Int32 × Int32 × Int32) => gG B X 4 [(0, .ref (aM B 0)), (1, .int s.1), (2, .int s.2.1)] [] (wdM B m_thrown m_size s.2.2 m_wrong m_deep m_laws m_text m_readBoys m_readMarbles m_readFarms m_boys m_marbles m_farms m_holding m_spills m_acts m_draws m_bestRow m_bestMany m_noted m_hasImage m_tape m_code m_value m_codes m_clauses m_testFrom m_sumFrom m_sumTo m_letters m_stack m_readRule m_readBoy m_readMarble m_readFarm m_rule m_boy m_marble m_farm m_now m_refused m_kept m_notePlace m_noteKind m_noteIs m_toldBy m_image ++ fr)) (fun r : (Int32 × Int32 × Int32) => gFin X (some (.int r.1)) (wdM B m_thrown m_size r.2.1 r.2.2 m_deep m_laws m_text m_readBoys m_readMarbles m_readFarms m_boys m_marbles m_farms m_holding m_spills m_acts m_draws m_bestRow m_bestMany m_noted m_hasImage m_tape m_code m_value m_codes m_clauses m_testFrom m_sumFrom m_sumTo m_letters m_stack m_readRule m_readBoy m_readMarble m_readFarm m_rule m_boy m_marble m_farm m_now m_refused m_kept m_notePlace m_noteKind m_noteIs m_toldBy m_image ++ fr))) 4 [(0, .ref (aM B 0)), (1, .int s.1), (2, .int s.2.1)] [] (wdM B m_thrown m_size s.2.2 m_wrong m_deep m_laws m_text m_readBoys m_readMarbles m_readFarms m_boys m_marbles m_farms m_holding m_spills m_acts m_draws m_bestRow m_bestMany m_noted m_hasImage m_tape m_code m_value m_codes m_clauses m_testFrom m_sumFrom m_sumTo m_letters m_stack m_readRule m_readBoy m_readMarble m_readFarm m_rule m_boy m_marble m_farm m_now m_refused m_kept m_notePlace m_noteKind m_noteIs m_toldBy m_image ++ fr) (f_M_plainNumber_L4 m_size m_wrong m_tape s) := by
  unfold f_M_plainNumber_L4
  refine h_iload_n hX dX11_plainNumber_4 rfl rfl ?_
  refine h_iconst hX dX11_plainNumber_5 ki_4 ?_
  refine h_icmp_ge hX dX11_plainNumber_6 (tgt := 48) (by decide) (fun _ => ?_) (fun _ => ?_)
  · refine gH.inr ?_
    refine gH.dead [0, 1] rfl ?_
    exact w_M_plainNumber_J48 hX
  · refine h_aload_n hX dX11_plainNumber_9 rfl rfl ?_
    refine h_callVi hX dX11_plainNumber_10 (cv_RX11_106) rc_M0 (As := []) (st := []) (fun _ h => c_M_here h) rfl rfl (by decide) (Nat.le_of_ble_eq_true rfl) (fun a_4 => ?_)
    refine h_callSi hX dX11_plainNumber_13 (cs_RX11_125) (As := [.int a_4]) (st := []) (fun _ h => c_M_isDigit h) rfl rfl (by decide) (Nat.le_of_ble_eq_true rfl) (fun a_5 => ?_)
    refine h_if_eq hX dX11_plainNumber_16 (tgt := 48) (by decide) (fun _ => ?_) (fun _ => ?_)
    · refine gH.inr ?_
      refine gH.dead [0, 1] rfl ?_
      exact w_M_plainNumber_J48 hX
    · refine h_bipush hX dX11_plainNumber_19 kb_10 ?_
      refine h_iload_n hX dX11_plainNumber_21 rfl rfl ?_
      refine h_imul hX dX11_plainNumber_22 ?_
      refine h_aload_n hX dX11_plainNumber_23 rfl rfl ?_
      refine h_callVi hX dX11_plainNumber_24 (cv_RX11_106) rc_M0 (As := []) (st := [.int (10 * s.1)]) (fun _ h => c_M_here h) rfl rfl (by decide) (Nat.le_of_ble_eq_true rfl) (fun a_6 => ?_)
      refine h_iadd hX dX11_plainNumber_27 ?_
      refine h_bipush hX dX11_plainNumber_28 kb_48 ?_
      refine h_isub hX dX11_plainNumber_30 ?_
      refine gH.leti (fun v1_7 => ?_)
      refine h_istore_n hX dX11_plainNumber_31 rfl (by decide) (lv' := [(0, .ref (aM B 0)), (1, .int v1_7), (2, .int s.2.1)]) rfl ?_
      refine h_aload_n hX dX11_plainNumber_32 rfl rfl ?_
      refine h_dup hX dX11_plainNumber_33 rfl ?_
      refine get_RX11_103_M0 hX dX11_plainNumber_34 ?_
      refine h_iconst hX dX11_plainNumber_37 ki_1 ?_
      refine h_iadd hX dX11_plainNumber_38 ?_
      refine put_RX11_103_M0 hX dX11_plainNumber_39 ?_
      refine gH.letw (w := fun y => wdM B m_thrown m_size y m_wrong m_deep m_laws m_text m_readBoys m_readMarbles m_readFarms m_boys m_marbles m_farms m_holding m_spills m_acts m_draws m_bestRow m_bestMany m_noted m_hasImage m_tape m_code m_value m_codes m_clauses m_testFrom m_sumFrom m_sumTo m_letters m_stack m_readRule m_readBoy m_readMarble m_readFarm m_rule m_boy m_marble m_farm m_now m_refused m_kept m_notePlace m_noteKind m_noteIs m_toldBy m_image ++ fr) (fun m_at_8 => ?_)
      refine h_iincc hX dX11_plainNumber_42 rfl ki_1 (by decide) (lv' := [(0, .ref (aM B 0)), (1, .int v1_7), (2, .int (s.2.1 + 1))]) rfl ?_
      refine h_goto hX dX11_plainNumber_45 (tgt := 4) (by decide) ?_
      exact gH.some' (fun h => h)
set_option maxRecDepth 4000 in
theorem w_M_plainNumber (hX : gOk B X RX11 cX11_plainNumber 3 1 (some .int)) : gH B X (fun r : (Int32 × Int32 × Int32) => gFin X (some (.int r.1)) (wdM B m_thrown m_size r.2.1 r.2.2 m_deep m_laws m_text m_readBoys m_readMarbles m_readFarms m_boys m_marbles m_farms m_holding m_spills m_acts m_draws m_bestRow m_bestMany m_noted m_hasImage m_tape m_code m_value m_codes m_clauses m_testFrom m_sumFrom m_sumTo m_letters m_stack m_readRule m_readBoy m_readMarble m_readFarm m_rule m_boy m_marble m_farm m_now m_refused m_kept m_notePlace m_noteKind m_noteIs m_toldBy m_image ++ fr)) 0 [(0, .ref (aM B 0))] [] (wdM B m_thrown m_size m_at m_wrong m_deep m_laws m_text m_readBoys m_readMarbles m_readFarms m_boys m_marbles m_farms m_holding m_spills m_acts m_draws m_bestRow m_bestMany m_noted m_hasImage m_tape m_code m_value m_codes m_clauses m_testFrom m_sumFrom m_sumTo m_letters m_stack m_readRule m_readBoy m_readMarble m_readFarm m_rule m_boy m_marble m_farm m_now m_refused m_kept m_notePlace m_noteKind m_noteIs m_toldBy m_image ++ fr) (f_M_plainNumber m_size m_at m_wrong m_tape) := by
  unfold f_M_plainNumber
  refine h_iconst hX dX11_plainNumber_0 ki_0 ?_
  refine h_istore_n hX dX11_plainNumber_1 rfl (by decide) (lv' := [(0, .ref (aM B 0)), (1, .int 0)]) rfl ?_
  refine h_iconst hX dX11_plainNumber_2 ki_0 ?_
  refine h_istore_n hX dX11_plainNumber_3 rfl (by decide) (lv' := [(0, .ref (aM B 0)), (1, .int 0), (2, .int 0)]) rfl ?_
  exact gH.loop (lvf := fun z : (Int32 × Int32 × Int32) => [(0, .ref (aM B 0)), (1, .int z.1), (2, .int z.2.1)]) (wf := fun z : (Int32 × Int32 × Int32) => wdM B m_thrown m_size z.2.2 m_wrong m_deep m_laws m_text m_readBoys m_readMarbles m_readFarms m_boys m_marbles m_farms m_holding m_spills m_acts m_draws m_bestRow m_bestMany m_noted m_hasImage m_tape m_code m_value m_codes m_clauses m_testFrom m_sumFrom m_sumTo m_letters m_stack m_readRule m_readBoy m_readMarble m_readFarm m_rule m_boy m_marble m_farm m_now m_refused m_kept m_notePlace m_noteKind m_noteIs m_toldBy m_image ++ fr) (fun z => w_M_plainNumber_L4 hX z) (0, 0, m_at)
theorem c_M_plainNumber {r : (Int32 × Int32 × Int32)} (h : f_M_plainNumber m_size m_at m_wrong m_tape = some r) : gMet B 1 yX11_plainNumber cX11_plainNumber 3 (some .int) [.ref (aM B 0)] (wdM B m_thrown m_size m_at m_wrong m_deep m_laws m_text m_readBoys m_readMarbles m_readFarms m_boys m_marbles m_farms m_holding m_spills m_acts m_draws m_bestRow m_bestMany m_noted m_hasImage m_tape m_code m_value m_codes m_clauses m_testFrom m_sumFrom m_sumTo m_letters m_stack m_readRule m_readBoy m_readMarble m_readFarm m_rule m_boy m_marble m_farm m_now m_refused m_kept m_notePlace m_noteKind m_noteIs m_toldBy m_image ++ fr) (some (.int r.1)) (wdM B m_thrown m_size r.2.1 r.2.2 m_deep m_laws m_text m_readBoys m_readMarbles m_readFarms m_boys m_marbles m_farms m_holding m_spills m_acts m_draws m_bestRow m_bestMany m_noted m_hasImage m_tape m_code m_value m_codes m_clauses m_testFrom m_sumFrom m_sumTo m_letters m_stack m_readRule m_readBoy m_readMarble m_readFarm m_rule m_boy m_marble m_farm m_now m_refused m_kept m_notePlace m_noteKind m_noteIs m_toldBy m_image ++ fr) :=
  gMet.of rfl (Nat.le_of_ble_eq_true rfl) (fun X hX hF => w_M_plainNumber hX r h hF)
set_option maxRecDepth 4000 in
theorem w_M_put {p0 : Int32} {p1 : Int32} (hX : gOk B X RX11 cX11_put 3 0 none) : gH B X (fun r : ((Nat → Int32) × (Nat → Int32) × (Nat → Int32)) => gFin X (none) (wdM B m_thrown m_size m_at m_wrong m_deep m_laws m_text m_readBoys m_readMarbles m_readFarms m_boys m_marbles m_farms m_holding m_spills m_acts m_draws m_bestRow m_bestMany m_noted m_hasImage m_tape r.1 r.2.1 r.2.2 m_clauses m_testFrom m_sumFrom m_sumTo m_letters m_stack m_readRule m_readBoy m_readMarble m_readFarm m_rule m_boy m_marble m_farm m_now m_refused m_kept m_notePlace m_noteKind m_noteIs m_toldBy m_image ++ fr)) 0 [(0, .ref (aM B 0)), (1, .int p0), (2, .int p1)] [] (wdM B m_thrown m_size m_at m_wrong m_deep m_laws m_text m_readBoys m_readMarbles m_readFarms m_boys m_marbles m_farms m_holding m_spills m_acts m_draws m_bestRow m_bestMany m_noted m_hasImage m_tape m_code m_value m_codes m_clauses m_testFrom m_sumFrom m_sumTo m_letters m_stack m_readRule m_readBoy m_readMarble m_readFarm m_rule m_boy m_marble m_farm m_now m_refused m_kept m_notePlace m_noteKind m_noteIs m_toldBy m_image ++ fr) (f_M_put m_text m_code m_value m_codes p0 p1) := by
  unfold f_M_put
  refine h_aload_n hX dX11_put_0 rfl rfl ?_
  refine get_RX11_13_M0 hX dX11_put_1 ?_
  refine h_sipush hX dX11_put_4 ks_520 ?_
  refine h_aload_n hX dX11_put_7 rfl rfl ?_
  refine get_RX11_113_M0 hX dX11_put_8 ?_
  refine h_imul hX dX11_put_11 ?_
  refine h_aload_n hX dX11_put_12 rfl rfl ?_
  refine get_RX11_19_M0 hX dX11_put_13 ?_
  refine h_aload_n hX dX11_put_16 rfl rfl ?_
  refine get_RX11_113_M0 hX dX11_put_17 ?_
  refine ald_M4 hX dX11_put_20 ?_
  refine h_iadd hX dX11_put_21 ?_
  refine h_iload_n hX dX11_put_22 rfl rfl ?_
  refine ast_M2 hX dX11_put_23 ?_
  refine gH.letw (w := fun y => wdM B m_thrown m_size m_at m_wrong m_deep m_laws m_text m_readBoys m_readMarbles m_readFarms m_boys m_marbles m_farms m_holding m_spills m_acts m_draws m_bestRow m_bestMany m_noted m_hasImage m_tape y m_value m_codes m_clauses m_testFrom m_sumFrom m_sumTo m_letters m_stack m_readRule m_readBoy m_readMarble m_readFarm m_rule m_boy m_marble m_farm m_now m_refused m_kept m_notePlace m_noteKind m_noteIs m_toldBy m_image ++ fr) (fun m_code_1 => ?_)
  refine h_aload_n hX dX11_put_24 rfl rfl ?_
  refine get_RX11_16_M0 hX dX11_put_25 ?_
  refine h_sipush hX dX11_put_28 ks_520 ?_
  refine h_aload_n hX dX11_put_31 rfl rfl ?_
  refine get_RX11_113_M0 hX dX11_put_32 ?_
  refine h_imul hX dX11_put_35 ?_
  refine h_aload_n hX dX11_put_36 rfl rfl ?_
  refine get_RX11_19_M0 hX dX11_put_37 ?_
  refine h_aload_n hX dX11_put_40 rfl rfl ?_
  refine get_RX11_113_M0 hX dX11_put_41 ?_
  refine ald_M4 hX dX11_put_44 ?_
  refine h_iadd hX dX11_put_45 ?_
  refine h_iload_n hX dX11_put_46 rfl rfl ?_
  refine ast_M3 hX dX11_put_47 ?_
  refine gH.letw (w := fun y => wdM B m_thrown m_size m_at m_wrong m_deep m_laws m_text m_readBoys m_readMarbles m_readFarms m_boys m_marbles m_farms m_holding m_spills m_acts m_draws m_bestRow m_bestMany m_noted m_hasImage m_tape m_code_1 y m_codes m_clauses m_testFrom m_sumFrom m_sumTo m_letters m_stack m_readRule m_readBoy m_readMarble m_readFarm m_rule m_boy m_marble m_farm m_now m_refused m_kept m_notePlace m_noteKind m_noteIs m_toldBy m_image ++ fr) (fun m_value_2 => ?_)
  refine h_aload_n hX dX11_put_48 rfl rfl ?_
  refine get_RX11_19_M0 hX dX11_put_49 ?_
  refine h_aload_n hX dX11_put_52 rfl rfl ?_
  refine get_RX11_113_M0 hX dX11_put_53 ?_
  refine h_dup2 hX dX11_put_56 rfl rfl ?_
  refine ald_M4 hX dX11_put_57 ?_
  refine h_iconst hX dX11_put_58 ki_1 ?_
  refine h_iadd hX dX11_put_59 ?_
  refine ast_M4 hX dX11_put_60 ?_
  refine gH.letw (w := fun y => wdM B m_thrown m_size m_at m_wrong m_deep m_laws m_text m_readBoys m_readMarbles m_readFarms m_boys m_marbles m_farms m_holding m_spills m_acts m_draws m_bestRow m_bestMany m_noted m_hasImage m_tape m_code_1 m_value_2 y m_clauses m_testFrom m_sumFrom m_sumTo m_letters m_stack m_readRule m_readBoy m_readMarble m_readFarm m_rule m_boy m_marble m_farm m_now m_refused m_kept m_notePlace m_noteKind m_noteIs m_toldBy m_image ++ fr) (fun m_codes_3 => ?_)
  exact h_ret hX (rv := none) dX11_put_61 trivial (fun h => h)
theorem c_M_put {p0 : Int32} {p1 : Int32} {r : ((Nat → Int32) × (Nat → Int32) × (Nat → Int32))} (h : f_M_put m_text m_code m_value m_codes p0 p1 = some r) : gMet B 0 yX11_put cX11_put 3 none [.ref (aM B 0), .int p0, .int p1] (wdM B m_thrown m_size m_at m_wrong m_deep m_laws m_text m_readBoys m_readMarbles m_readFarms m_boys m_marbles m_farms m_holding m_spills m_acts m_draws m_bestRow m_bestMany m_noted m_hasImage m_tape m_code m_value m_codes m_clauses m_testFrom m_sumFrom m_sumTo m_letters m_stack m_readRule m_readBoy m_readMarble m_readFarm m_rule m_boy m_marble m_farm m_now m_refused m_kept m_notePlace m_noteKind m_noteIs m_toldBy m_image ++ fr) (none) (wdM B m_thrown m_size m_at m_wrong m_deep m_laws m_text m_readBoys m_readMarbles m_readFarms m_boys m_marbles m_farms m_holding m_spills m_acts m_draws m_bestRow m_bestMany m_noted m_hasImage m_tape r.1 r.2.1 r.2.2 m_clauses m_testFrom m_sumFrom m_sumTo m_letters m_stack m_readRule m_readBoy m_readMarble m_readFarm m_rule m_boy m_marble m_farm m_now m_refused m_kept m_notePlace m_noteKind m_noteIs m_toldBy m_image ++ fr) :=
  gMet.of rfl (Nat.le_of_ble_eq_true rfl) (fun X hX hF => w_M_put hX r h hF)
set_option maxRecDepth 4000 in
theorem w_M_opens_J13 (hX : gOk B X RX11 cX11_opens 1 1 none) : gH B X (fun r : (Int32 × Int32 × Int32) => gFin X (none) (wdM B m_thrown m_size r.1 r.2.1 r.2.2 m_laws m_text m_readBoys m_readMarbles m_readFarms m_boys m_marbles m_farms m_holding m_spills m_acts m_draws m_bestRow m_bestMany m_noted m_hasImage m_tape m_code m_value m_codes m_clauses m_testFrom m_sumFrom m_sumTo m_letters m_stack m_readRule m_readBoy m_readMarble m_readFarm m_rule m_boy m_marble m_farm m_now m_refused m_kept m_notePlace m_noteKind m_noteIs m_toldBy m_image ++ fr)) 13 [(0, .ref (aM B 0))] [] (wdM B m_thrown m_size m_at m_wrong m_deep m_laws m_text m_readBoys m_readMarbles m_readFarms m_boys m_marbles m_farms m_holding m_spills m_acts m_draws m_bestRow m_bestMany m_noted m_hasImage m_tape m_code m_value m_codes m_clauses m_testFrom m_sumFrom m_sumTo m_letters m_stack m_readRule m_readBoy m_readMarble m_readFarm m_rule m_boy m_marble m_farm m_now m_refused m_kept m_notePlace m_noteKind m_noteIs m_toldBy m_image ++ fr) (f_M_opens_J13 m_at m_wrong m_deep) := by
  unfold f_M_opens_J13
  refine h_aload_n hX dX11_opens_13 rfl rfl ?_
  refine h_dup hX dX11_opens_14 rfl ?_
  refine get_RX11_116_M0 hX dX11_opens_15 ?_
  refine h_iconst hX dX11_opens_18 ki_1 ?_
  refine h_iadd hX dX11_opens_19 ?_
  refine put_RX11_116_M0 hX dX11_opens_20 ?_
  refine gH.letw (w := fun y => wdM B m_thrown m_size m_at m_wrong y m_laws m_text m_readBoys m_readMarbles m_readFarms m_boys m_marbles m_farms m_holding m_spills m_acts m_draws m_bestRow m_bestMany m_noted m_hasImage m_tape m_code m_value m_codes m_clauses m_testFrom m_sumFrom m_sumTo m_letters m_stack m_readRule m_readBoy m_readMarble m_readFarm m_rule m_boy m_marble m_farm m_now m_refused m_kept m_notePlace m_noteKind m_noteIs m_toldBy m_image ++ fr) (fun m_deep_1 => ?_)
  refine h_aload_n hX dX11_opens_23 rfl rfl ?_
  refine h_dup hX dX11_opens_24 rfl ?_
  refine get_RX11_103_M0 hX dX11_opens_25 ?_
  refine h_iconst hX dX11_opens_28 ki_1 ?_
  refine h_iadd hX dX11_opens_29 ?_
  refine put_RX11_103_M0 hX dX11_opens_30 ?_
  refine gH.letw (w := fun y => wdM B m_thrown m_size y m_wrong m_deep_1 m_laws m_text m_readBoys m_readMarbles m_readFarms m_boys m_marbles m_farms m_holding m_spills m_acts m_draws m_bestRow m_bestMany m_noted m_hasImage m_tape m_code m_value m_codes m_clauses m_testFrom m_sumFrom m_sumTo m_letters m_stack m_readRule m_readBoy m_readMarble m_readFarm m_rule m_boy m_marble m_farm m_now m_refused m_kept m_notePlace m_noteKind m_noteIs m_toldBy m_image ++ fr) (fun m_at_2 => ?_)
  exact h_ret hX (rv := none) dX11_opens_33 trivial (fun h => h)
set_option maxRecDepth 4000 in
theorem w_M_opens (hX : gOk B X RX11 cX11_opens 1 1 none) : gH B X (fun r : (Int32 × Int32 × Int32) => gFin X (none) (wdM B m_thrown m_size r.1 r.2.1 r.2.2 m_laws m_text m_readBoys m_readMarbles m_readFarms m_boys m_marbles m_farms m_holding m_spills m_acts m_draws m_bestRow m_bestMany m_noted m_hasImage m_tape m_code m_value m_codes m_clauses m_testFrom m_sumFrom m_sumTo m_letters m_stack m_readRule m_readBoy m_readMarble m_readFarm m_rule m_boy m_marble m_farm m_now m_refused m_kept m_notePlace m_noteKind m_noteIs m_toldBy m_image ++ fr)) 0 [(0, .ref (aM B 0))] [] (wdM B m_thrown m_size m_at m_wrong m_deep m_laws m_text m_readBoys m_readMarbles m_readFarms m_boys m_marbles m_farms m_holding m_spills m_acts m_draws m_bestRow m_bestMany m_noted m_hasImage m_tape m_code m_value m_codes m_clauses m_testFrom m_sumFrom m_sumTo m_letters m_stack m_readRule m_readBoy m_readMarble m_readFarm m_rule m_boy m_marble m_farm m_now m_refused m_kept m_notePlace m_noteKind m_noteIs m_toldBy m_image ++ fr) (f_M_opens m_at m_wrong m_deep) := by
  unfold f_M_opens
  refine h_aload_n hX dX11_opens_0 rfl rfl ?_
  refine get_RX11_116_M0 hX dX11_opens_1 ?_
  refine h_bipush hX dX11_opens_4 kb_6 ?_
  refine h_icmp_ne hX dX11_opens_6 (tgt := 13) (by decide) (fun _ => ?_) (fun _ => ?_)
  · exact w_M_opens_J13 hX
  · refine h_aload_n hX dX11_opens_9 rfl rfl ?_
    refine h_callVv hX dX11_opens_10 (cv_RX11_119) rc_M0 (As := []) (st := []) (fun _ h => c_M_bad h) rfl rfl (by decide) (Nat.le_of_ble_eq_true rfl) (fun a_3 => ?_)
    exact w_M_opens_J13 hX
theorem c_M_opens {r : (Int32 × Int32 × Int32)} (h : f_M_opens m_at m_wrong m_deep = some r) : gMet B 1 yX11_opens cX11_opens 1 none [.ref (aM B 0)] (wdM B m_thrown m_size m_at m_wrong m_deep m_laws m_text m_readBoys m_readMarbles m_readFarms m_boys m_marbles m_farms m_holding m_spills m_acts m_draws m_bestRow m_bestMany m_noted m_hasImage m_tape m_code m_value m_codes m_clauses m_testFrom m_sumFrom m_sumTo m_letters m_stack m_readRule m_readBoy m_readMarble m_readFarm m_rule m_boy m_marble m_farm m_now m_refused m_kept m_notePlace m_noteKind m_noteIs m_toldBy m_image ++ fr) (none) (wdM B m_thrown m_size r.1 r.2.1 r.2.2 m_laws m_text m_readBoys m_readMarbles m_readFarms m_boys m_marbles m_farms m_holding m_spills m_acts m_draws m_bestRow m_bestMany m_noted m_hasImage m_tape m_code m_value m_codes m_clauses m_testFrom m_sumFrom m_sumTo m_letters m_stack m_readRule m_readBoy m_readMarble m_readFarm m_rule m_boy m_marble m_farm m_now m_refused m_kept m_notePlace m_noteKind m_noteIs m_toldBy m_image ++ fr) :=
  gMet.of rfl (Nat.le_of_ble_eq_true rfl) (fun X hX hF => w_M_opens hX r h hF)
set_option maxRecDepth 4000 in
theorem w_M_closes_J20 (hX : gOk B X RX11 cX11_closes 2 2 none) : gH B X (fun r : (Int32 × Int32 × Int32) => gFin X (none) (wdM B m_thrown m_size r.1 r.2.1 r.2.2 m_laws m_text m_readBoys m_readMarbles m_readFarms m_boys m_marbles m_farms m_holding m_spills m_acts m_draws m_bestRow m_bestMany m_noted m_hasImage m_tape m_code m_value m_codes m_clauses m_testFrom m_sumFrom m_sumTo m_letters m_stack m_readRule m_readBoy m_readMarble m_readFarm m_rule m_boy m_marble m_farm m_now m_refused m_kept m_notePlace m_noteKind m_noteIs m_toldBy m_image ++ fr)) 20 [(0, .ref (aM B 0))] [] (wdM B m_thrown m_size m_at m_wrong m_deep m_laws m_text m_readBoys m_readMarbles m_readFarms m_boys m_marbles m_farms m_holding m_spills m_acts m_draws m_bestRow m_bestMany m_noted m_hasImage m_tape m_code m_value m_codes m_clauses m_testFrom m_sumFrom m_sumTo m_letters m_stack m_readRule m_readBoy m_readMarble m_readFarm m_rule m_boy m_marble m_farm m_now m_refused m_kept m_notePlace m_noteKind m_noteIs m_toldBy m_image ++ fr) (f_M_closes_J20 m_at m_wrong m_deep) := by
  unfold f_M_closes_J20
  refine h_aload_n hX dX11_closes_20 rfl rfl ?_
  refine h_dup hX dX11_closes_21 rfl ?_
  refine get_RX11_103_M0 hX dX11_closes_22 ?_
  refine h_iconst hX dX11_closes_25 ki_1 ?_
  refine h_iadd hX dX11_closes_26 ?_
  refine put_RX11_103_M0 hX dX11_closes_27 ?_
  refine gH.letw (w := fun y => wdM B m_thrown m_size y m_wrong m_deep m_laws m_text m_readBoys m_readMarbles m_readFarms m_boys m_marbles m_farms m_holding m_spills m_acts m_draws m_bestRow m_bestMany m_noted m_hasImage m_tape m_code m_value m_codes m_clauses m_testFrom m_sumFrom m_sumTo m_letters m_stack m_readRule m_readBoy m_readMarble m_readFarm m_rule m_boy m_marble m_farm m_now m_refused m_kept m_notePlace m_noteKind m_noteIs m_toldBy m_image ++ fr) (fun m_at_1 => ?_)
  refine h_aload_n hX dX11_closes_30 rfl rfl ?_
  refine h_dup hX dX11_closes_31 rfl ?_
  refine get_RX11_116_M0 hX dX11_closes_32 ?_
  refine h_iconst hX dX11_closes_35 ki_1 ?_
  refine h_isub hX dX11_closes_36 ?_
  refine put_RX11_116_M0 hX dX11_closes_37 ?_
  refine gH.letw (w := fun y => wdM B m_thrown m_size m_at_1 m_wrong y m_laws m_text m_readBoys m_readMarbles m_readFarms m_boys m_marbles m_farms m_holding m_spills m_acts m_draws m_bestRow m_bestMany m_noted m_hasImage m_tape m_code m_value m_codes m_clauses m_testFrom m_sumFrom m_sumTo m_letters m_stack m_readRule m_readBoy m_readMarble m_readFarm m_rule m_boy m_marble m_farm m_now m_refused m_kept m_notePlace m_noteKind m_noteIs m_toldBy m_image ++ fr) (fun m_deep_2 => ?_)
  exact h_ret hX (rv := none) dX11_closes_40 trivial (fun h => h)
set_option maxRecDepth 4000 in
theorem w_M_closes {p0 : Int32} (hX : gOk B X RX11 cX11_closes 2 2 none) : gH B X (fun r : (Int32 × Int32 × Int32) => gFin X (none) (wdM B m_thrown m_size r.1 r.2.1 r.2.2 m_laws m_text m_readBoys m_readMarbles m_readFarms m_boys m_marbles m_farms m_holding m_spills m_acts m_draws m_bestRow m_bestMany m_noted m_hasImage m_tape m_code m_value m_codes m_clauses m_testFrom m_sumFrom m_sumTo m_letters m_stack m_readRule m_readBoy m_readMarble m_readFarm m_rule m_boy m_marble m_farm m_now m_refused m_kept m_notePlace m_noteKind m_noteIs m_toldBy m_image ++ fr)) 0 [(0, .ref (aM B 0)), (1, .int p0)] [] (wdM B m_thrown m_size m_at m_wrong m_deep m_laws m_text m_readBoys m_readMarbles m_readFarms m_boys m_marbles m_farms m_holding m_spills m_acts m_draws m_bestRow m_bestMany m_noted m_hasImage m_tape m_code m_value m_codes m_clauses m_testFrom m_sumFrom m_sumTo m_letters m_stack m_readRule m_readBoy m_readMarble m_readFarm m_rule m_boy m_marble m_farm m_now m_refused m_kept m_notePlace m_noteKind m_noteIs m_toldBy m_image ++ fr) (f_M_closes m_size m_at m_wrong m_deep m_tape p0) := by
  unfold f_M_closes
  refine h_aload_n hX dX11_closes_0 rfl rfl ?_
  refine get_RX11_110_M0 hX dX11_closes_1 ?_
  refine h_iconst hX dX11_closes_4 ki_m1 ?_
  refine h_icmp_ne hX dX11_closes_5 (tgt := 20) (by decide) (fun _ => ?_) (fun _ => ?_)
  · refine gH.dead [0] rfl ?_
    exact w_M_closes_J20 hX
  · refine h_aload_n hX dX11_closes_8 rfl rfl ?_
    refine h_callVi hX dX11_closes_9 (cv_RX11_122) rc_M0 (As := []) (st := []) (fun _ h => c_M_look h) rfl rfl (by decide) (Nat.le_of_ble_eq_true rfl) (fun a_3 => ?_)
    refine h_iload_n hX dX11_closes_12 rfl rfl ?_
    refine h_icmp_eq hX dX11_closes_13 (tgt := 20) (by decide) (fun _ => ?_) (fun _ => ?_)
    · refine gH.dead [0] rfl ?_
      exact w_M_closes_J20 hX
    · refine h_aload_n hX dX11_closes_16 rfl rfl ?_
      refine h_callVv hX dX11_closes_17 (cv_RX11_119) rc_M0 (As := []) (st := []) (fun _ h => c_M_bad h) rfl rfl (by decide) (Nat.le_of_ble_eq_true rfl) (fun a_4 => ?_)
      refine gH.dead [0] rfl ?_
      exact w_M_closes_J20 hX
theorem c_M_closes {p0 : Int32} {r : (Int32 × Int32 × Int32)} (h : f_M_closes m_size m_at m_wrong m_deep m_tape p0 = some r) : gMet B 2 yX11_closes cX11_closes 2 none [.ref (aM B 0), .int p0] (wdM B m_thrown m_size m_at m_wrong m_deep m_laws m_text m_readBoys m_readMarbles m_readFarms m_boys m_marbles m_farms m_holding m_spills m_acts m_draws m_bestRow m_bestMany m_noted m_hasImage m_tape m_code m_value m_codes m_clauses m_testFrom m_sumFrom m_sumTo m_letters m_stack m_readRule m_readBoy m_readMarble m_readFarm m_rule m_boy m_marble m_farm m_now m_refused m_kept m_notePlace m_noteKind m_noteIs m_toldBy m_image ++ fr) (none) (wdM B m_thrown m_size r.1 r.2.1 r.2.2 m_laws m_text m_readBoys m_readMarbles m_readFarms m_boys m_marbles m_farms m_holding m_spills m_acts m_draws m_bestRow m_bestMany m_noted m_hasImage m_tape m_code m_value m_codes m_clauses m_testFrom m_sumFrom m_sumTo m_letters m_stack m_readRule m_readBoy m_readMarble m_readFarm m_rule m_boy m_marble m_farm m_now m_refused m_kept m_notePlace m_noteKind m_noteIs m_toldBy m_image ++ fr) :=
  gMet.of rfl (Nat.le_of_ble_eq_true rfl) (fun X hX hF => w_M_closes hX r h hF)
set_option maxRecDepth 4000 in
theorem w_M_atom {RR : Int32 → Int32 → Int32 → Int32 → Int32 → (Nat → Int32) → (Nat → Int32) → (Nat → Int32) → (Nat → Int32) → Option (Int32 × Int32 × Int32 × (Nat → Int32) × (Nat → Int32) × (Nat → Int32))} {dR : Nat} (hR : ∀ (fr : va_W) (m_thrown : Int32) (m_size : Int32) (m_at : Int32) (m_wrong : Int32) (m_deep : Int32) (m_laws : Int32) (m_text : Int32) (m_readBoys : Int32) (m_readMarbles : Int32) (m_readFarms : Int32) (m_boys : Int32) (m_marbles : Int32) (m_farms : Int32) (m_holding : Int32) (m_spills : Int32) (m_acts : Int32) (m_draws : Int64) (m_bestRow : Int32) (m_bestMany : Int32) (m_noted : Int32) (m_hasImage : Int32) (m_tape : Nat → Int32) (m_code : Nat → Int32) (m_value : Nat → Int32) (m_codes : Nat → Int32) (m_clauses : Nat → Int32) (m_testFrom : Nat → Int32) (m_sumFrom : Nat → Int32) (m_sumTo : Nat → Int32) (m_letters : Nat → Int32) (m_stack : Nat → Int32) (m_readRule : Nat → Int32) (m_readBoy : Nat → Int32) (m_readMarble : Nat → Int32) (m_readFarm : Nat → Int32) (m_rule : Nat → Int32) (m_boy : Nat → Int32) (m_marble : Nat → Int32) (m_farm : Nat → Int32) (m_now : Nat → Int32) (m_refused : Nat → Int32) (m_kept : Nat → Int32) (m_notePlace : Nat → Int32) (m_noteKind : Nat → Int32) (m_noteIs : Nat → Int32) (m_toldBy : Nat → Int32) (m_image : Nat → Int32) (r : (Int32 × Int32 × Int32 × (Nat → Int32) × (Nat → Int32) × (Nat → Int32))), RR m_size m_at m_wrong m_deep m_text m_tape m_code m_value m_codes = some r → gMet B dR yX11_sum cX11_sum 2 none [.ref (aM B 0)] (wdM B m_thrown m_size m_at m_wrong m_deep m_laws m_text m_readBoys m_readMarbles m_readFarms m_boys m_marbles m_farms m_holding m_spills m_acts m_draws m_bestRow m_bestMany m_noted m_hasImage m_tape m_code m_value m_codes m_clauses m_testFrom m_sumFrom m_sumTo m_letters m_stack m_readRule m_readBoy m_readMarble m_readFarm m_rule m_boy m_marble m_farm m_now m_refused m_kept m_notePlace m_noteKind m_noteIs m_toldBy m_image ++ fr) (none) (wdM B m_thrown m_size r.1 r.2.1 r.2.2.1 m_laws m_text m_readBoys m_readMarbles m_readFarms m_boys m_marbles m_farms m_holding m_spills m_acts m_draws m_bestRow m_bestMany m_noted m_hasImage m_tape r.2.2.2.1 r.2.2.2.2.1 r.2.2.2.2.2 m_clauses m_testFrom m_sumFrom m_sumTo m_letters m_stack m_readRule m_readBoy m_readMarble m_readFarm m_rule m_boy m_marble m_farm m_now m_refused m_kept m_notePlace m_noteKind m_noteIs m_toldBy m_image ++ fr)) (hX : gOk B X RX11 cX11_atom 2 (dR + 3) none) : gH B X (fun r : (Int32 × Int32 × Int32 × (Nat → Int32) × (Nat → Int32) × (Nat → Int32)) => gFin X (none) (wdM B m_thrown m_size r.1 r.2.1 r.2.2.1 m_laws m_text m_readBoys m_readMarbles m_readFarms m_boys m_marbles m_farms m_holding m_spills m_acts m_draws m_bestRow m_bestMany m_noted m_hasImage m_tape r.2.2.2.1 r.2.2.2.2.1 r.2.2.2.2.2 m_clauses m_testFrom m_sumFrom m_sumTo m_letters m_stack m_readRule m_readBoy m_readMarble m_readFarm m_rule m_boy m_marble m_farm m_now m_refused m_kept m_notePlace m_noteKind m_noteIs m_toldBy m_image ++ fr)) 0 [(0, .ref (aM B 0))] [] (wdM B m_thrown m_size m_at m_wrong m_deep m_laws m_text m_readBoys m_readMarbles m_readFarms m_boys m_marbles m_farms m_holding m_spills m_acts m_draws m_bestRow m_bestMany m_noted m_hasImage m_tape m_code m_value m_codes m_clauses m_testFrom m_sumFrom m_sumTo m_letters m_stack m_readRule m_readBoy m_readMarble m_readFarm m_rule m_boy m_marble m_farm m_now m_refused m_kept m_notePlace m_noteKind m_noteIs m_toldBy m_image ++ fr) (f_M_atomB RR m_size m_at m_wrong m_deep m_text m_tape m_code m_value m_codes) := by
  unfold f_M_atomB
  refine h_aload_n hX dX11_atom_0 rfl rfl ?_
  refine h_callVi hX dX11_atom_1 (cv_RX11_122) rc_M0 (As := []) (st := []) (fun _ h => c_M_look h) rfl rfl (by constructor <;> omega) (Nat.le_of_ble_eq_true rfl) (fun a_1 => ?_)
  refine h_istore_n hX dX11_atom_4 rfl (by decide) (lv' := [(0, .ref (aM B 0)), (1, .int a_1.1)]) rfl ?_
  refine h_iload_n hX dX11_atom_5 rfl rfl ?_
  refine h_callSi hX dX11_atom_6 (cs_RX11_125) (As := [.int a_1.1]) (st := []) (fun _ h => c_M_isDigit h) rfl rfl (by constructor <;> omega) (Nat.le_of_ble_eq_true rfl) (fun a_2 => ?_)
  refine h_if_eq hX dX11_atom_9 (tgt := 24) (by decide) (fun _ => ?_) (fun _ => ?_)
  · refine h_iload_n hX dX11_atom_24 rfl rfl ?_
    refine h_callSi hX dX11_atom_25 (cs_RX11_136) (As := [.int a_1.1]) (st := []) (fun _ h => c_M_letterOf h) rfl rfl (by constructor <;> omega) (Nat.le_of_ble_eq_true rfl) (fun a_3 => ?_)
    refine h_iconst hX dX11_atom_28 ki_m1 ?_
    refine h_icmp_eq hX dX11_atom_29 (tgt := 54) (by decide) (fun _ => ?_) (fun _ => ?_)
    · refine h_iload_n hX dX11_atom_54 rfl rfl ?_
      refine h_bipush hX dX11_atom_55 kb_91 ?_
      refine h_icmp_ne hX dX11_atom_57 (tgt := 85) (by decide) (fun _ => ?_) (fun _ => ?_)
      · refine h_aload_n hX dX11_atom_85 rfl rfl ?_
        refine h_callVv hX dX11_atom_86 (cv_RX11_119) rc_M0 (As := []) (st := []) (fun _ h => c_M_bad h) rfl rfl (by constructor <;> omega) (Nat.le_of_ble_eq_true rfl) (fun a_4 => ?_)
        exact h_ret hX (rv := none) dX11_atom_89 trivial (fun h => h)
      · refine h_aload_n hX dX11_atom_60 rfl rfl ?_
        refine h_callVv hX dX11_atom_61 (cv_RX11_140) rc_M0 (As := []) (st := []) (fun _ h => c_M_opens h) rfl rfl (by constructor <;> omega) (Nat.le_of_ble_eq_true rfl) (fun a_5 => ?_)
        refine h_aload_n hX dX11_atom_64 rfl rfl ?_
        refine get_RX11_110_M0 hX dX11_atom_65 ?_
        refine h_iconst hX dX11_atom_68 ki_m1 ?_
        refine h_icmp_ne hX dX11_atom_69 (tgt := 89) (by decide) (fun _ => ?_) (fun _ => ?_)
        · exact h_ret hX (rv := none) dX11_atom_89 trivial (fun h => h)
        · refine h_aload_n hX dX11_atom_72 rfl rfl ?_
          refine h_callVv hX dX11_atom_73 (cv_RX11_143) rc_M0 (As := []) (st := []) (fun _ h => hR _ _ _ _ _ _ _ _ _ _ _ _ _ _ _ _ _ _ _ _ _ _ _ _ _ _ _ _ _ _ _ _ _ _ _ _ _ _ _ _ _ _ _ _ _ _ _ _ _ h) rfl rfl (by constructor <;> omega) (Nat.le_of_ble_eq_true rfl) (fun a_6 => ?_)
          refine h_aload_n hX dX11_atom_76 rfl rfl ?_
          refine h_bipush hX dX11_atom_77 kb_93 ?_
          refine h_callVv hX dX11_atom_79 (cv_RX11_146) rc_M0 (As := [.int 93]) (st := []) (fun _ h => c_M_closes h) rfl rfl (by constructor <;> omega) (Nat.le_of_ble_eq_true rfl) (fun a_7 => ?_)
          refine h_goto hX dX11_atom_82 (tgt := 89) (by decide) ?_
          exact h_ret hX (rv := none) dX11_atom_89 trivial (fun h => h)
    · refine h_aload_n hX dX11_atom_32 rfl rfl ?_
      refine h_dup hX dX11_atom_33 rfl ?_
      refine get_RX11_103_M0 hX dX11_atom_34 ?_
      refine h_iconst hX dX11_atom_37 ki_1 ?_
      refine h_iadd hX dX11_atom_38 ?_
      refine put_RX11_103_M0 hX dX11_atom_39 ?_
      refine gH.letw (w := fun y => wdM B m_thrown m_size y m_wrong m_deep m_laws m_text m_readBoys m_readMarbles m_readFarms m_boys m_marbles m_farms m_holding m_spills m_acts m_draws m_bestRow m_bestMany m_noted m_hasImage m_tape m_code m_value m_codes m_clauses m_testFrom m_sumFrom m_sumTo m_letters m_stack m_readRule m_readBoy m_readMarble m_readFarm m_rule m_boy m_marble m_farm m_now m_refused m_kept m_notePlace m_noteKind m_noteIs m_toldBy m_image ++ fr) (fun m_at_8 => ?_)
      refine h_aload_n hX dX11_atom_42 rfl rfl ?_
      refine h_iconst hX dX11_atom_43 ki_1 ?_
      refine h_iload_n hX dX11_atom_44 rfl rfl ?_
      refine h_callSi hX dX11_atom_45 (cs_RX11_136) (As := [.int a_1.1]) (st := [.int 1, .ref (aM B 0)]) (fun _ h => c_M_letterOf h) rfl rfl (by constructor <;> omega) (Nat.le_of_ble_eq_true rfl) (fun a_9 => ?_)
      refine h_callVv hX dX11_atom_48 (cv_RX11_132) rc_M0 (As := [.int 1, .int a_9]) (st := []) (fun _ h => c_M_put h) rfl rfl (by constructor <;> omega) (Nat.le_of_ble_eq_true rfl) (fun a_10 => ?_)
      refine h_goto hX dX11_atom_51 (tgt := 89) (by decide) ?_
      exact h_ret hX (rv := none) dX11_atom_89 trivial (fun h => h)
  · refine h_aload_n hX dX11_atom_12 rfl rfl ?_
    refine h_iconst hX dX11_atom_13 ki_0 ?_
    refine h_aload_n hX dX11_atom_14 rfl rfl ?_
    refine h_callVi hX dX11_atom_15 (cv_RX11_129) rc_M0 (As := []) (st := [.int 0, .ref (aM B 0)]) (fun _ h => c_M_plainNumber h) rfl rfl (by constructor <;> omega) (Nat.le_of_ble_eq_true rfl) (fun a_11 => ?_)
    refine h_callVv hX dX11_atom_18 (cv_RX11_132) rc_M0 (As := [.int 0, .int a_11.1]) (st := []) (fun _ h => c_M_put h) rfl rfl (by constructor <;> omega) (Nat.le_of_ble_eq_true rfl) (fun a_12 => ?_)
    refine h_goto hX dX11_atom_21 (tgt := 89) (by decide) ?_
    exact h_ret hX (rv := none) dX11_atom_89 trivial (fun h => h)
theorem c_M_atom {RR : Int32 → Int32 → Int32 → Int32 → Int32 → (Nat → Int32) → (Nat → Int32) → (Nat → Int32) → (Nat → Int32) → Option (Int32 × Int32 × Int32 × (Nat → Int32) × (Nat → Int32) × (Nat → Int32))} {dR : Nat} (hR : ∀ (fr : va_W) (m_thrown : Int32) (m_size : Int32) (m_at : Int32) (m_wrong : Int32) (m_deep : Int32) (m_laws : Int32) (m_text : Int32) (m_readBoys : Int32) (m_readMarbles : Int32) (m_readFarms : Int32) (m_boys : Int32) (m_marbles : Int32) (m_farms : Int32) (m_holding : Int32) (m_spills : Int32) (m_acts : Int32) (m_draws : Int64) (m_bestRow : Int32) (m_bestMany : Int32) (m_noted : Int32) (m_hasImage : Int32) (m_tape : Nat → Int32) (m_code : Nat → Int32) (m_value : Nat → Int32) (m_codes : Nat → Int32) (m_clauses : Nat → Int32) (m_testFrom : Nat → Int32) (m_sumFrom : Nat → Int32) (m_sumTo : Nat → Int32) (m_letters : Nat → Int32) (m_stack : Nat → Int32) (m_readRule : Nat → Int32) (m_readBoy : Nat → Int32) (m_readMarble : Nat → Int32) (m_readFarm : Nat → Int32) (m_rule : Nat → Int32) (m_boy : Nat → Int32) (m_marble : Nat → Int32) (m_farm : Nat → Int32) (m_now : Nat → Int32) (m_refused : Nat → Int32) (m_kept : Nat → Int32) (m_notePlace : Nat → Int32) (m_noteKind : Nat → Int32) (m_noteIs : Nat → Int32) (m_toldBy : Nat → Int32) (m_image : Nat → Int32) (r : (Int32 × Int32 × Int32 × (Nat → Int32) × (Nat → Int32) × (Nat → Int32))), RR m_size m_at m_wrong m_deep m_text m_tape m_code m_value m_codes = some r → gMet B dR yX11_sum cX11_sum 2 none [.ref (aM B 0)] (wdM B m_thrown m_size m_at m_wrong m_deep m_laws m_text m_readBoys m_readMarbles m_readFarms m_boys m_marbles m_farms m_holding m_spills m_acts m_draws m_bestRow m_bestMany m_noted m_hasImage m_tape m_code m_value m_codes m_clauses m_testFrom m_sumFrom m_sumTo m_letters m_stack m_readRule m_readBoy m_readMarble m_readFarm m_rule m_boy m_marble m_farm m_now m_refused m_kept m_notePlace m_noteKind m_noteIs m_toldBy m_image ++ fr) (none) (wdM B m_thrown m_size r.1 r.2.1 r.2.2.1 m_laws m_text m_readBoys m_readMarbles m_readFarms m_boys m_marbles m_farms m_holding m_spills m_acts m_draws m_bestRow m_bestMany m_noted m_hasImage m_tape r.2.2.2.1 r.2.2.2.2.1 r.2.2.2.2.2 m_clauses m_testFrom m_sumFrom m_sumTo m_letters m_stack m_readRule m_readBoy m_readMarble m_readFarm m_rule m_boy m_marble m_farm m_now m_refused m_kept m_notePlace m_noteKind m_noteIs m_toldBy m_image ++ fr)) {r : (Int32 × Int32 × Int32 × (Nat → Int32) × (Nat → Int32) × (Nat → Int32))} (h : f_M_atomB RR m_size m_at m_wrong m_deep m_text m_tape m_code m_value m_codes = some r) : gMet B (dR + 3) yX11_atom cX11_atom 2 none [.ref (aM B 0)] (wdM B m_thrown m_size m_at m_wrong m_deep m_laws m_text m_readBoys m_readMarbles m_readFarms m_boys m_marbles m_farms m_holding m_spills m_acts m_draws m_bestRow m_bestMany m_noted m_hasImage m_tape m_code m_value m_codes m_clauses m_testFrom m_sumFrom m_sumTo m_letters m_stack m_readRule m_readBoy m_readMarble m_readFarm m_rule m_boy m_marble m_farm m_now m_refused m_kept m_notePlace m_noteKind m_noteIs m_toldBy m_image ++ fr) (none) (wdM B m_thrown m_size r.1 r.2.1 r.2.2.1 m_laws m_text m_readBoys m_readMarbles m_readFarms m_boys m_marbles m_farms m_holding m_spills m_acts m_draws m_bestRow m_bestMany m_noted m_hasImage m_tape r.2.2.2.1 r.2.2.2.2.1 r.2.2.2.2.2 m_clauses m_testFrom m_sumFrom m_sumTo m_letters m_stack m_readRule m_readBoy m_readMarble m_readFarm m_rule m_boy m_marble m_farm m_now m_refused m_kept m_notePlace m_noteKind m_noteIs m_toldBy m_image ++ fr) :=
  gMet.of rfl (Nat.le_of_ble_eq_true rfl) (fun X hX hF => w_M_atom hR hX r h hF)
set_option maxRecDepth 4000 in
theorem w_M_back_L11 (hX : gOk B X RX11 cX11_back 2 0 (some .int)) (s : (Int32 × (Nat → Int32))) : gH B X (Sum.elim (fun s : (Int32 × (Nat → Int32)) => gG B X 11 [(0, .ref (aM B 0)), (1, .int s.1)] [] (wdM B m_thrown m_size m_at m_wrong m_deep m_laws m_text m_readBoys m_readMarbles m_readFarms m_boys m_marbles m_farms m_holding m_spills m_acts m_draws m_bestRow m_bestMany m_noted m_hasImage m_tape m_code m_value m_codes m_clauses m_testFrom m_sumFrom m_sumTo m_letters m_stack m_readRule m_readBoy m_readMarble m_readFarm m_rule m_boy m_marble m_farm s.2 m_refused m_kept m_notePlace m_noteKind m_noteIs m_toldBy m_image ++ fr)) (fun r : (Int32 × Int32 × (Nat → Int32)) => gFin X (some (.int r.1)) (wdM B m_thrown m_size m_at m_wrong m_deep m_laws m_text m_readBoys m_readMarbles m_readFarms m_boys m_marbles m_farms m_holding m_spills r.2.1 m_draws m_bestRow m_bestMany m_noted m_hasImage m_tape m_code m_value m_codes m_clauses m_testFrom m_sumFrom m_sumTo m_letters m_stack m_readRule m_readBoy m_readMarble m_readFarm m_rule m_boy m_marble m_farm r.2.2 m_refused m_kept m_notePlace m_noteKind m_noteIs m_toldBy m_image ++ fr))) 11 [(0, .ref (aM B 0)), (1, .int s.1)] [] (wdM B m_thrown m_size m_at m_wrong m_deep m_laws m_text m_readBoys m_readMarbles m_readFarms m_boys m_marbles m_farms m_holding m_spills m_acts m_draws m_bestRow m_bestMany m_noted m_hasImage m_tape m_code m_value m_codes m_clauses m_testFrom m_sumFrom m_sumTo m_letters m_stack m_readRule m_readBoy m_readMarble m_readFarm m_rule m_boy m_marble m_farm s.2 m_refused m_kept m_notePlace m_noteKind m_noteIs m_toldBy m_image ++ fr) (f_M_back_L11 m_image s) := by
  unfold f_M_back_L11
  refine h_iload_n hX dX11_back_11 rfl rfl ?_
  refine h_sipush hX dX11_back_12 ks_131 ?_
  refine h_icmp_ge hX dX11_back_15 (tgt := 36) (by decide) (fun _ => ?_) (fun _ => ?_)
  · refine gH.inr ?_
    refine h_aload_n hX dX11_back_36 rfl rfl ?_
    refine h_iconst hX dX11_back_37 ki_0 ?_
    refine put_RX11_273_M0 hX dX11_back_38 ?_
    refine h_aload_n hX dX11_back_41 rfl rfl ?_
    refine get_RX11_64_M0 hX dX11_back_42 ?_
    refine h_bipush hX dX11_back_45 kb_9 ?_
    refine ald_M19 hX dX11_back_47 ?_
    exact h_ret hX (rv := some (.int (s.2 (9 : Int32).toNatClampNeg))) dX11_back_48 trivial (fun h => h)
  · refine h_aload_n hX dX11_back_18 rfl rfl ?_
    refine get_RX11_64_M0 hX dX11_back_19 ?_
    refine h_iload_n hX dX11_back_22 rfl rfl ?_
    refine h_aload_n hX dX11_back_23 rfl rfl ?_
    refine get_RX11_90_M0 hX dX11_back_24 ?_
    refine h_iload_n hX dX11_back_27 rfl rfl ?_
    refine ald_M26 hX dX11_back_28 ?_
    refine ast_M19 hX dX11_back_29 ?_
    refine gH.letw (w := fun y => wdM B m_thrown m_size m_at m_wrong m_deep m_laws m_text m_readBoys m_readMarbles m_readFarms m_boys m_marbles m_farms m_holding m_spills m_acts m_draws m_bestRow m_bestMany m_noted m_hasImage m_tape m_code m_value m_codes m_clauses m_testFrom m_sumFrom m_sumTo m_letters m_stack m_readRule m_readBoy m_readMarble m_readFarm m_rule m_boy m_marble m_farm y m_refused m_kept m_notePlace m_noteKind m_noteIs m_toldBy m_image ++ fr) (fun m_now_1 => ?_)
    refine h_iincc hX dX11_back_30 rfl ki_1 (by decide) (lv' := [(0, .ref (aM B 0)), (1, .int (s.1 + 1))]) rfl ?_
    refine h_goto hX dX11_back_33 (tgt := 11) (by decide) ?_
    exact gH.some' (fun h => h)
set_option maxRecDepth 4000 in
theorem w_M_back (hX : gOk B X RX11 cX11_back 2 0 (some .int)) : gH B X (fun r : (Int32 × Int32 × (Nat → Int32)) => gFin X (some (.int r.1)) (wdM B m_thrown m_size m_at m_wrong m_deep m_laws m_text m_readBoys m_readMarbles m_readFarms m_boys m_marbles m_farms m_holding m_spills r.2.1 m_draws m_bestRow m_bestMany m_noted m_hasImage m_tape m_code m_value m_codes m_clauses m_testFrom m_sumFrom m_sumTo m_letters m_stack m_readRule m_readBoy m_readMarble m_readFarm m_rule m_boy m_marble m_farm r.2.2 m_refused m_kept m_notePlace m_noteKind m_noteIs m_toldBy m_image ++ fr)) 0 [(0, .ref (aM B 0))] [] (wdM B m_thrown m_size m_at m_wrong m_deep m_laws m_text m_readBoys m_readMarbles m_readFarms m_boys m_marbles m_farms m_holding m_spills m_acts m_draws m_bestRow m_bestMany m_noted m_hasImage m_tape m_code m_value m_codes m_clauses m_testFrom m_sumFrom m_sumTo m_letters m_stack m_readRule m_readBoy m_readMarble m_readFarm m_rule m_boy m_marble m_farm m_now m_refused m_kept m_notePlace m_noteKind m_noteIs m_toldBy m_image ++ fr) (f_M_back m_acts m_hasImage m_now m_image) := by
  unfold f_M_back
  refine h_aload_n hX dX11_back_0 rfl rfl ?_
  refine get_RX11_276_M0 hX dX11_back_1 ?_
  refine h_if_ne hX dX11_back_4 (tgt := 9) (by decide) (fun _ => ?_) (fun _ => ?_)
  · refine h_iconst hX dX11_back_9 ki_0 ?_
    refine h_istore_n hX dX11_back_10 rfl (by decide) (lv' := [(0, .ref (aM B 0)), (1, .int 0)]) rfl ?_
    exact gH.loop (lvf := fun z : (Int32 × (Nat → Int32)) => [(0, .ref (aM B 0)), (1, .int z.1)]) (wf := fun z : (Int32 × (Nat → Int32)) => wdM B m_thrown m_size m_at m_wrong m_deep m_laws m_text m_readBoys m_readMarbles m_readFarms m_boys m_marbles m_farms m_holding m_spills m_acts m_draws m_bestRow m_bestMany m_noted m_hasImage m_tape m_code m_value m_codes m_clauses m_testFrom m_sumFrom m_sumTo m_letters m_stack m_readRule m_readBoy m_readMarble m_readFarm m_rule m_boy m_marble m_farm z.2 m_refused m_kept m_notePlace m_noteKind m_noteIs m_toldBy m_image ++ fr) (fun z => w_M_back_L11 hX z) (0, m_now)
  · refine h_iconst hX dX11_back_7 ki_m1 ?_
    exact h_ret hX (rv := some (.int ((-1)))) dX11_back_8 trivial (fun h => h)
theorem c_M_back {r : (Int32 × Int32 × (Nat → Int32))} (h : f_M_back m_acts m_hasImage m_now m_image = some r) : gMet B 0 yX11_back cX11_back 2 (some .int) [.ref (aM B 0)] (wdM B m_thrown m_size m_at m_wrong m_deep m_laws m_text m_readBoys m_readMarbles m_readFarms m_boys m_marbles m_farms m_holding m_spills m_acts m_draws m_bestRow m_bestMany m_noted m_hasImage m_tape m_code m_value m_codes m_clauses m_testFrom m_sumFrom m_sumTo m_letters m_stack m_readRule m_readBoy m_readMarble m_readFarm m_rule m_boy m_marble m_farm m_now m_refused m_kept m_notePlace m_noteKind m_noteIs m_toldBy m_image ++ fr) (some (.int r.1)) (wdM B m_thrown m_size m_at m_wrong m_deep m_laws m_text m_readBoys m_readMarbles m_readFarms m_boys m_marbles m_farms m_holding m_spills r.2.1 m_draws m_bestRow m_bestMany m_noted m_hasImage m_tape m_code m_value m_codes m_clauses m_testFrom m_sumFrom m_sumTo m_letters m_stack m_readRule m_readBoy m_readMarble m_readFarm m_rule m_boy m_marble m_farm r.2.2 m_refused m_kept m_notePlace m_noteKind m_noteIs m_toldBy m_image ++ fr) :=
  gMet.of rfl (Nat.le_of_ble_eq_true rfl) (fun X hX hF => w_M_back hX r h hF)
set_option maxRecDepth 4000 in
theorem w_M_isCase {p0 : Int32} (hX : gOk B X RX11 cX11_isCase 4 2 (some .boolean)) : gH B X (fun r : Int32 => gFin X (some (.int r)) (wdM B m_thrown m_size m_at m_wrong m_deep m_laws m_text m_readBoys m_readMarbles m_readFarms m_boys m_marbles m_farms m_holding m_spills m_acts m_draws m_bestRow m_bestMany m_noted m_hasImage m_tape m_code m_value m_codes m_clauses m_testFrom m_sumFrom m_sumTo m_letters m_stack m_readRule m_readBoy m_readMarble m_readFarm m_rule m_boy m_marble m_farm m_now m_refused m_kept m_notePlace m_noteKind m_noteIs m_toldBy m_image ++ fr)) 0 [(0, .ref (aM B 0)), (1, .int p0)] [] (wdM B m_thrown m_size m_at m_wrong m_deep m_laws m_text m_readBoys m_readMarbles m_readFarms m_boys m_marbles m_farms m_holding m_spills m_acts m_draws m_bestRow m_bestMany m_noted m_hasImage m_tape m_code m_value m_codes m_clauses m_testFrom m_sumFrom m_sumTo m_letters m_stack m_readRule m_readBoy m_readMarble m_readFarm m_rule m_boy m_marble m_farm m_now m_refused m_kept m_notePlace m_noteKind m_noteIs m_toldBy m_image ++ fr) (f_M_isCase m_boys m_marbles m_now p0) := by
  unfold f_M_isCase
  refine h_iload_n hX dX11_isCase_0 rfl rfl ?_
  refine h_bipush hX dX11_isCase_1 kb_10 ?_
  refine h_idivc hX dX11_isCase_3 (by decide) ?_
  refine gH.leti (fun v2_1 => ?_)
  refine h_istore_n hX dX11_isCase_4 rfl (by decide) (lv' := [(0, .ref (aM B 0)), (1, .int p0), (2, .int v2_1)]) rfl ?_
  refine h_iload_n hX dX11_isCase_5 rfl rfl ?_
  refine h_bipush hX dX11_isCase_6 kb_10 ?_
  refine h_iremc hX dX11_isCase_8 (by decide) ?_
  refine gH.leti (fun v3_2 => ?_)
  refine h_istore_n hX dX11_isCase_9 rfl (by decide) (lv' := [(0, .ref (aM B 0)), (1, .int p0), (2, .int v2_1), (3, .int v3_2)]) rfl ?_
  refine h_iload_n hX dX11_isCase_10 rfl rfl ?_
  refine h_bipush hX dX11_isCase_11 kb_99 ?_
  refine h_icmp_eq hX dX11_isCase_13 (tgt := 56) (by decide) (fun _ => ?_) (fun _ => ?_)
  · refine h_iconst hX dX11_isCase_56 ki_1 ?_
    refine h_goto hX dX11_isCase_57 (tgt := 61) (by decide) ?_
    exact h_ret hX (rv := some (.int 1)) dX11_isCase_61 rfl (fun h => h)
  · refine h_aload_n hX dX11_isCase_16 rfl rfl ?_
    refine h_iload_n hX dX11_isCase_17 rfl rfl ?_
    refine h_callVi hX dX11_isCase_18 (cv_RX11_328) rc_M0 (As := [.int v2_1]) (st := []) (fun _ h => c_M_isMarble h) rfl rfl (by decide) (Nat.le_of_ble_eq_true rfl) (fun a_3 => ?_)
    refine h_if_eq hX dX11_isCase_21 (tgt := 60) (by decide) (fun _ => ?_) (fun _ => ?_)
    · refine h_iconst hX dX11_isCase_60 ki_0 ?_
      exact h_ret hX (rv := some (.int 0)) dX11_isCase_61 rfl (fun h => h)
    · refine h_aload_n hX dX11_isCase_24 rfl rfl ?_
      refine h_iload_n hX dX11_isCase_25 rfl rfl ?_
      refine h_callVi hX dX11_isCase_26 (cv_RX11_325) rc_M0 (As := [.int v3_2]) (st := []) (fun _ h => c_M_isBoy h) rfl rfl (by decide) (Nat.le_of_ble_eq_true rfl) (fun a_4 => ?_)
      refine h_if_eq hX dX11_isCase_29 (tgt := 60) (by decide) (fun _ => ?_) (fun _ => ?_)
      · refine h_iconst hX dX11_isCase_60 ki_0 ?_
        exact h_ret hX (rv := some (.int 0)) dX11_isCase_61 rfl (fun h => h)
      · refine h_aload_n hX dX11_isCase_32 rfl rfl ?_
        refine get_RX11_64_M0 hX dX11_isCase_33 ?_
        refine h_iconst hX dX11_isCase_36 ki_0 ?_
        refine h_iload_n hX dX11_isCase_37 rfl rfl ?_
        refine h_iadd hX dX11_isCase_38 ?_
        refine ald_M19 hX dX11_isCase_39 ?_
        refine h_iconst hX dX11_isCase_40 ki_m1 ?_
        refine h_icmp_eq hX dX11_isCase_41 (tgt := 60) (by decide) (fun _ => ?_) (fun _ => ?_)
        · refine h_iconst hX dX11_isCase_60 ki_0 ?_
          exact h_ret hX (rv := some (.int 0)) dX11_isCase_61 rfl (fun h => h)
        · refine h_aload_n hX dX11_isCase_44 rfl rfl ?_
          refine get_RX11_64_M0 hX dX11_isCase_45 ?_
          refine h_iconst hX dX11_isCase_48 ki_0 ?_
          refine h_iload_n hX dX11_isCase_49 rfl rfl ?_
          refine h_iadd hX dX11_isCase_50 ?_
          refine ald_M19 hX dX11_isCase_51 ?_
          refine h_iload_n hX dX11_isCase_52 rfl rfl ?_
          refine h_icmp_eq hX dX11_isCase_53 (tgt := 60) (by decide) (fun _ => ?_) (fun _ => ?_)
          · refine h_iconst hX dX11_isCase_60 ki_0 ?_
            exact h_ret hX (rv := some (.int 0)) dX11_isCase_61 rfl (fun h => h)
          · refine h_iconst hX dX11_isCase_56 ki_1 ?_
            refine h_goto hX dX11_isCase_57 (tgt := 61) (by decide) ?_
            exact h_ret hX (rv := some (.int 1)) dX11_isCase_61 rfl (fun h => h)
theorem c_M_isCase {p0 : Int32} {r : Int32} (h : f_M_isCase m_boys m_marbles m_now p0 = some r) : gMet B 2 yX11_isCase cX11_isCase 4 (some .boolean) [.ref (aM B 0), .int p0] (wdM B m_thrown m_size m_at m_wrong m_deep m_laws m_text m_readBoys m_readMarbles m_readFarms m_boys m_marbles m_farms m_holding m_spills m_acts m_draws m_bestRow m_bestMany m_noted m_hasImage m_tape m_code m_value m_codes m_clauses m_testFrom m_sumFrom m_sumTo m_letters m_stack m_readRule m_readBoy m_readMarble m_readFarm m_rule m_boy m_marble m_farm m_now m_refused m_kept m_notePlace m_noteKind m_noteIs m_toldBy m_image ++ fr) (some (.int r)) (wdM B m_thrown m_size m_at m_wrong m_deep m_laws m_text m_readBoys m_readMarbles m_readFarms m_boys m_marbles m_farms m_holding m_spills m_acts m_draws m_bestRow m_bestMany m_noted m_hasImage m_tape m_code m_value m_codes m_clauses m_testFrom m_sumFrom m_sumTo m_letters m_stack m_readRule m_readBoy m_readMarble m_readFarm m_rule m_boy m_marble m_farm m_now m_refused m_kept m_notePlace m_noteKind m_noteIs m_toldBy m_image ++ fr) :=
  gMet.of rfl (Nat.le_of_ble_eq_true rfl) (fun X hX hF => w_M_isCase hX r h hF)
set_option maxRecDepth 4000 in
theorem w_M_layCase {p0 : Int32} (hX : gOk B X RX11 cX11_layCase 3 0 (some .int)) : gH B X (fun r : (Int32 × (Nat → Int32)) => gFin X (some (.int r.1)) (wdM B m_thrown m_size m_at m_wrong m_deep m_laws m_text m_readBoys m_readMarbles m_readFarms m_boys m_marbles m_farms m_holding m_spills m_acts m_draws m_bestRow m_bestMany m_noted m_hasImage m_tape m_code m_value m_codes m_clauses m_testFrom m_sumFrom m_sumTo m_letters m_stack m_readRule m_readBoy m_readMarble m_readFarm m_rule m_boy m_marble m_farm r.2 m_refused m_kept m_notePlace m_noteKind m_noteIs m_toldBy m_image ++ fr)) 0 [(0, .ref (aM B 0)), (1, .int p0)] [] (wdM B m_thrown m_size m_at m_wrong m_deep m_laws m_text m_readBoys m_readMarbles m_readFarms m_boys m_marbles m_farms m_holding m_spills m_acts m_draws m_bestRow m_bestMany m_noted m_hasImage m_tape m_code m_value m_codes m_clauses m_testFrom m_sumFrom m_sumTo m_letters m_stack m_readRule m_readBoy m_readMarble m_readFarm m_rule m_boy m_marble m_farm m_now m_refused m_kept m_notePlace m_noteKind m_noteIs m_toldBy m_image ++ fr) (f_M_layCase m_now p0) := by
  unfold f_M_layCase
  refine h_iload_n hX dX11_layCase_0 rfl rfl ?_
  refine h_bipush hX dX11_layCase_1 kb_99 ?_
  refine h_icmp_ne hX dX11_layCase_3 (tgt := 8) (by decide) (fun _ => ?_) (fun _ => ?_)
  · refine h_aload_n hX dX11_layCase_8 rfl rfl ?_
    refine get_RX11_64_M0 hX dX11_layCase_9 ?_
    refine h_iconst hX dX11_layCase_12 ki_0 ?_
    refine h_iload_n hX dX11_layCase_13 rfl rfl ?_
    refine h_bipush hX dX11_layCase_14 kb_10 ?_
    refine h_idivc hX dX11_layCase_16 (by decide) ?_
    refine h_iadd hX dX11_layCase_17 ?_
    refine ald_M19 hX dX11_layCase_18 ?_
    refine gH.leti (fun v2_1 => ?_)
    refine h_istore_n hX dX11_layCase_19 rfl (by decide) (lv' := [(0, .ref (aM B 0)), (1, .int p0), (2, .int v2_1)]) rfl ?_
    refine h_aload_n hX dX11_layCase_20 rfl rfl ?_
    refine get_RX11_64_M0 hX dX11_layCase_21 ?_
    refine h_iconst hX dX11_layCase_24 ki_0 ?_
    refine h_iload_n hX dX11_layCase_25 rfl rfl ?_
    refine h_bipush hX dX11_layCase_26 kb_10 ?_
    refine h_idivc hX dX11_layCase_28 (by decide) ?_
    refine h_iadd hX dX11_layCase_29 ?_
    refine h_iload_n hX dX11_layCase_30 rfl rfl ?_
    refine h_bipush hX dX11_layCase_31 kb_10 ?_
    refine h_iremc hX dX11_layCase_33 (by decide) ?_
    refine ast_M19 hX dX11_layCase_34 ?_
    refine gH.letw (w := fun y => wdM B m_thrown m_size m_at m_wrong m_deep m_laws m_text m_readBoys m_readMarbles m_readFarms m_boys m_marbles m_farms m_holding m_spills m_acts m_draws m_bestRow m_bestMany m_noted m_hasImage m_tape m_code m_value m_codes m_clauses m_testFrom m_sumFrom m_sumTo m_letters m_stack m_readRule m_readBoy m_readMarble m_readFarm m_rule m_boy m_marble m_farm y m_refused m_kept m_notePlace m_noteKind m_noteIs m_toldBy m_image ++ fr) (fun m_now_2 => ?_)
    refine h_iload_n hX dX11_layCase_35 rfl rfl ?_
    exact h_ret hX (rv := some (.int v2_1)) dX11_layCase_36 trivial (fun h => h)
  · refine h_iconst hX dX11_layCase_6 ki_m1 ?_
    exact h_ret hX (rv := some (.int ((-1)))) dX11_layCase_7 trivial (fun h => h)
theorem c_M_layCase {p0 : Int32} {r : (Int32 × (Nat → Int32))} (h : f_M_layCase m_now p0 = some r) : gMet B 0 yX11_layCase cX11_layCase 3 (some .int) [.ref (aM B 0), .int p0] (wdM B m_thrown m_size m_at m_wrong m_deep m_laws m_text m_readBoys m_readMarbles m_readFarms m_boys m_marbles m_farms m_holding m_spills m_acts m_draws m_bestRow m_bestMany m_noted m_hasImage m_tape m_code m_value m_codes m_clauses m_testFrom m_sumFrom m_sumTo m_letters m_stack m_readRule m_readBoy m_readMarble m_readFarm m_rule m_boy m_marble m_farm m_now m_refused m_kept m_notePlace m_noteKind m_noteIs m_toldBy m_image ++ fr) (some (.int r.1)) (wdM B m_thrown m_size m_at m_wrong m_deep m_laws m_text m_readBoys m_readMarbles m_readFarms m_boys m_marbles m_farms m_holding m_spills m_acts m_draws m_bestRow m_bestMany m_noted m_hasImage m_tape m_code m_value m_codes m_clauses m_testFrom m_sumFrom m_sumTo m_letters m_stack m_readRule m_readBoy m_readMarble m_readFarm m_rule m_boy m_marble m_farm r.2 m_refused m_kept m_notePlace m_noteKind m_noteIs m_toldBy m_image ++ fr) :=
  gMet.of rfl (Nat.le_of_ble_eq_true rfl) (fun X hX hF => w_M_layCase hX r h hF)
