variable {B : gB} {X : gX} {fr : va_W} {m_thrown : Int32} {m_size : Int32} {m_at : Int32} {m_wrong : Int32} {m_deep : Int32} {m_laws : Int32} {m_text : Int32} {m_readBoys : Int32} {m_readMarbles : Int32} {m_readFarms : Int32} {m_boys : Int32} {m_marbles : Int32} {m_farms : Int32} {m_holding : Int32} {m_spills : Int32} {m_acts : Int32} {m_draws : Int64} {m_bestRow : Int32} {m_bestMany : Int32} {m_noted : Int32} {m_hasImage : Int32} {m_tape : Nat → Int32} {m_code : Nat → Int32} {m_value : Nat → Int32} {m_codes : Nat → Int32} {m_clauses : Nat → Int32} {m_testFrom : Nat → Int32} {m_sumFrom : Nat → Int32} {m_sumTo : Nat → Int32} {m_letters : Nat → Int32} {m_stack : Nat → Int32} {m_readRule : Nat → Int32} {m_readBoy : Nat → Int32} {m_readMarble : Nat → Int32} {m_readFarm : Nat → Int32} {m_rule : Nat → Int32} {m_boy : Nat → Int32} {m_marble : Nat → Int32} {m_farm : Nat → Int32} {m_now : Nat → Int32} {m_refused : Nat → Int32} {m_kept : Nat → Int32} {m_notePlace : Nat → Int32} {m_noteKind : Nat → Int32} {m_noteIs : Nat → Int32} {m_toldBy : Nat → Int32} {m_image : Nat → Int32}
set_option maxRecDepth 4000 in
theorem w_M_clause_J251 {v1 : Int32} (hX : gOk B X RX11 cX11_clause 3 341 none) : gH B X (fun r : (Int32 × Int32 × Int32 × (Nat → Int32) × (Nat → Int32) × (Nat → Int32) × (Nat → Int32) × (Nat → Int32) × (Nat → Int32) × (Nat → Int32)) => gFin X (none) (wdM B m_thrown m_size r.1 r.2.1 r.2.2.1 m_laws m_text m_readBoys m_readMarbles m_readFarms m_boys m_marbles m_farms m_holding m_spills m_acts m_draws m_bestRow m_bestMany m_noted m_hasImage m_tape r.2.2.2.1 r.2.2.2.2.1 r.2.2.2.2.2.1 r.2.2.2.2.2.2.1 r.2.2.2.2.2.2.2.1 r.2.2.2.2.2.2.2.2.1 r.2.2.2.2.2.2.2.2.2 m_letters m_stack m_readRule m_readBoy m_readMarble m_readFarm m_rule m_boy m_marble m_farm m_now m_refused m_kept m_notePlace m_noteKind m_noteIs m_toldBy m_image ++ fr)) 251 [(0, .ref (aM B 0)), (1, .int v1)] [] (wdM B m_thrown m_size m_at m_wrong m_deep m_laws m_text m_readBoys m_readMarbles m_readFarms m_boys m_marbles m_farms m_holding m_spills m_acts m_draws m_bestRow m_bestMany m_noted m_hasImage m_tape m_code m_value m_codes m_clauses m_testFrom m_sumFrom m_sumTo m_letters m_stack m_readRule m_readBoy m_readMarble m_readFarm m_rule m_boy m_marble m_farm m_now m_refused m_kept m_notePlace m_noteKind m_noteIs m_toldBy m_image ++ fr) (f_M_clause_J251 m_at m_wrong m_deep m_text m_code m_value m_codes m_clauses m_testFrom m_sumFrom m_sumTo v1) := by
  unfold f_M_clause_J251
  refine h_aload_n hX dX11_clause_251 rfl rfl ?_
  refine get_RX11_31_M0 hX dX11_clause_252 ?_
  refine h_iload_n hX dX11_clause_255 rfl rfl ?_
  refine h_aload_n hX dX11_clause_256 rfl rfl ?_
  refine get_RX11_19_M0 hX dX11_clause_257 ?_
  refine h_aload_n hX dX11_clause_260 rfl rfl ?_
  refine get_RX11_113_M0 hX dX11_clause_261 ?_
  refine ald_M4 hX dX11_clause_264 ?_
  refine ast_M8 hX dX11_clause_265 ?_
  refine gH.letw (w := fun y => wdM B m_thrown m_size m_at m_wrong m_deep m_laws m_text m_readBoys m_readMarbles m_readFarms m_boys m_marbles m_farms m_holding m_spills m_acts m_draws m_bestRow m_bestMany m_noted m_hasImage m_tape m_code m_value m_codes m_clauses m_testFrom m_sumFrom y m_letters m_stack m_readRule m_readBoy m_readMarble m_readFarm m_rule m_boy m_marble m_farm m_now m_refused m_kept m_notePlace m_noteKind m_noteIs m_toldBy m_image ++ fr) (fun m_sumTo_8 => ?_)
  refine h_aload_n hX dX11_clause_266 rfl rfl ?_
  refine get_RX11_22_M0 hX dX11_clause_267 ?_
  refine h_aload_n hX dX11_clause_270 rfl rfl ?_
  refine get_RX11_113_M0 hX dX11_clause_271 ?_
  refine h_dup2 hX dX11_clause_274 rfl rfl ?_
  refine ald_M5 hX dX11_clause_275 ?_
  refine h_iconst hX dX11_clause_276 ki_1 ?_
  refine h_iadd hX dX11_clause_277 ?_
  refine ast_M5 hX dX11_clause_278 ?_
  refine gH.letw (w := fun y => wdM B m_thrown m_size m_at m_wrong m_deep m_laws m_text m_readBoys m_readMarbles m_readFarms m_boys m_marbles m_farms m_holding m_spills m_acts m_draws m_bestRow m_bestMany m_noted m_hasImage m_tape m_code m_value m_codes y m_testFrom m_sumFrom m_sumTo_8 m_letters m_stack m_readRule m_readBoy m_readMarble m_readFarm m_rule m_boy m_marble m_farm m_now m_refused m_kept m_notePlace m_noteKind m_noteIs m_toldBy m_image ++ fr) (fun m_clauses_9 => ?_)
  exact h_ret hX (rv := none) dX11_clause_279 trivial (fun h => h)
set_option maxRecDepth 4000 in
theorem w_M_clause_J184 {v1 : Int32} {v2 : Int32} (hX : gOk B X RX11 cX11_clause 3 341 none) : gH B X (fun r : (Int32 × Int32 × Int32 × (Nat → Int32) × (Nat → Int32) × (Nat → Int32) × (Nat → Int32) × (Nat → Int32) × (Nat → Int32) × (Nat → Int32)) => gFin X (none) (wdM B m_thrown m_size r.1 r.2.1 r.2.2.1 m_laws m_text m_readBoys m_readMarbles m_readFarms m_boys m_marbles m_farms m_holding m_spills m_acts m_draws m_bestRow m_bestMany m_noted m_hasImage m_tape r.2.2.2.1 r.2.2.2.2.1 r.2.2.2.2.2.1 r.2.2.2.2.2.2.1 r.2.2.2.2.2.2.2.1 r.2.2.2.2.2.2.2.2.1 r.2.2.2.2.2.2.2.2.2 m_letters m_stack m_readRule m_readBoy m_readMarble m_readFarm m_rule m_boy m_marble m_farm m_now m_refused m_kept m_notePlace m_noteKind m_noteIs m_toldBy m_image ++ fr)) 184 [(0, .ref (aM B 0)), (1, .int v1), (2, .int v2)] [] (wdM B m_thrown m_size m_at m_wrong m_deep m_laws m_text m_readBoys m_readMarbles m_readFarms m_boys m_marbles m_farms m_holding m_spills m_acts m_draws m_bestRow m_bestMany m_noted m_hasImage m_tape m_code m_value m_codes m_clauses m_testFrom m_sumFrom m_sumTo m_letters m_stack m_readRule m_readBoy m_readMarble m_readFarm m_rule m_boy m_marble m_farm m_now m_refused m_kept m_notePlace m_noteKind m_noteIs m_toldBy m_image ++ fr) (f_M_clause_J184 m_size m_at m_wrong m_deep m_text m_tape m_code m_value m_codes m_clauses m_testFrom m_sumFrom m_sumTo v1 v2) := by
  unfold f_M_clause_J184
  refine h_aload_n hX dX11_clause_184 rfl rfl ?_
  refine get_RX11_28_M0 hX dX11_clause_185 ?_
  refine h_iload_n hX dX11_clause_188 rfl rfl ?_
  refine h_aload_n hX dX11_clause_189 rfl rfl ?_
  refine get_RX11_25_M0 hX dX11_clause_190 ?_
  refine h_iload_n hX dX11_clause_193 rfl rfl ?_
  refine ald_M6 hX dX11_clause_194 ?_
  refine ast_M7 hX dX11_clause_195 ?_
  refine gH.letw (w := fun y => wdM B m_thrown m_size m_at m_wrong m_deep m_laws m_text m_readBoys m_readMarbles m_readFarms m_boys m_marbles m_farms m_holding m_spills m_acts m_draws m_bestRow m_bestMany m_noted m_hasImage m_tape m_code m_value m_codes m_clauses m_testFrom y m_sumTo m_letters m_stack m_readRule m_readBoy m_readMarble m_readFarm m_rule m_boy m_marble m_farm m_now m_refused m_kept m_notePlace m_noteKind m_noteIs m_toldBy m_image ++ fr) (fun m_sumFrom_7 => ?_)
  refine h_iload_n hX dX11_clause_196 rfl rfl ?_
  refine h_if_eq hX dX11_clause_197 (tgt := 251) (by decide) (fun _ => ?_) (fun _ => ?_)
  · refine gH.dead [0, 1] rfl ?_
    exact w_M_clause_J251 hX
  · refine h_aload_n hX dX11_clause_200 rfl rfl ?_
    refine get_RX11_110_M0 hX dX11_clause_201 ?_
    refine h_iconst hX dX11_clause_204 ki_m1 ?_
    refine h_icmp_ne hX dX11_clause_205 (tgt := 251) (by decide) (fun _ => ?_) (fun _ => ?_)
    · refine gH.dead [0, 1] rfl ?_
      exact w_M_clause_J251 hX
    · refine h_aload_n hX dX11_clause_208 rfl rfl ?_
      refine h_callVi hX dX11_clause_209 (cv_RX11_122) rc_M0 (As := []) (st := []) (fun _ h => c_M_look h) rfl rfl (by decide) (Nat.le_of_ble_eq_true rfl) (fun a_10 => ?_)
      refine h_bipush hX dX11_clause_212 kb_63 ?_
      refine h_icmp_eq hX dX11_clause_214 (tgt := 222) (by decide) (fun _ => ?_) (fun _ => ?_)
      · refine h_aload_n hX dX11_clause_222 rfl rfl ?_
        refine h_dup hX dX11_clause_223 rfl ?_
        refine get_RX11_103_M0 hX dX11_clause_224 ?_
        refine h_iconst hX dX11_clause_227 ki_1 ?_
        refine h_iadd hX dX11_clause_228 ?_
        refine put_RX11_103_M0 hX dX11_clause_229 ?_
        refine gH.letw (w := fun y => wdM B m_thrown m_size y m_wrong m_deep m_laws m_text m_readBoys m_readMarbles m_readFarms m_boys m_marbles m_farms m_holding m_spills m_acts m_draws m_bestRow m_bestMany m_noted m_hasImage m_tape m_code m_value m_codes m_clauses m_testFrom m_sumFrom_7 m_sumTo m_letters m_stack m_readRule m_readBoy m_readMarble m_readFarm m_rule m_boy m_marble m_farm m_now m_refused m_kept m_notePlace m_noteKind m_noteIs m_toldBy m_image ++ fr) (fun m_at_11 => ?_)
        refine h_aload_n hX dX11_clause_232 rfl rfl ?_
        refine get_RX11_28_M0 hX dX11_clause_233 ?_
        refine h_iload_n hX dX11_clause_236 rfl rfl ?_
        refine h_aload_n hX dX11_clause_237 rfl rfl ?_
        refine get_RX11_19_M0 hX dX11_clause_238 ?_
        refine h_aload_n hX dX11_clause_241 rfl rfl ?_
        refine get_RX11_113_M0 hX dX11_clause_242 ?_
        refine ald_M4 hX dX11_clause_245 ?_
        refine ast_M7 hX dX11_clause_246 ?_
        refine gH.letw (w := fun y => wdM B m_thrown m_size m_at_11 m_wrong m_deep m_laws m_text m_readBoys m_readMarbles m_readFarms m_boys m_marbles m_farms m_holding m_spills m_acts m_draws m_bestRow m_bestMany m_noted m_hasImage m_tape m_code m_value m_codes m_clauses m_testFrom y m_sumTo m_letters m_stack m_readRule m_readBoy m_readMarble m_readFarm m_rule m_boy m_marble m_farm m_now m_refused m_kept m_notePlace m_noteKind m_noteIs m_toldBy m_image ++ fr) (fun m_sumFrom_12 => ?_)
        refine h_aload_n hX dX11_clause_247 rfl rfl ?_
        refine h_callVv hX dX11_clause_248 (cv_RX11_143) rc_M0 (As := []) (st := []) (fun _ h => cn_M_sum 8 _ _ _ _ _ _ _ _ _ _ _ _ _ _ _ _ _ _ _ _ _ _ _ _ _ _ _ _ _ _ _ _ _ _ _ _ _ _ _ _ _ _ _ _ _ _ _ _ _ h) rfl rfl (by decide) (Nat.le_of_ble_eq_true rfl) (fun a_13 => ?_)
        refine gH.dead [0, 1] rfl ?_
        exact w_M_clause_J251 hX
      · refine h_aload_n hX dX11_clause_217 rfl rfl ?_
        refine h_callVv hX dX11_clause_218 (cv_RX11_119) rc_M0 (As := []) (st := []) (fun _ h => c_M_bad h) rfl rfl (by decide) (Nat.le_of_ble_eq_true rfl) (fun a_14 => ?_)
        exact h_ret hX (rv := none) dX11_clause_221 trivial (fun h => h)
set_option maxRecDepth 4000 in
theorem w_M_clause_J167 {v1 : Int32} {k0 : Int32} (hX : gOk B X RX11 cX11_clause 3 341 none) : gH B X (fun r : (Int32 × Int32 × Int32 × (Nat → Int32) × (Nat → Int32) × (Nat → Int32) × (Nat → Int32) × (Nat → Int32) × (Nat → Int32) × (Nat → Int32)) => gFin X (none) (wdM B m_thrown m_size r.1 r.2.1 r.2.2.1 m_laws m_text m_readBoys m_readMarbles m_readFarms m_boys m_marbles m_farms m_holding m_spills m_acts m_draws m_bestRow m_bestMany m_noted m_hasImage m_tape r.2.2.2.1 r.2.2.2.2.1 r.2.2.2.2.2.1 r.2.2.2.2.2.2.1 r.2.2.2.2.2.2.2.1 r.2.2.2.2.2.2.2.2.1 r.2.2.2.2.2.2.2.2.2 m_letters m_stack m_readRule m_readBoy m_readMarble m_readFarm m_rule m_boy m_marble m_farm m_now m_refused m_kept m_notePlace m_noteKind m_noteIs m_toldBy m_image ++ fr)) 167 [(0, .ref (aM B 0)), (1, .int v1)] [.int k0] (wdM B m_thrown m_size m_at m_wrong m_deep m_laws m_text m_readBoys m_readMarbles m_readFarms m_boys m_marbles m_farms m_holding m_spills m_acts m_draws m_bestRow m_bestMany m_noted m_hasImage m_tape m_code m_value m_codes m_clauses m_testFrom m_sumFrom m_sumTo m_letters m_stack m_readRule m_readBoy m_readMarble m_readFarm m_rule m_boy m_marble m_farm m_now m_refused m_kept m_notePlace m_noteKind m_noteIs m_toldBy m_image ++ fr) (f_M_clause_J167 m_size m_at m_wrong m_deep m_text m_tape m_code m_value m_codes m_clauses m_testFrom m_sumFrom m_sumTo v1 k0) := by
  unfold f_M_clause_J167
  refine h_istore_n hX dX11_clause_167 rfl (by decide) (lv' := [(0, .ref (aM B 0)), (1, .int v1), (2, .int k0)]) rfl ?_
  refine h_iload_n hX dX11_clause_168 rfl rfl ?_
  refine h_if_eq hX dX11_clause_169 (tgt := 184) (by decide) (fun _ => ?_) (fun _ => ?_)
  · exact w_M_clause_J184 hX
  · refine h_aload_n hX dX11_clause_172 rfl rfl ?_
    refine h_callVv hX dX11_clause_173 (cv_RX11_165) rc_M0 (As := []) (st := []) (fun _ h => c_M_compare h) rfl rfl (by decide) (Nat.le_of_ble_eq_true rfl) (fun a_15 => ?_)
    refine h_aload_n hX dX11_clause_176 rfl rfl ?_
    refine h_callVv hX dX11_clause_177 (cv_RX11_168) rc_M0 (As := []) (st := []) (fun _ h => c_M_goOnAnd (cn_M_unit 8) h) rfl rfl (by decide) (Nat.le_of_ble_eq_true rfl) (fun a_16 => ?_)
    refine h_aload_n hX dX11_clause_180 rfl rfl ?_
    refine h_callVv hX dX11_clause_181 (cv_RX11_171) rc_M0 (As := []) (st := []) (fun _ h => c_M_goOnOr (cn_M_unit 8) h) rfl rfl (by decide) (Nat.le_of_ble_eq_true rfl) (fun a_17 => ?_)
    exact w_M_clause_J184 hX
set_option maxRecDepth 4000 in
theorem w_M_clause_J166 {v1 : Int32} (hX : gOk B X RX11 cX11_clause 3 341 none) : gH B X (fun r : (Int32 × Int32 × Int32 × (Nat → Int32) × (Nat → Int32) × (Nat → Int32) × (Nat → Int32) × (Nat → Int32) × (Nat → Int32) × (Nat → Int32)) => gFin X (none) (wdM B m_thrown m_size r.1 r.2.1 r.2.2.1 m_laws m_text m_readBoys m_readMarbles m_readFarms m_boys m_marbles m_farms m_holding m_spills m_acts m_draws m_bestRow m_bestMany m_noted m_hasImage m_tape r.2.2.2.1 r.2.2.2.2.1 r.2.2.2.2.2.1 r.2.2.2.2.2.2.1 r.2.2.2.2.2.2.2.1 r.2.2.2.2.2.2.2.2.1 r.2.2.2.2.2.2.2.2.2 m_letters m_stack m_readRule m_readBoy m_readMarble m_readFarm m_rule m_boy m_marble m_farm m_now m_refused m_kept m_notePlace m_noteKind m_noteIs m_toldBy m_image ++ fr)) 166 [(0, .ref (aM B 0)), (1, .int v1)] [] (wdM B m_thrown m_size m_at m_wrong m_deep m_laws m_text m_readBoys m_readMarbles m_readFarms m_boys m_marbles m_farms m_holding m_spills m_acts m_draws m_bestRow m_bestMany m_noted m_hasImage m_tape m_code m_value m_codes m_clauses m_testFrom m_sumFrom m_sumTo m_letters m_stack m_readRule m_readBoy m_readMarble m_readFarm m_rule m_boy m_marble m_farm m_now m_refused m_kept m_notePlace m_noteKind m_noteIs m_toldBy m_image ++ fr) (f_M_clause_J166 m_size m_at m_wrong m_deep m_text m_tape m_code m_value m_codes m_clauses m_testFrom m_sumFrom m_sumTo v1) := by
  unfold f_M_clause_J166
  refine h_iconst hX dX11_clause_166 ki_0 ?_
  exact w_M_clause_J167 hX
set_option maxRecDepth 4000 in
theorem w_M_clause_J128 {v1 : Int32} {k0 : Int32} (hX : gOk B X RX11 cX11_clause 3 341 none) : gH B X (fun r : (Int32 × Int32 × Int32 × (Nat → Int32) × (Nat → Int32) × (Nat → Int32) × (Nat → Int32) × (Nat → Int32) × (Nat → Int32) × (Nat → Int32)) => gFin X (none) (wdM B m_thrown m_size r.1 r.2.1 r.2.2.1 m_laws m_text m_readBoys m_readMarbles m_readFarms m_boys m_marbles m_farms m_holding m_spills m_acts m_draws m_bestRow m_bestMany m_noted m_hasImage m_tape r.2.2.2.1 r.2.2.2.2.1 r.2.2.2.2.2.1 r.2.2.2.2.2.2.1 r.2.2.2.2.2.2.2.1 r.2.2.2.2.2.2.2.2.1 r.2.2.2.2.2.2.2.2.2 m_letters m_stack m_readRule m_readBoy m_readMarble m_readFarm m_rule m_boy m_marble m_farm m_now m_refused m_kept m_notePlace m_noteKind m_noteIs m_toldBy m_image ++ fr)) 128 [(0, .ref (aM B 0)), (1, .int v1)] [.int k0] (wdM B m_thrown m_size m_at m_wrong m_deep m_laws m_text m_readBoys m_readMarbles m_readFarms m_boys m_marbles m_farms m_holding m_spills m_acts m_draws m_bestRow m_bestMany m_noted m_hasImage m_tape m_code m_value m_codes m_clauses m_testFrom m_sumFrom m_sumTo m_letters m_stack m_readRule m_readBoy m_readMarble m_readFarm m_rule m_boy m_marble m_farm m_now m_refused m_kept m_notePlace m_noteKind m_noteIs m_toldBy m_image ++ fr) (f_M_clause_J128 m_size m_at m_wrong m_deep m_text m_tape m_code m_value m_codes m_clauses m_testFrom m_sumFrom m_sumTo v1 k0) := by
  unfold f_M_clause_J128
  refine h_istore_n hX dX11_clause_128 rfl (by decide) (lv' := [(0, .ref (aM B 0)), (1, .int v1), (2, .int k0)]) rfl ?_
  refine h_iload_n hX dX11_clause_129 rfl rfl ?_
  refine h_if_eq hX dX11_clause_130 (tgt := 140) (by decide) (fun _ => ?_) (fun _ => ?_)
  · refine h_aload_n hX dX11_clause_140 rfl rfl ?_
    refine h_callVv hX dX11_clause_141 (cv_RX11_143) rc_M0 (As := []) (st := []) (fun _ h => cn_M_sum 8 _ _ _ _ _ _ _ _ _ _ _ _ _ _ _ _ _ _ _ _ _ _ _ _ _ _ _ _ _ _ _ _ _ _ _ _ _ _ _ _ _ _ _ _ _ _ _ _ _ h) rfl rfl (by decide) (Nat.le_of_ble_eq_true rfl) (fun a_6 => ?_)
    refine h_aload_n hX dX11_clause_144 rfl rfl ?_
    refine get_RX11_110_M0 hX dX11_clause_145 ?_
    refine h_iconst hX dX11_clause_148 ki_m1 ?_
    refine h_icmp_ne hX dX11_clause_149 (tgt := 166) (by decide) (fun _ => ?_) (fun _ => ?_)
    · refine gH.dead [0, 1] rfl ?_
      exact w_M_clause_J166 hX
    · refine h_aload_n hX dX11_clause_152 rfl rfl ?_
      refine h_callVi hX dX11_clause_153 (cv_RX11_122) rc_M0 (As := []) (st := []) (fun _ h => c_M_look h) rfl rfl (by decide) (Nat.le_of_ble_eq_true rfl) (fun a_18 => ?_)
      refine h_callSi hX dX11_clause_156 (cs_RX11_156) (As := [.int a_18.1]) (st := []) (fun _ h => c_M_isSign h) rfl rfl (by decide) (Nat.le_of_ble_eq_true rfl) (fun a_19 => ?_)
      refine h_if_eq hX dX11_clause_159 (tgt := 166) (by decide) (fun _ => ?_) (fun _ => ?_)
      · refine gH.dead [0, 1] rfl ?_
        exact w_M_clause_J166 hX
      · refine h_iconst hX dX11_clause_162 ki_1 ?_
        refine h_goto hX dX11_clause_163 (tgt := 167) (by decide) ?_
        refine gH.dead [0, 1] rfl ?_
        exact w_M_clause_J167 hX
  · refine h_aload_n hX dX11_clause_133 rfl rfl ?_
    refine h_callVv hX dX11_clause_134 (cv_RX11_162) rc_M0 (As := []) (st := []) (fun _ h => c_M_condition (cn_M_unit 8) h) rfl rfl (by decide) (Nat.le_of_ble_eq_true rfl) (fun a_20 => ?_)
    refine h_goto hX dX11_clause_137 (tgt := 184) (by decide) ?_
    exact w_M_clause_J184 hX
set_option maxRecDepth 4000 in
theorem w_M_clause_J123 {v1 : Int32} (hX : gOk B X RX11 cX11_clause 3 341 none) : gH B X (fun r : (Int32 × Int32 × Int32 × (Nat → Int32) × (Nat → Int32) × (Nat → Int32) × (Nat → Int32) × (Nat → Int32) × (Nat → Int32) × (Nat → Int32)) => gFin X (none) (wdM B m_thrown m_size r.1 r.2.1 r.2.2.1 m_laws m_text m_readBoys m_readMarbles m_readFarms m_boys m_marbles m_farms m_holding m_spills m_acts m_draws m_bestRow m_bestMany m_noted m_hasImage m_tape r.2.2.2.1 r.2.2.2.2.1 r.2.2.2.2.2.1 r.2.2.2.2.2.2.1 r.2.2.2.2.2.2.2.1 r.2.2.2.2.2.2.2.2.1 r.2.2.2.2.2.2.2.2.2 m_letters m_stack m_readRule m_readBoy m_readMarble m_readFarm m_rule m_boy m_marble m_farm m_now m_refused m_kept m_notePlace m_noteKind m_noteIs m_toldBy m_image ++ fr)) 123 [(0, .ref (aM B 0)), (1, .int v1)] [] (wdM B m_thrown m_size m_at m_wrong m_deep m_laws m_text m_readBoys m_readMarbles m_readFarms m_boys m_marbles m_farms m_holding m_spills m_acts m_draws m_bestRow m_bestMany m_noted m_hasImage m_tape m_code m_value m_codes m_clauses m_testFrom m_sumFrom m_sumTo m_letters m_stack m_readRule m_readBoy m_readMarble m_readFarm m_rule m_boy m_marble m_farm m_now m_refused m_kept m_notePlace m_noteKind m_noteIs m_toldBy m_image ++ fr) (f_M_clause_J123 m_size m_at m_wrong m_deep m_text m_tape m_code m_value m_codes m_clauses m_testFrom m_sumFrom m_sumTo v1) := by
  unfold f_M_clause_J123
  refine h_iconst hX dX11_clause_123 ki_1 ?_
  refine h_goto hX dX11_clause_124 (tgt := 128) (by decide) ?_
  exact w_M_clause_J128 hX
set_option maxRecDepth 4000 in
theorem w_M_clause_J71 {v1 : Int32} (hX : gOk B X RX11 cX11_clause 3 341 none) : gH B X (fun r : (Int32 × Int32 × Int32 × (Nat → Int32) × (Nat → Int32) × (Nat → Int32) × (Nat → Int32) × (Nat → Int32) × (Nat → Int32) × (Nat → Int32)) => gFin X (none) (wdM B m_thrown m_size r.1 r.2.1 r.2.2.1 m_laws m_text m_readBoys m_readMarbles m_readFarms m_boys m_marbles m_farms m_holding m_spills m_acts m_draws m_bestRow m_bestMany m_noted m_hasImage m_tape r.2.2.2.1 r.2.2.2.2.1 r.2.2.2.2.2.1 r.2.2.2.2.2.2.1 r.2.2.2.2.2.2.2.1 r.2.2.2.2.2.2.2.2.1 r.2.2.2.2.2.2.2.2.2 m_letters m_stack m_readRule m_readBoy m_readMarble m_readFarm m_rule m_boy m_marble m_farm m_now m_refused m_kept m_notePlace m_noteKind m_noteIs m_toldBy m_image ++ fr)) 71 [(0, .ref (aM B 0)), (1, .int v1)] [] (wdM B m_thrown m_size m_at m_wrong m_deep m_laws m_text m_readBoys m_readMarbles m_readFarms m_boys m_marbles m_farms m_holding m_spills m_acts m_draws m_bestRow m_bestMany m_noted m_hasImage m_tape m_code m_value m_codes m_clauses m_testFrom m_sumFrom m_sumTo m_letters m_stack m_readRule m_readBoy m_readMarble m_readFarm m_rule m_boy m_marble m_farm m_now m_refused m_kept m_notePlace m_noteKind m_noteIs m_toldBy m_image ++ fr) (f_M_clause_J71 m_size m_at m_wrong m_deep m_text m_tape m_code m_value m_codes m_clauses m_testFrom m_sumFrom m_sumTo v1) := by
  unfold f_M_clause_J71
  refine h_aload_n hX dX11_clause_71 rfl rfl ?_
  refine h_dup hX dX11_clause_72 rfl ?_
  refine get_RX11_103_M0 hX dX11_clause_73 ?_
  refine h_iconst hX dX11_clause_76 ki_1 ?_
  refine h_iadd hX dX11_clause_77 ?_
  refine put_RX11_103_M0 hX dX11_clause_78 ?_
  refine gH.letw (w := fun y => wdM B m_thrown m_size y m_wrong m_deep m_laws m_text m_readBoys m_readMarbles m_readFarms m_boys m_marbles m_farms m_holding m_spills m_acts m_draws m_bestRow m_bestMany m_noted m_hasImage m_tape m_code m_value m_codes m_clauses m_testFrom m_sumFrom m_sumTo m_letters m_stack m_readRule m_readBoy m_readMarble m_readFarm m_rule m_boy m_marble m_farm m_now m_refused m_kept m_notePlace m_noteKind m_noteIs m_toldBy m_image ++ fr) (fun m_at_3 => ?_)
  refine h_aload_n hX dX11_clause_81 rfl rfl ?_
  refine get_RX11_110_M0 hX dX11_clause_82 ?_
  refine h_iconst hX dX11_clause_85 ki_m1 ?_
  refine h_icmp_eq hX dX11_clause_86 (tgt := 90) (by decide) (fun _ => ?_) (fun _ => ?_)
  · refine h_aload_n hX dX11_clause_90 rfl rfl ?_
    refine get_RX11_25_M0 hX dX11_clause_91 ?_
    refine h_iload_n hX dX11_clause_94 rfl rfl ?_
    refine h_aload_n hX dX11_clause_95 rfl rfl ?_
    refine get_RX11_19_M0 hX dX11_clause_96 ?_
    refine h_aload_n hX dX11_clause_99 rfl rfl ?_
    refine get_RX11_113_M0 hX dX11_clause_100 ?_
    refine ald_M4 hX dX11_clause_103 ?_
    refine ast_M6 hX dX11_clause_104 ?_
    refine gH.letw (w := fun y => wdM B m_thrown m_size m_at_3 m_wrong m_deep m_laws m_text m_readBoys m_readMarbles m_readFarms m_boys m_marbles m_farms m_holding m_spills m_acts m_draws m_bestRow m_bestMany m_noted m_hasImage m_tape m_code m_value m_codes m_clauses y m_sumFrom m_sumTo m_letters m_stack m_readRule m_readBoy m_readMarble m_readFarm m_rule m_boy m_marble m_farm m_now m_refused m_kept m_notePlace m_noteKind m_noteIs m_toldBy m_image ++ fr) (fun m_testFrom_4 => ?_)
    refine h_aload_n hX dX11_clause_105 rfl rfl ?_
    refine h_callVi hX dX11_clause_106 (cv_RX11_122) rc_M0 (As := []) (st := []) (fun _ h => c_M_look h) rfl rfl (by decide) (Nat.le_of_ble_eq_true rfl) (fun a_5 => ?_)
    refine h_bipush hX dX11_clause_109 kb_33 ?_
    refine h_icmp_eq hX dX11_clause_111 (tgt := 123) (by decide) (fun _ => ?_) (fun _ => ?_)
    · exact w_M_clause_J123 hX
    · refine h_aload_n hX dX11_clause_114 rfl rfl ?_
      refine h_callVi hX dX11_clause_115 (cv_RX11_122) rc_M0 (As := []) (st := []) (fun _ h => c_M_look h) rfl rfl (by decide) (Nat.le_of_ble_eq_true rfl) (fun a_21 => ?_)
      refine h_bipush hX dX11_clause_118 kb_40 ?_
      refine h_icmp_ne hX dX11_clause_120 (tgt := 127) (by decide) (fun _ => ?_) (fun _ => ?_)
      · refine h_iconst hX dX11_clause_127 ki_0 ?_
        exact w_M_clause_J128 hX
      · exact w_M_clause_J123 hX
  · exact h_ret hX (rv := none) dX11_clause_89 trivial (fun h => h)
set_option maxRecDepth 4000 in
theorem w_M_clause_J40 {v1 : Int32} (hX : gOk B X RX11 cX11_clause 3 341 none) : gH B X (fun r : (Int32 × Int32 × Int32 × (Nat → Int32) × (Nat → Int32) × (Nat → Int32) × (Nat → Int32) × (Nat → Int32) × (Nat → Int32) × (Nat → Int32)) => gFin X (none) (wdM B m_thrown m_size r.1 r.2.1 r.2.2.1 m_laws m_text m_readBoys m_readMarbles m_readFarms m_boys m_marbles m_farms m_holding m_spills m_acts m_draws m_bestRow m_bestMany m_noted m_hasImage m_tape r.2.2.2.1 r.2.2.2.2.1 r.2.2.2.2.2.1 r.2.2.2.2.2.2.1 r.2.2.2.2.2.2.2.1 r.2.2.2.2.2.2.2.2.1 r.2.2.2.2.2.2.2.2.2 m_letters m_stack m_readRule m_readBoy m_readMarble m_readFarm m_rule m_boy m_marble m_farm m_now m_refused m_kept m_notePlace m_noteKind m_noteIs m_toldBy m_image ++ fr)) 40 [(0, .ref (aM B 0)), (1, .int v1)] [] (wdM B m_thrown m_size m_at m_wrong m_deep m_laws m_text m_readBoys m_readMarbles m_readFarms m_boys m_marbles m_farms m_holding m_spills m_acts m_draws m_bestRow m_bestMany m_noted m_hasImage m_tape m_code m_value m_codes m_clauses m_testFrom m_sumFrom m_sumTo m_letters m_stack m_readRule m_readBoy m_readMarble m_readFarm m_rule m_boy m_marble m_farm m_now m_refused m_kept m_notePlace m_noteKind m_noteIs m_toldBy m_image ++ fr) (f_M_clause_J40 m_size m_at m_wrong m_deep m_text m_tape m_code m_value m_codes m_clauses m_testFrom m_sumFrom m_sumTo v1) := by
  unfold f_M_clause_J40
  refine h_aload_n hX dX11_clause_40 rfl rfl ?_
  refine h_dup hX dX11_clause_41 rfl ?_
  refine get_RX11_103_M0 hX dX11_clause_42 ?_
  refine h_iconst hX dX11_clause_45 ki_1 ?_
  refine h_iadd hX dX11_clause_46 ?_
  refine put_RX11_103_M0 hX dX11_clause_47 ?_
  refine gH.letw (w := fun y => wdM B m_thrown m_size y m_wrong m_deep m_laws m_text m_readBoys m_readMarbles m_readFarms m_boys m_marbles m_farms m_holding m_spills m_acts m_draws m_bestRow m_bestMany m_noted m_hasImage m_tape m_code m_value m_codes m_clauses m_testFrom m_sumFrom m_sumTo m_letters m_stack m_readRule m_readBoy m_readMarble m_readFarm m_rule m_boy m_marble m_farm m_now m_refused m_kept m_notePlace m_noteKind m_noteIs m_toldBy m_image ++ fr) (fun m_at_2 => ?_)
  refine h_aload_n hX dX11_clause_50 rfl rfl ?_
  refine get_RX11_110_M0 hX dX11_clause_51 ?_
  refine h_iconst hX dX11_clause_54 ki_m1 ?_
  refine h_icmp_ne hX dX11_clause_55 (tgt := 71) (by decide) (fun _ => ?_) (fun _ => ?_)
  · exact w_M_clause_J71 hX
  · refine h_aload_n hX dX11_clause_58 rfl rfl ?_
    refine h_callVi hX dX11_clause_59 (cv_RX11_122) rc_M0 (As := []) (st := []) (fun _ h => c_M_look h) rfl rfl (by decide) (Nat.le_of_ble_eq_true rfl) (fun a_22 => ?_)
    refine h_bipush hX dX11_clause_62 kb_58 ?_
    refine h_icmp_eq hX dX11_clause_64 (tgt := 71) (by decide) (fun _ => ?_) (fun _ => ?_)
    · exact w_M_clause_J71 hX
    · refine h_aload_n hX dX11_clause_67 rfl rfl ?_
      refine h_callVv hX dX11_clause_68 (cv_RX11_119) rc_M0 (As := []) (st := []) (fun _ h => c_M_bad h) rfl rfl (by decide) (Nat.le_of_ble_eq_true rfl) (fun a_23 => ?_)
      exact w_M_clause_J71 hX
set_option maxRecDepth 4000 in
theorem w_M_clause (hX : gOk B X RX11 cX11_clause 3 341 none) : gH B X (fun r : (Int32 × Int32 × Int32 × (Nat → Int32) × (Nat → Int32) × (Nat → Int32) × (Nat → Int32) × (Nat → Int32) × (Nat → Int32) × (Nat → Int32)) => gFin X (none) (wdM B m_thrown m_size r.1 r.2.1 r.2.2.1 m_laws m_text m_readBoys m_readMarbles m_readFarms m_boys m_marbles m_farms m_holding m_spills m_acts m_draws m_bestRow m_bestMany m_noted m_hasImage m_tape r.2.2.2.1 r.2.2.2.2.1 r.2.2.2.2.2.1 r.2.2.2.2.2.2.1 r.2.2.2.2.2.2.2.1 r.2.2.2.2.2.2.2.2.1 r.2.2.2.2.2.2.2.2.2 m_letters m_stack m_readRule m_readBoy m_readMarble m_readFarm m_rule m_boy m_marble m_farm m_now m_refused m_kept m_notePlace m_noteKind m_noteIs m_toldBy m_image ++ fr)) 0 [(0, .ref (aM B 0))] [] (wdM B m_thrown m_size m_at m_wrong m_deep m_laws m_text m_readBoys m_readMarbles m_readFarms m_boys m_marbles m_farms m_holding m_spills m_acts m_draws m_bestRow m_bestMany m_noted m_hasImage m_tape m_code m_value m_codes m_clauses m_testFrom m_sumFrom m_sumTo m_letters m_stack m_readRule m_readBoy m_readMarble m_readFarm m_rule m_boy m_marble m_farm m_now m_refused m_kept m_notePlace m_noteKind m_noteIs m_toldBy m_image ++ fr) (f_M_clause m_size m_at m_wrong m_deep m_text m_tape m_code m_value m_codes m_clauses m_testFrom m_sumFrom m_sumTo) := by
  unfold f_M_clause
  refine h_sipush hX dX11_clause_0 ks_140 ?_
  refine h_aload_n hX dX11_clause_3 rfl rfl ?_
  refine get_RX11_113_M0 hX dX11_clause_4 ?_
  refine h_imul hX dX11_clause_7 ?_
  refine h_aload_n hX dX11_clause_8 rfl rfl ?_
  refine get_RX11_22_M0 hX dX11_clause_9 ?_
  refine h_aload_n hX dX11_clause_12 rfl rfl ?_
  refine get_RX11_113_M0 hX dX11_clause_13 ?_
  refine ald_M5 hX dX11_clause_16 ?_
  refine h_iadd hX dX11_clause_17 ?_
  refine gH.leti (fun v1_1 => ?_)
  refine h_istore_n hX dX11_clause_18 rfl (by decide) (lv' := [(0, .ref (aM B 0)), (1, .int v1_1)]) rfl ?_
  refine h_aload_n hX dX11_clause_19 rfl rfl ?_
  refine get_RX11_110_M0 hX dX11_clause_20 ?_
  refine h_iconst hX dX11_clause_23 ki_m1 ?_
  refine h_icmp_ne hX dX11_clause_24 (tgt := 40) (by decide) (fun _ => ?_) (fun _ => ?_)
  · exact w_M_clause_J40 hX
  · refine h_aload_n hX dX11_clause_27 rfl rfl ?_
    refine h_callVi hX dX11_clause_28 (cv_RX11_122) rc_M0 (As := []) (st := []) (fun _ h => c_M_look h) rfl rfl (by decide) (Nat.le_of_ble_eq_true rfl) (fun a_24 => ?_)
    refine h_bipush hX dX11_clause_31 kb_121 ?_
    refine h_icmp_eq hX dX11_clause_33 (tgt := 40) (by decide) (fun _ => ?_) (fun _ => ?_)
    · exact w_M_clause_J40 hX
    · refine h_aload_n hX dX11_clause_36 rfl rfl ?_
      refine h_callVv hX dX11_clause_37 (cv_RX11_119) rc_M0 (As := []) (st := []) (fun _ h => c_M_bad h) rfl rfl (by decide) (Nat.le_of_ble_eq_true rfl) (fun a_25 => ?_)
      exact w_M_clause_J40 hX
theorem c_M_clause {r : (Int32 × Int32 × Int32 × (Nat → Int32) × (Nat → Int32) × (Nat → Int32) × (Nat → Int32) × (Nat → Int32) × (Nat → Int32) × (Nat → Int32))} (h : f_M_clause m_size m_at m_wrong m_deep m_text m_tape m_code m_value m_codes m_clauses m_testFrom m_sumFrom m_sumTo = some r) : gMet B 341 yX11_clause cX11_clause 3 none [.ref (aM B 0)] (wdM B m_thrown m_size m_at m_wrong m_deep m_laws m_text m_readBoys m_readMarbles m_readFarms m_boys m_marbles m_farms m_holding m_spills m_acts m_draws m_bestRow m_bestMany m_noted m_hasImage m_tape m_code m_value m_codes m_clauses m_testFrom m_sumFrom m_sumTo m_letters m_stack m_readRule m_readBoy m_readMarble m_readFarm m_rule m_boy m_marble m_farm m_now m_refused m_kept m_notePlace m_noteKind m_noteIs m_toldBy m_image ++ fr) (none) (wdM B m_thrown m_size r.1 r.2.1 r.2.2.1 m_laws m_text m_readBoys m_readMarbles m_readFarms m_boys m_marbles m_farms m_holding m_spills m_acts m_draws m_bestRow m_bestMany m_noted m_hasImage m_tape r.2.2.2.1 r.2.2.2.2.1 r.2.2.2.2.2.1 r.2.2.2.2.2.2.1 r.2.2.2.2.2.2.2.1 r.2.2.2.2.2.2.2.2.1 r.2.2.2.2.2.2.2.2.2 m_letters m_stack m_readRule m_readBoy m_readMarble m_readFarm m_rule m_boy m_marble m_farm m_now m_refused m_kept m_notePlace m_noteKind m_noteIs m_toldBy m_image ++ fr) :=
  gMet.of rfl (Nat.le_of_ble_eq_true rfl) (fun X hX hF => w_M_clause hX r h hF)
set_option maxRecDepth 4000 in
theorem w_M_number_J67 {v1 : Int32} {v2 : Int32} {v3 : Int32} (hX : gOk B X RX11 cX11_number 4 2 (some .int)) : gH B X (fun r : (Int32 × Int32 × Int32) => gFin X (some (.int r.1)) (wdM B m_thrown m_size r.2.1 r.2.2 m_deep m_laws m_text m_readBoys m_readMarbles m_readFarms m_boys m_marbles m_farms m_holding m_spills m_acts m_draws m_bestRow m_bestMany m_noted m_hasImage m_tape m_code m_value m_codes m_clauses m_testFrom m_sumFrom m_sumTo m_letters m_stack m_readRule m_readBoy m_readMarble m_readFarm m_rule m_boy m_marble m_farm m_now m_refused m_kept m_notePlace m_noteKind m_noteIs m_toldBy m_image ++ fr)) 67 [(0, .ref (aM B 0)), (1, .int v1), (2, .int v2), (3, .int v3)] [] (wdM B m_thrown m_size m_at m_wrong m_deep m_laws m_text m_readBoys m_readMarbles m_readFarms m_boys m_marbles m_farms m_holding m_spills m_acts m_draws m_bestRow m_bestMany m_noted m_hasImage m_tape m_code m_value m_codes m_clauses m_testFrom m_sumFrom m_sumTo m_letters m_stack m_readRule m_readBoy m_readMarble m_readFarm m_rule m_boy m_marble m_farm m_now m_refused m_kept m_notePlace m_noteKind m_noteIs m_toldBy m_image ++ fr) (f_M_number_J67 m_size m_at m_wrong m_tape v1 v2 v3) := by
  unfold f_M_number_J67
  refine h_aload_n hX dX11_number_67 rfl rfl ?_
  refine h_callVi hX dX11_number_68 (cv_RX11_106) rc_M0 (As := []) (st := []) (fun _ h => c_M_here h) rfl rfl (by decide) (Nat.le_of_ble_eq_true rfl) (fun a_8 => ?_)
  refine h_callSi hX dX11_number_71 (cs_RX11_125) (As := [.int a_8]) (st := []) (fun _ h => c_M_isDigit h) rfl rfl (by decide) (Nat.le_of_ble_eq_true rfl) (fun a_9 => ?_)
  refine h_if_eq hX dX11_number_74 (tgt := 84) (by decide) (fun _ => ?_) (fun _ => ?_)
  · refine h_iload_n hX dX11_number_84 rfl rfl ?_
    refine h_iload_n hX dX11_number_85 rfl rfl ?_
    refine h_iload_n hX dX11_number_86 rfl rfl ?_
    refine h_callSi hX dX11_number_87 (cs_RX11_208) (As := [.int v3, .int v1, .int v2]) (st := []) (fun _ h => c_M_in h) rfl rfl (by decide) (Nat.le_of_ble_eq_true rfl) (fun a_10 => ?_)
    refine h_if_ne hX dX11_number_90 (tgt := 107) (by decide) (fun _ => ?_) (fun _ => ?_)
    · refine h_iload_n hX dX11_number_107 rfl rfl ?_
      exact h_ret hX (rv := some (.int v3)) dX11_number_108 trivial (fun h => h)
    · refine h_aload_n hX dX11_number_93 rfl rfl ?_
      refine h_dup hX dX11_number_94 rfl ?_
      refine get_RX11_103_M0 hX dX11_number_95 ?_
      refine h_iconst hX dX11_number_98 ki_1 ?_
      refine h_isub hX dX11_number_99 ?_
      refine put_RX11_103_M0 hX dX11_number_100 ?_
      refine gH.letw (w := fun y => wdM B m_thrown m_size y m_wrong m_deep m_laws m_text m_readBoys m_readMarbles m_readFarms m_boys m_marbles m_farms m_holding m_spills m_acts m_draws m_bestRow m_bestMany m_noted m_hasImage m_tape m_code m_value m_codes m_clauses m_testFrom m_sumFrom m_sumTo m_letters m_stack m_readRule m_readBoy m_readMarble m_readFarm m_rule m_boy m_marble m_farm m_now m_refused m_kept m_notePlace m_noteKind m_noteIs m_toldBy m_image ++ fr) (fun m_at_11 => ?_)
      refine h_aload_n hX dX11_number_103 rfl rfl ?_
      refine h_callVv hX dX11_number_104 (cv_RX11_119) rc_M0 (As := []) (st := []) (fun _ h => c_M_bad h) rfl rfl (by decide) (Nat.le_of_ble_eq_true rfl) (fun a_12 => ?_)
      refine h_iload_n hX dX11_number_107 rfl rfl ?_
      exact h_ret hX (rv := some (.int v3)) dX11_number_108 trivial (fun h => h)
  · refine h_aload_n hX dX11_number_77 rfl rfl ?_
    refine h_callVv hX dX11_number_78 (cv_RX11_119) rc_M0 (As := []) (st := []) (fun _ h => c_M_bad h) rfl rfl (by decide) (Nat.le_of_ble_eq_true rfl) (fun a_13 => ?_)
    refine h_goto hX dX11_number_81 (tgt := 107) (by decide) ?_
    refine h_iload_n hX dX11_number_107 rfl rfl ?_
    exact h_ret hX (rv := some (.int v3)) dX11_number_108 trivial (fun h => h)
set_option maxRecDepth 4000 in
theorem w_M_number {p0 : Int32} {p1 : Int32} (hX : gOk B X RX11 cX11_number 4 2 (some .int)) : gH B X (fun r : (Int32 × Int32 × Int32) => gFin X (some (.int r.1)) (wdM B m_thrown m_size r.2.1 r.2.2 m_deep m_laws m_text m_readBoys m_readMarbles m_readFarms m_boys m_marbles m_farms m_holding m_spills m_acts m_draws m_bestRow m_bestMany m_noted m_hasImage m_tape m_code m_value m_codes m_clauses m_testFrom m_sumFrom m_sumTo m_letters m_stack m_readRule m_readBoy m_readMarble m_readFarm m_rule m_boy m_marble m_farm m_now m_refused m_kept m_notePlace m_noteKind m_noteIs m_toldBy m_image ++ fr)) 0 [(0, .ref (aM B 0)), (1, .int p0), (2, .int p1)] [] (wdM B m_thrown m_size m_at m_wrong m_deep m_laws m_text m_readBoys m_readMarbles m_readFarms m_boys m_marbles m_farms m_holding m_spills m_acts m_draws m_bestRow m_bestMany m_noted m_hasImage m_tape m_code m_value m_codes m_clauses m_testFrom m_sumFrom m_sumTo m_letters m_stack m_readRule m_readBoy m_readMarble m_readFarm m_rule m_boy m_marble m_farm m_now m_refused m_kept m_notePlace m_noteKind m_noteIs m_toldBy m_image ++ fr) (f_M_number m_size m_at m_wrong m_tape p0 p1) := by
  unfold f_M_number
  refine h_aload_n hX dX11_number_0 rfl rfl ?_
  refine h_callVi hX dX11_number_1 (cv_RX11_122) rc_M0 (As := []) (st := []) (fun _ h => c_M_look h) rfl rfl (by decide) (Nat.le_of_ble_eq_true rfl) (fun a_1 => ?_)
  refine h_callSi hX dX11_number_4 (cs_RX11_125) (As := [.int a_1.1]) (st := []) (fun _ h => c_M_isDigit h) rfl rfl (by decide) (Nat.le_of_ble_eq_true rfl) (fun a_2 => ?_)
  refine h_if_ne hX dX11_number_7 (tgt := 16) (by decide) (fun _ => ?_) (fun _ => ?_)
  · refine h_aload_n hX dX11_number_16 rfl rfl ?_
    refine h_callVi hX dX11_number_17 (cv_RX11_106) rc_M0 (As := []) (st := []) (fun _ h => c_M_here h) rfl rfl (by decide) (Nat.le_of_ble_eq_true rfl) (fun a_3 => ?_)
    refine h_bipush hX dX11_number_20 kb_48 ?_
    refine h_isub hX dX11_number_22 ?_
    refine gH.leti (fun v3_4 => ?_)
    refine h_istore_n hX dX11_number_23 rfl (by decide) (lv' := [(0, .ref (aM B 0)), (1, .int p0), (2, .int p1), (3, .int v3_4)]) rfl ?_
    refine h_aload_n hX dX11_number_24 rfl rfl ?_
    refine h_dup hX dX11_number_25 rfl ?_
    refine get_RX11_103_M0 hX dX11_number_26 ?_
    refine h_iconst hX dX11_number_29 ki_1 ?_
    refine h_iadd hX dX11_number_30 ?_
    refine put_RX11_103_M0 hX dX11_number_31 ?_
    refine gH.letw (w := fun y => wdM B m_thrown m_size y m_wrong m_deep m_laws m_text m_readBoys m_readMarbles m_readFarms m_boys m_marbles m_farms m_holding m_spills m_acts m_draws m_bestRow m_bestMany m_noted m_hasImage m_tape m_code m_value m_codes m_clauses m_testFrom m_sumFrom m_sumTo m_letters m_stack m_readRule m_readBoy m_readMarble m_readFarm m_rule m_boy m_marble m_farm m_now m_refused m_kept m_notePlace m_noteKind m_noteIs m_toldBy m_image ++ fr) (fun m_at_5 => ?_)
    refine h_aload_n hX dX11_number_34 rfl rfl ?_
    refine h_callVi hX dX11_number_35 (cv_RX11_106) rc_M0 (As := []) (st := []) (fun _ h => c_M_here h) rfl rfl (by decide) (Nat.le_of_ble_eq_true rfl) (fun a_6 => ?_)
    refine h_callSi hX dX11_number_38 (cs_RX11_125) (As := [.int a_6]) (st := []) (fun _ h => c_M_isDigit h) rfl rfl (by decide) (Nat.le_of_ble_eq_true rfl) (fun a_7 => ?_)
    refine h_if_eq hX dX11_number_41 (tgt := 67) (by decide) (fun _ => ?_) (fun _ => ?_)
    · exact w_M_number_J67 hX
    · refine h_bipush hX dX11_number_44 kb_10 ?_
      refine h_iload_n hX dX11_number_46 rfl rfl ?_
      refine h_imul hX dX11_number_47 ?_
      refine h_aload_n hX dX11_number_48 rfl rfl ?_
      refine h_callVi hX dX11_number_49 (cv_RX11_106) rc_M0 (As := []) (st := [.int (10 * v3_4)]) (fun _ h => c_M_here h) rfl rfl (by decide) (Nat.le_of_ble_eq_true rfl) (fun a_14 => ?_)
      refine h_iadd hX dX11_number_52 ?_
      refine h_bipush hX dX11_number_53 kb_48 ?_
      refine h_isub hX dX11_number_55 ?_
      refine gH.leti (fun v3_15 => ?_)
      refine h_istore_n hX dX11_number_56 rfl (by decide) (lv' := [(0, .ref (aM B 0)), (1, .int p0), (2, .int p1), (3, .int v3_15)]) rfl ?_
      refine h_aload_n hX dX11_number_57 rfl rfl ?_
      refine h_dup hX dX11_number_58 rfl ?_
      refine get_RX11_103_M0 hX dX11_number_59 ?_
      refine h_iconst hX dX11_number_62 ki_1 ?_
      refine h_iadd hX dX11_number_63 ?_
      refine put_RX11_103_M0 hX dX11_number_64 ?_
      refine gH.letw (w := fun y => wdM B m_thrown m_size y m_wrong m_deep m_laws m_text m_readBoys m_readMarbles m_readFarms m_boys m_marbles m_farms m_holding m_spills m_acts m_draws m_bestRow m_bestMany m_noted m_hasImage m_tape m_code m_value m_codes m_clauses m_testFrom m_sumFrom m_sumTo m_letters m_stack m_readRule m_readBoy m_readMarble m_readFarm m_rule m_boy m_marble m_farm m_now m_refused m_kept m_notePlace m_noteKind m_noteIs m_toldBy m_image ++ fr) (fun m_at_16 => ?_)
      exact w_M_number_J67 hX
  · refine h_aload_n hX dX11_number_10 rfl rfl ?_
    refine h_callVv hX dX11_number_11 (cv_RX11_119) rc_M0 (As := []) (st := []) (fun _ h => c_M_bad h) rfl rfl (by decide) (Nat.le_of_ble_eq_true rfl) (fun a_17 => ?_)
    refine h_iload_n hX dX11_number_14 rfl rfl ?_
    exact h_ret hX (rv := some (.int p0)) dX11_number_15 trivial (fun h => h)
theorem c_M_number {p0 : Int32} {p1 : Int32} {r : (Int32 × Int32 × Int32)} (h : f_M_number m_size m_at m_wrong m_tape p0 p1 = some r) : gMet B 2 yX11_number cX11_number 4 (some .int) [.ref (aM B 0), .int p0, .int p1] (wdM B m_thrown m_size m_at m_wrong m_deep m_laws m_text m_readBoys m_readMarbles m_readFarms m_boys m_marbles m_farms m_holding m_spills m_acts m_draws m_bestRow m_bestMany m_noted m_hasImage m_tape m_code m_value m_codes m_clauses m_testFrom m_sumFrom m_sumTo m_letters m_stack m_readRule m_readBoy m_readMarble m_readFarm m_rule m_boy m_marble m_farm m_now m_refused m_kept m_notePlace m_noteKind m_noteIs m_toldBy m_image ++ fr) (some (.int r.1)) (wdM B m_thrown m_size r.2.1 r.2.2 m_deep m_laws m_text m_readBoys m_readMarbles m_readFarms m_boys m_marbles m_farms m_holding m_spills m_acts m_draws m_bestRow m_bestMany m_noted m_hasImage m_tape m_code m_value m_codes m_clauses m_testFrom m_sumFrom m_sumTo m_letters m_stack m_readRule m_readBoy m_readMarble m_readFarm m_rule m_boy m_marble m_farm m_now m_refused m_kept m_notePlace m_noteKind m_noteIs m_toldBy m_image ++ fr) :=
  gMet.of rfl (Nat.le_of_ble_eq_true rfl) (fun X hX hF => w_M_number hX r h hF)
set_option maxRecDepth 4000 in
theorem w_M_items_M14_J126 {v1 : Int32} {v3 : Int32} {v5 : Int32} {k0 : Int32} (hX : gOk B X RX11 cX11_items 7 3 none) : gH B X (Sum.elim (fun s : (Int32 × Int32 × Int32 × Int32 × (Nat → Int32)) => gG B X 41 [(0, .ref (aM B 0)), (1, .int v1), (2, .ref (aM B 14)), (3, .int v3), (5, .int s.1), (6, .int s.2.1)] [] (wdM B m_thrown m_size s.2.2.1 s.2.2.2.1 m_deep m_laws m_text m_readBoys m_readMarbles m_readFarms m_boys m_marbles m_farms m_holding m_spills m_acts m_draws m_bestRow m_bestMany m_noted m_hasImage m_tape m_code m_value m_codes m_clauses m_testFrom m_sumFrom m_sumTo m_letters m_stack m_readRule m_readBoy m_readMarble s.2.2.2.2 m_rule m_boy m_marble m_farm m_now m_refused m_kept m_notePlace m_noteKind m_noteIs m_toldBy m_image ++ fr)) (fun r : (Int32 × Int32 × (Nat → Int32)) => gFin X (none) (wdM B m_thrown m_size r.1 r.2.1 m_deep m_laws m_text m_readBoys m_readMarbles m_readFarms m_boys m_marbles m_farms m_holding m_spills m_acts m_draws m_bestRow m_bestMany m_noted m_hasImage m_tape m_code m_value m_codes m_clauses m_testFrom m_sumFrom m_sumTo m_letters m_stack m_readRule m_readBoy m_readMarble r.2.2 m_rule m_boy m_marble m_farm m_now m_refused m_kept m_notePlace m_noteKind m_noteIs m_toldBy m_image ++ fr))) 126 [(0, .ref (aM B 0)), (1, .int v1), (2, .ref (aM B 14)), (3, .int v3), (5, .int v5)] [.int k0] (wdM B m_thrown m_size m_at m_wrong m_deep m_laws m_text m_readBoys m_readMarbles m_readFarms m_boys m_marbles m_farms m_holding m_spills m_acts m_draws m_bestRow m_bestMany m_noted m_hasImage m_tape m_code m_value m_codes m_clauses m_testFrom m_sumFrom m_sumTo m_letters m_stack m_readRule m_readBoy m_readMarble m_readFarm m_rule m_boy m_marble m_farm m_now m_refused m_kept m_notePlace m_noteKind m_noteIs m_toldBy m_image ++ fr) (f_M_items_M14_J126 m_at m_wrong m_readFarm v5 k0) := by
  unfold f_M_items_M14_J126
  refine h_istore hX dX11_items_126 (by decide) (lv' := [(0, .ref (aM B 0)), (1, .int v1), (2, .ref (aM B 14)), (3, .int v3), (5, .int v5), (6, .int k0)]) rfl ?_
  refine h_goto hX dX11_items_128 (tgt := 41) (by decide) ?_
  exact gH.some' (fun h => h)
set_option maxRecDepth 4000 in
theorem w_M_items_M14_L41 {v1 : Int32} {v3 : Int32} (hX : gOk B X RX11 cX11_items 7 3 none) (s : (Int32 × Int32 × Int32 × Int32 × (Nat → Int32))) : gH B X (Sum.elim (fun s : (Int32 × Int32 × Int32 × Int32 × (Nat → Int32)) => gG B X 41 [(0, .ref (aM B 0)), (1, .int v1), (2, .ref (aM B 14)), (3, .int v3), (5, .int s.1), (6, .int s.2.1)] [] (wdM B m_thrown m_size s.2.2.1 s.2.2.2.1 m_deep m_laws m_text m_readBoys m_readMarbles m_readFarms m_boys m_marbles m_farms m_holding m_spills m_acts m_draws m_bestRow m_bestMany m_noted m_hasImage m_tape m_code m_value m_codes m_clauses m_testFrom m_sumFrom m_sumTo m_letters m_stack m_readRule m_readBoy m_readMarble s.2.2.2.2 m_rule m_boy m_marble m_farm m_now m_refused m_kept m_notePlace m_noteKind m_noteIs m_toldBy m_image ++ fr)) (fun r : (Int32 × Int32 × (Nat → Int32)) => gFin X (none) (wdM B m_thrown m_size r.1 r.2.1 m_deep m_laws m_text m_readBoys m_readMarbles m_readFarms m_boys m_marbles m_farms m_holding m_spills m_acts m_draws m_bestRow m_bestMany m_noted m_hasImage m_tape m_code m_value m_codes m_clauses m_testFrom m_sumFrom m_sumTo m_letters m_stack m_readRule m_readBoy m_readMarble r.2.2 m_rule m_boy m_marble m_farm m_now m_refused m_kept m_notePlace m_noteKind m_noteIs m_toldBy m_image ++ fr))) 41 [(0, .ref (aM B 0)), (1, .int v1), (2, .ref (aM B 14)), (3, .int v3), (5, .int s.1), (6, .int s.2.1)] [] (wdM B m_thrown m_size s.2.2.1 s.2.2.2.1 m_deep m_laws m_text m_readBoys m_readMarbles m_readFarms m_boys m_marbles m_farms m_holding m_spills m_acts m_draws m_bestRow m_bestMany m_noted m_hasImage m_tape m_code m_value m_codes m_clauses m_testFrom m_sumFrom m_sumTo m_letters m_stack m_readRule m_readBoy m_readMarble s.2.2.2.2 m_rule m_boy m_marble m_farm m_now m_refused m_kept m_notePlace m_noteKind m_noteIs m_toldBy m_image ++ fr) (f_M_items_M14_L41 m_size m_tape v1 v3 s) := by
  unfold f_M_items_M14_L41
  refine h_aload_n hX dX11_items_41 rfl rfl ?_
  refine get_RX11_110_M0 hX dX11_items_42 ?_
  refine h_iconst hX dX11_items_45 ki_m1 ?_
  refine h_icmp_ne hX dX11_items_46 (tgt := 131) (by decide) (fun _ => ?_) (fun _ => ?_)
  · exact h_ret hX (rv := none) dX11_items_131 trivial (fun h => h)
  · refine h_iload hX dX11_items_49 rfl ?_
    refine h_iconst hX dX11_items_51 ki_m1 ?_
    refine h_icmp_eq hX dX11_items_52 (tgt := 131) (by decide) (fun _ => ?_) (fun _ => ?_)
    · exact h_ret hX (rv := none) dX11_items_131 trivial (fun h => h)
    · refine h_iload hX dX11_items_55 rfl ?_
      refine h_iload hX dX11_items_57 rfl ?_
      refine h_callSi hX dX11_items_59 (cs_RX11_219) (As := [.int s.1, .int s.2.1]) (st := []) (fun _ h => c_M_has h) rfl rfl (by decide) (Nat.le_of_ble_eq_true rfl) (fun a_3 => ?_)
      refine h_if_ne hX dX11_items_62 (tgt := 131) (by decide) (fun _ => ?_) (fun _ => ?_)
      · exact h_ret hX (rv := none) dX11_items_131 trivial (fun h => h)
      · refine h_iload hX dX11_items_65 rfl ?_
        refine h_iconst hX dX11_items_67 ki_1 ?_
        refine h_iload hX dX11_items_68 rfl ?_
        refine h_ishl hX dX11_items_70 ?_
        refine h_ior hX dX11_items_71 ?_
        refine gH.leti (fun v5_4 => ?_)
        refine h_istore hX dX11_items_72 (by decide) (lv' := [(0, .ref (aM B 0)), (1, .int v1), (2, .ref (aM B 14)), (3, .int v3), (5, .int v5_4), (6, .int s.2.1)]) rfl ?_
        refine h_aload_n hX dX11_items_74 rfl rfl ?_
        refine h_dup hX dX11_items_75 rfl ?_
        refine get_RX11_103_M0 hX dX11_items_76 ?_
        refine h_iconst hX dX11_items_79 ki_1 ?_
        refine h_iadd hX dX11_items_80 ?_
        refine put_RX11_103_M0 hX dX11_items_81 ?_
        refine gH.letw (w := fun y => wdM B m_thrown m_size y s.2.2.2.1 m_deep m_laws m_text m_readBoys m_readMarbles m_readFarms m_boys m_marbles m_farms m_holding m_spills m_acts m_draws m_bestRow m_bestMany m_noted m_hasImage m_tape m_code m_value m_codes m_clauses m_testFrom m_sumFrom m_sumTo m_letters m_stack m_readRule m_readBoy m_readMarble s.2.2.2.2 m_rule m_boy m_marble m_farm m_now m_refused m_kept m_notePlace m_noteKind m_noteIs m_toldBy m_image ++ fr) (fun m_at_5 => ?_)
        refine h_aload_n hX dX11_items_84 rfl rfl ?_
        refine h_iload_n hX dX11_items_85 rfl rfl ?_
        refine h_iload hX dX11_items_86 rfl ?_
        refine h_iadd hX dX11_items_88 ?_
        refine h_aload_n hX dX11_items_89 rfl rfl ?_
        refine h_iload_n hX dX11_items_90 rfl rfl ?_
        refine h_iload hX dX11_items_91 rfl ?_
        refine h_callSi hX dX11_items_93 (cs_RX11_223) (As := [.int v1, .int s.2.1]) (st := [.ref (aM B 0), .int (v3 + s.2.1), .ref (aM B 14)]) (fun _ h => c_M_lowest h) rfl rfl (by decide) (Nat.le_of_ble_eq_true rfl) (fun a_6 => ?_)
        refine h_iload_n hX dX11_items_96 rfl rfl ?_
        refine h_iload hX dX11_items_97 rfl ?_
        refine h_callSi hX dX11_items_99 (cs_RX11_226) (As := [.int v1, .int s.2.1]) (st := [.int a_6, .ref (aM B 0), .int (v3 + s.2.1), .ref (aM B 14)]) (fun _ h => c_M_highest h) rfl rfl (by decide) (Nat.le_of_ble_eq_true rfl) (fun a_7 => ?_)
        refine h_callVi hX dX11_items_102 (cv_RX11_229) rc_M0 (As := [.int a_6, .int a_7]) (st := [.int (v3 + s.2.1), .ref (aM B 14)]) (fun _ h => c_M_number h) rfl rfl (by decide) (Nat.le_of_ble_eq_true rfl) (fun a_8 => ?_)
        refine ast_M14 hX dX11_items_105 ?_
        refine gH.letw (w := fun y => wdM B m_thrown m_size a_8.2.1 a_8.2.2 m_deep m_laws m_text m_readBoys m_readMarbles m_readFarms m_boys m_marbles m_farms m_holding m_spills m_acts m_draws m_bestRow m_bestMany m_noted m_hasImage m_tape m_code m_value m_codes m_clauses m_testFrom m_sumFrom m_sumTo m_letters m_stack m_readRule m_readBoy m_readMarble y m_rule m_boy m_marble m_farm m_now m_refused m_kept m_notePlace m_noteKind m_noteIs m_toldBy m_image ++ fr) (fun m_readFarm_9 => ?_)
        refine h_aload_n hX dX11_items_106 rfl rfl ?_
        refine get_RX11_110_M0 hX dX11_items_107 ?_
        refine h_iconst hX dX11_items_110 ki_m1 ?_
        refine h_icmp_ne hX dX11_items_111 (tgt := 125) (by decide) (fun _ => ?_) (fun _ => ?_)
        · refine h_iconst hX dX11_items_125 ki_m1 ?_
          refine gH.dead [0, 1, 2, 3, 4] rfl ?_
          exact w_M_items_M14_J126 hX
        · refine h_iload_n hX dX11_items_114 rfl rfl ?_
          refine h_aload_n hX dX11_items_115 rfl rfl ?_
          refine h_callVi hX dX11_items_116 (cv_RX11_122) rc_M0 (As := []) (st := [.int v1]) (fun _ h => c_M_look h) rfl rfl (by decide) (Nat.le_of_ble_eq_true rfl) (fun a_10 => ?_)
          refine h_callSi hX dX11_items_119 (cs_RX11_216) (As := [.int v1, .int a_10.1]) (st := []) (fun _ h => c_M_itemOf h) rfl rfl (by decide) (Nat.le_of_ble_eq_true rfl) (fun a_11 => ?_)
          refine h_goto hX dX11_items_122 (tgt := 126) (by decide) ?_
          refine gH.dead [0, 1, 2, 3, 4] rfl ?_
          exact w_M_items_M14_J126 hX
set_option maxRecDepth 4000 in
theorem w_M_items_M14_L3 {v1 : Int32} {v3 : Int32} {v4 : Int32} (hX : gOk B X RX11 cX11_items 7 3 none) (s : (Int32 × (Nat → Int32))) : gH B X (Sum.elim (fun s : (Int32 × (Nat → Int32)) => gG B X 3 [(0, .ref (aM B 0)), (1, .int v1), (2, .ref (aM B 14)), (3, .int v3), (4, .int v4), (5, .int s.1)] [] (wdM B m_thrown m_size m_at m_wrong m_deep m_laws m_text m_readBoys m_readMarbles m_readFarms m_boys m_marbles m_farms m_holding m_spills m_acts m_draws m_bestRow m_bestMany m_noted m_hasImage m_tape m_code m_value m_codes m_clauses m_testFrom m_sumFrom m_sumTo m_letters m_stack m_readRule m_readBoy m_readMarble s.2 m_rule m_boy m_marble m_farm m_now m_refused m_kept m_notePlace m_noteKind m_noteIs m_toldBy m_image ++ fr)) (fun r : (Int32 × Int32 × (Nat → Int32)) => gFin X (none) (wdM B m_thrown m_size r.1 r.2.1 m_deep m_laws m_text m_readBoys m_readMarbles m_readFarms m_boys m_marbles m_farms m_holding m_spills m_acts m_draws m_bestRow m_bestMany m_noted m_hasImage m_tape m_code m_value m_codes m_clauses m_testFrom m_sumFrom m_sumTo m_letters m_stack m_readRule m_readBoy m_readMarble r.2.2 m_rule m_boy m_marble m_farm m_now m_refused m_kept m_notePlace m_noteKind m_noteIs m_toldBy m_image ++ fr))) 3 [(0, .ref (aM B 0)), (1, .int v1), (2, .ref (aM B 14)), (3, .int v3), (4, .int v4), (5, .int s.1)] [] (wdM B m_thrown m_size m_at m_wrong m_deep m_laws m_text m_readBoys m_readMarbles m_readFarms m_boys m_marbles m_farms m_holding m_spills m_acts m_draws m_bestRow m_bestMany m_noted m_hasImage m_tape m_code m_value m_codes m_clauses m_testFrom m_sumFrom m_sumTo m_letters m_stack m_readRule m_readBoy m_readMarble s.2 m_rule m_boy m_marble m_farm m_now m_refused m_kept m_notePlace m_noteKind m_noteIs m_toldBy m_image ++ fr) (f_M_items_M14_L3 m_size m_at m_wrong m_tape v1 v3 v4 s) := by
  unfold f_M_items_M14_L3
  refine h_iload hX dX11_items_3 rfl ?_
  refine h_iload hX dX11_items_5 rfl ?_
  refine h_icmp_ge hX dX11_items_7 (tgt := 28) (by decide) (fun _ => ?_) (fun _ => ?_)
  · refine gH.inr ?_
    refine h_iconst hX dX11_items_28 ki_0 ?_
    refine h_istore hX dX11_items_29 (by decide) (lv' := [(0, .ref (aM B 0)), (1, .int v1), (2, .ref (aM B 14)), (3, .int v3), (4, .int v4), (5, .int 0)]) rfl ?_
    refine h_iload_n hX dX11_items_31 rfl rfl ?_
    refine h_aload_n hX dX11_items_32 rfl rfl ?_
    refine h_callVi hX dX11_items_33 (cv_RX11_122) rc_M0 (As := []) (st := [.int v1]) (fun _ h => c_M_look h) rfl rfl (by decide) (Nat.le_of_ble_eq_true rfl) (fun a_1 => ?_)
    refine h_callSi hX dX11_items_36 (cs_RX11_216) (As := [.int v1, .int a_1.1]) (st := []) (fun _ h => c_M_itemOf h) rfl rfl (by decide) (Nat.le_of_ble_eq_true rfl) (fun a_2 => ?_)
    refine h_istore hX dX11_items_39 (by decide) (lv' := [(0, .ref (aM B 0)), (1, .int v1), (2, .ref (aM B 14)), (3, .int v3), (4, .int v4), (5, .int 0), (6, .int a_2)]) rfl ?_
    refine gH.dead [0, 1, 2, 3, 5, 6] rfl ?_
    exact gH.loop (lvf := fun z : (Int32 × Int32 × Int32 × Int32 × (Nat → Int32)) => [(0, .ref (aM B 0)), (1, .int v1), (2, .ref (aM B 14)), (3, .int v3), (5, .int z.1), (6, .int z.2.1)]) (wf := fun z : (Int32 × Int32 × Int32 × Int32 × (Nat → Int32)) => wdM B m_thrown m_size z.2.2.1 z.2.2.2.1 m_deep m_laws m_text m_readBoys m_readMarbles m_readFarms m_boys m_marbles m_farms m_holding m_spills m_acts m_draws m_bestRow m_bestMany m_noted m_hasImage m_tape m_code m_value m_codes m_clauses m_testFrom m_sumFrom m_sumTo m_letters m_stack m_readRule m_readBoy m_readMarble z.2.2.2.2 m_rule m_boy m_marble m_farm m_now m_refused m_kept m_notePlace m_noteKind m_noteIs m_toldBy m_image ++ fr) (fun z => w_M_items_M14_L41 hX z) (0, a_2, a_1.2, m_wrong, s.2)
  · refine h_aload_n hX dX11_items_10 rfl rfl ?_
    refine h_iload_n hX dX11_items_11 rfl rfl ?_
    refine h_iload hX dX11_items_12 rfl ?_
    refine h_iadd hX dX11_items_14 ?_
    refine h_iload_n hX dX11_items_15 rfl rfl ?_
    refine h_iload hX dX11_items_16 rfl ?_
    refine h_callSi hX dX11_items_18 (cs_RX11_212) (As := [.int v1, .int s.1]) (st := [.int (v3 + s.1), .ref (aM B 14)]) (fun _ h => c_M_usual h) rfl rfl (by decide) (Nat.le_of_ble_eq_true rfl) (fun a_12 => ?_)
    refine ast_M14 hX dX11_items_21 ?_
    refine gH.letw (w := fun y => wdM B m_thrown m_size m_at m_wrong m_deep m_laws m_text m_readBoys m_readMarbles m_readFarms m_boys m_marbles m_farms m_holding m_spills m_acts m_draws m_bestRow m_bestMany m_noted m_hasImage m_tape m_code m_value m_codes m_clauses m_testFrom m_sumFrom m_sumTo m_letters m_stack m_readRule m_readBoy m_readMarble y m_rule m_boy m_marble m_farm m_now m_refused m_kept m_notePlace m_noteKind m_noteIs m_toldBy m_image ++ fr) (fun m_readFarm_13 => ?_)
    refine h_iincc hX dX11_items_22 rfl ki_1 (by decide) (lv' := [(0, .ref (aM B 0)), (1, .int v1), (2, .ref (aM B 14)), (3, .int v3), (4, .int v4), (5, .int (s.1 + 1))]) rfl ?_
    refine h_goto hX dX11_items_25 (tgt := 3) (by decide) ?_
    exact gH.some' (fun h => h)
set_option maxRecDepth 4000 in
theorem w_M_items_M14 {p0 : Int32} {p1 : Int32} {p2 : Int32} (hX : gOk B X RX11 cX11_items 7 3 none) : gH B X (fun r : (Int32 × Int32 × (Nat → Int32)) => gFin X (none) (wdM B m_thrown m_size r.1 r.2.1 m_deep m_laws m_text m_readBoys m_readMarbles m_readFarms m_boys m_marbles m_farms m_holding m_spills m_acts m_draws m_bestRow m_bestMany m_noted m_hasImage m_tape m_code m_value m_codes m_clauses m_testFrom m_sumFrom m_sumTo m_letters m_stack m_readRule m_readBoy m_readMarble r.2.2 m_rule m_boy m_marble m_farm m_now m_refused m_kept m_notePlace m_noteKind m_noteIs m_toldBy m_image ++ fr)) 0 [(0, .ref (aM B 0)), (1, .int p0), (2, .ref (aM B 14)), (3, .int p1), (4, .int p2)] [] (wdM B m_thrown m_size m_at m_wrong m_deep m_laws m_text m_readBoys m_readMarbles m_readFarms m_boys m_marbles m_farms m_holding m_spills m_acts m_draws m_bestRow m_bestMany m_noted m_hasImage m_tape m_code m_value m_codes m_clauses m_testFrom m_sumFrom m_sumTo m_letters m_stack m_readRule m_readBoy m_readMarble m_readFarm m_rule m_boy m_marble m_farm m_now m_refused m_kept m_notePlace m_noteKind m_noteIs m_toldBy m_image ++ fr) (f_M_items_M14 m_size m_at m_wrong m_tape m_readFarm p0 p1 p2) := by
  unfold f_M_items_M14
  refine h_iconst hX dX11_items_0 ki_0 ?_
  refine h_istore hX dX11_items_1 (by decide) (lv' := [(0, .ref (aM B 0)), (1, .int p0), (2, .ref (aM B 14)), (3, .int p1), (4, .int p2), (5, .int 0)]) rfl ?_
  exact gH.loop (lvf := fun z : (Int32 × (Nat → Int32)) => [(0, .ref (aM B 0)), (1, .int p0), (2, .ref (aM B 14)), (3, .int p1), (4, .int p2), (5, .int z.1)]) (wf := fun z : (Int32 × (Nat → Int32)) => wdM B m_thrown m_size m_at m_wrong m_deep m_laws m_text m_readBoys m_readMarbles m_readFarms m_boys m_marbles m_farms m_holding m_spills m_acts m_draws m_bestRow m_bestMany m_noted m_hasImage m_tape m_code m_value m_codes m_clauses m_testFrom m_sumFrom m_sumTo m_letters m_stack m_readRule m_readBoy m_readMarble z.2 m_rule m_boy m_marble m_farm m_now m_refused m_kept m_notePlace m_noteKind m_noteIs m_toldBy m_image ++ fr) (fun z => w_M_items_M14_L3 hX z) (0, m_readFarm)
theorem c_M_items_M14 {p0 : Int32} {p1 : Int32} {p2 : Int32} {r : (Int32 × Int32 × (Nat → Int32))} (h : f_M_items_M14 m_size m_at m_wrong m_tape m_readFarm p0 p1 p2 = some r) : gMet B 3 yX11_items cX11_items 7 none [.ref (aM B 0), .int p0, .ref (aM B 14), .int p1, .int p2] (wdM B m_thrown m_size m_at m_wrong m_deep m_laws m_text m_readBoys m_readMarbles m_readFarms m_boys m_marbles m_farms m_holding m_spills m_acts m_draws m_bestRow m_bestMany m_noted m_hasImage m_tape m_code m_value m_codes m_clauses m_testFrom m_sumFrom m_sumTo m_letters m_stack m_readRule m_readBoy m_readMarble m_readFarm m_rule m_boy m_marble m_farm m_now m_refused m_kept m_notePlace m_noteKind m_noteIs m_toldBy m_image ++ fr) (none) (wdM B m_thrown m_size r.1 r.2.1 m_deep m_laws m_text m_readBoys m_readMarbles m_readFarms m_boys m_marbles m_farms m_holding m_spills m_acts m_draws m_bestRow m_bestMany m_noted m_hasImage m_tape m_code m_value m_codes m_clauses m_testFrom m_sumFrom m_sumTo m_letters m_stack m_readRule m_readBoy m_readMarble r.2.2 m_rule m_boy m_marble m_farm m_now m_refused m_kept m_notePlace m_noteKind m_noteIs m_toldBy m_image ++ fr) :=
  gMet.of rfl (Nat.le_of_ble_eq_true rfl) (fun X hX hF => w_M_items_M14 hX r h hF)
set_option maxRecDepth 4000 in
theorem w_M_items_M13_J126 {v1 : Int32} {v3 : Int32} {v5 : Int32} {k0 : Int32} (hX : gOk B X RX11 cX11_items 7 3 none) : gH B X (Sum.elim (fun s : (Int32 × Int32 × Int32 × Int32 × (Nat → Int32)) => gG B X 41 [(0, .ref (aM B 0)), (1, .int v1), (2, .ref (aM B 13)), (3, .int v3), (5, .int s.1), (6, .int s.2.1)] [] (wdM B m_thrown m_size s.2.2.1 s.2.2.2.1 m_deep m_laws m_text m_readBoys m_readMarbles m_readFarms m_boys m_marbles m_farms m_holding m_spills m_acts m_draws m_bestRow m_bestMany m_noted m_hasImage m_tape m_code m_value m_codes m_clauses m_testFrom m_sumFrom m_sumTo m_letters m_stack m_readRule m_readBoy s.2.2.2.2 m_readFarm m_rule m_boy m_marble m_farm m_now m_refused m_kept m_notePlace m_noteKind m_noteIs m_toldBy m_image ++ fr)) (fun r : (Int32 × Int32 × (Nat → Int32)) => gFin X (none) (wdM B m_thrown m_size r.1 r.2.1 m_deep m_laws m_text m_readBoys m_readMarbles m_readFarms m_boys m_marbles m_farms m_holding m_spills m_acts m_draws m_bestRow m_bestMany m_noted m_hasImage m_tape m_code m_value m_codes m_clauses m_testFrom m_sumFrom m_sumTo m_letters m_stack m_readRule m_readBoy r.2.2 m_readFarm m_rule m_boy m_marble m_farm m_now m_refused m_kept m_notePlace m_noteKind m_noteIs m_toldBy m_image ++ fr))) 126 [(0, .ref (aM B 0)), (1, .int v1), (2, .ref (aM B 13)), (3, .int v3), (5, .int v5)] [.int k0] (wdM B m_thrown m_size m_at m_wrong m_deep m_laws m_text m_readBoys m_readMarbles m_readFarms m_boys m_marbles m_farms m_holding m_spills m_acts m_draws m_bestRow m_bestMany m_noted m_hasImage m_tape m_code m_value m_codes m_clauses m_testFrom m_sumFrom m_sumTo m_letters m_stack m_readRule m_readBoy m_readMarble m_readFarm m_rule m_boy m_marble m_farm m_now m_refused m_kept m_notePlace m_noteKind m_noteIs m_toldBy m_image ++ fr) (f_M_items_M13_J126 m_at m_wrong m_readMarble v5 k0) := by
  unfold f_M_items_M13_J126
  refine h_istore hX dX11_items_126 (by decide) (lv' := [(0, .ref (aM B 0)), (1, .int v1), (2, .ref (aM B 13)), (3, .int v3), (5, .int v5), (6, .int k0)]) rfl ?_
  refine h_goto hX dX11_items_128 (tgt := 41) (by decide) ?_
  exact gH.some' (fun h => h)
set_option maxRecDepth 4000 in
theorem w_M_items_M13_L41 {v1 : Int32} {v3 : Int32} (hX : gOk B X RX11 cX11_items 7 3 none) (s : (Int32 × Int32 × Int32 × Int32 × (Nat → Int32))) : gH B X (Sum.elim (fun s : (Int32 × Int32 × Int32 × Int32 × (Nat → Int32)) => gG B X 41 [(0, .ref (aM B 0)), (1, .int v1), (2, .ref (aM B 13)), (3, .int v3), (5, .int s.1), (6, .int s.2.1)] [] (wdM B m_thrown m_size s.2.2.1 s.2.2.2.1 m_deep m_laws m_text m_readBoys m_readMarbles m_readFarms m_boys m_marbles m_farms m_holding m_spills m_acts m_draws m_bestRow m_bestMany m_noted m_hasImage m_tape m_code m_value m_codes m_clauses m_testFrom m_sumFrom m_sumTo m_letters m_stack m_readRule m_readBoy s.2.2.2.2 m_readFarm m_rule m_boy m_marble m_farm m_now m_refused m_kept m_notePlace m_noteKind m_noteIs m_toldBy m_image ++ fr)) (fun r : (Int32 × Int32 × (Nat → Int32)) => gFin X (none) (wdM B m_thrown m_size r.1 r.2.1 m_deep m_laws m_text m_readBoys m_readMarbles m_readFarms m_boys m_marbles m_farms m_holding m_spills m_acts m_draws m_bestRow m_bestMany m_noted m_hasImage m_tape m_code m_value m_codes m_clauses m_testFrom m_sumFrom m_sumTo m_letters m_stack m_readRule m_readBoy r.2.2 m_readFarm m_rule m_boy m_marble m_farm m_now m_refused m_kept m_notePlace m_noteKind m_noteIs m_toldBy m_image ++ fr))) 41 [(0, .ref (aM B 0)), (1, .int v1), (2, .ref (aM B 13)), (3, .int v3), (5, .int s.1), (6, .int s.2.1)] [] (wdM B m_thrown m_size s.2.2.1 s.2.2.2.1 m_deep m_laws m_text m_readBoys m_readMarbles m_readFarms m_boys m_marbles m_farms m_holding m_spills m_acts m_draws m_bestRow m_bestMany m_noted m_hasImage m_tape m_code m_value m_codes m_clauses m_testFrom m_sumFrom m_sumTo m_letters m_stack m_readRule m_readBoy s.2.2.2.2 m_readFarm m_rule m_boy m_marble m_farm m_now m_refused m_kept m_notePlace m_noteKind m_noteIs m_toldBy m_image ++ fr) (f_M_items_M13_L41 m_size m_tape v1 v3 s) := by
  unfold f_M_items_M13_L41
  refine h_aload_n hX dX11_items_41 rfl rfl ?_
  refine get_RX11_110_M0 hX dX11_items_42 ?_
  refine h_iconst hX dX11_items_45 ki_m1 ?_
  refine h_icmp_ne hX dX11_items_46 (tgt := 131) (by decide) (fun _ => ?_) (fun _ => ?_)
  · exact h_ret hX (rv := none) dX11_items_131 trivial (fun h => h)
  · refine h_iload hX dX11_items_49 rfl ?_
    refine h_iconst hX dX11_items_51 ki_m1 ?_
    refine h_icmp_eq hX dX11_items_52 (tgt := 131) (by decide) (fun _ => ?_) (fun _ => ?_)
    · exact h_ret hX (rv := none) dX11_items_131 trivial (fun h => h)
    · refine h_iload hX dX11_items_55 rfl ?_
      refine h_iload hX dX11_items_57 rfl ?_
      refine h_callSi hX dX11_items_59 (cs_RX11_219) (As := [.int s.1, .int s.2.1]) (st := []) (fun _ h => c_M_has h) rfl rfl (by decide) (Nat.le_of_ble_eq_true rfl) (fun a_3 => ?_)
      refine h_if_ne hX dX11_items_62 (tgt := 131) (by decide) (fun _ => ?_) (fun _ => ?_)
      · exact h_ret hX (rv := none) dX11_items_131 trivial (fun h => h)
      · refine h_iload hX dX11_items_65 rfl ?_
        refine h_iconst hX dX11_items_67 ki_1 ?_
        refine h_iload hX dX11_items_68 rfl ?_
        refine h_ishl hX dX11_items_70 ?_
        refine h_ior hX dX11_items_71 ?_
        refine gH.leti (fun v5_4 => ?_)
        refine h_istore hX dX11_items_72 (by decide) (lv' := [(0, .ref (aM B 0)), (1, .int v1), (2, .ref (aM B 13)), (3, .int v3), (5, .int v5_4), (6, .int s.2.1)]) rfl ?_
        refine h_aload_n hX dX11_items_74 rfl rfl ?_
        refine h_dup hX dX11_items_75 rfl ?_
        refine get_RX11_103_M0 hX dX11_items_76 ?_
        refine h_iconst hX dX11_items_79 ki_1 ?_
        refine h_iadd hX dX11_items_80 ?_
        refine put_RX11_103_M0 hX dX11_items_81 ?_
        refine gH.letw (w := fun y => wdM B m_thrown m_size y s.2.2.2.1 m_deep m_laws m_text m_readBoys m_readMarbles m_readFarms m_boys m_marbles m_farms m_holding m_spills m_acts m_draws m_bestRow m_bestMany m_noted m_hasImage m_tape m_code m_value m_codes m_clauses m_testFrom m_sumFrom m_sumTo m_letters m_stack m_readRule m_readBoy s.2.2.2.2 m_readFarm m_rule m_boy m_marble m_farm m_now m_refused m_kept m_notePlace m_noteKind m_noteIs m_toldBy m_image ++ fr) (fun m_at_5 => ?_)
        refine h_aload_n hX dX11_items_84 rfl rfl ?_
        refine h_iload_n hX dX11_items_85 rfl rfl ?_
        refine h_iload hX dX11_items_86 rfl ?_
        refine h_iadd hX dX11_items_88 ?_
        refine h_aload_n hX dX11_items_89 rfl rfl ?_
        refine h_iload_n hX dX11_items_90 rfl rfl ?_
        refine h_iload hX dX11_items_91 rfl ?_
        refine h_callSi hX dX11_items_93 (cs_RX11_223) (As := [.int v1, .int s.2.1]) (st := [.ref (aM B 0), .int (v3 + s.2.1), .ref (aM B 13)]) (fun _ h => c_M_lowest h) rfl rfl (by decide) (Nat.le_of_ble_eq_true rfl) (fun a_6 => ?_)
        refine h_iload_n hX dX11_items_96 rfl rfl ?_
        refine h_iload hX dX11_items_97 rfl ?_
        refine h_callSi hX dX11_items_99 (cs_RX11_226) (As := [.int v1, .int s.2.1]) (st := [.int a_6, .ref (aM B 0), .int (v3 + s.2.1), .ref (aM B 13)]) (fun _ h => c_M_highest h) rfl rfl (by decide) (Nat.le_of_ble_eq_true rfl) (fun a_7 => ?_)
        refine h_callVi hX dX11_items_102 (cv_RX11_229) rc_M0 (As := [.int a_6, .int a_7]) (st := [.int (v3 + s.2.1), .ref (aM B 13)]) (fun _ h => c_M_number h) rfl rfl (by decide) (Nat.le_of_ble_eq_true rfl) (fun a_8 => ?_)
        refine ast_M13 hX dX11_items_105 ?_
        refine gH.letw (w := fun y => wdM B m_thrown m_size a_8.2.1 a_8.2.2 m_deep m_laws m_text m_readBoys m_readMarbles m_readFarms m_boys m_marbles m_farms m_holding m_spills m_acts m_draws m_bestRow m_bestMany m_noted m_hasImage m_tape m_code m_value m_codes m_clauses m_testFrom m_sumFrom m_sumTo m_letters m_stack m_readRule m_readBoy y m_readFarm m_rule m_boy m_marble m_farm m_now m_refused m_kept m_notePlace m_noteKind m_noteIs m_toldBy m_image ++ fr) (fun m_readMarble_9 => ?_)
        refine h_aload_n hX dX11_items_106 rfl rfl ?_
        refine get_RX11_110_M0 hX dX11_items_107 ?_
        refine h_iconst hX dX11_items_110 ki_m1 ?_
        refine h_icmp_ne hX dX11_items_111 (tgt := 125) (by decide) (fun _ => ?_) (fun _ => ?_)
        · refine h_iconst hX dX11_items_125 ki_m1 ?_
          refine gH.dead [0, 1, 2, 3, 4] rfl ?_
          exact w_M_items_M13_J126 hX
        · refine h_iload_n hX dX11_items_114 rfl rfl ?_
          refine h_aload_n hX dX11_items_115 rfl rfl ?_
          refine h_callVi hX dX11_items_116 (cv_RX11_122) rc_M0 (As := []) (st := [.int v1]) (fun _ h => c_M_look h) rfl rfl (by decide) (Nat.le_of_ble_eq_true rfl) (fun a_10 => ?_)
          refine h_callSi hX dX11_items_119 (cs_RX11_216) (As := [.int v1, .int a_10.1]) (st := []) (fun _ h => c_M_itemOf h) rfl rfl (by decide) (Nat.le_of_ble_eq_true rfl) (fun a_11 => ?_)
          refine h_goto hX dX11_items_122 (tgt := 126) (by decide) ?_
          refine gH.dead [0, 1, 2, 3, 4] rfl ?_
          exact w_M_items_M13_J126 hX
set_option maxRecDepth 4000 in
theorem w_M_items_M13_L3 {v1 : Int32} {v3 : Int32} {v4 : Int32} (hX : gOk B X RX11 cX11_items 7 3 none) (s : (Int32 × (Nat → Int32))) : gH B X (Sum.elim (fun s : (Int32 × (Nat → Int32)) => gG B X 3 [(0, .ref (aM B 0)), (1, .int v1), (2, .ref (aM B 13)), (3, .int v3), (4, .int v4), (5, .int s.1)] [] (wdM B m_thrown m_size m_at m_wrong m_deep m_laws m_text m_readBoys m_readMarbles m_readFarms m_boys m_marbles m_farms m_holding m_spills m_acts m_draws m_bestRow m_bestMany m_noted m_hasImage m_tape m_code m_value m_codes m_clauses m_testFrom m_sumFrom m_sumTo m_letters m_stack m_readRule m_readBoy s.2 m_readFarm m_rule m_boy m_marble m_farm m_now m_refused m_kept m_notePlace m_noteKind m_noteIs m_toldBy m_image ++ fr)) (fun r : (Int32 × Int32 × (Nat → Int32)) => gFin X (none) (wdM B m_thrown m_size r.1 r.2.1 m_deep m_laws m_text m_readBoys m_readMarbles m_readFarms m_boys m_marbles m_farms m_holding m_spills m_acts m_draws m_bestRow m_bestMany m_noted m_hasImage m_tape m_code m_value m_codes m_clauses m_testFrom m_sumFrom m_sumTo m_letters m_stack m_readRule m_readBoy r.2.2 m_readFarm m_rule m_boy m_marble m_farm m_now m_refused m_kept m_notePlace m_noteKind m_noteIs m_toldBy m_image ++ fr))) 3 [(0, .ref (aM B 0)), (1, .int v1), (2, .ref (aM B 13)), (3, .int v3), (4, .int v4), (5, .int s.1)] [] (wdM B m_thrown m_size m_at m_wrong m_deep m_laws m_text m_readBoys m_readMarbles m_readFarms m_boys m_marbles m_farms m_holding m_spills m_acts m_draws m_bestRow m_bestMany m_noted m_hasImage m_tape m_code m_value m_codes m_clauses m_testFrom m_sumFrom m_sumTo m_letters m_stack m_readRule m_readBoy s.2 m_readFarm m_rule m_boy m_marble m_farm m_now m_refused m_kept m_notePlace m_noteKind m_noteIs m_toldBy m_image ++ fr) (f_M_items_M13_L3 m_size m_at m_wrong m_tape v1 v3 v4 s) := by
  unfold f_M_items_M13_L3
  refine h_iload hX dX11_items_3 rfl ?_
  refine h_iload hX dX11_items_5 rfl ?_
  refine h_icmp_ge hX dX11_items_7 (tgt := 28) (by decide) (fun _ => ?_) (fun _ => ?_)
  · refine gH.inr ?_
    refine h_iconst hX dX11_items_28 ki_0 ?_
    refine h_istore hX dX11_items_29 (by decide) (lv' := [(0, .ref (aM B 0)), (1, .int v1), (2, .ref (aM B 13)), (3, .int v3), (4, .int v4), (5, .int 0)]) rfl ?_
    refine h_iload_n hX dX11_items_31 rfl rfl ?_
    refine h_aload_n hX dX11_items_32 rfl rfl ?_
    refine h_callVi hX dX11_items_33 (cv_RX11_122) rc_M0 (As := []) (st := [.int v1]) (fun _ h => c_M_look h) rfl rfl (by decide) (Nat.le_of_ble_eq_true rfl) (fun a_1 => ?_)
    refine h_callSi hX dX11_items_36 (cs_RX11_216) (As := [.int v1, .int a_1.1]) (st := []) (fun _ h => c_M_itemOf h) rfl rfl (by decide) (Nat.le_of_ble_eq_true rfl) (fun a_2 => ?_)
    refine h_istore hX dX11_items_39 (by decide) (lv' := [(0, .ref (aM B 0)), (1, .int v1), (2, .ref (aM B 13)), (3, .int v3), (4, .int v4), (5, .int 0), (6, .int a_2)]) rfl ?_
    refine gH.dead [0, 1, 2, 3, 5, 6] rfl ?_
    exact gH.loop (lvf := fun z : (Int32 × Int32 × Int32 × Int32 × (Nat → Int32)) => [(0, .ref (aM B 0)), (1, .int v1), (2, .ref (aM B 13)), (3, .int v3), (5, .int z.1), (6, .int z.2.1)]) (wf := fun z : (Int32 × Int32 × Int32 × Int32 × (Nat → Int32)) => wdM B m_thrown m_size z.2.2.1 z.2.2.2.1 m_deep m_laws m_text m_readBoys m_readMarbles m_readFarms m_boys m_marbles m_farms m_holding m_spills m_acts m_draws m_bestRow m_bestMany m_noted m_hasImage m_tape m_code m_value m_codes m_clauses m_testFrom m_sumFrom m_sumTo m_letters m_stack m_readRule m_readBoy z.2.2.2.2 m_readFarm m_rule m_boy m_marble m_farm m_now m_refused m_kept m_notePlace m_noteKind m_noteIs m_toldBy m_image ++ fr) (fun z => w_M_items_M13_L41 hX z) (0, a_2, a_1.2, m_wrong, s.2)
  · refine h_aload_n hX dX11_items_10 rfl rfl ?_
    refine h_iload_n hX dX11_items_11 rfl rfl ?_
    refine h_iload hX dX11_items_12 rfl ?_
    refine h_iadd hX dX11_items_14 ?_
    refine h_iload_n hX dX11_items_15 rfl rfl ?_
    refine h_iload hX dX11_items_16 rfl ?_
    refine h_callSi hX dX11_items_18 (cs_RX11_212) (As := [.int v1, .int s.1]) (st := [.int (v3 + s.1), .ref (aM B 13)]) (fun _ h => c_M_usual h) rfl rfl (by decide) (Nat.le_of_ble_eq_true rfl) (fun a_12 => ?_)
    refine ast_M13 hX dX11_items_21 ?_
    refine gH.letw (w := fun y => wdM B m_thrown m_size m_at m_wrong m_deep m_laws m_text m_readBoys m_readMarbles m_readFarms m_boys m_marbles m_farms m_holding m_spills m_acts m_draws m_bestRow m_bestMany m_noted m_hasImage m_tape m_code m_value m_codes m_clauses m_testFrom m_sumFrom m_sumTo m_letters m_stack m_readRule m_readBoy y m_readFarm m_rule m_boy m_marble m_farm m_now m_refused m_kept m_notePlace m_noteKind m_noteIs m_toldBy m_image ++ fr) (fun m_readMarble_13 => ?_)
    refine h_iincc hX dX11_items_22 rfl ki_1 (by decide) (lv' := [(0, .ref (aM B 0)), (1, .int v1), (2, .ref (aM B 13)), (3, .int v3), (4, .int v4), (5, .int (s.1 + 1))]) rfl ?_
    refine h_goto hX dX11_items_25 (tgt := 3) (by decide) ?_
    exact gH.some' (fun h => h)
set_option maxRecDepth 4000 in
theorem w_M_items_M13 {p0 : Int32} {p1 : Int32} {p2 : Int32} (hX : gOk B X RX11 cX11_items 7 3 none) : gH B X (fun r : (Int32 × Int32 × (Nat → Int32)) => gFin X (none) (wdM B m_thrown m_size r.1 r.2.1 m_deep m_laws m_text m_readBoys m_readMarbles m_readFarms m_boys m_marbles m_farms m_holding m_spills m_acts m_draws m_bestRow m_bestMany m_noted m_hasImage m_tape m_code m_value m_codes m_clauses m_testFrom m_sumFrom m_sumTo m_letters m_stack m_readRule m_readBoy r.2.2 m_readFarm m_rule m_boy m_marble m_farm m_now m_refused m_kept m_notePlace m_noteKind m_noteIs m_toldBy m_image ++ fr)) 0 [(0, .ref (aM B 0)), (1, .int p0), (2, .ref (aM B 13)), (3, .int p1), (4, .int p2)] [] (wdM B m_thrown m_size m_at m_wrong m_deep m_laws m_text m_readBoys m_readMarbles m_readFarms m_boys m_marbles m_farms m_holding m_spills m_acts m_draws m_bestRow m_bestMany m_noted m_hasImage m_tape m_code m_value m_codes m_clauses m_testFrom m_sumFrom m_sumTo m_letters m_stack m_readRule m_readBoy m_readMarble m_readFarm m_rule m_boy m_marble m_farm m_now m_refused m_kept m_notePlace m_noteKind m_noteIs m_toldBy m_image ++ fr) (f_M_items_M13 m_size m_at m_wrong m_tape m_readMarble p0 p1 p2) := by
  unfold f_M_items_M13
  refine h_iconst hX dX11_items_0 ki_0 ?_
  refine h_istore hX dX11_items_1 (by decide) (lv' := [(0, .ref (aM B 0)), (1, .int p0), (2, .ref (aM B 13)), (3, .int p1), (4, .int p2), (5, .int 0)]) rfl ?_
  exact gH.loop (lvf := fun z : (Int32 × (Nat → Int32)) => [(0, .ref (aM B 0)), (1, .int p0), (2, .ref (aM B 13)), (3, .int p1), (4, .int p2), (5, .int z.1)]) (wf := fun z : (Int32 × (Nat → Int32)) => wdM B m_thrown m_size m_at m_wrong m_deep m_laws m_text m_readBoys m_readMarbles m_readFarms m_boys m_marbles m_farms m_holding m_spills m_acts m_draws m_bestRow m_bestMany m_noted m_hasImage m_tape m_code m_value m_codes m_clauses m_testFrom m_sumFrom m_sumTo m_letters m_stack m_readRule m_readBoy z.2 m_readFarm m_rule m_boy m_marble m_farm m_now m_refused m_kept m_notePlace m_noteKind m_noteIs m_toldBy m_image ++ fr) (fun z => w_M_items_M13_L3 hX z) (0, m_readMarble)
theorem c_M_items_M13 {p0 : Int32} {p1 : Int32} {p2 : Int32} {r : (Int32 × Int32 × (Nat → Int32))} (h : f_M_items_M13 m_size m_at m_wrong m_tape m_readMarble p0 p1 p2 = some r) : gMet B 3 yX11_items cX11_items 7 none [.ref (aM B 0), .int p0, .ref (aM B 13), .int p1, .int p2] (wdM B m_thrown m_size m_at m_wrong m_deep m_laws m_text m_readBoys m_readMarbles m_readFarms m_boys m_marbles m_farms m_holding m_spills m_acts m_draws m_bestRow m_bestMany m_noted m_hasImage m_tape m_code m_value m_codes m_clauses m_testFrom m_sumFrom m_sumTo m_letters m_stack m_readRule m_readBoy m_readMarble m_readFarm m_rule m_boy m_marble m_farm m_now m_refused m_kept m_notePlace m_noteKind m_noteIs m_toldBy m_image ++ fr) (none) (wdM B m_thrown m_size r.1 r.2.1 m_deep m_laws m_text m_readBoys m_readMarbles m_readFarms m_boys m_marbles m_farms m_holding m_spills m_acts m_draws m_bestRow m_bestMany m_noted m_hasImage m_tape m_code m_value m_codes m_clauses m_testFrom m_sumFrom m_sumTo m_letters m_stack m_readRule m_readBoy r.2.2 m_readFarm m_rule m_boy m_marble m_farm m_now m_refused m_kept m_notePlace m_noteKind m_noteIs m_toldBy m_image ++ fr) :=
  gMet.of rfl (Nat.le_of_ble_eq_true rfl) (fun X hX hF => w_M_items_M13 hX r h hF)
set_option maxRecDepth 4000 in
theorem w_M_items_M12_J126 {v1 : Int32} {v3 : Int32} {v5 : Int32} {k0 : Int32} (hX : gOk B X RX11 cX11_items 7 3 none) : gH B X (Sum.elim (fun s : (Int32 × Int32 × Int32 × Int32 × (Nat → Int32)) => gG B X 41 [(0, .ref (aM B 0)), (1, .int v1), (2, .ref (aM B 12)), (3, .int v3), (5, .int s.1), (6, .int s.2.1)] [] (wdM B m_thrown m_size s.2.2.1 s.2.2.2.1 m_deep m_laws m_text m_readBoys m_readMarbles m_readFarms m_boys m_marbles m_farms m_holding m_spills m_acts m_draws m_bestRow m_bestMany m_noted m_hasImage m_tape m_code m_value m_codes m_clauses m_testFrom m_sumFrom m_sumTo m_letters m_stack m_readRule s.2.2.2.2 m_readMarble m_readFarm m_rule m_boy m_marble m_farm m_now m_refused m_kept m_notePlace m_noteKind m_noteIs m_toldBy m_image ++ fr)) (fun r : (Int32 × Int32 × (Nat → Int32)) => gFin X (none) (wdM B m_thrown m_size r.1 r.2.1 m_deep m_laws m_text m_readBoys m_readMarbles m_readFarms m_boys m_marbles m_farms m_holding m_spills m_acts m_draws m_bestRow m_bestMany m_noted m_hasImage m_tape m_code m_value m_codes m_clauses m_testFrom m_sumFrom m_sumTo m_letters m_stack m_readRule r.2.2 m_readMarble m_readFarm m_rule m_boy m_marble m_farm m_now m_refused m_kept m_notePlace m_noteKind m_noteIs m_toldBy m_image ++ fr))) 126 [(0, .ref (aM B 0)), (1, .int v1), (2, .ref (aM B 12)), (3, .int v3), (5, .int v5)] [.int k0] (wdM B m_thrown m_size m_at m_wrong m_deep m_laws m_text m_readBoys m_readMarbles m_readFarms m_boys m_marbles m_farms m_holding m_spills m_acts m_draws m_bestRow m_bestMany m_noted m_hasImage m_tape m_code m_value m_codes m_clauses m_testFrom m_sumFrom m_sumTo m_letters m_stack m_readRule m_readBoy m_readMarble m_readFarm m_rule m_boy m_marble m_farm m_now m_refused m_kept m_notePlace m_noteKind m_noteIs m_toldBy m_image ++ fr) (f_M_items_M12_J126 m_at m_wrong m_readBoy v5 k0) := by
  unfold f_M_items_M12_J126
  refine h_istore hX dX11_items_126 (by decide) (lv' := [(0, .ref (aM B 0)), (1, .int v1), (2, .ref (aM B 12)), (3, .int v3), (5, .int v5), (6, .int k0)]) rfl ?_
  refine h_goto hX dX11_items_128 (tgt := 41) (by decide) ?_
  exact gH.some' (fun h => h)
set_option maxRecDepth 4000 in
theorem w_M_items_M12_L41 {v1 : Int32} {v3 : Int32} (hX : gOk B X RX11 cX11_items 7 3 none) (s : (Int32 × Int32 × Int32 × Int32 × (Nat → Int32))) : gH B X (Sum.elim (fun s : (Int32 × Int32 × Int32 × Int32 × (Nat → Int32)) => gG B X 41 [(0, .ref (aM B 0)), (1, .int v1), (2, .ref (aM B 12)), (3, .int v3), (5, .int s.1), (6, .int s.2.1)] [] (wdM B m_thrown m_size s.2.2.1 s.2.2.2.1 m_deep m_laws m_text m_readBoys m_readMarbles m_readFarms m_boys m_marbles m_farms m_holding m_spills m_acts m_draws m_bestRow m_bestMany m_noted m_hasImage m_tape m_code m_value m_codes m_clauses m_testFrom m_sumFrom m_sumTo m_letters m_stack m_readRule s.2.2.2.2 m_readMarble m_readFarm m_rule m_boy m_marble m_farm m_now m_refused m_kept m_notePlace m_noteKind m_noteIs m_toldBy m_image ++ fr)) (fun r : (Int32 × Int32 × (Nat → Int32)) => gFin X (none) (wdM B m_thrown m_size r.1 r.2.1 m_deep m_laws m_text m_readBoys m_readMarbles m_readFarms m_boys m_marbles m_farms m_holding m_spills m_acts m_draws m_bestRow m_bestMany m_noted m_hasImage m_tape m_code m_value m_codes m_clauses m_testFrom m_sumFrom m_sumTo m_letters m_stack m_readRule r.2.2 m_readMarble m_readFarm m_rule m_boy m_marble m_farm m_now m_refused m_kept m_notePlace m_noteKind m_noteIs m_toldBy m_image ++ fr))) 41 [(0, .ref (aM B 0)), (1, .int v1), (2, .ref (aM B 12)), (3, .int v3), (5, .int s.1), (6, .int s.2.1)] [] (wdM B m_thrown m_size s.2.2.1 s.2.2.2.1 m_deep m_laws m_text m_readBoys m_readMarbles m_readFarms m_boys m_marbles m_farms m_holding m_spills m_acts m_draws m_bestRow m_bestMany m_noted m_hasImage m_tape m_code m_value m_codes m_clauses m_testFrom m_sumFrom m_sumTo m_letters m_stack m_readRule s.2.2.2.2 m_readMarble m_readFarm m_rule m_boy m_marble m_farm m_now m_refused m_kept m_notePlace m_noteKind m_noteIs m_toldBy m_image ++ fr) (f_M_items_M12_L41 m_size m_tape v1 v3 s) := by
  unfold f_M_items_M12_L41
  refine h_aload_n hX dX11_items_41 rfl rfl ?_
  refine get_RX11_110_M0 hX dX11_items_42 ?_
  refine h_iconst hX dX11_items_45 ki_m1 ?_
  refine h_icmp_ne hX dX11_items_46 (tgt := 131) (by decide) (fun _ => ?_) (fun _ => ?_)
  · exact h_ret hX (rv := none) dX11_items_131 trivial (fun h => h)
  · refine h_iload hX dX11_items_49 rfl ?_
    refine h_iconst hX dX11_items_51 ki_m1 ?_
    refine h_icmp_eq hX dX11_items_52 (tgt := 131) (by decide) (fun _ => ?_) (fun _ => ?_)
    · exact h_ret hX (rv := none) dX11_items_131 trivial (fun h => h)
    · refine h_iload hX dX11_items_55 rfl ?_
      refine h_iload hX dX11_items_57 rfl ?_
      refine h_callSi hX dX11_items_59 (cs_RX11_219) (As := [.int s.1, .int s.2.1]) (st := []) (fun _ h => c_M_has h) rfl rfl (by decide) (Nat.le_of_ble_eq_true rfl) (fun a_3 => ?_)
      refine h_if_ne hX dX11_items_62 (tgt := 131) (by decide) (fun _ => ?_) (fun _ => ?_)
      · exact h_ret hX (rv := none) dX11_items_131 trivial (fun h => h)
      · refine h_iload hX dX11_items_65 rfl ?_
        refine h_iconst hX dX11_items_67 ki_1 ?_
        refine h_iload hX dX11_items_68 rfl ?_
        refine h_ishl hX dX11_items_70 ?_
        refine h_ior hX dX11_items_71 ?_
        refine gH.leti (fun v5_4 => ?_)
        refine h_istore hX dX11_items_72 (by decide) (lv' := [(0, .ref (aM B 0)), (1, .int v1), (2, .ref (aM B 12)), (3, .int v3), (5, .int v5_4), (6, .int s.2.1)]) rfl ?_
        refine h_aload_n hX dX11_items_74 rfl rfl ?_
        refine h_dup hX dX11_items_75 rfl ?_
        refine get_RX11_103_M0 hX dX11_items_76 ?_
        refine h_iconst hX dX11_items_79 ki_1 ?_
        refine h_iadd hX dX11_items_80 ?_
        refine put_RX11_103_M0 hX dX11_items_81 ?_
        refine gH.letw (w := fun y => wdM B m_thrown m_size y s.2.2.2.1 m_deep m_laws m_text m_readBoys m_readMarbles m_readFarms m_boys m_marbles m_farms m_holding m_spills m_acts m_draws m_bestRow m_bestMany m_noted m_hasImage m_tape m_code m_value m_codes m_clauses m_testFrom m_sumFrom m_sumTo m_letters m_stack m_readRule s.2.2.2.2 m_readMarble m_readFarm m_rule m_boy m_marble m_farm m_now m_refused m_kept m_notePlace m_noteKind m_noteIs m_toldBy m_image ++ fr) (fun m_at_5 => ?_)
        refine h_aload_n hX dX11_items_84 rfl rfl ?_
        refine h_iload_n hX dX11_items_85 rfl rfl ?_
        refine h_iload hX dX11_items_86 rfl ?_
        refine h_iadd hX dX11_items_88 ?_
        refine h_aload_n hX dX11_items_89 rfl rfl ?_
        refine h_iload_n hX dX11_items_90 rfl rfl ?_
        refine h_iload hX dX11_items_91 rfl ?_
        refine h_callSi hX dX11_items_93 (cs_RX11_223) (As := [.int v1, .int s.2.1]) (st := [.ref (aM B 0), .int (v3 + s.2.1), .ref (aM B 12)]) (fun _ h => c_M_lowest h) rfl rfl (by decide) (Nat.le_of_ble_eq_true rfl) (fun a_6 => ?_)
        refine h_iload_n hX dX11_items_96 rfl rfl ?_
        refine h_iload hX dX11_items_97 rfl ?_
        refine h_callSi hX dX11_items_99 (cs_RX11_226) (As := [.int v1, .int s.2.1]) (st := [.int a_6, .ref (aM B 0), .int (v3 + s.2.1), .ref (aM B 12)]) (fun _ h => c_M_highest h) rfl rfl (by decide) (Nat.le_of_ble_eq_true rfl) (fun a_7 => ?_)
        refine h_callVi hX dX11_items_102 (cv_RX11_229) rc_M0 (As := [.int a_6, .int a_7]) (st := [.int (v3 + s.2.1), .ref (aM B 12)]) (fun _ h => c_M_number h) rfl rfl (by decide) (Nat.le_of_ble_eq_true rfl) (fun a_8 => ?_)
        refine ast_M12 hX dX11_items_105 ?_
        refine gH.letw (w := fun y => wdM B m_thrown m_size a_8.2.1 a_8.2.2 m_deep m_laws m_text m_readBoys m_readMarbles m_readFarms m_boys m_marbles m_farms m_holding m_spills m_acts m_draws m_bestRow m_bestMany m_noted m_hasImage m_tape m_code m_value m_codes m_clauses m_testFrom m_sumFrom m_sumTo m_letters m_stack m_readRule y m_readMarble m_readFarm m_rule m_boy m_marble m_farm m_now m_refused m_kept m_notePlace m_noteKind m_noteIs m_toldBy m_image ++ fr) (fun m_readBoy_9 => ?_)
        refine h_aload_n hX dX11_items_106 rfl rfl ?_
        refine get_RX11_110_M0 hX dX11_items_107 ?_
        refine h_iconst hX dX11_items_110 ki_m1 ?_
        refine h_icmp_ne hX dX11_items_111 (tgt := 125) (by decide) (fun _ => ?_) (fun _ => ?_)
        · refine h_iconst hX dX11_items_125 ki_m1 ?_
          refine gH.dead [0, 1, 2, 3, 4] rfl ?_
          exact w_M_items_M12_J126 hX
        · refine h_iload_n hX dX11_items_114 rfl rfl ?_
          refine h_aload_n hX dX11_items_115 rfl rfl ?_
          refine h_callVi hX dX11_items_116 (cv_RX11_122) rc_M0 (As := []) (st := [.int v1]) (fun _ h => c_M_look h) rfl rfl (by decide) (Nat.le_of_ble_eq_true rfl) (fun a_10 => ?_)
          refine h_callSi hX dX11_items_119 (cs_RX11_216) (As := [.int v1, .int a_10.1]) (st := []) (fun _ h => c_M_itemOf h) rfl rfl (by decide) (Nat.le_of_ble_eq_true rfl) (fun a_11 => ?_)
          refine h_goto hX dX11_items_122 (tgt := 126) (by decide) ?_
          refine gH.dead [0, 1, 2, 3, 4] rfl ?_
          exact w_M_items_M12_J126 hX
set_option maxRecDepth 4000 in
theorem w_M_items_M12_L3 {v1 : Int32} {v3 : Int32} {v4 : Int32} (hX : gOk B X RX11 cX11_items 7 3 none) (s : (Int32 × (Nat → Int32))) : gH B X (Sum.elim (fun s : (Int32 × (Nat → Int32)) => gG B X 3 [(0, .ref (aM B 0)), (1, .int v1), (2, .ref (aM B 12)), (3, .int v3), (4, .int v4), (5, .int s.1)] [] (wdM B m_thrown m_size m_at m_wrong m_deep m_laws m_text m_readBoys m_readMarbles m_readFarms m_boys m_marbles m_farms m_holding m_spills m_acts m_draws m_bestRow m_bestMany m_noted m_hasImage m_tape m_code m_value m_codes m_clauses m_testFrom m_sumFrom m_sumTo m_letters m_stack m_readRule s.2 m_readMarble m_readFarm m_rule m_boy m_marble m_farm m_now m_refused m_kept m_notePlace m_noteKind m_noteIs m_toldBy m_image ++ fr)) (fun r : (Int32 × Int32 × (Nat → Int32)) => gFin X (none) (wdM B m_thrown m_size r.1 r.2.1 m_deep m_laws m_text m_readBoys m_readMarbles m_readFarms m_boys m_marbles m_farms m_holding m_spills m_acts m_draws m_bestRow m_bestMany m_noted m_hasImage m_tape m_code m_value m_codes m_clauses m_testFrom m_sumFrom m_sumTo m_letters m_stack m_readRule r.2.2 m_readMarble m_readFarm m_rule m_boy m_marble m_farm m_now m_refused m_kept m_notePlace m_noteKind m_noteIs m_toldBy m_image ++ fr))) 3 [(0, .ref (aM B 0)), (1, .int v1), (2, .ref (aM B 12)), (3, .int v3), (4, .int v4), (5, .int s.1)] [] (wdM B m_thrown m_size m_at m_wrong m_deep m_laws m_text m_readBoys m_readMarbles m_readFarms m_boys m_marbles m_farms m_holding m_spills m_acts m_draws m_bestRow m_bestMany m_noted m_hasImage m_tape m_code m_value m_codes m_clauses m_testFrom m_sumFrom m_sumTo m_letters m_stack m_readRule s.2 m_readMarble m_readFarm m_rule m_boy m_marble m_farm m_now m_refused m_kept m_notePlace m_noteKind m_noteIs m_toldBy m_image ++ fr) (f_M_items_M12_L3 m_size m_at m_wrong m_tape v1 v3 v4 s) := by
  unfold f_M_items_M12_L3
  refine h_iload hX dX11_items_3 rfl ?_
  refine h_iload hX dX11_items_5 rfl ?_
  refine h_icmp_ge hX dX11_items_7 (tgt := 28) (by decide) (fun _ => ?_) (fun _ => ?_)
  · refine gH.inr ?_
    refine h_iconst hX dX11_items_28 ki_0 ?_
    refine h_istore hX dX11_items_29 (by decide) (lv' := [(0, .ref (aM B 0)), (1, .int v1), (2, .ref (aM B 12)), (3, .int v3), (4, .int v4), (5, .int 0)]) rfl ?_
    refine h_iload_n hX dX11_items_31 rfl rfl ?_
    refine h_aload_n hX dX11_items_32 rfl rfl ?_
    refine h_callVi hX dX11_items_33 (cv_RX11_122) rc_M0 (As := []) (st := [.int v1]) (fun _ h => c_M_look h) rfl rfl (by decide) (Nat.le_of_ble_eq_true rfl) (fun a_1 => ?_)
    refine h_callSi hX dX11_items_36 (cs_RX11_216) (As := [.int v1, .int a_1.1]) (st := []) (fun _ h => c_M_itemOf h) rfl rfl (by decide) (Nat.le_of_ble_eq_true rfl) (fun a_2 => ?_)
    refine h_istore hX dX11_items_39 (by decide) (lv' := [(0, .ref (aM B 0)), (1, .int v1), (2, .ref (aM B 12)), (3, .int v3), (4, .int v4), (5, .int 0), (6, .int a_2)]) rfl ?_
    refine gH.dead [0, 1, 2, 3, 5, 6] rfl ?_
    exact gH.loop (lvf := fun z : (Int32 × Int32 × Int32 × Int32 × (Nat → Int32)) => [(0, .ref (aM B 0)), (1, .int v1), (2, .ref (aM B 12)), (3, .int v3), (5, .int z.1), (6, .int z.2.1)]) (wf := fun z : (Int32 × Int32 × Int32 × Int32 × (Nat → Int32)) => wdM B m_thrown m_size z.2.2.1 z.2.2.2.1 m_deep m_laws m_text m_readBoys m_readMarbles m_readFarms m_boys m_marbles m_farms m_holding m_spills m_acts m_draws m_bestRow m_bestMany m_noted m_hasImage m_tape m_code m_value m_codes m_clauses m_testFrom m_sumFrom m_sumTo m_letters m_stack m_readRule z.2.2.2.2 m_readMarble m_readFarm m_rule m_boy m_marble m_farm m_now m_refused m_kept m_notePlace m_noteKind m_noteIs m_toldBy m_image ++ fr) (fun z => w_M_items_M12_L41 hX z) (0, a_2, a_1.2, m_wrong, s.2)
  · refine h_aload_n hX dX11_items_10 rfl rfl ?_
    refine h_iload_n hX dX11_items_11 rfl rfl ?_
    refine h_iload hX dX11_items_12 rfl ?_
    refine h_iadd hX dX11_items_14 ?_
    refine h_iload_n hX dX11_items_15 rfl rfl ?_
    refine h_iload hX dX11_items_16 rfl ?_
    refine h_callSi hX dX11_items_18 (cs_RX11_212) (As := [.int v1, .int s.1]) (st := [.int (v3 + s.1), .ref (aM B 12)]) (fun _ h => c_M_usual h) rfl rfl (by decide) (Nat.le_of_ble_eq_true rfl) (fun a_12 => ?_)
    refine ast_M12 hX dX11_items_21 ?_
    refine gH.letw (w := fun y => wdM B m_thrown m_size m_at m_wrong m_deep m_laws m_text m_readBoys m_readMarbles m_readFarms m_boys m_marbles m_farms m_holding m_spills m_acts m_draws m_bestRow m_bestMany m_noted m_hasImage m_tape m_code m_value m_codes m_clauses m_testFrom m_sumFrom m_sumTo m_letters m_stack m_readRule y m_readMarble m_readFarm m_rule m_boy m_marble m_farm m_now m_refused m_kept m_notePlace m_noteKind m_noteIs m_toldBy m_image ++ fr) (fun m_readBoy_13 => ?_)
    refine h_iincc hX dX11_items_22 rfl ki_1 (by decide) (lv' := [(0, .ref (aM B 0)), (1, .int v1), (2, .ref (aM B 12)), (3, .int v3), (4, .int v4), (5, .int (s.1 + 1))]) rfl ?_
    refine h_goto hX dX11_items_25 (tgt := 3) (by decide) ?_
    exact gH.some' (fun h => h)
set_option maxRecDepth 4000 in
theorem w_M_items_M12 {p0 : Int32} {p1 : Int32} {p2 : Int32} (hX : gOk B X RX11 cX11_items 7 3 none) : gH B X (fun r : (Int32 × Int32 × (Nat → Int32)) => gFin X (none) (wdM B m_thrown m_size r.1 r.2.1 m_deep m_laws m_text m_readBoys m_readMarbles m_readFarms m_boys m_marbles m_farms m_holding m_spills m_acts m_draws m_bestRow m_bestMany m_noted m_hasImage m_tape m_code m_value m_codes m_clauses m_testFrom m_sumFrom m_sumTo m_letters m_stack m_readRule r.2.2 m_readMarble m_readFarm m_rule m_boy m_marble m_farm m_now m_refused m_kept m_notePlace m_noteKind m_noteIs m_toldBy m_image ++ fr)) 0 [(0, .ref (aM B 0)), (1, .int p0), (2, .ref (aM B 12)), (3, .int p1), (4, .int p2)] [] (wdM B m_thrown m_size m_at m_wrong m_deep m_laws m_text m_readBoys m_readMarbles m_readFarms m_boys m_marbles m_farms m_holding m_spills m_acts m_draws m_bestRow m_bestMany m_noted m_hasImage m_tape m_code m_value m_codes m_clauses m_testFrom m_sumFrom m_sumTo m_letters m_stack m_readRule m_readBoy m_readMarble m_readFarm m_rule m_boy m_marble m_farm m_now m_refused m_kept m_notePlace m_noteKind m_noteIs m_toldBy m_image ++ fr) (f_M_items_M12 m_size m_at m_wrong m_tape m_readBoy p0 p1 p2) := by
  unfold f_M_items_M12
  refine h_iconst hX dX11_items_0 ki_0 ?_
  refine h_istore hX dX11_items_1 (by decide) (lv' := [(0, .ref (aM B 0)), (1, .int p0), (2, .ref (aM B 12)), (3, .int p1), (4, .int p2), (5, .int 0)]) rfl ?_
  exact gH.loop (lvf := fun z : (Int32 × (Nat → Int32)) => [(0, .ref (aM B 0)), (1, .int p0), (2, .ref (aM B 12)), (3, .int p1), (4, .int p2), (5, .int z.1)]) (wf := fun z : (Int32 × (Nat → Int32)) => wdM B m_thrown m_size m_at m_wrong m_deep m_laws m_text m_readBoys m_readMarbles m_readFarms m_boys m_marbles m_farms m_holding m_spills m_acts m_draws m_bestRow m_bestMany m_noted m_hasImage m_tape m_code m_value m_codes m_clauses m_testFrom m_sumFrom m_sumTo m_letters m_stack m_readRule z.2 m_readMarble m_readFarm m_rule m_boy m_marble m_farm m_now m_refused m_kept m_notePlace m_noteKind m_noteIs m_toldBy m_image ++ fr) (fun z => w_M_items_M12_L3 hX z) (0, m_readBoy)
theorem c_M_items_M12 {p0 : Int32} {p1 : Int32} {p2 : Int32} {r : (Int32 × Int32 × (Nat → Int32))} (h : f_M_items_M12 m_size m_at m_wrong m_tape m_readBoy p0 p1 p2 = some r) : gMet B 3 yX11_items cX11_items 7 none [.ref (aM B 0), .int p0, .ref (aM B 12), .int p1, .int p2] (wdM B m_thrown m_size m_at m_wrong m_deep m_laws m_text m_readBoys m_readMarbles m_readFarms m_boys m_marbles m_farms m_holding m_spills m_acts m_draws m_bestRow m_bestMany m_noted m_hasImage m_tape m_code m_value m_codes m_clauses m_testFrom m_sumFrom m_sumTo m_letters m_stack m_readRule m_readBoy m_readMarble m_readFarm m_rule m_boy m_marble m_farm m_now m_refused m_kept m_notePlace m_noteKind m_noteIs m_toldBy m_image ++ fr) (none) (wdM B m_thrown m_size r.1 r.2.1 m_deep m_laws m_text m_readBoys m_readMarbles m_readFarms m_boys m_marbles m_farms m_holding m_spills m_acts m_draws m_bestRow m_bestMany m_noted m_hasImage m_tape m_code m_value m_codes m_clauses m_testFrom m_sumFrom m_sumTo m_letters m_stack m_readRule r.2.2 m_readMarble m_readFarm m_rule m_boy m_marble m_farm m_now m_refused m_kept m_notePlace m_noteKind m_noteIs m_toldBy m_image ++ fr) :=
  gMet.of rfl (Nat.le_of_ble_eq_true rfl) (fun X hX hF => w_M_items_M12 hX r h hF)
set_option maxRecDepth 4000 in
theorem w_M_items_M11_J126 {v1 : Int32} {v3 : Int32} {v5 : Int32} {k0 : Int32} (hX : gOk B X RX11 cX11_items 7 3 none) : gH B X (Sum.elim (fun s : (Int32 × Int32 × Int32 × Int32 × (Nat → Int32)) => gG B X 41 [(0, .ref (aM B 0)), (1, .int v1), (2, .ref (aM B 11)), (3, .int v3), (5, .int s.1), (6, .int s.2.1)] [] (wdM B m_thrown m_size s.2.2.1 s.2.2.2.1 m_deep m_laws m_text m_readBoys m_readMarbles m_readFarms m_boys m_marbles m_farms m_holding m_spills m_acts m_draws m_bestRow m_bestMany m_noted m_hasImage m_tape m_code m_value m_codes m_clauses m_testFrom m_sumFrom m_sumTo m_letters m_stack s.2.2.2.2 m_readBoy m_readMarble m_readFarm m_rule m_boy m_marble m_farm m_now m_refused m_kept m_notePlace m_noteKind m_noteIs m_toldBy m_image ++ fr)) (fun r : (Int32 × Int32 × (Nat → Int32)) => gFin X (none) (wdM B m_thrown m_size r.1 r.2.1 m_deep m_laws m_text m_readBoys m_readMarbles m_readFarms m_boys m_marbles m_farms m_holding m_spills m_acts m_draws m_bestRow m_bestMany m_noted m_hasImage m_tape m_code m_value m_codes m_clauses m_testFrom m_sumFrom m_sumTo m_letters m_stack r.2.2 m_readBoy m_readMarble m_readFarm m_rule m_boy m_marble m_farm m_now m_refused m_kept m_notePlace m_noteKind m_noteIs m_toldBy m_image ++ fr))) 126 [(0, .ref (aM B 0)), (1, .int v1), (2, .ref (aM B 11)), (3, .int v3), (5, .int v5)] [.int k0] (wdM B m_thrown m_size m_at m_wrong m_deep m_laws m_text m_readBoys m_readMarbles m_readFarms m_boys m_marbles m_farms m_holding m_spills m_acts m_draws m_bestRow m_bestMany m_noted m_hasImage m_tape m_code m_value m_codes m_clauses m_testFrom m_sumFrom m_sumTo m_letters m_stack m_readRule m_readBoy m_readMarble m_readFarm m_rule m_boy m_marble m_farm m_now m_refused m_kept m_notePlace m_noteKind m_noteIs m_toldBy m_image ++ fr) (f_M_items_M11_J126 m_at m_wrong m_readRule v5 k0) := by
  unfold f_M_items_M11_J126
  refine h_istore hX dX11_items_126 (by decide) (lv' := [(0, .ref (aM B 0)), (1, .int v1), (2, .ref (aM B 11)), (3, .int v3), (5, .int v5), (6, .int k0)]) rfl ?_
  refine h_goto hX dX11_items_128 (tgt := 41) (by decide) ?_
  exact gH.some' (fun h => h)
set_option maxRecDepth 4000 in
theorem w_M_items_M11_L41 {v1 : Int32} {v3 : Int32} (hX : gOk B X RX11 cX11_items 7 3 none) (s : (Int32 × Int32 × Int32 × Int32 × (Nat → Int32))) : gH B X (Sum.elim (fun s : (Int32 × Int32 × Int32 × Int32 × (Nat → Int32)) => gG B X 41 [(0, .ref (aM B 0)), (1, .int v1), (2, .ref (aM B 11)), (3, .int v3), (5, .int s.1), (6, .int s.2.1)] [] (wdM B m_thrown m_size s.2.2.1 s.2.2.2.1 m_deep m_laws m_text m_readBoys m_readMarbles m_readFarms m_boys m_marbles m_farms m_holding m_spills m_acts m_draws m_bestRow m_bestMany m_noted m_hasImage m_tape m_code m_value m_codes m_clauses m_testFrom m_sumFrom m_sumTo m_letters m_stack s.2.2.2.2 m_readBoy m_readMarble m_readFarm m_rule m_boy m_marble m_farm m_now m_refused m_kept m_notePlace m_noteKind m_noteIs m_toldBy m_image ++ fr)) (fun r : (Int32 × Int32 × (Nat → Int32)) => gFin X (none) (wdM B m_thrown m_size r.1 r.2.1 m_deep m_laws m_text m_readBoys m_readMarbles m_readFarms m_boys m_marbles m_farms m_holding m_spills m_acts m_draws m_bestRow m_bestMany m_noted m_hasImage m_tape m_code m_value m_codes m_clauses m_testFrom m_sumFrom m_sumTo m_letters m_stack r.2.2 m_readBoy m_readMarble m_readFarm m_rule m_boy m_marble m_farm m_now m_refused m_kept m_notePlace m_noteKind m_noteIs m_toldBy m_image ++ fr))) 41 [(0, .ref (aM B 0)), (1, .int v1), (2, .ref (aM B 11)), (3, .int v3), (5, .int s.1), (6, .int s.2.1)] [] (wdM B m_thrown m_size s.2.2.1 s.2.2.2.1 m_deep m_laws m_text m_readBoys m_readMarbles m_readFarms m_boys m_marbles m_farms m_holding m_spills m_acts m_draws m_bestRow m_bestMany m_noted m_hasImage m_tape m_code m_value m_codes m_clauses m_testFrom m_sumFrom m_sumTo m_letters m_stack s.2.2.2.2 m_readBoy m_readMarble m_readFarm m_rule m_boy m_marble m_farm m_now m_refused m_kept m_notePlace m_noteKind m_noteIs m_toldBy m_image ++ fr) (f_M_items_M11_L41 m_size m_tape v1 v3 s) := by
  unfold f_M_items_M11_L41
  refine h_aload_n hX dX11_items_41 rfl rfl ?_
  refine get_RX11_110_M0 hX dX11_items_42 ?_
  refine h_iconst hX dX11_items_45 ki_m1 ?_
  refine h_icmp_ne hX dX11_items_46 (tgt := 131) (by decide) (fun _ => ?_) (fun _ => ?_)
  · exact h_ret hX (rv := none) dX11_items_131 trivial (fun h => h)
  · refine h_iload hX dX11_items_49 rfl ?_
    refine h_iconst hX dX11_items_51 ki_m1 ?_
    refine h_icmp_eq hX dX11_items_52 (tgt := 131) (by decide) (fun _ => ?_) (fun _ => ?_)
    · exact h_ret hX (rv := none) dX11_items_131 trivial (fun h => h)
    · refine h_iload hX dX11_items_55 rfl ?_
      refine h_iload hX dX11_items_57 rfl ?_
      refine h_callSi hX dX11_items_59 (cs_RX11_219) (As := [.int s.1, .int s.2.1]) (st := []) (fun _ h => c_M_has h) rfl rfl (by decide) (Nat.le_of_ble_eq_true rfl) (fun a_3 => ?_)
      refine h_if_ne hX dX11_items_62 (tgt := 131) (by decide) (fun _ => ?_) (fun _ => ?_)
      · exact h_ret hX (rv := none) dX11_items_131 trivial (fun h => h)
      · refine h_iload hX dX11_items_65 rfl ?_
        refine h_iconst hX dX11_items_67 ki_1 ?_
        refine h_iload hX dX11_items_68 rfl ?_
        refine h_ishl hX dX11_items_70 ?_
        refine h_ior hX dX11_items_71 ?_
        refine gH.leti (fun v5_4 => ?_)
        refine h_istore hX dX11_items_72 (by decide) (lv' := [(0, .ref (aM B 0)), (1, .int v1), (2, .ref (aM B 11)), (3, .int v3), (5, .int v5_4), (6, .int s.2.1)]) rfl ?_
        refine h_aload_n hX dX11_items_74 rfl rfl ?_
        refine h_dup hX dX11_items_75 rfl ?_
        refine get_RX11_103_M0 hX dX11_items_76 ?_
        refine h_iconst hX dX11_items_79 ki_1 ?_
        refine h_iadd hX dX11_items_80 ?_
        refine put_RX11_103_M0 hX dX11_items_81 ?_
        refine gH.letw (w := fun y => wdM B m_thrown m_size y s.2.2.2.1 m_deep m_laws m_text m_readBoys m_readMarbles m_readFarms m_boys m_marbles m_farms m_holding m_spills m_acts m_draws m_bestRow m_bestMany m_noted m_hasImage m_tape m_code m_value m_codes m_clauses m_testFrom m_sumFrom m_sumTo m_letters m_stack s.2.2.2.2 m_readBoy m_readMarble m_readFarm m_rule m_boy m_marble m_farm m_now m_refused m_kept m_notePlace m_noteKind m_noteIs m_toldBy m_image ++ fr) (fun m_at_5 => ?_)
        refine h_aload_n hX dX11_items_84 rfl rfl ?_
        refine h_iload_n hX dX11_items_85 rfl rfl ?_
        refine h_iload hX dX11_items_86 rfl ?_
        refine h_iadd hX dX11_items_88 ?_
        refine h_aload_n hX dX11_items_89 rfl rfl ?_
        refine h_iload_n hX dX11_items_90 rfl rfl ?_
        refine h_iload hX dX11_items_91 rfl ?_
        refine h_callSi hX dX11_items_93 (cs_RX11_223) (As := [.int v1, .int s.2.1]) (st := [.ref (aM B 0), .int (v3 + s.2.1), .ref (aM B 11)]) (fun _ h => c_M_lowest h) rfl rfl (by decide) (Nat.le_of_ble_eq_true rfl) (fun a_6 => ?_)
        refine h_iload_n hX dX11_items_96 rfl rfl ?_
        refine h_iload hX dX11_items_97 rfl ?_
        refine h_callSi hX dX11_items_99 (cs_RX11_226) (As := [.int v1, .int s.2.1]) (st := [.int a_6, .ref (aM B 0), .int (v3 + s.2.1), .ref (aM B 11)]) (fun _ h => c_M_highest h) rfl rfl (by decide) (Nat.le_of_ble_eq_true rfl) (fun a_7 => ?_)
        refine h_callVi hX dX11_items_102 (cv_RX11_229) rc_M0 (As := [.int a_6, .int a_7]) (st := [.int (v3 + s.2.1), .ref (aM B 11)]) (fun _ h => c_M_number h) rfl rfl (by decide) (Nat.le_of_ble_eq_true rfl) (fun a_8 => ?_)
        refine ast_M11 hX dX11_items_105 ?_
        refine gH.letw (w := fun y => wdM B m_thrown m_size a_8.2.1 a_8.2.2 m_deep m_laws m_text m_readBoys m_readMarbles m_readFarms m_boys m_marbles m_farms m_holding m_spills m_acts m_draws m_bestRow m_bestMany m_noted m_hasImage m_tape m_code m_value m_codes m_clauses m_testFrom m_sumFrom m_sumTo m_letters m_stack y m_readBoy m_readMarble m_readFarm m_rule m_boy m_marble m_farm m_now m_refused m_kept m_notePlace m_noteKind m_noteIs m_toldBy m_image ++ fr) (fun m_readRule_9 => ?_)
        refine h_aload_n hX dX11_items_106 rfl rfl ?_
        refine get_RX11_110_M0 hX dX11_items_107 ?_
        refine h_iconst hX dX11_items_110 ki_m1 ?_
        refine h_icmp_ne hX dX11_items_111 (tgt := 125) (by decide) (fun _ => ?_) (fun _ => ?_)
        · refine h_iconst hX dX11_items_125 ki_m1 ?_
          refine gH.dead [0, 1, 2, 3, 4] rfl ?_
          exact w_M_items_M11_J126 hX
        · refine h_iload_n hX dX11_items_114 rfl rfl ?_
          refine h_aload_n hX dX11_items_115 rfl rfl ?_
          refine h_callVi hX dX11_items_116 (cv_RX11_122) rc_M0 (As := []) (st := [.int v1]) (fun _ h => c_M_look h) rfl rfl (by decide) (Nat.le_of_ble_eq_true rfl) (fun a_10 => ?_)
          refine h_callSi hX dX11_items_119 (cs_RX11_216) (As := [.int v1, .int a_10.1]) (st := []) (fun _ h => c_M_itemOf h) rfl rfl (by decide) (Nat.le_of_ble_eq_true rfl) (fun a_11 => ?_)
          refine h_goto hX dX11_items_122 (tgt := 126) (by decide) ?_
          refine gH.dead [0, 1, 2, 3, 4] rfl ?_
          exact w_M_items_M11_J126 hX
set_option maxRecDepth 4000 in
theorem w_M_items_M11_L3 {v1 : Int32} {v3 : Int32} {v4 : Int32} (hX : gOk B X RX11 cX11_items 7 3 none) (s : (Int32 × (Nat → Int32))) : gH B X (Sum.elim (fun s : (Int32 × (Nat → Int32)) => gG B X 3 [(0, .ref (aM B 0)), (1, .int v1), (2, .ref (aM B 11)), (3, .int v3), (4, .int v4), (5, .int s.1)] [] (wdM B m_thrown m_size m_at m_wrong m_deep m_laws m_text m_readBoys m_readMarbles m_readFarms m_boys m_marbles m_farms m_holding m_spills m_acts m_draws m_bestRow m_bestMany m_noted m_hasImage m_tape m_code m_value m_codes m_clauses m_testFrom m_sumFrom m_sumTo m_letters m_stack s.2 m_readBoy m_readMarble m_readFarm m_rule m_boy m_marble m_farm m_now m_refused m_kept m_notePlace m_noteKind m_noteIs m_toldBy m_image ++ fr)) (fun r : (Int32 × Int32 × (Nat → Int32)) => gFin X (none) (wdM B m_thrown m_size r.1 r.2.1 m_deep m_laws m_text m_readBoys m_readMarbles m_readFarms m_boys m_marbles m_farms m_holding m_spills m_acts m_draws m_bestRow m_bestMany m_noted m_hasImage m_tape m_code m_value m_codes m_clauses m_testFrom m_sumFrom m_sumTo m_letters m_stack r.2.2 m_readBoy m_readMarble m_readFarm m_rule m_boy m_marble m_farm m_now m_refused m_kept m_notePlace m_noteKind m_noteIs m_toldBy m_image ++ fr))) 3 [(0, .ref (aM B 0)), (1, .int v1), (2, .ref (aM B 11)), (3, .int v3), (4, .int v4), (5, .int s.1)] [] (wdM B m_thrown m_size m_at m_wrong m_deep m_laws m_text m_readBoys m_readMarbles m_readFarms m_boys m_marbles m_farms m_holding m_spills m_acts m_draws m_bestRow m_bestMany m_noted m_hasImage m_tape m_code m_value m_codes m_clauses m_testFrom m_sumFrom m_sumTo m_letters m_stack s.2 m_readBoy m_readMarble m_readFarm m_rule m_boy m_marble m_farm m_now m_refused m_kept m_notePlace m_noteKind m_noteIs m_toldBy m_image ++ fr) (f_M_items_M11_L3 m_size m_at m_wrong m_tape v1 v3 v4 s) := by
  unfold f_M_items_M11_L3
  refine h_iload hX dX11_items_3 rfl ?_
  refine h_iload hX dX11_items_5 rfl ?_
  refine h_icmp_ge hX dX11_items_7 (tgt := 28) (by decide) (fun _ => ?_) (fun _ => ?_)
  · refine gH.inr ?_
    refine h_iconst hX dX11_items_28 ki_0 ?_
    refine h_istore hX dX11_items_29 (by decide) (lv' := [(0, .ref (aM B 0)), (1, .int v1), (2, .ref (aM B 11)), (3, .int v3), (4, .int v4), (5, .int 0)]) rfl ?_
    refine h_iload_n hX dX11_items_31 rfl rfl ?_
    refine h_aload_n hX dX11_items_32 rfl rfl ?_
    refine h_callVi hX dX11_items_33 (cv_RX11_122) rc_M0 (As := []) (st := [.int v1]) (fun _ h => c_M_look h) rfl rfl (by decide) (Nat.le_of_ble_eq_true rfl) (fun a_1 => ?_)
    refine h_callSi hX dX11_items_36 (cs_RX11_216) (As := [.int v1, .int a_1.1]) (st := []) (fun _ h => c_M_itemOf h) rfl rfl (by decide) (Nat.le_of_ble_eq_true rfl) (fun a_2 => ?_)
    refine h_istore hX dX11_items_39 (by decide) (lv' := [(0, .ref (aM B 0)), (1, .int v1), (2, .ref (aM B 11)), (3, .int v3), (4, .int v4), (5, .int 0), (6, .int a_2)]) rfl ?_
    refine gH.dead [0, 1, 2, 3, 5, 6] rfl ?_
    exact gH.loop (lvf := fun z : (Int32 × Int32 × Int32 × Int32 × (Nat → Int32)) => [(0, .ref (aM B 0)), (1, .int v1), (2, .ref (aM B 11)), (3, .int v3), (5, .int z.1), (6, .int z.2.1)]) (wf := fun z : (Int32 × Int32 × Int32 × Int32 × (Nat → Int32)) => wdM B m_thrown m_size z.2.2.1 z.2.2.2.1 m_deep m_laws m_text m_readBoys m_readMarbles m_readFarms m_boys m_marbles m_farms m_holding m_spills m_acts m_draws m_bestRow m_bestMany m_noted m_hasImage m_tape m_code m_value m_codes m_clauses m_testFrom m_sumFrom m_sumTo m_letters m_stack z.2.2.2.2 m_readBoy m_readMarble m_readFarm m_rule m_boy m_marble m_farm m_now m_refused m_kept m_notePlace m_noteKind m_noteIs m_toldBy m_image ++ fr) (fun z => w_M_items_M11_L41 hX z) (0, a_2, a_1.2, m_wrong, s.2)
  · refine h_aload_n hX dX11_items_10 rfl rfl ?_
    refine h_iload_n hX dX11_items_11 rfl rfl ?_
    refine h_iload hX dX11_items_12 rfl ?_
    refine h_iadd hX dX11_items_14 ?_
    refine h_iload_n hX dX11_items_15 rfl rfl ?_
    refine h_iload hX dX11_items_16 rfl ?_
    refine h_callSi hX dX11_items_18 (cs_RX11_212) (As := [.int v1, .int s.1]) (st := [.int (v3 + s.1), .ref (aM B 11)]) (fun _ h => c_M_usual h) rfl rfl (by decide) (Nat.le_of_ble_eq_true rfl) (fun a_12 => ?_)
    refine ast_M11 hX dX11_items_21 ?_
    refine gH.letw (w := fun y => wdM B m_thrown m_size m_at m_wrong m_deep m_laws m_text m_readBoys m_readMarbles m_readFarms m_boys m_marbles m_farms m_holding m_spills m_acts m_draws m_bestRow m_bestMany m_noted m_hasImage m_tape m_code m_value m_codes m_clauses m_testFrom m_sumFrom m_sumTo m_letters m_stack y m_readBoy m_readMarble m_readFarm m_rule m_boy m_marble m_farm m_now m_refused m_kept m_notePlace m_noteKind m_noteIs m_toldBy m_image ++ fr) (fun m_readRule_13 => ?_)
    refine h_iincc hX dX11_items_22 rfl ki_1 (by decide) (lv' := [(0, .ref (aM B 0)), (1, .int v1), (2, .ref (aM B 11)), (3, .int v3), (4, .int v4), (5, .int (s.1 + 1))]) rfl ?_
    refine h_goto hX dX11_items_25 (tgt := 3) (by decide) ?_
    exact gH.some' (fun h => h)
set_option maxRecDepth 4000 in
theorem w_M_items_M11 {p0 : Int32} {p1 : Int32} {p2 : Int32} (hX : gOk B X RX11 cX11_items 7 3 none) : gH B X (fun r : (Int32 × Int32 × (Nat → Int32)) => gFin X (none) (wdM B m_thrown m_size r.1 r.2.1 m_deep m_laws m_text m_readBoys m_readMarbles m_readFarms m_boys m_marbles m_farms m_holding m_spills m_acts m_draws m_bestRow m_bestMany m_noted m_hasImage m_tape m_code m_value m_codes m_clauses m_testFrom m_sumFrom m_sumTo m_letters m_stack r.2.2 m_readBoy m_readMarble m_readFarm m_rule m_boy m_marble m_farm m_now m_refused m_kept m_notePlace m_noteKind m_noteIs m_toldBy m_image ++ fr)) 0 [(0, .ref (aM B 0)), (1, .int p0), (2, .ref (aM B 11)), (3, .int p1), (4, .int p2)] [] (wdM B m_thrown m_size m_at m_wrong m_deep m_laws m_text m_readBoys m_readMarbles m_readFarms m_boys m_marbles m_farms m_holding m_spills m_acts m_draws m_bestRow m_bestMany m_noted m_hasImage m_tape m_code m_value m_codes m_clauses m_testFrom m_sumFrom m_sumTo m_letters m_stack m_readRule m_readBoy m_readMarble m_readFarm m_rule m_boy m_marble m_farm m_now m_refused m_kept m_notePlace m_noteKind m_noteIs m_toldBy m_image ++ fr) (f_M_items_M11 m_size m_at m_wrong m_tape m_readRule p0 p1 p2) := by
  unfold f_M_items_M11
  refine h_iconst hX dX11_items_0 ki_0 ?_
  refine h_istore hX dX11_items_1 (by decide) (lv' := [(0, .ref (aM B 0)), (1, .int p0), (2, .ref (aM B 11)), (3, .int p1), (4, .int p2), (5, .int 0)]) rfl ?_
  exact gH.loop (lvf := fun z : (Int32 × (Nat → Int32)) => [(0, .ref (aM B 0)), (1, .int p0), (2, .ref (aM B 11)), (3, .int p1), (4, .int p2), (5, .int z.1)]) (wf := fun z : (Int32 × (Nat → Int32)) => wdM B m_thrown m_size m_at m_wrong m_deep m_laws m_text m_readBoys m_readMarbles m_readFarms m_boys m_marbles m_farms m_holding m_spills m_acts m_draws m_bestRow m_bestMany m_noted m_hasImage m_tape m_code m_value m_codes m_clauses m_testFrom m_sumFrom m_sumTo m_letters m_stack z.2 m_readBoy m_readMarble m_readFarm m_rule m_boy m_marble m_farm m_now m_refused m_kept m_notePlace m_noteKind m_noteIs m_toldBy m_image ++ fr) (fun z => w_M_items_M11_L3 hX z) (0, m_readRule)
theorem c_M_items_M11 {p0 : Int32} {p1 : Int32} {p2 : Int32} {r : (Int32 × Int32 × (Nat → Int32))} (h : f_M_items_M11 m_size m_at m_wrong m_tape m_readRule p0 p1 p2 = some r) : gMet B 3 yX11_items cX11_items 7 none [.ref (aM B 0), .int p0, .ref (aM B 11), .int p1, .int p2] (wdM B m_thrown m_size m_at m_wrong m_deep m_laws m_text m_readBoys m_readMarbles m_readFarms m_boys m_marbles m_farms m_holding m_spills m_acts m_draws m_bestRow m_bestMany m_noted m_hasImage m_tape m_code m_value m_codes m_clauses m_testFrom m_sumFrom m_sumTo m_letters m_stack m_readRule m_readBoy m_readMarble m_readFarm m_rule m_boy m_marble m_farm m_now m_refused m_kept m_notePlace m_noteKind m_noteIs m_toldBy m_image ++ fr) (none) (wdM B m_thrown m_size r.1 r.2.1 m_deep m_laws m_text m_readBoys m_readMarbles m_readFarms m_boys m_marbles m_farms m_holding m_spills m_acts m_draws m_bestRow m_bestMany m_noted m_hasImage m_tape m_code m_value m_codes m_clauses m_testFrom m_sumFrom m_sumTo m_letters m_stack r.2.2 m_readBoy m_readMarble m_readFarm m_rule m_boy m_marble m_farm m_now m_refused m_kept m_notePlace m_noteKind m_noteIs m_toldBy m_image ++ fr) :=
  gMet.of rfl (Nat.le_of_ble_eq_true rfl) (fun X hX hF => w_M_items_M11 hX r h hF)
set_option maxRecDepth 4000 in
theorem w_M_clauseText {p0 : Int32} (hX : gOk B X RX11 cX11_clauseText 2 4 none) : gH B X (fun r : (Int32 × Int32 × Int32 × Int32 × Int32 × (Nat → Int32) × (Nat → Int32) × (Nat → Int32) × (Nat → Int32)) => gFin X (none) (wdM B m_thrown m_size r.1 r.2.1 m_deep m_laws m_text r.2.2.1 r.2.2.2.1 r.2.2.2.2.1 m_boys m_marbles m_farms m_holding m_spills m_acts m_draws m_bestRow m_bestMany m_noted m_hasImage m_tape m_code m_value m_codes m_clauses m_testFrom m_sumFrom m_sumTo m_letters m_stack r.2.2.2.2.2.1 r.2.2.2.2.2.2.1 r.2.2.2.2.2.2.2.1 r.2.2.2.2.2.2.2.2 m_rule m_boy m_marble m_farm m_now m_refused m_kept m_notePlace m_noteKind m_noteIs m_toldBy m_image ++ fr)) 0 [(0, .ref (aM B 0)), (1, .int p0)] [] (wdM B m_thrown m_size m_at m_wrong m_deep m_laws m_text m_readBoys m_readMarbles m_readFarms m_boys m_marbles m_farms m_holding m_spills m_acts m_draws m_bestRow m_bestMany m_noted m_hasImage m_tape m_code m_value m_codes m_clauses m_testFrom m_sumFrom m_sumTo m_letters m_stack m_readRule m_readBoy m_readMarble m_readFarm m_rule m_boy m_marble m_farm m_now m_refused m_kept m_notePlace m_noteKind m_noteIs m_toldBy m_image ++ fr) (f_M_clauseText m_size m_at m_wrong m_readBoys m_readMarbles m_readFarms m_tape m_readRule m_readBoy m_readMarble m_readFarm p0) := by
  unfold f_M_clauseText
  refine h_aload_n hX dX11_clauseText_0 rfl rfl ?_
  refine h_dup hX dX11_clauseText_1 rfl ?_
  refine get_RX11_103_M0 hX dX11_clauseText_2 ?_
  refine h_iconst hX dX11_clauseText_5 ki_1 ?_
  refine h_iadd hX dX11_clauseText_6 ?_
  refine put_RX11_103_M0 hX dX11_clauseText_7 ?_
  refine gH.letw (w := fun y => wdM B m_thrown m_size y m_wrong m_deep m_laws m_text m_readBoys m_readMarbles m_readFarms m_boys m_marbles m_farms m_holding m_spills m_acts m_draws m_bestRow m_bestMany m_noted m_hasImage m_tape m_code m_value m_codes m_clauses m_testFrom m_sumFrom m_sumTo m_letters m_stack m_readRule m_readBoy m_readMarble m_readFarm m_rule m_boy m_marble m_farm m_now m_refused m_kept m_notePlace m_noteKind m_noteIs m_toldBy m_image ++ fr) (fun m_at_1 => ?_)
  refine h_iload_n hX dX11_clauseText_10 rfl rfl ?_
  refine gH.ite (fun hc98 => ?_) (fun hc98 => ?_)
  · refine h_lksw hX dX11_clauseText_11 (by decide) (by rw [hc98]; decide) (off := 47) (tgt := 58) (by decide) ?_
    refine h_aload_n hX dX11_clauseText_58 rfl rfl ?_
    refine h_iload_n hX dX11_clauseText_59 rfl rfl ?_
    refine h_aload_n hX dX11_clauseText_60 rfl rfl ?_
    refine get_RX11_43_M0 hX dX11_clauseText_61 ?_
    refine h_iconst hX dX11_clauseText_64 ki_2 ?_
    refine h_aload_n hX dX11_clauseText_65 rfl rfl ?_
    refine get_RX11_236_M0 hX dX11_clauseText_66 ?_
    refine h_imul hX dX11_clauseText_69 ?_
    refine h_iconst hX dX11_clauseText_70 ki_2 ?_
    refine h_callVv hX dX11_clauseText_71 (cv_RX11_232) rc_M0 (As := [.int p0, .ref (aM B 12), .int (2 * m_readBoys), .int 2]) (st := []) (fun _ h => c_M_items_M12 h) rfl rfl (by decide) (Nat.le_of_ble_eq_true rfl) (fun a_2 => ?_)
    refine h_aload_n hX dX11_clauseText_74 rfl rfl ?_
    refine h_dup hX dX11_clauseText_75 rfl ?_
    refine get_RX11_236_M0 hX dX11_clauseText_76 ?_
    refine h_iconst hX dX11_clauseText_79 ki_1 ?_
    refine h_iadd hX dX11_clauseText_80 ?_
    refine put_RX11_236_M0 hX dX11_clauseText_81 ?_
    refine gH.letw (w := fun y => wdM B m_thrown m_size a_2.1 a_2.2.1 m_deep m_laws m_text y m_readMarbles m_readFarms m_boys m_marbles m_farms m_holding m_spills m_acts m_draws m_bestRow m_bestMany m_noted m_hasImage m_tape m_code m_value m_codes m_clauses m_testFrom m_sumFrom m_sumTo m_letters m_stack m_readRule a_2.2.2 m_readMarble m_readFarm m_rule m_boy m_marble m_farm m_now m_refused m_kept m_notePlace m_noteKind m_noteIs m_toldBy m_image ++ fr) (fun m_readBoys_3 => ?_)
    refine h_goto hX dX11_clauseText_84 (tgt := 142) (by decide) ?_
    exact h_ret hX (rv := none) dX11_clauseText_142 trivial (fun h => h)
  refine gH.ite (fun hc109 => ?_) (fun hc109 => ?_)
  · refine h_lksw hX dX11_clauseText_11 (by decide) (by rw [hc109]; decide) (off := 76) (tgt := 87) (by decide) ?_
    refine h_aload_n hX dX11_clauseText_87 rfl rfl ?_
    refine h_iload_n hX dX11_clauseText_88 rfl rfl ?_
    refine h_aload_n hX dX11_clauseText_89 rfl rfl ?_
    refine get_RX11_46_M0 hX dX11_clauseText_90 ?_
    refine h_iconst hX dX11_clauseText_93 ki_3 ?_
    refine h_aload_n hX dX11_clauseText_94 rfl rfl ?_
    refine get_RX11_239_M0 hX dX11_clauseText_95 ?_
    refine h_imul hX dX11_clauseText_98 ?_
    refine h_iconst hX dX11_clauseText_99 ki_3 ?_
    refine h_callVv hX dX11_clauseText_100 (cv_RX11_232) rc_M0 (As := [.int p0, .ref (aM B 13), .int (3 * m_readMarbles), .int 3]) (st := []) (fun _ h => c_M_items_M13 h) rfl rfl (by decide) (Nat.le_of_ble_eq_true rfl) (fun a_4 => ?_)
    refine h_aload_n hX dX11_clauseText_103 rfl rfl ?_
    refine h_dup hX dX11_clauseText_104 rfl ?_
    refine get_RX11_239_M0 hX dX11_clauseText_105 ?_
    refine h_iconst hX dX11_clauseText_108 ki_1 ?_
    refine h_iadd hX dX11_clauseText_109 ?_
    refine put_RX11_239_M0 hX dX11_clauseText_110 ?_
    refine gH.letw (w := fun y => wdM B m_thrown m_size a_4.1 a_4.2.1 m_deep m_laws m_text m_readBoys y m_readFarms m_boys m_marbles m_farms m_holding m_spills m_acts m_draws m_bestRow m_bestMany m_noted m_hasImage m_tape m_code m_value m_codes m_clauses m_testFrom m_sumFrom m_sumTo m_letters m_stack m_readRule m_readBoy a_4.2.2 m_readFarm m_rule m_boy m_marble m_farm m_now m_refused m_kept m_notePlace m_noteKind m_noteIs m_toldBy m_image ++ fr) (fun m_readMarbles_5 => ?_)
    refine h_goto hX dX11_clauseText_113 (tgt := 142) (by decide) ?_
    exact h_ret hX (rv := none) dX11_clauseText_142 trivial (fun h => h)
  refine gH.ite (fun hc115 => ?_) (fun hc115 => ?_)
  · refine h_lksw hX dX11_clauseText_11 (by decide) (by rw [hc115]; decide) (off := 33) (tgt := 44) (by decide) ?_
    refine h_aload_n hX dX11_clauseText_44 rfl rfl ?_
    refine h_iload_n hX dX11_clauseText_45 rfl rfl ?_
    refine h_aload_n hX dX11_clauseText_46 rfl rfl ?_
    refine get_RX11_40_M0 hX dX11_clauseText_47 ?_
    refine h_iconst hX dX11_clauseText_50 ki_0 ?_
    refine h_iconst hX dX11_clauseText_51 ki_3 ?_
    refine h_callVv hX dX11_clauseText_52 (cv_RX11_232) rc_M0 (As := [.int p0, .ref (aM B 11), .int 0, .int 3]) (st := []) (fun _ h => c_M_items_M11 h) rfl rfl (by decide) (Nat.le_of_ble_eq_true rfl) (fun a_6 => ?_)
    refine h_goto hX dX11_clauseText_55 (tgt := 142) (by decide) ?_
    exact h_ret hX (rv := none) dX11_clauseText_142 trivial (fun h => h)
  refine h_lkdef hX dX11_clauseText_11 (by decide) (cs := [98, 109, 115]) (by decide) (List.forall_mem_cons.mpr ⟨hc98, (List.forall_mem_cons.mpr ⟨hc109, (List.forall_mem_cons.mpr ⟨hc115, fun _ h => absurd h List.not_mem_nil⟩)⟩)⟩) (tgt := 116) (by decide) ?_
  refine h_aload_n hX dX11_clauseText_116 rfl rfl ?_
  refine h_iload_n hX dX11_clauseText_117 rfl rfl ?_
  refine h_aload_n hX dX11_clauseText_118 rfl rfl ?_
  refine get_RX11_49_M0 hX dX11_clauseText_119 ?_
  refine h_iconst hX dX11_clauseText_122 ki_3 ?_
  refine h_aload_n hX dX11_clauseText_123 rfl rfl ?_
  refine get_RX11_242_M0 hX dX11_clauseText_124 ?_
  refine h_imul hX dX11_clauseText_127 ?_
  refine h_iconst hX dX11_clauseText_128 ki_3 ?_
  refine h_callVv hX dX11_clauseText_129 (cv_RX11_232) rc_M0 (As := [.int p0, .ref (aM B 14), .int (3 * m_readFarms), .int 3]) (st := []) (fun _ h => c_M_items_M14 h) rfl rfl (by decide) (Nat.le_of_ble_eq_true rfl) (fun a_7 => ?_)
  refine h_aload_n hX dX11_clauseText_132 rfl rfl ?_
  refine h_dup hX dX11_clauseText_133 rfl ?_
  refine get_RX11_242_M0 hX dX11_clauseText_134 ?_
  refine h_iconst hX dX11_clauseText_137 ki_1 ?_
  refine h_iadd hX dX11_clauseText_138 ?_
  refine put_RX11_242_M0 hX dX11_clauseText_139 ?_
  refine gH.letw (w := fun y => wdM B m_thrown m_size a_7.1 a_7.2.1 m_deep m_laws m_text m_readBoys m_readMarbles y m_boys m_marbles m_farms m_holding m_spills m_acts m_draws m_bestRow m_bestMany m_noted m_hasImage m_tape m_code m_value m_codes m_clauses m_testFrom m_sumFrom m_sumTo m_letters m_stack m_readRule m_readBoy m_readMarble a_7.2.2 m_rule m_boy m_marble m_farm m_now m_refused m_kept m_notePlace m_noteKind m_noteIs m_toldBy m_image ++ fr) (fun m_readFarms_8 => ?_)
  exact h_ret hX (rv := none) dX11_clauseText_142 trivial (fun h => h)
theorem c_M_clauseText {p0 : Int32} {r : (Int32 × Int32 × Int32 × Int32 × Int32 × (Nat → Int32) × (Nat → Int32) × (Nat → Int32) × (Nat → Int32))} (h : f_M_clauseText m_size m_at m_wrong m_readBoys m_readMarbles m_readFarms m_tape m_readRule m_readBoy m_readMarble m_readFarm p0 = some r) : gMet B 4 yX11_clauseText cX11_clauseText 2 none [.ref (aM B 0), .int p0] (wdM B m_thrown m_size m_at m_wrong m_deep m_laws m_text m_readBoys m_readMarbles m_readFarms m_boys m_marbles m_farms m_holding m_spills m_acts m_draws m_bestRow m_bestMany m_noted m_hasImage m_tape m_code m_value m_codes m_clauses m_testFrom m_sumFrom m_sumTo m_letters m_stack m_readRule m_readBoy m_readMarble m_readFarm m_rule m_boy m_marble m_farm m_now m_refused m_kept m_notePlace m_noteKind m_noteIs m_toldBy m_image ++ fr) (none) (wdM B m_thrown m_size r.1 r.2.1 m_deep m_laws m_text r.2.2.1 r.2.2.2.1 r.2.2.2.2.1 m_boys m_marbles m_farms m_holding m_spills m_acts m_draws m_bestRow m_bestMany m_noted m_hasImage m_tape m_code m_value m_codes m_clauses m_testFrom m_sumFrom m_sumTo m_letters m_stack r.2.2.2.2.2.1 r.2.2.2.2.2.2.1 r.2.2.2.2.2.2.2.1 r.2.2.2.2.2.2.2.2 m_rule m_boy m_marble m_farm m_now m_refused m_kept m_notePlace m_noteKind m_noteIs m_toldBy m_image ++ fr) :=
  gMet.of rfl (Nat.le_of_ble_eq_true rfl) (fun X hX hF => w_M_clauseText hX r h hF)
set_option maxRecDepth 4000 in
theorem w_M_corner_J87 {v2 : Int32} {v3 : Int32} (hX : gOk B X RX11 cX11_corner 5 2 (some .int)) : gH B X (fun r : Int32 => gFin X (some (.int r)) (wdM B m_thrown m_size m_at m_wrong m_deep m_laws m_text m_readBoys m_readMarbles m_readFarms m_boys m_marbles m_farms m_holding m_spills m_acts m_draws m_bestRow m_bestMany m_noted m_hasImage m_tape m_code m_value m_codes m_clauses m_testFrom m_sumFrom m_sumTo m_letters m_stack m_readRule m_readBoy m_readMarble m_readFarm m_rule m_boy m_marble m_farm m_now m_refused m_kept m_notePlace m_noteKind m_noteIs m_toldBy m_image ++ fr)) 87 [(2, .int v2), (3, .int v3)] [] (wdM B m_thrown m_size m_at m_wrong m_deep m_laws m_text m_readBoys m_readMarbles m_readFarms m_boys m_marbles m_farms m_holding m_spills m_acts m_draws m_bestRow m_bestMany m_noted m_hasImage m_tape m_code m_value m_codes m_clauses m_testFrom m_sumFrom m_sumTo m_letters m_stack m_readRule m_readBoy m_readMarble m_readFarm m_rule m_boy m_marble m_farm m_now m_refused m_kept m_notePlace m_noteKind m_noteIs m_toldBy m_image ++ fr) (f_M_corner_J87 v2 v3) := by
  unfold f_M_corner_J87
  refine h_iload_n hX dX11_corner_87 rfl rfl ?_
  refine h_if_eq hX dX11_corner_88 (tgt := 95) (by decide) (fun _ => ?_) (fun _ => ?_)
  · refine h_iconst hX dX11_corner_95 ki_m1 ?_
    exact h_ret hX (rv := some (.int ((-1)))) dX11_corner_96 trivial (fun h => h)
  · refine h_iload_n hX dX11_corner_91 rfl rfl ?_
    refine h_goto hX dX11_corner_92 (tgt := 96) (by decide) ?_
    exact h_ret hX (rv := some (.int v2)) dX11_corner_96 trivial (fun h => h)
set_option maxRecDepth 4000 in
theorem w_M_corner_J81 {v1 : Int32} {v2 : Int32} {v3 : Int32} {v4 : Int32} (hX : gOk B X RX11 cX11_corner 5 2 (some .int)) : gH B X (Sum.elim (fun s : (Int32 × Int32 × Int32) => gG B X 10 [(0, .ref (aM B 0)), (1, .int v1), (2, .int s.1), (3, .int s.2.1), (4, .int s.2.2)] [] (wdM B m_thrown m_size m_at m_wrong m_deep m_laws m_text m_readBoys m_readMarbles m_readFarms m_boys m_marbles m_farms m_holding m_spills m_acts m_draws m_bestRow m_bestMany m_noted m_hasImage m_tape m_code m_value m_codes m_clauses m_testFrom m_sumFrom m_sumTo m_letters m_stack m_readRule m_readBoy m_readMarble m_readFarm m_rule m_boy m_marble m_farm m_now m_refused m_kept m_notePlace m_noteKind m_noteIs m_toldBy m_image ++ fr)) (fun r : Int32 => gFin X (some (.int r)) (wdM B m_thrown m_size m_at m_wrong m_deep m_laws m_text m_readBoys m_readMarbles m_readFarms m_boys m_marbles m_farms m_holding m_spills m_acts m_draws m_bestRow m_bestMany m_noted m_hasImage m_tape m_code m_value m_codes m_clauses m_testFrom m_sumFrom m_sumTo m_letters m_stack m_readRule m_readBoy m_readMarble m_readFarm m_rule m_boy m_marble m_farm m_now m_refused m_kept m_notePlace m_noteKind m_noteIs m_toldBy m_image ++ fr))) 81 [(0, .ref (aM B 0)), (1, .int v1), (2, .int v2), (3, .int v3), (4, .int v4)] [] (wdM B m_thrown m_size m_at m_wrong m_deep m_laws m_text m_readBoys m_readMarbles m_readFarms m_boys m_marbles m_farms m_holding m_spills m_acts m_draws m_bestRow m_bestMany m_noted m_hasImage m_tape m_code m_value m_codes m_clauses m_testFrom m_sumFrom m_sumTo m_letters m_stack m_readRule m_readBoy m_readMarble m_readFarm m_rule m_boy m_marble m_farm m_now m_refused m_kept m_notePlace m_noteKind m_noteIs m_toldBy m_image ++ fr) (f_M_corner_J81 v2 v3 v4) := by
  unfold f_M_corner_J81
  refine h_iincc hX dX11_corner_81 rfl ki_1 (by decide) (lv' := [(0, .ref (aM B 0)), (1, .int v1), (2, .int v2), (3, .int v3), (4, .int (v4 + 1))]) rfl ?_
  refine h_goto hX dX11_corner_84 (tgt := 10) (by decide) ?_
  exact gH.some' (fun h => h)
set_option maxRecDepth 4000 in
theorem w_M_corner_J70 {v1 : Int32} {v4 : Int32} {k0 : Int32} (hX : gOk B X RX11 cX11_corner 5 2 (some .int)) : gH B X (Sum.elim (fun s : (Int32 × Int32 × Int32) => gG B X 10 [(0, .ref (aM B 0)), (1, .int v1), (2, .int s.1), (3, .int s.2.1), (4, .int s.2.2)] [] (wdM B m_thrown m_size m_at m_wrong m_deep m_laws m_text m_readBoys m_readMarbles m_readFarms m_boys m_marbles m_farms m_holding m_spills m_acts m_draws m_bestRow m_bestMany m_noted m_hasImage m_tape m_code m_value m_codes m_clauses m_testFrom m_sumFrom m_sumTo m_letters m_stack m_readRule m_readBoy m_readMarble m_readFarm m_rule m_boy m_marble m_farm m_now m_refused m_kept m_notePlace m_noteKind m_noteIs m_toldBy m_image ++ fr)) (fun r : Int32 => gFin X (some (.int r)) (wdM B m_thrown m_size m_at m_wrong m_deep m_laws m_text m_readBoys m_readMarbles m_readFarms m_boys m_marbles m_farms m_holding m_spills m_acts m_draws m_bestRow m_bestMany m_noted m_hasImage m_tape m_code m_value m_codes m_clauses m_testFrom m_sumFrom m_sumTo m_letters m_stack m_readRule m_readBoy m_readMarble m_readFarm m_rule m_boy m_marble m_farm m_now m_refused m_kept m_notePlace m_noteKind m_noteIs m_toldBy m_image ++ fr))) 70 [(0, .ref (aM B 0)), (1, .int v1), (4, .int v4)] [.int k0] (wdM B m_thrown m_size m_at m_wrong m_deep m_laws m_text m_readBoys m_readMarbles m_readFarms m_boys m_marbles m_farms m_holding m_spills m_acts m_draws m_bestRow m_bestMany m_noted m_hasImage m_tape m_code m_value m_codes m_clauses m_testFrom m_sumFrom m_sumTo m_letters m_stack m_readRule m_readBoy m_readMarble m_readFarm m_rule m_boy m_marble m_farm m_now m_refused m_kept m_notePlace m_noteKind m_noteIs m_toldBy m_image ++ fr) (f_M_corner_J70 m_now v4 k0) := by
  unfold f_M_corner_J70
  refine h_istore_n hX dX11_corner_70 rfl (by decide) (lv' := [(0, .ref (aM B 0)), (1, .int v1), (3, .int k0), (4, .int v4)]) rfl ?_
  refine h_aload_n hX dX11_corner_71 rfl rfl ?_
  refine get_RX11_64_M0 hX dX11_corner_72 ?_
  refine h_iconst hX dX11_corner_75 ki_0 ?_
  refine h_iload hX dX11_corner_76 rfl ?_
  refine h_iadd hX dX11_corner_78 ?_
  refine ald_M19 hX dX11_corner_79 ?_
  refine gH.leti (fun v2_4 => ?_)
  refine h_istore_n hX dX11_corner_80 rfl (by decide) (lv' := [(0, .ref (aM B 0)), (1, .int v1), (2, .int v2_4), (3, .int k0), (4, .int v4)]) rfl ?_
  exact w_M_corner_J81 hX
set_option maxRecDepth 4000 in
theorem w_M_corner_J65 {v1 : Int32} {v4 : Int32} (hX : gOk B X RX11 cX11_corner 5 2 (some .int)) : gH B X (Sum.elim (fun s : (Int32 × Int32 × Int32) => gG B X 10 [(0, .ref (aM B 0)), (1, .int v1), (2, .int s.1), (3, .int s.2.1), (4, .int s.2.2)] [] (wdM B m_thrown m_size m_at m_wrong m_deep m_laws m_text m_readBoys m_readMarbles m_readFarms m_boys m_marbles m_farms m_holding m_spills m_acts m_draws m_bestRow m_bestMany m_noted m_hasImage m_tape m_code m_value m_codes m_clauses m_testFrom m_sumFrom m_sumTo m_letters m_stack m_readRule m_readBoy m_readMarble m_readFarm m_rule m_boy m_marble m_farm m_now m_refused m_kept m_notePlace m_noteKind m_noteIs m_toldBy m_image ++ fr)) (fun r : Int32 => gFin X (some (.int r)) (wdM B m_thrown m_size m_at m_wrong m_deep m_laws m_text m_readBoys m_readMarbles m_readFarms m_boys m_marbles m_farms m_holding m_spills m_acts m_draws m_bestRow m_bestMany m_noted m_hasImage m_tape m_code m_value m_codes m_clauses m_testFrom m_sumFrom m_sumTo m_letters m_stack m_readRule m_readBoy m_readMarble m_readFarm m_rule m_boy m_marble m_farm m_now m_refused m_kept m_notePlace m_noteKind m_noteIs m_toldBy m_image ++ fr))) 65 [(0, .ref (aM B 0)), (1, .int v1), (4, .int v4)] [] (wdM B m_thrown m_size m_at m_wrong m_deep m_laws m_text m_readBoys m_readMarbles m_readFarms m_boys m_marbles m_farms m_holding m_spills m_acts m_draws m_bestRow m_bestMany m_noted m_hasImage m_tape m_code m_value m_codes m_clauses m_testFrom m_sumFrom m_sumTo m_letters m_stack m_readRule m_readBoy m_readMarble m_readFarm m_rule m_boy m_marble m_farm m_now m_refused m_kept m_notePlace m_noteKind m_noteIs m_toldBy m_image ++ fr) (f_M_corner_J65 m_now v4) := by
  unfold f_M_corner_J65
  refine h_iconst hX dX11_corner_65 ki_1 ?_
  refine h_goto hX dX11_corner_66 (tgt := 70) (by decide) ?_
  exact w_M_corner_J70 hX
set_option maxRecDepth 4000 in
theorem w_M_corner_L10 {v1 : Int32} (hX : gOk B X RX11 cX11_corner 5 2 (some .int)) (s : (Int32 × Int32 × Int32)) : gH B X (Sum.elim (fun s : (Int32 × Int32 × Int32) => gG B X 10 [(0, .ref (aM B 0)), (1, .int v1), (2, .int s.1), (3, .int s.2.1), (4, .int s.2.2)] [] (wdM B m_thrown m_size m_at m_wrong m_deep m_laws m_text m_readBoys m_readMarbles m_readFarms m_boys m_marbles m_farms m_holding m_spills m_acts m_draws m_bestRow m_bestMany m_noted m_hasImage m_tape m_code m_value m_codes m_clauses m_testFrom m_sumFrom m_sumTo m_letters m_stack m_readRule m_readBoy m_readMarble m_readFarm m_rule m_boy m_marble m_farm m_now m_refused m_kept m_notePlace m_noteKind m_noteIs m_toldBy m_image ++ fr)) (fun r : Int32 => gFin X (some (.int r)) (wdM B m_thrown m_size m_at m_wrong m_deep m_laws m_text m_readBoys m_readMarbles m_readFarms m_boys m_marbles m_farms m_holding m_spills m_acts m_draws m_bestRow m_bestMany m_noted m_hasImage m_tape m_code m_value m_codes m_clauses m_testFrom m_sumFrom m_sumTo m_letters m_stack m_readRule m_readBoy m_readMarble m_readFarm m_rule m_boy m_marble m_farm m_now m_refused m_kept m_notePlace m_noteKind m_noteIs m_toldBy m_image ++ fr))) 10 [(0, .ref (aM B 0)), (1, .int v1), (2, .int s.1), (3, .int s.2.1), (4, .int s.2.2)] [] (wdM B m_thrown m_size m_at m_wrong m_deep m_laws m_text m_readBoys m_readMarbles m_readFarms m_boys m_marbles m_farms m_holding m_spills m_acts m_draws m_bestRow m_bestMany m_noted m_hasImage m_tape m_code m_value m_codes m_clauses m_testFrom m_sumFrom m_sumTo m_letters m_stack m_readRule m_readBoy m_readMarble m_readFarm m_rule m_boy m_marble m_farm m_now m_refused m_kept m_notePlace m_noteKind m_noteIs m_toldBy m_image ++ fr) (f_M_corner_L10 m_marbles m_marble m_now v1 s) := by
  unfold f_M_corner_L10
  refine h_iload hX dX11_corner_10 rfl ?_
  refine h_aload_n hX dX11_corner_12 rfl rfl ?_
  refine get_RX11_261_M0 hX dX11_corner_13 ?_
  refine h_icmp_ge hX dX11_corner_16 (tgt := 87) (by decide) (fun _ => ?_) (fun _ => ?_)
  · refine gH.inr ?_
    refine gH.dead [2, 3] rfl ?_
    exact w_M_corner_J87 hX
  · refine h_iload_n hX dX11_corner_19 rfl rfl ?_
    refine h_if_eq hX dX11_corner_20 (tgt := 87) (by decide) (fun _ => ?_) (fun _ => ?_)
    · refine gH.inr ?_
      refine gH.dead [2, 3] rfl ?_
      exact w_M_corner_J87 hX
    · refine h_aload_n hX dX11_corner_23 rfl rfl ?_
      refine h_iload hX dX11_corner_24 rfl ?_
      refine h_iconst hX dX11_corner_26 ki_1 ?_
      refine h_callVi hX dX11_corner_27 (cv_RX11_267) rc_M0 (As := [.int s.2.2, .int 1]) (st := []) (fun _ h => c_M_of h) rfl rfl (by decide) (Nat.le_of_ble_eq_true rfl) (fun a_2 => ?_)
      refine h_iload_n hX dX11_corner_30 rfl rfl ?_
      refine h_icmp_ne hX dX11_corner_31 (tgt := 81) (by decide) (fun _ => ?_) (fun _ => ?_)
      · exact w_M_corner_J81 hX
      · refine h_aload_n hX dX11_corner_34 rfl rfl ?_
        refine get_RX11_64_M0 hX dX11_corner_35 ?_
        refine h_iconst hX dX11_corner_38 ki_0 ?_
        refine h_iload hX dX11_corner_39 rfl ?_
        refine h_iadd hX dX11_corner_41 ?_
        refine ald_M19 hX dX11_corner_42 ?_
        refine h_iconst hX dX11_corner_43 ki_m1 ?_
        refine h_icmp_eq hX dX11_corner_44 (tgt := 81) (by decide) (fun _ => ?_) (fun _ => ?_)
        · exact w_M_corner_J81 hX
        · refine h_iload_n hX dX11_corner_47 rfl rfl ?_
          refine h_iconst hX dX11_corner_48 ki_m1 ?_
          refine h_icmp_eq hX dX11_corner_49 (tgt := 65) (by decide) (fun _ => ?_) (fun _ => ?_)
          · refine gH.dead [0, 1, 4] rfl ?_
            exact w_M_corner_J65 hX
          · refine h_iload_n hX dX11_corner_52 rfl rfl ?_
            refine h_aload_n hX dX11_corner_53 rfl rfl ?_
            refine get_RX11_64_M0 hX dX11_corner_54 ?_
            refine h_iconst hX dX11_corner_57 ki_0 ?_
            refine h_iload hX dX11_corner_58 rfl ?_
            refine h_iadd hX dX11_corner_60 ?_
            refine ald_M19 hX dX11_corner_61 ?_
            refine h_icmp_ne hX dX11_corner_62 (tgt := 69) (by decide) (fun _ => ?_) (fun _ => ?_)
            · refine h_iconst hX dX11_corner_69 ki_0 ?_
              refine gH.dead [0, 1, 4] rfl ?_
              exact w_M_corner_J70 hX
            · refine gH.dead [0, 1, 4] rfl ?_
              exact w_M_corner_J65 hX
set_option maxRecDepth 4000 in
theorem w_M_corner {p0 : Int32} (hX : gOk B X RX11 cX11_corner 5 2 (some .int)) : gH B X (fun r : Int32 => gFin X (some (.int r)) (wdM B m_thrown m_size m_at m_wrong m_deep m_laws m_text m_readBoys m_readMarbles m_readFarms m_boys m_marbles m_farms m_holding m_spills m_acts m_draws m_bestRow m_bestMany m_noted m_hasImage m_tape m_code m_value m_codes m_clauses m_testFrom m_sumFrom m_sumTo m_letters m_stack m_readRule m_readBoy m_readMarble m_readFarm m_rule m_boy m_marble m_farm m_now m_refused m_kept m_notePlace m_noteKind m_noteIs m_toldBy m_image ++ fr)) 0 [(0, .ref (aM B 0)), (1, .int p0)] [] (wdM B m_thrown m_size m_at m_wrong m_deep m_laws m_text m_readBoys m_readMarbles m_readFarms m_boys m_marbles m_farms m_holding m_spills m_acts m_draws m_bestRow m_bestMany m_noted m_hasImage m_tape m_code m_value m_codes m_clauses m_testFrom m_sumFrom m_sumTo m_letters m_stack m_readRule m_readBoy m_readMarble m_readFarm m_rule m_boy m_marble m_farm m_now m_refused m_kept m_notePlace m_noteKind m_noteIs m_toldBy m_image ++ fr) (f_M_corner m_marbles m_marble m_now p0) := by
  unfold f_M_corner
  refine h_iconst hX dX11_corner_0 ki_m1 ?_
  refine h_istore_n hX dX11_corner_1 rfl (by decide) (lv' := [(0, .ref (aM B 0)), (1, .int p0), (2, .int ((-1)))]) rfl ?_
  refine h_iload_n hX dX11_corner_2 rfl rfl ?_
  refine h_callSi hX dX11_corner_3 (cs_RX11_404) (As := [.int p0]) (st := []) (fun _ h => c_M_isKind h) rfl rfl (by decide) (Nat.le_of_ble_eq_true rfl) (fun a_1 => ?_)
  refine h_istore_n hX dX11_corner_6 rfl (by decide) (lv' := [(0, .ref (aM B 0)), (1, .int p0), (2, .int ((-1))), (3, .int a_1)]) rfl ?_
  refine h_iconst hX dX11_corner_7 ki_0 ?_
  refine h_istore hX dX11_corner_8 (by decide) (lv' := [(0, .ref (aM B 0)), (1, .int p0), (2, .int ((-1))), (3, .int a_1), (4, .int 0)]) rfl ?_
  exact gH.loop (lvf := fun z : (Int32 × Int32 × Int32) => [(0, .ref (aM B 0)), (1, .int p0), (2, .int z.1), (3, .int z.2.1), (4, .int z.2.2)]) (wf := fun z : (Int32 × Int32 × Int32) => wdM B m_thrown m_size m_at m_wrong m_deep m_laws m_text m_readBoys m_readMarbles m_readFarms m_boys m_marbles m_farms m_holding m_spills m_acts m_draws m_bestRow m_bestMany m_noted m_hasImage m_tape m_code m_value m_codes m_clauses m_testFrom m_sumFrom m_sumTo m_letters m_stack m_readRule m_readBoy m_readMarble m_readFarm m_rule m_boy m_marble m_farm m_now m_refused m_kept m_notePlace m_noteKind m_noteIs m_toldBy m_image ++ fr) (fun z => w_M_corner_L10 hX z) ((-1), a_1, 0)
theorem c_M_corner {p0 : Int32} {r : Int32} (h : f_M_corner m_marbles m_marble m_now p0 = some r) : gMet B 2 yX11_corner cX11_corner 5 (some .int) [.ref (aM B 0), .int p0] (wdM B m_thrown m_size m_at m_wrong m_deep m_laws m_text m_readBoys m_readMarbles m_readFarms m_boys m_marbles m_farms m_holding m_spills m_acts m_draws m_bestRow m_bestMany m_noted m_hasImage m_tape m_code m_value m_codes m_clauses m_testFrom m_sumFrom m_sumTo m_letters m_stack m_readRule m_readBoy m_readMarble m_readFarm m_rule m_boy m_marble m_farm m_now m_refused m_kept m_notePlace m_noteKind m_noteIs m_toldBy m_image ++ fr) (some (.int r)) (wdM B m_thrown m_size m_at m_wrong m_deep m_laws m_text m_readBoys m_readMarbles m_readFarms m_boys m_marbles m_farms m_holding m_spills m_acts m_draws m_bestRow m_bestMany m_noted m_hasImage m_tape m_code m_value m_codes m_clauses m_testFrom m_sumFrom m_sumTo m_letters m_stack m_readRule m_readBoy m_readMarble m_readFarm m_rule m_boy m_marble m_farm m_now m_refused m_kept m_notePlace m_noteKind m_noteIs m_toldBy m_image ++ fr) :=
  gMet.of rfl (Nat.le_of_ble_eq_true rfl) (fun X hX hF => w_M_corner hX r h hF)
