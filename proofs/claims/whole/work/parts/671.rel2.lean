/-! the calls that read, note and count; the start -/
theorem nar_b (x : Int32) : b01 (vp_nar .boolean x) := by
  have e : vp_nar .boolean x = x &&& 1 := rfl
  have h : ∃ n : Nat, x = nI n := ⟨x.toBitVec.toNat, Int32.toBitVec_inj.mp (by show _ = BitVec.ofNat 32 _; simp)⟩
  obtain ⟨n, rfl⟩ := h
  rw [e, show (1 : Int32) = nI 1 from rfl, nx_and]
  have : n &&& 1 ≤ 1 := Nat.and_le_right
  rcases (show n &&& 1 = 0 ∨ n &&& 1 = 1 by omega) with q | q
  · rw [q]
    exact Or.inl rfl
  · rw [q]
    exact Or.inr rfl
theorem a_seen {Y C R B M F O W : Nat → Int32} {mb mm mf : Int32} {nb nm nf : Nat} {As Ac Mh : Int32} {Ad Al Kc Kv Kl Kt Kf Ku : Nat → Int32} {w : Option ((Nat → Int32) → Int32)} {UP UK UH NP NK NH : Nat → Int32} {Us Mn p0 p1 p2 : Int32} {nt : Nat} (x : cx Y C R B M F O W mb mm mf nb nm nf As Ac Mh Ad Al Kc Kv Kl Kt Kf Ku w) (hn : ntA Us Mn UP UK UH NP NK NH nt) : ∃ v Us' UP' UK' UH' Mn' NP' NK' NH' nt', f_Main_seen C Us UP UK UH p0 p1 p2 = some (v, Us', UP', UK', UH') ∧ f_M_seen mm Mn NP NK NH p0 p1 p2 = some (v, Mn', NP', NK', NH') ∧ ntA Us' Mn' UP' UK' UH' NP' NK' NH' nt' := by
  have hn0 := hn
  have h := x.1
  obtain ⟨⟨h5, h6, h6'⟩, ⟨c1, c2, c3⟩, ⟨e1, e2, e3⟩, hr, hbo, hma, hfa, rb, rm, rf, r0, r1, r2⟩ := h
  subst e1 e2 e3
  obtain ⟨n10, rfl, rfl, hk⟩ := hn
  unfold f_Main_seen f_M_seen
  rw [l_placeKind x, bind_some', isPlace_in, bind_some', isKind_in, bind_some']
  by_cases hz : nm = 0
  · rw [if_pos hz, if_pos rfl, if_pos ((stands_m h6).mpr hz)]
    exact ⟨_, _, _, _, _, _, _, _, _, nt, rfl, rfl, hn0⟩
  · rw [if_neg hz, if_neg (fun q => hz ((stands_m h6).mp q))]
    rcases inB_cases p0 (n := 10) (by decide) with ⟨e, _⟩ | ⟨p, hp, rfl, e⟩
    · rw [e, if_pos rfl, if_pos rfl, if_pos rfl]
      exact ⟨_, _, _, _, _, _, _, _, _, nt, rfl, rfl, hn0⟩
    · rw [e, if_neg d10, if_neg d10]
      rcases inB_cases p1 (n := 6) (by decide) with ⟨e, _⟩ | ⟨q, hq, rfl, e⟩
      · rw [e, if_pos rfl, if_pos rfl]
        exact ⟨_, _, _, _, _, _, _, _, _, nt, rfl, rfl, hn0⟩
      · rw [e, if_neg d10, if_neg d10]
        unfold f_Clues_size
        rw [bind_some']
        by_cases ht : nt = 10
        · rw [if_pos ((nx_eqL (by omega) (by decide)).mpr ht), if_neg]
          · exact ⟨_, _, _, _, _, _, _, _, _, nt, rfl, rfl, hn0⟩
          · intro q
            have := (nx_ltL (b := 10) (by omega) (by decide)).mp q
            have : nt < 10 := this
            omega
        · have hlt : nt < 10 := by omega
          unfold f_Clues_add
          rw [if_pos ((nx_ltL (b := 10) (by omega) (by decide)).mpr hlt), if_neg (fun q => ht ((nx_eqL (by omega) (by decide)).mp q)), if_neg (show ¬ (10 : Int32) ≤ nI nt from nI_ge (b := 10) hlt (by decide)), oI_nI (j := nt) (n := 10) hlt (by decide), nI_clamp (n := nt) (by omega), oL_eq, oI_nI (j := nt) (n := 10) hlt (by decide), oL_eq, oI_nI (j := nt) (n := 10) hlt (by decide), oL_eq, oL_eq, bind_some', oI_nI (j := nt) (n := 10) hlt (by decide), oL_eq, oI_nI (j := nt) (n := 10) hlt (by decide), oL_eq, oI_nI (j := nt) (n := 10) hlt (by decide), oL_eq, oL_eq, nx_add]
          refine ⟨_, _, _, _, _, _, _, _, _, nt + 1, rfl, rfl, (by omega), rfl, rfl, fun k hk' => ?_⟩
          by_cases e' : k = nt
          · subst e'
            dsimp only
            rw [upd_at, upd_at, upd_at, upd_at, upd_at, upd_at]
            exact ⟨rfl, rfl, rfl, ⟨p, hp, rfl⟩, nar_b p2⟩
          · dsimp only
            rw [upd_ne e', upd_ne e', upd_ne e', upd_ne e', upd_ne e', upd_ne e']
            exact hk k (by omega)
theorem s_seen : S_seen Rel := by
  unfold S_seen
  intro W_spillsNow W_drawn T_length T_at T_bytes D_cells D_clauses G_length G_code A_size A_chosen A_codes A_lengths A_stack Y_cells Y_clauses N_marbles N_chipped N_swallowed N_sweets N_day N_owners P_next P_kept P_hasImage P_image P_acts P_entries P_imageEntries S_fewest S_row S_strengths U_size U_found U_places U_kinds U_holds U_fitting U_tally L_letters L_firstCells L_secondCells L_firstBest L_secondBest W_refusals m_thrown m_size m_at m_wrong m_deep m_laws m_text m_readBoys m_readMarbles m_readFarms m_boys m_marbles m_farms m_holding m_spills m_acts m_draws m_bestRow m_bestMany m_noted m_hasImage m_tape m_code m_value m_codes m_clauses m_testFrom m_sumFrom m_sumTo m_letters m_stack m_readRule m_readBoy m_readMarble m_readFarm m_rule m_boy m_marble m_farm m_now m_refused m_kept m_notePlace m_noteKind m_noteIs m_toldBy m_image p0 p1 p2 hz
  rintro ⟨nb, nm, nf, nt, N, a1, a2, rfl, rfl, rfl, rfl, rfl, a5, a6, a7, a8, a9, a10, rfl⟩
  obtain ⟨w, hw⟩ := lws_lwA a8
  obtain ⟨D, kk, yy, dd, st, _⟩ := id a6
  have x := cx_of a2 a5 st hw
  obtain ⟨v, u1, u2, u3, u4, u5, u6, u7, u8, u9, h1, h2, h3⟩ := a_seen (p0 := p0) (p1 := p1) (p2 := p2) x a9
  exact ⟨_, _, h1, h2, rfl, Rel_mk a1 a2 rfl rfl rfl rfl rfl a5 a6 a7 a8 h3 a10 rfl⟩
theorem s_count : S_count Rel := by
  unfold S_count
  intro W_spillsNow W_drawn T_length T_at T_bytes D_cells D_clauses G_length G_code A_size A_chosen A_codes A_lengths A_stack Y_cells Y_clauses N_marbles N_chipped N_swallowed N_sweets N_day N_owners P_next P_kept P_hasImage P_image P_acts P_entries P_imageEntries S_fewest S_row S_strengths U_size U_found U_places U_kinds U_holds U_fitting U_tally L_letters L_firstCells L_secondCells L_firstBest L_secondBest W_refusals m_thrown m_size m_at m_wrong m_deep m_laws m_text m_readBoys m_readMarbles m_readFarms m_boys m_marbles m_farms m_holding m_spills m_acts m_draws m_bestRow m_bestMany m_noted m_hasImage m_tape m_code m_value m_codes m_clauses m_testFrom m_sumFrom m_sumTo m_letters m_stack m_readRule m_readBoy m_readMarble m_readFarm m_rule m_boy m_marble m_farm m_now m_refused m_kept m_notePlace m_noteKind m_noteIs m_toldBy m_image p0
  rintro ⟨nb, nm, nf, nt, N, a1, a2, rfl, rfl, rfl, rfl, rfl, a5, a6, a7, a8, a9, a10, rfl⟩
  obtain ⟨w, hw⟩ := lws_lwA a8
  obtain ⟨D, kk, yy, dd, st, _⟩ := id a6
  have x := cx_of a2 a5 st hw
  have fin : ∀ (v u : Int32) (S' : Nat → Int32), v = u → ∃ (r1 : (Int32 × (Nat → Int32))) (r2 : Int32), some (v, S') = some r1 ∧ some u = some r2 ∧ r1.1 = r2 ∧ Rel W_spillsNow W_drawn T_length T_at T_bytes D_cells D_clauses G_length G_code A_size A_chosen A_codes A_lengths A_stack Y_cells Y_clauses (nI nm) (m_now 6) (m_now 7) (m_now 8) (m_now 9) N_owners P_next P_kept P_hasImage P_image P_acts P_entries P_imageEntries S_fewest S_row r1.2 U_size U_found U_places U_kinds U_holds U_fitting U_tally L_letters L_firstCells L_secondCells L_firstBest L_secondBest W_refusals m_thrown m_size m_at m_wrong m_deep m_laws m_text m_readBoys m_readMarbles m_readFarms m_boys m_marbles m_farms m_holding W_spillsNow m_acts m_draws m_bestRow m_bestMany m_noted m_hasImage m_tape m_code m_value m_codes m_clauses m_testFrom m_sumFrom m_sumTo m_letters m_stack m_readRule m_readBoy m_readMarble m_readFarm m_rule m_boy m_marble m_farm m_now m_refused m_kept m_notePlace m_noteKind m_noteIs m_toldBy m_image := fun v u S' h => ⟨_, _, rfl, rfl, h, Rel_mk a1 a2 rfl rfl rfl rfl rfl a5 a6 a7 a8 a9 a10 rfl⟩
  obtain ⟨t, ht, eT, eT', _⟩ := id a1
  obtain ⟨_, eA, eA', eC, _⟩ := id a8
  obtain ⟨_, eU, eU', _⟩ := id a9
  obtain ⟨_, k, _, _, _, _, _, _, _, eK, eK', _⟩ := id a6
  obtain ⟨S', hS'⟩ := s_contentNow (S := S_strengths) (c := m_now 6) a2 a5 st.1
  have a2' := a2
  obtain ⟨⟨h5, h6, h6'⟩, ⟨c1, c2, c3⟩, ⟨e1, e2, e3⟩, hr, hbo, hma, hfa, rb, rm, rf, r0, r1, r2⟩ := a2'
  have eC' : A_chosen = m_holding := by
    rcases eC with ⟨q, q'⟩ | ⟨l, _, q, q'⟩
    · rw [q, q']
    · rw [q, q']
  unfold f_Main_count f_M_count f_Laws_size f_Tape_size f_Laws_chosen f_Clues_size f_Past_undoable
  by_cases z0 : p0 = 0
  · rw [if_pos z0, if_pos z0]
    exact fin _ _ _ (c2.trans e2.symm)
  rw [if_neg z0, if_neg z0]
  by_cases z1 : p0 = 1
  · rw [if_pos z1, if_pos z1]
    exact fin _ _ _ (c1.trans e1.symm)
  rw [if_neg z1, if_neg z1]
  by_cases z2 : p0 = 2
  · rw [if_pos z2, if_pos z2]
    exact fin _ _ _ (c3.trans e3.symm)
  rw [if_neg z2, if_neg z2]
  by_cases z3 : p0 = 3
  · rw [if_pos z3, if_pos z3]
    exact fin _ _ _ (eA.trans eA'.symm)
  rw [if_neg z3, if_neg z3]
  by_cases z4 : p0 = 4
  · rw [if_pos z4, if_pos z4]
    exact fin _ _ _ (eT.trans eT'.symm)
  rw [if_neg z4, if_neg z4]
  by_cases z5 : p0 = 5
  · rw [if_pos z5, if_pos z5]
    exact fin _ _ _ eC'
  rw [if_neg z5, if_neg z5]
  by_cases z6 : p0 = 6
  · rw [if_pos z6, if_pos z6, nx_oI (by decide) (by decide), nx_cl 9 (by decide)]
    exact fin _ _ _ rfl
  rw [if_neg z6, if_neg z6]
  by_cases z7 : p0 = 7
  · rw [if_pos z7, if_pos z7, hS', bind_some', show f_M_contents m_marbles m_farms m_boy m_marble m_farm m_now = some (cnt m_marble m_boy m_farm m_now (m_now 6) nm nf) from (by rw [e2, e3]; exact m_contents h6 h5 h6' st.1 (yA_maA a2)), bind_some']
    exact fin _ _ _ rfl
  rw [if_neg z7, if_neg z7]
  by_cases z8 : p0 = 8
  · rw [if_pos z8, if_pos z8, n_drainedBits h6 a5, bind_some', show f_M_drained m_marbles m_now = some (bB (fun m => decide (m_now m = -1)) nm) from (by rw [e2]; exact m_drained h6), bind_some']
    exact fin _ _ _ rfl
  rw [if_neg z8, if_neg z8]
  by_cases z9 : p0 = 9
  · rw [if_pos z9, if_pos z9]
    exact fin _ _ _ rfl
  rw [if_neg z9, if_neg z9]
  by_cases z10 : p0 = 10
  · rw [if_pos z10, if_pos z10]
    exact fin _ _ _ (eU.trans eU'.symm)
  rw [if_neg z10, if_neg z10]
  by_cases z11 : p0 = 11
  · rw [if_pos z11, if_pos z11, nx_oI (by decide) (by decide), nx_cl 10 (by decide), st.2.2.1, lgl st.2.2.2.1, bind_some', ← st.2.2.1]
    exact fin _ _ _ st.2.2.2.2.1.symm
  rw [if_neg z11, if_neg z11]
  by_cases z12 : p0 = 12
  · rw [if_pos z12, if_pos z12]
    exact fin _ _ _ (eK.trans eK'.symm)
  rw [if_neg z12, if_neg z12]
  exact fin _ _ _ rfl
theorem s_fault : S_fault Rel := by
  unfold S_fault
  intro W_spillsNow W_drawn T_length T_at T_bytes D_cells D_clauses G_length G_code A_size A_chosen A_codes A_lengths A_stack Y_cells Y_clauses N_marbles N_chipped N_swallowed N_sweets N_day N_owners P_next P_kept P_hasImage P_image P_acts P_entries P_imageEntries S_fewest S_row S_strengths U_size U_found U_places U_kinds U_holds U_fitting U_tally L_letters L_firstCells L_secondCells L_firstBest L_secondBest W_refusals m_thrown m_size m_at m_wrong m_deep m_laws m_text m_readBoys m_readMarbles m_readFarms m_boys m_marbles m_farms m_holding m_spills m_acts m_draws m_bestRow m_bestMany m_noted m_hasImage m_tape m_code m_value m_codes m_clauses m_testFrom m_sumFrom m_sumTo m_letters m_stack m_readRule m_readBoy m_readMarble m_readFarm m_rule m_boy m_marble m_farm m_now m_refused m_kept m_notePlace m_noteKind m_noteIs m_toldBy m_image p0
  rintro ⟨nb, nm, nf, nt, N, a1, a2, rfl, rfl, rfl, rfl, rfl, a5, a6, a7, a8, a9, a10, rfl⟩
  have a1' := a1
  obtain ⟨t, ht, rfl, rfl, hj⟩ := a1'
  have htp : tpA t T_bytes m_tape := ⟨ht, hj⟩
  unfold f_Main_fault f_M_fault f_Tape_position
  by_cases z0 : p0 = 0
  · rw [if_pos z0, if_pos z0]
    rcases p_readYard (D := D_cells) (Dc := D_clauses) (R := m_readRule) (B := m_readBoy) (M := m_readMarble) (F := m_readFarm) (Ta := T_at) (Ma := m_at) (Mw := m_wrong) (y1 := m_readBoys) (y2 := m_readMarbles) (y3 := m_readFarms) htp with ⟨p, q, D', Dc', k, nb', nm', nf', R', B', M', F', h1, h2, _⟩ | ⟨p, q, D', Dc', y1, y2, y3, R', B', M', F', h1, h2, _⟩
    · rw [h1, bind_some', h2, bind_some']
      dsimp only
      rw [if_neg d10]
      exact ⟨_, _, rfl, rfl, rfl, Rel_mk a1 a2 rfl rfl rfl rfl rfl a5 a6 a7 a8 a9 a10 rfl⟩
    · rw [h1, bind_some', h2, bind_some']
      dsimp only
      rw [if_pos rfl, bind_some']
      exact ⟨_, _, rfl, rfl, rfl, Rel_mk a1 a2 rfl rfl rfl rfl rfl a5 a6 a7 a8 a9 a10 rfl⟩
  rw [if_neg z0, if_neg z0]
  by_cases z1 : p0 = 1
  · rw [if_pos z1, if_pos z1]
    have hR := p_readLaw (n := 4) (G := G_code) (Gl := G_length) (Ta := T_at) (Ma := m_at) (Mw := m_wrong) (Md := m_deep) (Mt := m_text) (Cd := m_code) (Vl := m_value) (Co := m_codes) (Cl := m_clauses) (TF := m_testFrom) (SF := m_sumFrom) (ST := m_sumTo) htp (by decide)
    have hlw : ∀ Kc' Kv' Co' Kl' Kt' Kf' Ku' : Nat → Int32, fr3 4 m_code m_value m_codes m_clauses m_testFrom m_sumFrom m_sumTo Kc' Kv' Co' Kl' Kt' Kf' Ku' → lwsA N A_size A_chosen A_codes A_lengths m_laws m_holding Kc' Kv' Kl' Kt' Kf' Ku' := by
      intro Kc' Kv' Co' Kl' Kt' Kf' Ku' hf
      obtain ⟨l1, l2, l3, l4, l5⟩ := a8
      exact ⟨l1, l2, l3, l4, fun l hl => law1_fr hf hl l1 (l5 l hl)⟩
    rcases hR with ⟨len, c, k, p, q, dp, G', Cd', Vl', Co', Cl', TF', SF', ST', h1, h2, _, _, _, h3⟩ | ⟨p, g', q, dp, G', Cd', Vl', Co', Cl', TF', SF', ST', h1, h2, _, h3⟩
    · have h2 : f_M_readLaw (nI t) m_at m_wrong m_deep m_text m_tape m_code m_value m_codes m_clauses m_testFrom m_sumFrom m_sumTo 4 = _ := h2
      rw [h1, bind_some', h2, bind_some']
      dsimp only
      rw [if_neg d10]
      exact ⟨_, _, rfl, rfl, rfl, Rel_mk a1 a2 rfl rfl rfl rfl rfl a5 a6 a7 (hlw _ _ _ _ _ _ _ h3) a9 a10 rfl⟩
    · have h2 : f_M_readLaw (nI t) m_at m_wrong m_deep m_text m_tape m_code m_value m_codes m_clauses m_testFrom m_sumFrom m_sumTo 4 = _ := h2
      rw [h1, bind_some', h2, bind_some']
      dsimp only
      rw [if_pos rfl, bind_some']
      exact ⟨_, _, rfl, rfl, rfl, Rel_mk a1 a2 rfl rfl rfl rfl rfl a5 a6 a7 (hlw _ _ _ _ _ _ _ h3) a9 a10 rfl⟩
  rw [if_neg z1, if_neg z1]
  exact ⟨_, _, rfl, rfl, rfl, Rel_mk a1 a2 rfl rfl rfl rfl rfl a5 a6 a7 a8 a9 a10 rfl⟩
theorem s_text : S_text Rel := by
  unfold S_text
  intro W_spillsNow W_drawn T_length T_at T_bytes D_cells D_clauses G_length G_code A_size A_chosen A_codes A_lengths A_stack Y_cells Y_clauses N_marbles N_chipped N_swallowed N_sweets N_day N_owners P_next P_kept P_hasImage P_image P_acts P_entries P_imageEntries S_fewest S_row S_strengths U_size U_found U_places U_kinds U_holds U_fitting U_tally L_letters L_firstCells L_secondCells L_firstBest L_secondBest W_refusals m_thrown m_size m_at m_wrong m_deep m_laws m_text m_readBoys m_readMarbles m_readFarms m_boys m_marbles m_farms m_holding m_spills m_acts m_draws m_bestRow m_bestMany m_noted m_hasImage m_tape m_code m_value m_codes m_clauses m_testFrom m_sumFrom m_sumTo m_letters m_stack m_readRule m_readBoy m_readMarble m_readFarm m_rule m_boy m_marble m_farm m_now m_refused m_kept m_notePlace m_noteKind m_noteIs m_toldBy m_image p0
  rintro ⟨nb, nm, nf, nt, N, a1, a2, rfl, rfl, rfl, rfl, rfl, a5, a6, a7, a8, a9, a10, rfl⟩
  have a1' := a1
  obtain ⟨t, ht, rfl, rfl, hj⟩ := a1'
  have htp : tpA t T_bytes m_tape := ⟨ht, hj⟩
  obtain ⟨l1, rfl, rfl, l4, l5⟩ := id a8
  unfold f_Main_text f_M_text
  by_cases z0 : p0 = 0
  · rw [if_pos z0, if_pos z0]
    rcases p_readYard (D := D_cells) (Dc := D_clauses) (R := m_readRule) (B := m_readBoy) (M := m_readMarble) (F := m_readFarm) (Ta := T_at) (Ma := m_at) (Mw := m_wrong) (y1 := m_readBoys) (y2 := m_readMarbles) (y3 := m_readFarms) htp with ⟨p, q, D', Dc', k, nb', nm', nf', R', B', M', F', h1, h2, hdr, _, _, hM⟩ | ⟨p, q, D', Dc', y1, y2, y3, R', B', M', F', h1, h2, _⟩
    · have hy0 := drA_yA hdr hM
      have hn6 : nm' ≤ 6 := hy0.1.2.1
      obtain ⟨R1, B1, M1, F1, W1, g1, g2, g3, g4, g5, g6, g7, g8, g9, g10, g11⟩ := m_takeYard (nb := nb') (nf := nf') (rR := R') (rB := B') (rM := M') (rF := F') (R := m_rule) (B := m_boy) (M := m_marble) (F := m_farm) (W := m_now) (x1 := m_boys) (x2 := m_marbles) (x3 := m_farms) (x4 := m_acts) (x5 := m_noted) (x6 := m_hasImage) hn6
      have hy : ∀ j, j < 54 → va_cpy D' Y_cells 0 0 54 j = D' j := by
        intro j hj
        unfold va_cpy
        rw [if_pos ⟨Nat.zero_le _, (by omega)⟩, Nat.sub_zero, Nat.zero_add]
      have hc : ∀ j, j < 4 → va_cpy Dc' Y_clauses 0 0 4 j = Dc' j := by
        intro j hj
        unfold va_cpy
        rw [if_pos ⟨Nat.zero_le _, (by omega)⟩, Nat.sub_zero, Nat.zero_add]
      have hy1 := yA_cp hy0 hy hc g2 g3 g4 g5
      have hy2 := hy1
      obtain ⟨⟨h5, h6, h6'⟩, ⟨c1, c2, c3⟩, ⟨e1, e2, e3⟩, hr, hbo, hma, hfa, rb, rm, rf, r0, r1, r2⟩ := hy2
      obtain ⟨O1, b1, b2⟩ := c_begin (Y := va_cpy D' Y_cells 0 0 54) (O := N_owners) (a := nI nm) (b := m_now 6) (c := m_now 7) (d := m_now 8) (e := m_now 9) c2 hn6
      unfold f_YardR_draft f_Yard_takeOver_C4 f_Past_forgetAll f_Clues_forgetAll f_Tape_cutTo
      rw [h1, bind_some', h2, bind_some']
      dsimp only
      rw [if_neg d10, bind_some', oL_eq, oL_eq, bind_some']
      dsimp only
      rw [b1, bind_some', bind_some', bind_some', bind_some', y_marbles, bind_some', if_pos rfl, g1, bind_some', c2]
      dsimp only
      have hown : owA W1 nb' nm' := by
        intro m hm
        rw [g6 m hm]
        obtain ⟨v, hv, ev⟩ := hM m hm
        exact Or.inr ⟨v, hv, ev⟩
      have hst : stL W1 P_entries nb' nm' 0 := by
        refine ⟨hown, ⟨⟨0, (by decide), g8⟩, ⟨0, (by decide), g9⟩, ?_, ⟨0, (by decide), g10⟩⟩, g10, (by decide), g11, fun j hj => absurd hj (by omega)⟩
        obtain ⟨v, hv, ev⟩ := r2
        exact ⟨v, (by omega), by rw [g7, ← g2 2 (by decide)]; exact ev⟩
      have hps : psA nb' nm' P_next 0 P_acts P_entries 0 m_kept W1 := by
        obtain ⟨_, _, y, _, _, _, y3, _, y5, _⟩ := a6
        exact ⟨0, 0, y, fun _ => 0, hst, rfl, y3, (by decide), y5, rfl, rfl, fun i hi => absurd hi (by omega)⟩
      have hnt : ntA 0 0 U_places U_kinds U_holds m_notePlace m_noteKind m_noteIs 0 := ⟨(by decide), rfl, rfl, fun k hk => absurd hk (by omega)⟩
      refine ⟨_, _, rfl, rfl, rfl, Rel_mk ⟨0, (by decide), rfl, rfl, fun j hj => absurd hj (by omega)⟩ hy1 rfl g8.symm g9.symm ?_ g10.symm (fun m hm => ?_) hps (Or.inl ⟨rfl, rfl⟩) a8 hnt a10 rfl⟩
      · exact (hr 2 (by decide)).trans ((g2 2 (by decide)).trans g7.symm)
      · exact (b2 m hm).trans ((hma m 0 hm (by decide)).trans ((g4 _ (by omega)).trans (g6 m hm).symm))
    · unfold f_Main_text_J69 f_M_text_J22
      have z1 : ¬ p0 = 1 := by
        rw [z0]
        decide
      rw [h1, bind_some', h2, bind_some']
      dsimp only
      rw [if_pos rfl, if_neg (m1_ne (n := p) (by omega)), if_neg z1, if_neg z1]
      exact ⟨_, _, rfl, rfl, rfl, Rel_mk a1 a2 rfl rfl rfl rfl rfl a5 a6 a7 a8 a9 a10 rfl⟩
  rw [if_neg z0, if_neg z0]
  unfold f_Main_text_J69 f_M_text_J22 f_Laws_size
  by_cases z1 : p0 = 1
  · rw [if_pos z1, if_pos z1, bind_some']
    by_cases h4 : N = 4
    · have h4' : (4 : Int32) ≤ nI N := by
        rw [h4]
        exact Int32.le_refl _
      rw [if_pos h4', if_pos h4']
      exact ⟨_, _, rfl, rfl, rfl, Rel_mk a1 a2 rfl rfl rfl rfl rfl a5 a6 a7 a8 a9 a10 rfl⟩
    · have hN : N < 4 := by omega
      have h4' : ¬ (4 : Int32) ≤ nI N := nI_ge (b := 4) hN (by decide)
      rw [if_neg h4', if_neg h4']
      have hR := p_readLaw (n := N) (G := G_code) (Gl := G_length) (Ta := T_at) (Ma := m_at) (Mw := m_wrong) (Md := m_deep) (Mt := m_text) (Cd := m_code) (Vl := m_value) (Co := m_codes) (Cl := m_clauses) (TF := m_testFrom) (SF := m_sumFrom) (ST := m_sumTo) htp (by omega)
      rcases hR with ⟨len, c, k, p, q, dp, G', Cd', Vl', Co', Cl', TF', SF', ST', h1, h2, hb, hp, hk, h3⟩ | ⟨p, g', q, dp, G', Cd', Vl', Co', Cl', TF', SF', ST', h1, h2, hpt, h3⟩
      · obtain ⟨Ad', Al', k1, k2⟩ := p_add hN hb hp hk h3 l5
        unfold f_Tape_cutTo
        rw [h1, bind_some', h2, bind_some']
        dsimp only
        rw [if_neg d10, k1, bind_some', bind_some', bind_some', if_pos rfl, oL_eq, nx_add]
        refine ⟨_, _, rfl, rfl, rfl, Rel_mk ⟨0, (by decide), rfl, rfl, fun j hj => absurd hj (by omega)⟩ a2 rfl rfl rfl rfl rfl a5 a6 a7 ⟨(show N + 1 ≤ 4 by omega), rfl, rfl, ?_, k2⟩ a9 a10 rfl⟩
        rcases l4 with q | ⟨l, hl, q1, q2⟩
        · exact Or.inl q
        · exact Or.inr ⟨l, (by omega), q1, q2⟩
      · rw [h1, bind_some', h2, bind_some']
        dsimp only
        rw [if_pos rfl, if_neg (m1_ne (n := p) (by omega))]
        exact ⟨_, _, rfl, rfl, rfl, Rel_mk a1 a2 rfl rfl rfl rfl rfl a5 a6 a7 ⟨l1, rfl, rfl, l4, fun l hl => law1_fr h3 hl (Nat.le_refl _) (l5 l hl)⟩ a9 a10 rfl⟩
  rw [if_neg z1, if_neg z1]
  exact ⟨_, _, rfl, rfl, rfl, Rel_mk a1 a2 rfl rfl rfl rfl rfl a5 a6 a7 a8 a9 a10 rfl⟩
theorem s_start : Rel 0 0 0 0 (fun _ => 0) (fun _ => 0) (fun _ => 0) 0 (fun _ => 0) 0 (-1) (fun _ => 0) (fun _ => 0) (fun _ => 0) (fun _ => 0) (fun _ => 0) 0 0 0 0 0 (fun _ => 0) 0 0 0 0 (fun _ => 0) (fun _ => 0) (fun _ => 0) 0 0 (fun _ => 0) 0 0 (fun _ => 0) (fun _ => 0) (fun _ => 0) (fun _ => 0) (fun _ => 0) (fun _ => 0) (fun _ => 0) (fun _ => 0) (fun _ => 0) (fun _ => 0) (fun _ => 0) 0 0 0 0 0 0 0 0 0 0 0 0 0 (-1) 0 0 0 0 0 0 0 (fun _ => 0) (fun _ => 0) (fun _ => 0) (fun _ => 0) (fun _ => 0) (fun _ => 0) (fun _ => 0) (fun _ => 0) (fun _ => 0) (fun _ => 0) (fun _ => 0) (fun _ => 0) (fun _ => 0) (fun _ => 0) (fun _ => 0) (fun _ => 0) (fun _ => 0) (fun _ => 0) (fun _ => 0) (fun _ => 0) (fun _ => 0) (fun _ => 0) (fun _ => 0) (fun _ => 0) (fun _ => 0) (fun _ => 0) := Rel_mk (nb := 0) (nm := 0) (nf := 0) (nt := 0) (N := 0) ⟨0, (by decide), rfl, rfl, fun j hj => absurd hj (by omega)⟩ ⟨⟨(by decide), (by decide), (by decide)⟩, ⟨rfl, rfl, rfl⟩, ⟨rfl, rfl, rfl⟩, fun _ _ => rfl, fun b k hb _ => absurd hb (by omega), fun b k hb _ => absurd hb (by omega), fun b k hb _ => absurd hb (by omega), fun b hb => absurd hb (by omega), fun b hb => absurd hb (by omega), fun b hb => absurd hb (by omega), ⟨0, (by decide), rfl⟩, ⟨0, (by decide), rfl⟩, ⟨0, (by decide), rfl⟩⟩ rfl rfl rfl rfl rfl (fun m hm => absurd hm (by omega)) ⟨0, 0, 0, fun _ => 0, ⟨fun m hm => absurd hm (by omega), ⟨⟨0, (by decide), rfl⟩, ⟨0, (by decide), rfl⟩, ⟨0, (by decide), rfl⟩, ⟨0, (by decide), rfl⟩⟩, rfl, (by decide), rfl, fun j hj => absurd hj (by omega)⟩, rfl, (by decide), (by decide), rfl, rfl, rfl, fun i hi => absurd hi (by omega)⟩ (Or.inl ⟨rfl, rfl⟩) ⟨(by decide), rfl, rfl, Or.inl ⟨rfl, rfl⟩, fun l hl => absurd hl (by omega)⟩ ⟨(by decide), rfl, rfl, fun k hk => absurd hk (by omega)⟩ (fun _ _ => rfl) rfl
