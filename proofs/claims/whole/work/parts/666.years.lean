/-! years: draws -/
theorem p_draw {z : Int64} {n : Nat} (h1 : 1 ≤ n) (h2 : n ≤ 10) : ∃ r z', r < n ∧ f_Main_draw z (nI n) = some (nI r, z') ∧ f_M_draw z (nI n) = some (nI r, z') := by
  obtain ⟨N, hN, e⟩ := wb_of (z * 6364136223846793005 + 1442695040888963407)
  have e33 : ((lN N).toUInt64 >>> ((33 : Int32).toInt64.toUInt64 &&& Int64.toUInt64 63)).toInt64 = lN (N / 2 ^ 33) := wb_shr hN (k := 33) (by decide)
  have hq : N / 2 ^ 33 < 2 ^ 31 := Nat.div_lt_of_lt_mul hN
  have hn : ∀ n : Fin 11, (nI n.val).toInt64 = lN n.val ∧ (n.val = 0 ∨ ¬ lN n.val = 0) ∧ (lN n.val).toInt32 = nI n.val := by decide +kernel
  obtain ⟨n1, n2, _⟩ := hn ⟨n, (by omega)⟩
  have n2 : ¬ lN n = 0 := by
    rcases n2 with q | q
    · have : n = 0 := q
      omega
    · exact q
  have n1 : (nI n).toInt64 = lN n := n1
  have hr : N / 2 ^ 33 % n < n := Nat.mod_lt _ (by omega)
  have hle : N / 2 ^ 33 / n * n ≤ N / 2 ^ 33 := Nat.div_mul_le_self _ _
  have em : lN (N / 2 ^ 33) - lN (N / 2 ^ 33) / lN n * lN n = lN (N / 2 ^ 33 % n) := by
    have a1 : lN (N / 2 ^ 33) / lN n = lN (N / 2 ^ 33 / n) := (Int64.ofNat_div (by omega) (by omega)).symm
    have a2 : lN (N / 2 ^ 33 / n) * lN n = lN (N / 2 ^ 33 / n * n) := (Int64.ofNat_mul _ _).symm
    have a3 : lN (N / 2 ^ 33) - lN (N / 2 ^ 33 / n * n) = lN (N / 2 ^ 33 - N / 2 ^ 33 / n * n) := (Int64.ofNat_sub _ _ hle).symm
    rw [a1, a2, a3]
    refine congrArg lN ?_
    have := Nat.div_add_mod (N / 2 ^ 33) n
    rw [Nat.mul_comm] at this
    omega
  obtain ⟨_, _, r3⟩ := hn ⟨N / 2 ^ 33 % n, (by omega)⟩
  have r3 : (lN (N / 2 ^ 33 % n)).toInt32 = nI (N / 2 ^ 33 % n) := r3
  refine ⟨N / 2 ^ 33 % n, lN N, hr, ?_, ?_⟩
  · unfold f_Main_draw oDl
    rw [e, oL_eq, if_neg, n1, if_neg n2, e33, em, r3]
    intro q
    have := (nx_leL (b := 0) (by omega) (by decide)).mp q
    have : n ≤ 0 := this
    omega
  · unfold f_M_draw oDl
    rw [e, oL_eq, n1, if_neg n2, e33, em, r3]
theorem whP_pw {W : Nat → Int32} {nm : Nat} {p q a b : Int32} (ha : pw a = 1) (hb : pw b = 1) : whP W nm p a q b = whN W nm p q := by
  unfold whP
  rw [ha, hb, if_neg d10, if_neg d10]
  split
  · rename_i h
    exact h.symm
  · rfl
theorem cx_of {Y C R B M F O W E : Nat → Int32} {mb mm mf : Int32} {nb nm nf D : Nat} {As Ac Mh : Int32} {Ad Al Kc Kv Kl Kt Kf Ku : Nat → Int32} {w : Option ((Nat → Int32) → Int32)} (h : yA Y C mb mm mf R B M F nb nm nf) (hO : ∀ m, m < nm → O m = W m) (hst : stL W E nb nm D) (hw : lwA As Ac Ad Al Mh Kc Kv Kl Kt Kf Ku w) : cx Y C R B M F O W mb mm mf nb nm nf As Ac Mh Ad Al Kc Kv Kl Kt Kf Ku w := ⟨h, hO, hst.1, hst.2.1.1, hst.2.1.2.1, hst.2.1.2.2.1, hst.2.1.2.2.2, hw⟩
theorem p_spill {C O V E L s : Nat → Int32} {nb nm D : Nat} {sp : Int32} {z : Int64} (c2 : C 2 = nI nm) (h6 : nm ≤ 6) (hn : 1 ≤ nm) (hO : ∀ m, m < nm → O m = V m) (hst : stL V E nb nm D) : ∃ z2 W1, f_Main_spillByDraws sp z C (nI nm) (V 6) O = some (z2, W1 6) ∧ f_M_drawDay_J57 (nI nm) sp z L s V = some (z2, L, s, W1) ∧ (∀ m, m < nm → O m = W1 m) ∧ stL W1 E nb nm D ∧ ∀ j, 7 ≤ j → W1 j = V j := by
  unfold f_Main_spillByDraws f_M_drawDay_J57
  obtain ⟨r, z1, hr, d1, d2⟩ := p_draw (z := z) (n := 10) (by decide) (by decide)
  have d1 : f_Main_draw z 10 = some (nI r, z1) := d1
  have d2 : f_M_draw z 10 = some (nI r, z1) := d2
  rw [d1, bind_some', d2, bind_some']
  dsimp only
  by_cases hs : nI r < sp
  · have hs' : ¬ sp ≤ nI r := by
      intro q
      rw [Int32.lt_iff_toInt_lt] at hs
      rw [Int32.le_iff_toInt_le] at q
      omega
    obtain ⟨m, z2, hm, g1, g2⟩ := p_draw (z := z1) (n := nm) hn (by omega)
    have hY : f_Yard_marbles C = some (nI nm) := by rw [y_marbles, c2]
    rw [if_pos hs, if_neg hs', hY, bind_some', g1, bind_some', g2, bind_some']
    dsimp only
    rw [n_isDrained hm h6, bind_some', nx_zadd, nx_oI (by decide) (by decide), oI_nI (j := m) (n := 131) (by omega) (by decide), nI_clamp (n := m) (by omega), hO m hm]
    obtain ⟨c, hc64, ec⟩ := hst.2.1.1
    unfold f_M_drawDay_J109
    rw [nx_oI (by decide) (by decide), nx_oI (by decide) (by decide), nx_cl 6 (by decide), show V (OfNat.ofNat 6) = V 6 from rfl]
    by_cases hw : V m = -1
    · rw [if_pos hw, if_neg d10, if_pos hw, oL_eq]
      have e6 : V 6 ||| 0 = V 6 := by
        rw [ec, show (0 : Int32) = nI 0 from rfl, nx_or, Nat.or_zero]
      refine ⟨z2, upd V 6 (V 6 ||| 0), ?_, rfl, fun j hj => ?_, ?_, fun j hj => ?_⟩
      · rw [upd_at, e6]
      · rw [upd_ne (by omega), hO j hj]
      · refine stL_chg (fun j hj => upd_ne (by omega)) (fun j hj => ?_) ?_ ?_ ?_ hst
        · rw [upd_ne (by omega)]
          exact hst.1 j hj
        · rw [upd_at, e6]
          exact hst.2.1.1
        · rw [upd_ne (by decide)]
          exact hst.2.1.2.1
        · rw [upd_ne (by decide)]
          exact hst.2.1.2.2.1
      · rw [upd_ne (by omega)]
    · have hsh : ∀ n : Fin 6, (1 : Int32) <<< (nI n.val &&& 31) = nI (2 ^ n.val) := by decide +kernel
      have h2 : 2 ^ m < 64 := Nat.lt_of_lt_of_le (Nat.pow_lt_pow_right (by decide) (show m < 6 by omega)) (by decide)
      have eor : V 6 ||| ((1 : Int32) <<< (nI m &&& 31)) = nI (c ||| 2 ^ m) := by
        rw [ec, hsh ⟨m, (by omega)⟩, nx_or]
      have hor : c ||| 2 ^ m < 64 := Nat.or_lt_two_pow (n := 6) hc64 h2
      rw [if_neg hw, if_pos rfl, if_neg hw, oL_eq, oL_eq, eor]
      refine ⟨z2, upd V 6 (nI (c ||| 2 ^ m)), ?_, rfl, fun j hj => ?_, ?_, fun j hj => ?_⟩
      · rw [upd_at]
      · rw [upd_ne (by omega), hO j hj]
      · refine stL_chg (fun j hj => upd_ne (by omega)) (fun j hj => ?_) ?_ ?_ ?_ hst
        · rw [upd_ne (by omega)]
          exact hst.1 j hj
        · rw [upd_at]
          exact ⟨_, hor, rfl⟩
        · rw [upd_ne (by decide)]
          exact hst.2.1.2.1
        · rw [upd_ne (by decide)]
          exact hst.2.1.2.2.1
      · rw [upd_ne (by omega)]
  · rw [if_neg hs, if_pos (i_nlt hs)]
    exact ⟨z1, V, rfl, rfl, hO, hst, fun _ _ => rfl⟩
theorem p_drawDay {Y C R B M F O W : Nat → Int32} {mb mm mf : Int32} {nb nm nf : Nat} {As Ac Mh : Int32} {Ad Al Kc Kv Kl Kt Kf Ku : Nat → Int32} {w : Option ((Nat → Int32) → Int32)} {s L s2 L2 E : Nat → Int32} {D : Nat} {sp : Int32} {z : Int64} (x : cx Y C R B M F O W mb mm mf nb nm nf As Ac Mh Ad Al Kc Kv Kl Kt Kf Ku w) (hst : stL W E nb nm D) (hn : 1 ≤ nm) : ∃ z1 s1 O1 L1 z2 L3 s3 W1, f_Main_playByDraws z As Ac Ad Al s Y C (nI nm) (W 6) (W 7) (W 9) O L = some (z1, s1, O1, L1) ∧ f_Main_spillByDraws sp z1 C (nI nm) (W 6) O1 = some (z2, W1 6) ∧ f_M_drawDay (nI nm) Mh sp z Kc Kv Kl Kt Kf Ku L2 s2 R B M W = some (z2, L3, s3, W1) ∧ (∀ m, m < nm → O1 m = W1 m) ∧ stL W1 E nb nm D ∧ ∀ j, 7 ≤ j → W1 j = W j := by
  have h := x.1
  obtain ⟨⟨h5, h6, h6'⟩, ⟨c1, c2, c3⟩, ⟨e1, e2, e3⟩, hr, hbo, hma, hfa, rb, rm, rf, r0, r1, r2⟩ := h
  have hY : f_Yard_marbles C = some (nI nm) := by rw [y_marbles, c2]
  obtain ⟨m, z1, hm, d1, d1'⟩ := p_draw (z := z) (n := nm) hn (by omega)
  obtain ⟨o, z2, ho, d2, d2'⟩ := p_draw (z := z1) (n := nm) hn (by omega)
  obtain ⟨a, z3, ha, d3, d3'⟩ := p_draw (z := z2) (n := 9) (by decide) (by decide)
  obtain ⟨b, z4, hb, d4, d4'⟩ := p_draw (z := z3) (n := 9) (by decide) (by decide)
  have d3 : f_Main_draw z2 9 = some (nI a, z3) := d3
  have d3' : f_M_draw z2 9 = some (nI a, z3) := d3'
  have d4 : f_Main_draw z3 9 = some (nI b, z4) := d4
  have d4' : f_M_draw z3 9 = some (nI b, z4) := d4'
  have ea : nI a + 1 = nI (a + 1) := nI_add a 1
  have eb : nI b + 1 = nI (b + 1) := nI_add b 1
  unfold f_Main_playByDraws f_M_drawDay
  rw [hY, bind_some', d1, bind_some', d1', bind_some']
  dsimp only
  rw [bind_some', d2, bind_some', d2', bind_some']
  dsimp only
  rw [d3, bind_some', d3', bind_some']
  dsimp only
  rw [oL_eq, oL_eq, d4, bind_some', d4', bind_some']
  dsimp only
  rw [oL_eq, oL_eq, ea, eb, l_refusal x, bind_some', m_whyNot h6, bind_some', whP_pw (pw_nI (by omega) (by omega)) (pw_nI (by omega) (by omega))]
  rcases whN_cs (W := W) (nm := nm) (p := nI m) (q := nI o) with e | ⟨k, hk, e⟩
  · obtain ⟨m', o', b1, b2, hm', ho', hne, em, eo, hb1, hb2, _, hmb, hob⟩ := whN_m1 h6 x.2.2.1 e
    have hmm : m = m' := nI_inj (by omega) (by omega) em
    have hoo : o = o' := nI_inj (by omega) (by omega) eo
    subst hmm hoo
    obtain ⟨v, s1, O1, L1, L3, s3, W1, g1, g2, g3, g4, g5⟩ := p_carry (s := s) (L := L) (s2 := s2) (L2 := L2) x hm ho hne hb1 hb2 hmb hob (mil_pw (n := a + 1) (by omega)) (mil_pw (n := b + 1) (by omega))
    rw [if_pos e, if_pos e, g1, bind_some', g2, bind_some']
    dsimp only
    obtain ⟨z5, W2, p1, p2, p3, p4, p5⟩ := p_spill (L := L3) (s := s3) (sp := sp) (z := z4) c2 h6 hn g3 (stL_own h6 g5 g4 hst)
    rw [p2]
    refine ⟨_, _, _, _, _, _, _, _, rfl, ?_, rfl, p3, p4, fun j hj => (p5 j hj).trans (g5 j (by omega))⟩
    rw [← g5 6 (by omega), p1]
  · have hne : ¬ whN W nm (nI m) (nI o) = -1 := by
      rw [e]
      exact m1_ne (n := k) (by omega)
    obtain ⟨z5, W2, p1, p2, p3, p4, p5⟩ := p_spill (L := L2) (s := s2) (sp := sp) (z := z4) c2 h6 hn x.2.1 hst
    rw [if_neg hne, if_neg hne, p2]
    exact ⟨_, _, _, _, _, _, _, _, rfl, p1, rfl, p3, p4, p5⟩
theorem p_yearsLoop {Y C R B M F O W E S s L s2 L2 Mk : Nat → Int32} {mb mf : Int32} {nb nm nf D n : Nat} {Pa : Nat → Int64} {Pn Pk Ma As Ac Mh sp : Int32} {Ad Al Kc Kv Kl Kt Kf Ku : Nat → Int32} {z : Int64} {w : Option ((Nat → Int32) → Int32)} (h : yA Y C mb (nI nm) mf R B M F nb nm nf) (hw : lwA As Ac Ad Al Mh Kc Kv Kl Kt Kf Ku w) (hnm : 1 ≤ nm) (hO : ∀ m, m < nm → O m = W m) (ps : psA nb nm Pn Pk Pa E Ma Mk W) (h9 : W 9 = nI D) (hn : n ≤ 60) (hD : D + n ≤ 9999) : ∃ z1 s1 L1 O1 S1 Pn1 Pk1 Pa1 E1 Ma1 L3 s3 W1 Mk1, oLp (f_Main_years_L46 sp As Ac Ad Al Y C (nI nm) (W 7) (nI n)) (0, z, s, W 6, W 8, W 9, O, Pn, Pk, Pa, E, S, L) = some (W1 9, z1, s1, W1 6, W1 8, W1 9, O1, Pn1, Pk1, Pa1, E1, S1, L1) ∧ oLp (f_M_years_L25 (nI nm) mf Mh sp Kc Kv Kl Kt Kf Ku R B M F (nI n)) (0, Ma, z, L2, s2, W, Mk) = some (W1 9, Ma1, z1, L3, s3, W1, Mk1) ∧ (∀ m, m < nm → O1 m = W1 m) ∧ psA nb nm Pn1 Pk1 Pa1 E1 Ma1 Mk1 W1 ∧ W1 7 = W 7 := by
  have hY := h
  obtain ⟨⟨h5, h6, h6'⟩, ⟨c1, c2, c3⟩, ⟨e1, e2, e3⟩, hr, hbo, hma, hfa, rb, rm, rf, r0, r1, r2⟩ := h
  refine qlp2 (fun j (t : Int32 × Int64 × (Nat → Int32) × Int32 × Int32 × Int32 × (Nat → Int32) × Int32 × Int32 × (Nat → Int64) × (Nat → Int32) × (Nat → Int32) × (Nat → Int32)) (u : Int32 × Int32 × Int64 × (Nat → Int32) × (Nat → Int32) × (Nat → Int32) × (Nat → Int32)) => ∃ (V : Nat → Int32) (y : Int64) (s' O' : Nat → Int32) (Qn Qk : Int32) (Qa : Nat → Int64) (G T L' : Nat → Int32) (La : Int32) (L4 s4 Lk : Nat → Int32), t = (nI j, y, s', V 6, V 8, V 9, O', Qn, Qk, Qa, G, T, L') ∧ u = (nI j, La, y, L4, s4, V, Lk) ∧ (∀ m, m < nm → O' m = V m) ∧ psA nb nm Qn Qk Qa G La Lk V ∧ V 9 = nI (D + j) ∧ V 7 = W 7) (fun r q => ∃ (z1 : Int64) (s1 L1 O1 S1 : Nat → Int32) (Pn1 Pk1 : Int32) (Pa1 : Nat → Int64) (E1 : Nat → Int32) (Ma1 : Int32) (L3 s3 W1 Mk1 : Nat → Int32), r = some (W1 9, z1, s1, W1 6, W1 8, W1 9, O1, Pn1, Pk1, Pa1, E1, S1, L1) ∧ q = some (W1 9, Ma1, z1, L3, s3, W1, Mk1) ∧ (∀ m, m < nm → O1 m = W1 m) ∧ psA nb nm Pn1 Pk1 Pa1 E1 Ma1 Mk1 W1 ∧ W1 7 = W 7) (n := n) ?_ ?_ (j := 0) (by omega) ⟨W, _, _, _, _, _, _, _, _, _, _, _, _, _, rfl, rfl, hO, ps, h9, rfl⟩
  · rintro j t u hj ⟨V, y, s', O', Qn, Qk, Qa, G, T, L', La, L4, s4, Lk, rfl, rfl, q0, q1, q2, q3⟩
    left
    obtain ⟨Pn', Pk', Pa', Ma', Mk', r1, r2, r3⟩ := ps_remember h5 h6 q0 q1
    obtain ⟨D', k, yy, dd, y1, y2⟩ := q1
    have hDD : D' = D + j := nI_inj (by have := y1.2.2.2.1; omega) (by omega) (y1.2.2.1.symm.trans q2)
    subst hDD
    obtain ⟨z1, s1, O1, L1, z2, L3, s3, V1, g1, g2, g3, g4, g5, g6⟩ := p_drawDay (s := s') (L := L') (s2 := s4) (L2 := L4) (sp := sp) (z := y) (cx_of hY q0 y1 hw) y1 hnm
    obtain ⟨V2, T', v, k1, k2, k3, k4, k5⟩ := p_passDay (S := T) hY g4 g5 (by omega)
    refine ⟨(nI (j + 1), z2, s1, V2 6, V2 8, V2 9, O1, Pn', Pk', Pa', upd G ((D + j) % 128) v, T', L1), (nI (j + 1), Ma', z2, L3, s3, V2, Mk'), ?_, ?_, V2, _, _, _, _, _, _, _, _, _, _, _, _, _, rfl, rfl, fun m hm => (g4 m hm).trans (k3 m (by omega)).symm, ps_day q2 (by omega) r3 (fun _ => k5), k4, (k3 7 (by decide)).trans ((g6 7 (by decide)).trans q3)⟩
    · unfold f_Main_years_L46
      dsimp only
      rw [if_neg (show ¬ nI n ≤ nI j from nI_ge hj (by omega)), ← q3, r1, bind_some', g1, bind_some']
      dsimp only
      rw [g2, bind_some']
      dsimp only
      rw [g6 8 (by decide), g6 9 (by decide)] at k1
      rw [k1, bind_some', nx_add, k3 6 (by decide)]
    · unfold f_M_years_L25
      dsimp only
      rw [if_neg (show ¬ nI n ≤ nI j from nI_ge hj (by omega)), r2, bind_some', g3, bind_some', e3]
      dsimp only
      rw [k2, bind_some', nx_add]
  · rintro t u ⟨V, y, s', O', Qn, Qk, Qa, G, T, L', La, L4, s4, Lk, rfl, rfl, q0, q1, q2, q3⟩
    refine ⟨y, s', L', O', T, Qn, Qk, Qa, G, La, L4, s4, V, Lk, oLp_out ?_, oLp_out ?_, q0, q1, q3⟩
    · unfold f_Main_years_L46
      dsimp only
      rw [if_pos (Int32.le_refl _)]
    · unfold f_M_years_L25
      dsimp only
      rw [if_pos (Int32.le_refl _), nx_oI (by decide) (by decide), nx_cl 9 (by decide)]
      rfl
theorem a_years {Y C R B M F O W : Nat → Int32} {mb mm mf : Int32} {nb nm nf : Nat} {As Ac Mh : Int32} {Ad Al Kc Kv Kl Kt Kf Ku : Nat → Int32} {w : Option ((Nat → Int32) → Int32)} {S E Mk s L s2 L2 : Nat → Int32} {Pa : Nat → Int64} {Pn Pk Ma p0 sp : Int32} {z z' p1 : Int64} (x : cx Y C R B M F O W mb mm mf nb nm nf As Ac Mh Ad Al Kc Kv Kl Kt Kf Ku w) (ps : psA nb nm Pn Pk Pa E Ma Mk W) : ∃ v z1 s1 O1 Pn1 Pk1 Pa1 E1 S1 L1 Ma1 z2 L3 s3 W1 Mk1, f_Main_years sp z As Ac Ad Al s Y C (nI nm) (W 6) (W 7) (W 8) (W 9) O Pn Pk Pa E S L p0 p1 = some (v, z1, s1, W1 6, W1 8, W1 9, O1, Pn1, Pk1, Pa1, E1, S1, L1) ∧ f_M_years mm mf Mh sp Ma z' Kc Kv Kl Kt Kf Ku L2 s2 R B M F W Mk p0 p1 = some (v, Ma1, z2, L3, s3, W1, Mk1) ∧ (∀ m, m < nm → O1 m = W1 m) ∧ psA nb nm Pn1 Pk1 Pa1 E1 Ma1 Mk1 W1 ∧ W1 7 = W 7 := by
  have h := x.1
  have hY := h
  obtain ⟨⟨h5, h6, h6'⟩, ⟨c1, c2, c3⟩, ⟨e1, e2, e3⟩, hr, hbo, hma, hfa, rb, rm, rf, r0, r1, r2⟩ := h
  subst e1 e2 e3
  have fin : ∃ v z1 s1 O1 Pn1 Pk1 Pa1 E1 S1 L1 Ma1 z2 L3 s3 W1 Mk1, some ((-1 : Int32), z, s, W 6, W 8, W 9, O, Pn, Pk, Pa, E, S, L) = some (v, z1, s1, W1 6, W1 8, W1 9, O1, Pn1, Pk1, Pa1, E1, S1, L1) ∧ some ((-1 : Int32), Ma, z', L2, s2, W, Mk) = some (v, Ma1, z2, L3, s3, W1, Mk1) ∧ (∀ m, m < nm → O1 m = W1 m) ∧ psA nb nm Pn1 Pk1 Pa1 E1 Ma1 Mk1 W1 ∧ W1 7 = W 7 := ⟨_, _, _, _, _, _, _, _, _, _, _, _, _, _, W, _, rfl, rfl, x.2.1, ps, rfl⟩
  unfold f_Main_years f_M_years f_M_areDays
  rw [y_stands c2 (by omega), bind_some']
  by_cases hz : nm = 0
  · rw [if_pos hz, if_pos rfl, if_pos ((stands_m h6).mpr hz)]
    exact fin
  · rw [if_neg hz, if_neg d10, if_neg (fun q => hz ((stands_m h6).mp q))]
    rcases in_160 (p := p0) with ⟨n, hn1, hn2, rfl⟩ | ⟨g, hg⟩
    · have hps := ps
      obtain ⟨D, k, y, dd, y1, y2⟩ := ps
      have h60 : ¬ (60 : Int32) < nI n := fun q => by
        have := (nx_Llt (a := 60) (by decide) (by omega)).mp q
        have : 60 < n := this
        omega
      rw [if_neg (show ¬ nI n < 1 from nx_nlt (b := 1) hn1 (by omega)), if_neg h60, in_160n hn1 hn2, bind_some', if_neg d10, nx_oI (by decide) (by decide), nx_cl 9 (by decide), show W (OfNat.ofNat 9) = nI D from y1.2.2.1, nI_add]
      have hDm := y1.2.2.2.1
      by_cases hd : D + n ≤ 9999
      · obtain ⟨z1, s1, L1, O1, S1, Pn1, Pk1, Pa1, E1, Ma1, L3, s3, W1, Mk1, g1, g2, g3, g4, g5⟩ := p_yearsLoop (S := S) (s := s) (L := L) (s2 := s2) (L2 := L2) (sp := sp) (z := p1) hY x.2.2.2.2.2.2.2 (show 1 ≤ nm by omega) x.2.1 hps y1.2.2.1 hn2 hd
        rw [y1.2.2.1] at g1
        rw [if_pos ((nx_leL (by omega) (by decide)).mpr hd), if_neg (show ¬ (9999 : Int32) < nI (D + n) from fun q => by have := (nx_Llt (a := 9999) (by decide) (by omega)).mp q; have : 9999 < D + n := this; omega), bind_some', if_neg d10, g1, g2]
        exact ⟨_, _, _, _, _, _, _, _, _, _, _, _, _, _, W1, _, rfl, rfl, g3, g4, g5⟩
      · rw [if_neg (fun q => hd ((nx_leL (by omega) (by decide)).mp q)), if_pos ((nx_Llt (a := 9999) (by decide) (by omega)).mpr (show 9999 < D + n by omega)), bind_some', if_pos rfl, ← y1.2.2.1]
        exact fin
    · rw [g, bind_some', if_pos rfl, bind_some', if_pos rfl]
      rcases hg with q | ⟨q, q'⟩
      · rw [if_pos q]
        exact fin
      · rw [if_neg q]
        have : (60 : Int32) < p0 := by
          rw [Int32.le_iff_toInt_le] at q'
          rw [Int32.lt_iff_toInt_lt]
          omega
        rw [if_pos this]
        exact fin
