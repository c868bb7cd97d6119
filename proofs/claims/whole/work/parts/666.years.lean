/-! years: draws -/
theorem p_draw {z : Int64} {n : Nat} (h1 : 1 ≤ n) (h2 : n ≤ 10) : ∃ r z', r < n ∧ f_Main_draw z (nI n) = some (nI r, z') ∧ f_M_draw z (nI n) = some (nI r, z') := by
  obtain ⟨N, hN, e⟩ := wb_of (z * 6364136223846793005 + 1442695040888963407)
  have e33 : ((lN N).toUInt64 >>> ((33 : Int32).toInt64.toUInt64 &&& Int64.toUInt64 63)).toInt64 = lN (N / 2 ^ 33) := wb_shr hN (k := 33) (by decide)
  have hq : N / 2 ^ 33 < 2 ^ 31 := Nat.div_lt_of_lt_mul hN
  have hn : ∀ n : Fin 11, (nI n.val).toInt64 = lN n.val ∧ (n.val = 0 ∨ ¬ lN n.val = 0) ∧ (lN n.val).toInt32 = nI n.val := by decide +kernel
  obtain ⟨n1, n2, _⟩ := hn ⟨n, (by omega)⟩
  have n2 : ¬ lN n = 0 := by
    rcases n2 with q | q
    · have : n = 0 := q
      omega
    · exact q
  have n1 : (nI n).toInt64 = lN n := n1
  have hr : N / 2 ^ 33 % n < n := Nat.mod_lt _ (by omega)
  have hle : N / 2 ^ 33 / n * n ≤ N / 2 ^ 33 := Nat.div_mul_le_self _ _
  have em : lN (N / 2 ^ 33) - lN (N / 2 ^ 33) / lN n * lN n = lN (N / 2 ^ 33 % n) := by
    have a1 : lN (N / 2 ^ 33) / lN n = lN (N / 2 ^ 33 / n) := (Int64.ofNat_div (by omega) (by omega)).symm
    have a2 : lN (N / 2 ^ 33 / n) * lN n = lN (N / 2 ^ 33 / n * n) := (Int64.ofNat_mul _ _).symm
    have a3 : lN (N / 2 ^ 33) - lN (N / 2 ^ 33 / n * n) = lN (N / 2 ^ 33 - N / 2 ^ 33 / n * n) := (Int64.ofNat_sub _ _ hle).symm
    rw [a1, a2, a3]
    refine congrArg lN ?_
    have := Nat.div_add_mod (N / 2 ^ 33) n
    rw [Nat.mul_comm] at this
    omega
  obtain ⟨_, _, r3⟩ := hn ⟨N / 2 ^ 33 % n, (by omega)⟩
  have r3 : (lN (N / 2 ^ 33 % n)).toInt32 = nI (N / 2 ^ 33 % n) := r3
  refine ⟨N / 2 ^ 33 % n, lN N, hr, ?_, ?_⟩
  · unfold f_Main_draw oDl
    rw [e, oL_eq, if_neg, n1, if_neg n2, e33, em, r3]
    intro q
    have := (nx_leL (b := 0) (by omega) (by decide)).mp q
    have : n ≤ 0 := this
    omega
  · unfold f_M_draw oDl
    rw [e, oL_eq, n1, if_neg n2, e33, em, r3]
theorem whP_pw {W : Nat → Int32} {nm : Nat} {p q a b : Int32} (ha : pw a = 1) (hb : pw b = 1) : whP W nm p a q b = whN W nm p q := by
  unfold whP
  rw [ha, hb, if_neg d10, if_neg d10]
  split
  · rename_i h
    exact h.symm
  · rfl
theorem cx_of {Y C R B M F O W E : Nat → Int32} {mb mm mf : Int32} {nb nm nf D : Nat} {As Ac Mh : Int32} {Ad Al Kc Kv Kl Kt Kf Ku : Nat → Int32} {w : Option ((Nat → Int32) → Int32)} (h : yA Y C mb mm mf R B M F nb nm nf) (hO : ∀ m, m < nm → O m = W m) (hst : stL W E nb nm D) (hw : lwA As Ac Ad Al Mh Kc Kv Kl Kt Kf Ku w) : cx Y C R B M F O W mb mm mf nb nm nf As Ac Mh Ad Al Kc Kv Kl Kt Kf Ku w := ⟨h, hO, hst.1, hst.2.1.1, hst.2.1.2.1, hst.2.1.2.2.1, hst.2.1.2.2.2, hw⟩
theorem p_spill {C O V E L s : Nat → Int32} {nb nm D : Nat} {sp : Int32} {z : Int64} (c2 : C 2 = nI nm) (h6 : nm ≤ 6) (hn : 1 ≤ nm) (hO : ∀ m, m < nm → O m = V m) (hst : stL V E nb nm D) : ∃ z2 W1, f_Main_spillByDraws sp z C (nI nm) (V 6) O = some (z2, W1 6) ∧ f_M_drawDay_J57 (nI nm) sp z L s V = some (z2, L, s, W1) ∧ (∀ m, m < nm → O m = W1 m) ∧ stL W1 E nb nm D ∧ ∀ j, 7 ≤ j → W1 j = V j := by
  unfold f_Main_spillByDraws f_M_drawDay_J57
  obtain ⟨r, z1, hr, d1, d2⟩ := p_draw (z := z) (n := 10) (by decide) (by decide)
  have d1 : f_Main_draw z 10 = some (nI r, z1) := d1
  have d2 : f_M_draw z 10 = some (nI r, z1) := d2
  rw [d1, bind_some', d2, bind_some']
  dsimp only
  by_cases hs : nI r < sp
  · have hs' : ¬ sp ≤ nI r := by
      intro q
      rw [Int32.lt_iff_toInt_lt] at hs
      rw [Int32.le_iff_toInt_le] at q
      omega
    obtain ⟨m, z2, hm, g1, g2⟩ := p_draw (z := z1) (n := nm) hn (by omega)
    have hY : f_Yard_marbles C = some (nI nm) := by rw [y_marbles, c2]
    rw [if_pos hs, if_neg hs', hY, bind_some', g1, bind_some', g2, bind_some']
    dsimp only
    rw [n_isDrained hm h6, bind_some', nx_zadd, nx_oI (by decide) (by decide), oI_nI (j := m) (n := 131) (by omega) (by decide), nI_clamp (n := m) (by omega), hO m hm]
    obtain ⟨c, hc64, ec⟩ := hst.2.1.1
    unfold f_M_drawDay_J109
    rw [nx_oI (by decide) (by decide), nx_oI (by decide) (by decide), nx_cl 6 (by decide), show V (OfNat.ofNat 6) = V 6 from rfl]
    by_cases hw : V m = -1
    · rw [if_pos hw, if_neg d10, if_pos hw, oL_eq]
      have e6 : V 6 ||| 0 = V 6 := by
        rw [ec, show (0 : Int32) = nI 0 from rfl, nx_or, Nat.or_zero]
      refine ⟨z2, upd V 6 (V 6 ||| 0), ?_, rfl, fun j hj => ?_, ?_, fun j hj => ?_⟩
      · rw [upd_at, e6]
      · rw [upd_ne (by omega), hO j hj]
      · refine stL_chg (fun j hj => upd_ne (by omega)) (fun j hj => ?_) ?_ ?_ ?_ hst
        · rw [upd_ne (by omega)]
          exact hst.1 j hj
        · rw [upd_at, e6]
          exact hst.2.1.1
        · rw [upd_ne (by decide)]
          exact hst.2.1.2.1
        · rw [upd_ne (by decide)]
          exact hst.2.1.2.2.1
      · rw [upd_ne (by omega)]
    · have hsh : ∀ n : Fin 6, (1 : Int32) <<< (nI n.val &&& 31) = nI (2 ^ n.val) := by decide +kernel
      have h2 : 2 ^ m < 64 := Nat.lt_of_lt_of_le (Nat.pow_lt_pow_right (by decide) (show m < 6 by omega)) (by decide)
      have eor : V 6 ||| ((1 : Int32) <<< (nI m &&& 31)) = nI (c ||| 2 ^ m) := by
        rw [ec, hsh ⟨m, (by omega)⟩, nx_or]
      have hor : c ||| 2 ^ m < 64 := Nat.or_lt_two_pow (n := 6) hc64 h2
      rw [if_neg hw, if_pos rfl, if_neg hw, oL_eq, oL_eq, eor]
      refine ⟨z2, upd V 6 (nI (c ||| 2 ^ m)), ?_, rfl, fun j hj => ?_, ?_, fun j hj => ?_⟩
      · rw [upd_at]
      · rw [upd_ne (by omega), hO j hj]
      · refine stL_chg (fun j hj => upd_ne (by omega)) (fun j hj => ?_) ?_ ?_ ?_ hst
        · rw [upd_ne (by omega)]
          exact hst.1 j hj
        · rw [upd_at]
          exact ⟨_, hor, rfl⟩
        · rw [upd_ne (by decide)]
          exact hst.2.1.2.1
        · rw [upd_ne (by decide)]
          exact hst.2.1.2.2.1
      · rw [upd_ne (by omega)]
  · rw [if_neg hs, if_pos (i_nlt hs)]
    exact ⟨z1, V, rfl, rfl, hO, hst, fun _ _ => rfl⟩
theorem p_drawDay {Y C R B M F O W : Nat → Int32} {mb mm mf : Int32} {nb nm nf : Nat} {As Ac Mh : Int32} {Ad Al Kc Kv Kl Kt Kf Ku : Nat → Int32} {w : Option ((Nat → Int32) → Int32)} {s L s2 L2 E : Nat → Int32} {D : Nat} {sp : Int32} {z : Int64} (x : cx Y C R B M F O W mb mm mf nb nm nf As Ac Mh Ad Al Kc Kv Kl Kt Kf Ku w) (hst : stL W E nb nm D) (hn : 1 ≤ nm) : ∃ z1 s1 O1 L1 z2 L3 s3 W1, f_Main_playByDraws z As Ac Ad Al s Y C (nI nm) (W 6) (W 7) (W 9) O L = some (z1, s1, O1, L1) ∧ f_Main_spillByDraws sp z1 C (nI nm) (W 6) O1 = some (z2, W1 6) ∧ f_M_drawDay (nI nm) Mh sp z Kc Kv Kl Kt Kf Ku L2 s2 R B M W = some (z2, L3, s3, W1) ∧ (∀ m, m < nm → O1 m = W1 m) ∧ stL W1 E nb nm D ∧ ∀ j, 7 ≤ j → W1 j = W j := by
  have h := x.1
  obtain ⟨⟨h5, h6, h6'⟩, ⟨c1, c2, c3⟩, ⟨e1, e2, e3⟩, hr, hbo, hma, hfa, rb, rm, rf, r0, r1, r2⟩ := h
  have hY : f_Yard_marbles C = some (nI nm) := by rw [y_marbles, c2]
  obtain ⟨m, z1, hm, d1, d1'⟩ := p_draw (z := z) (n := nm) hn (by omega)
  obtain ⟨o, z2, ho, d2, d2'⟩ := p_draw (z := z1) (n := nm) hn (by omega)
  obtain ⟨a, z3, ha, d3, d3'⟩ := p_draw (z := z2) (n := 9) (by decide) (by decide)
  obtain ⟨b, z4, hb, d4, d4'⟩ := p_draw (z := z3) (n := 9) (by decide) (by decide)
  have d3 : f_Main_draw z2 9 = some (nI a, z3) := d3
  have d3' : f_M_draw z2 9 = some (nI a, z3) := d3'
  have d4 : f_Main_draw z3 9 = some (nI b, z4) := d4
  have d4' : f_M_draw z3 9 = some (nI b, z4) := d4'
  have ea : nI a + 1 = nI (a + 1) := nI_add a 1
  have eb : nI b + 1 = nI (b + 1) := nI_add b 1
  unfold f_Main_playByDraws f_M_drawDay
  rw [hY, bind_some', d1, bind_some', d1', bind_some']
  dsimp only
  rw [bind_some', d2, bind_some', d2', bind_some']
  dsimp only
  rw [d3, bind_some', d3', bind_some']
  dsimp only
  rw [oL_eq, oL_eq, d4, bind_some', d4', bind_some']
  dsimp only
  rw [oL_eq, oL_eq, ea, eb, l_refusal x, bind_some', m_whyNot h6, bind_some', whP_pw (pw_nI (by omega) (by omega)) (pw_nI (by omega) (by omega))]
  rcases whN_cs (W := W) (nm := nm) (p := nI m) (q := nI o) with e | ⟨k, hk, e⟩
  · obtain ⟨m', o', b1, b2, hm', ho', hne, em, eo, hb1, hb2, _, hmb, hob⟩ := whN_m1 h6 x.2.2.1 e
    have hmm : m = m' := nI_inj (by omega) (by omega) em
    have hoo : o = o' := nI_inj (by omega) (by omega) eo
    subst hmm hoo
    obtain ⟨v, s1, O1, L1, L3, s3, W1, g1, g2, g3, g4, g5⟩ := p_carry (s := s) (L := L) (s2 := s2) (L2 := L2) x hm ho hne hb1 hb2 hmb hob (mil_pw (n := a + 1) (by omega)) (mil_pw (n := b + 1) (by omega))
    rw [if_pos e, if_pos e, g1, bind_some', g2, bind_some']
    dsimp only
    obtain ⟨z5, W2, p1, p2, p3, p4, p5⟩ := p_spill (L := L3) (s := s3) (sp := sp) (z := z4) c2 h6 hn g3 (stL_own h6 g5 g4 hst)
    rw [p2]
    refine ⟨_, _, _, _, _, _, _, _, rfl, ?_, rfl, p3, p4, fun j hj => (p5 j hj).trans (g5 j (by omega))⟩
    rw [← g5 6 (by omega), p1]
  · have hne : ¬ whN W nm (nI m) (nI o) = -1 := by
      rw [e]
      exact m1_ne (n := k) (by omega)
    obtain ⟨z5, W2, p1, p2, p3, p4, p5⟩ := p_spill (L := L2) (s := s2) (sp := sp) (z := z4) c2 h6 hn x.2.1 hst
    rw [if_neg hne, if_neg hne, p2]
    exact ⟨_, _, _, _, _, _, _, _, rfl, p1, rfl, p3, p4, p5⟩
