/-! comparisons and units -/
theorem p_compare {t n d a0 g0 c0 a g c : Nat} {T X G0 Cd0 Vl0 Co0 G Cd Vl Co : Nat → Int32} (ht : tpA t T X) (hn : n < 5) (hd : d ≤ 6) (hg0 : g0 ≤ a0) (hc0 : c0 ≤ a0) (x : acc t n a0 g0 c0 G0 Cd0 Vl0 Co0 a g c G Cd Vl Co (16 - 2 * d) false) : pOut t n d a0 g0 c0 G0 Cd0 Vl0 Co0 (17 - 2 * d) true (f_LawR_readRightOfComparison (nI t) (nI a) T (nI g) G (nI d)) (f_M_compare (nI t) (nI a) (-1) (nI d) (nI n) X Cd Vl Co) := by
  have h240 := ht.1
  obtain ⟨⟨y1, y2, y3, y4, y5, y6⟩, y8, y9, y10⟩ := x
  have hb1 := lk_ge (X := X) y2
  have hb2 := lk_le (X := X) y2
  unfold f_LawR_readRightOfComparison f_M_compare f_M_compare_J16
  rw [c_sign ht y2, bind_some', if_pos rfl, m_look h240 y2, bind_some']
  dsimp only
  have step : ∀ (o : Nat) (o' : Int32), opP o o' false true → o < 256 → o ≠ 33 → ¬ o' = 0 → ¬ o' = 1 → ¬ o' = 9 → lk X t a < t → pOut t n d a0 g0 c0 G0 Cd0 Vl0 Co0 (17 - 2 * d) true ((f_LawR_readSum 8 (nI t) (nI (lk X t a + 1)) T (nI g) G (nI d)).bind fun r => if r.1 = 0 then some (0, r.2.1, r.2.2.1, r.2.2.2) else (f_LawR_emit r.2.2.1 r.2.2.2 (nI (20000 + o))).bind fun e => some (1, r.2.1, e.1, e.2)) ((f_M_sum 8 (nI t) (nI (lk X t a + 1)) (-1) (nI d) (nI n) X Cd Vl Co).bind fun r => f_M_compare_J68 r.1 r.2.1 r.2.2.1 (nI n) r.2.2.2.1 r.2.2.2.2.1 r.2.2.2.2.2 o') := by
    intro o o' hop ho hno z0 z1 z9 hlt
    rcases p_sum8 ht hn hd (lk X t a + 1) g c G Cd Vl Co (by omega) (by omega) (by omega) y9.2.1 with ⟨a', g', c', G', Cd', Vl', Co', x1, x2, x3, x4, x5, x6⟩ | ⟨p, x, c', g', dp, G', Cd', Vl', Co', x1, x2, x3, x4⟩
    · rw [x1, x2, bind_some', bind_some']
      unfold f_M_compare_J68
      dsimp only
      rw [if_neg d10, c_emit (show g' < 240 by omega), bind_some', m_put hn x5.2.1 (show c' < 520 by omega), bind_some']
      dsimp only
      left
      refine ⟨a', g' + 1, c' + 1, _, _, _, _, rfl, rfl, ⟨(by omega), (by omega), (by omega), (by omega), (by omega), (by omega)⟩, fun i hi => ?_, fr2_put (fr2_trans y9 x5 (by omega)) (by omega) (by omega), ?_⟩
      · rw [upd_ne (by omega), x4 i (by omega)]
        exact y8 i hi
      · exact pEv_step (pEv_mono y10 (show 16 - 2 * d ≤ 17 - 2 * d by omega)) x6 x4 x5 hop (by omega) (by omega) (by omega) (by omega) (by omega) hno z0 z1 z9 (by omega) (by omega)
    · rw [x1, x2, bind_some', bind_some']
      unfold f_M_compare_J68
      dsimp only
      rw [if_pos rfl, m_put hn x4.2.1 (show c' < 520 by omega), bind_some']
      right
      exact ⟨p, x, c' + 1, g', dp, G', _, _, _, rfl, rfl, ⟨(by omega), (by omega), (by omega), (by omega), (by omega)⟩, fr2_put (fr2_trans y9 x4 (by omega)) (by omega) (by omega)⟩
  by_cases e1 : ch X t (lk X t a) = 61
  · obtain ⟨hlt, _⟩ := ch_lt e1 (by decide)
    have := step 61 6 op_eq (by decide) (by decide) (by decide) (by decide) (by decide) hlt
    rw [e1]
    unfold f_Tape_step
    simp only [oL, bind_some', nx_add]
    exact this
  · by_cases e2 : ch X t (lk X t a) = 60
    · obtain ⟨hlt, _⟩ := ch_lt e2 (by decide)
      have := step 60 7 op_lt (by decide) (by decide) (by decide) (by decide) (by decide) hlt
      rw [e2]
      unfold f_Tape_step
      simp only [oL, bind_some', nx_add]
      exact this
    · by_cases e3 : ch X t (lk X t a) = 62
      · obtain ⟨hlt, _⟩ := ch_lt e3 (by decide)
        have := step 62 8 op_gt (by decide) (by decide) (by decide) (by decide) (by decide) hlt
        rw [e3]
        unfold f_Tape_step
        simp only [oL, bind_some', nx_add]
        exact this
      · have s1 : f_LawR_isComparison (ch X t (lk X t a)) = some 0 := by
          unfold f_LawR_isComparison
          rw [if_neg e1, if_neg e2, if_neg e3]
        have s2 : f_M_isSign (ch X t (lk X t a)) = some 0 := by
          unfold f_M_isSign
          rw [if_neg e1, if_neg e2, if_neg e3]
        rw [s1, s2, bind_some', bind_some', if_pos rfl, if_pos rfl, m_bad, bind_some']
        right
        exact ⟨lk X t a, lk X t a, c, nI g, _, G, Cd, Vl, Co, rfl, rfl, ⟨(by omega), (by omega), (by omega), (by omega), (by omega)⟩, y9⟩
theorem p_unit {t n d : Nat} {T X : Nat → Int32} {RR : tyC} {RM : tyM} (ht : tpA t T X) (hn : n < 5) (hd : d ≤ 6) (hU : d < 6 → pS t n T X (d + 1) (17 - 2 * (d + 1)) true RR RM) : pS t n T X d (17 - 2 * d) true (f_LawR_readUnitB RR) (f_M_unitB RM) := by
  intro a g c G Cd Vl Co ha hg hc hCo
  have h240 := ht.1
  have hb1 := lk_ge (X := X) ha
  have hb2 := lk_le (X := X) ha
  unfold f_LawR_readUnitB f_M_unitB
  rw [c_sign ht ha, m_look h240 ha, bind_some', bind_some']
  dsimp only
  have hop : ¬ d = 6 → f_M_opens (nI (lk X t a)) (-1) (nI d) = some (nI (lk X t a + 1), -1, nI (d + 1)) := by
    intro hd6
    unfold f_M_opens f_M_opens_J13
    rw [if_neg (show ¬ nI d = 6 from nx_neL (b := 6) hd6 (by omega) (by decide))]
    simp only [oL, nx_add]
  have hop6 : d = 6 → f_M_opens (nI (lk X t a)) (-1) (nI d) = some (nI (lk X t a + 1), nI (lk X t a), nI (d + 1)) := by
    intro hd6
    unfold f_M_opens f_M_opens_J13
    rw [if_pos (show nI d = 6 by rw [hd6]; rfl), m_bad, bind_some']
    simp only [oL, nx_add]
  by_cases e33 : ch X t (lk X t a) = 33
  · obtain ⟨hlt, _⟩ := ch_lt e33 (by decide)
    rw [if_pos e33, if_pos e33, e33]
    unfold f_LawR_readUnit_J42
    by_cases hd6 : d = 6
    · rw [hop6 hd6, bind_some']
      dsimp only
      rw [if_neg (show ¬ nI d < 6 by rw [hd6]; decide), if_neg (m1_ne (by omega))]
      right
      exact ⟨lk X t a, lk X t a + 1, c, nI g, _, G, Cd, Vl, Co, rfl, rfl, ⟨(by omega), (by omega), (by omega), (by omega), (by omega)⟩, fr2_id hCo⟩
    · rw [hop hd6, bind_some']
      dsimp only
      rw [if_pos (show nI d < 6 from nI_lt (b := 6) (by omega) (by decide)), if_pos rfl]
      unfold f_Tape_step
      simp only [oL, bind_some', nx_add]
      rw [if_neg (by decide)]
      rcases hU (by omega) (lk X t a + 1) g c G Cd Vl Co (by omega) (by omega) (by omega) hCo with ⟨a', g', c', G', Cd', Vl', Co', x1, x2, x3, x4, x5, x6⟩ | ⟨p, x, c', g', dp, G', Cd', Vl', Co', x1, x2, x3, x4⟩
      · rw [x1, x2, bind_some', bind_some']
        dsimp only
        rw [if_neg d10, c_emit (show g' < 240 by omega), bind_some', m_put hn x5.2.1 (show c' < 520 by omega), bind_some']
        dsimp only
        rw [nx_pre1]
        left
        refine ⟨a', g' + 1, c' + 1, _, _, _, _, rfl, rfl, ⟨(by omega), (by omega), (by omega), (by omega), (by omega), (by omega)⟩, fun i hi => ?_, fr2_put x5 (by omega) (by omega), ?_⟩
        · rw [upd_ne (by omega)]
          exact x4 i hi
        · refine pEv_mono (pEv_not (b' := 520 * n + c') (pEv_agree x6 ?_ ?_) (by omega) (by omega) upd_at upd_at (by omega)) (by omega)
          · intro i i1 i2
            exact upd_ne (by omega)
          · intro i i1 i2
            exact ⟨upd_ne (by omega), upd_ne (by omega)⟩
      · rw [x1, x2, bind_some', bind_some']
        dsimp only
        rw [if_pos rfl, m_put hn x4.2.1 (show c' < 520 by omega), bind_some']
        right
        exact ⟨p, x, c' + 1, g', _, G', _, _, _, rfl, rfl, ⟨(by omega), (by omega), (by omega), (by omega), (by omega)⟩, fr2_put x4 (by omega) (by omega)⟩
  · rw [if_neg e33, if_neg e33]
    by_cases e40 : ch X t (lk X t a) = 40
    · obtain ⟨hlt, _⟩ := ch_lt e40 (by decide)
      rw [if_pos e40, if_pos e40, e40]
      unfold f_LawR_readUnit_J42
      by_cases hd6 : d = 6
      · rw [hop6 hd6, bind_some']
        dsimp only
        rw [if_neg (show ¬ nI d < 6 by rw [hd6]; decide), if_neg (m1_ne (by omega))]
        right
        exact ⟨lk X t a, lk X t a + 1, c, nI g, _, G, Cd, Vl, Co, rfl, rfl, ⟨(by omega), (by omega), (by omega), (by omega), (by omega)⟩, fr2_id hCo⟩
      · rw [hop hd6, bind_some']
        dsimp only
        rw [if_pos (show nI d < 6 from nI_lt (b := 6) (by omega) (by decide)), if_pos rfl]
        unfold f_Tape_step
        simp only [oL, bind_some', nx_add]
        rw [if_pos trivial]
        have hC := p_cond ht hn (show d + 1 ≤ 6 by omega) (show 2 ≤ 17 - 2 * (d + 1) by omega) (hU (by omega)) (lk X t a + 1) g c G Cd Vl Co (by omega) (by omega) (by omega) hCo
        unfold cCond at hC
        rcases hC with ⟨a', g', c', G', Cd', Vl', Co', x1, x2, x3, x4, x5, x6⟩ | ⟨p, x, c', g', dp, G', Cd', Vl', Co', x1, x2, x3, x4⟩
        · rw [x1, x2, bind_some', bind_some']
          dsimp only
          have hc1 := lk_ge (X := X) (show a' ≤ t by omega)
          have hc2 := lk_le (X := X) (show a' ≤ t by omega)
          rw [if_neg d10, c_takes ht (by omega), bind_some']
          unfold f_M_closes
          rw [if_pos rfl, m_look h240 (by omega), bind_some']
          dsimp only
          by_cases h41 : ch X t (lk X t a') = 41
          · obtain ⟨hlt2, _⟩ := ch_lt h41 (by decide)
            rw [if_pos h41, if_pos h41]
            dsimp only
            rw [if_neg d10]
            unfold f_M_closes_J20
            simp only [oL, bind_some', nx_add, nx_pre1]
            exact Or.inl ⟨lk X t a' + 1, g', c', G', Cd', Vl', Co', rfl, rfl, ⟨(by omega), (by omega), (by omega), (by omega), (by omega), (by omega)⟩, x4, x5, pEv_mono x6 (by omega)⟩
          · rw [if_neg h41, if_neg h41]
            dsimp only
            rw [if_pos rfl, m_bad, bind_some']
            unfold f_M_closes_J20
            simp only [oL, bind_some', nx_add, nx_pre1]
            exact Or.inr ⟨lk X t a', lk X t a' + 1, c', nI g', _, G', Cd', Vl', Co', rfl, rfl, ⟨(by omega), (by omega), (by omega), (by omega), (by omega)⟩, x5⟩
        · rw [x1, x2, bind_some', bind_some']
          dsimp only
          rw [if_pos rfl]
          unfold f_M_closes f_M_closes_J20
          rw [if_neg (m1_ne (show p < 2 ^ 31 by omega))]
          simp only [oL, bind_some', nx_add]
          exact Or.inr ⟨p, x + 1, c', g', _, G', Cd', Vl', Co', rfl, rfl, ⟨(by omega), (by omega), (by omega), (by omega), (by omega)⟩, x4⟩
    · rw [if_neg e40, if_neg e40]
      rcases p_sum8 ht hn hd (lk X t a) g c G Cd Vl Co (by omega) (by omega) (by omega) hCo with ⟨a', g', c', G', Cd', Vl', Co', x1, x2, x3, x4, x5, x6⟩ | ⟨p, x, c', g', dp, G', Cd', Vl', Co', x1, x2, x3, x4⟩
      · rw [x1, x2, bind_some', bind_some']
        dsimp only
        rw [if_neg d10, if_pos rfl]
        have hK := p_compare (a := a') (G := G') (Cd := Cd') (Vl := Vl') (Co := Co') ht hn hd (show g ≤ lk X t a by omega) (show c ≤ lk X t a by omega) ⟨x3, x4, x5, x6⟩
        rcases hK with ⟨a2, g2, c2, G2, Cd2, Vl2, Co2, w1, w2, w3, w4, w5, w6⟩ | ⟨p, x, c2, g2, dp, G2, Cd2, Vl2, Co2, w1, w2, w3, w4⟩
        · rw [w1, w2, bind_some', bind_some']
          dsimp only
          rw [if_neg d10]
          exact Or.inl ⟨a2, g2, c2, G2, Cd2, Vl2, Co2, rfl, rfl, ⟨(by omega), (by omega), (by omega), (by omega), (by omega), (by omega)⟩, w4, w5, w6⟩
        · rw [w1, w2, bind_some', bind_some']
          dsimp only
          rw [if_pos rfl]
          exact Or.inr ⟨p, x, c2, g2, dp, G2, Cd2, Vl2, Co2, rfl, rfl, ⟨(by omega), (by omega), (by omega), (by omega), (by omega)⟩, w4⟩
      · rw [x1, x2, bind_some', bind_some']
        dsimp only
        rw [if_pos rfl, if_neg (m1_ne (show p < 2 ^ 31 by omega))]
        exact Or.inr ⟨p, x, c', g', dp, G', Cd', Vl', Co', rfl, rfl, ⟨(by omega), (by omega), (by omega), (by omega), (by omega)⟩, x4⟩
theorem p_units {t n : Nat} {T X : Nat → Int32} (ht : tpA t T X) (hn : n < 5) : ∀ (k d : Nat), d ≤ 6 → 7 ≤ d + k → pS t n T X d (17 - 2 * d) true (f_LawR_readUnit k) (f_M_unit k) := by
  intro k
  induction k with
  | zero => intro d h1 h2; omega
  | succ k ih =>
    intro d h1 h2
    exact p_unit ht hn h1 (fun hd => ih (d + 1) (by omega) (by omega))
