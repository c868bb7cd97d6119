/-! aim, lands, wins, game, odds -/
theorem mil_pw {n : Nat} (h : n ≤ 9) : mil (nI n) := mil_nI (by omega)
theorem q_aimOf {Y C R B M F O W : Nat → Int32} {mb mm mf : Int32} {nb nm nf : Nat} {As Ac Mh : Int32} {Ad Al Kc Kv Kl Kt Kf Ku : Nat → Int32} {w : Option ((Nat → Int32) → Int32)} {b m : Nat} {s L s' L' : Nat → Int32} (x : cx Y C R B M F O W mb mm mf nb nm nf As Ac Mh Ad Al Kc Kv Kl Kt Kf Ku w) (hb : b < nb) (hm : m < nm) : ∃ v u u', f_Lane_nearestPower As Ac Ad Al s Y (nI nm) (W 6) (W 9) O L (nI b) (nI m) = some (v, u) ∧ f_M_aimOf (nI nm) Mh Kc Kv Kl Kt Kf Ku L' s' R B M W (nI b) (nI m) = some (v, u') ∧ (v = -1 ∨ ∃ q : Nat, 1 ≤ q ∧ q ≤ 9 ∧ v = nI q) := by
  unfold f_Lane_nearestPower f_M_aimOf
  refine qlp2 (fun j (t : Int32 × Int32 × Int32 × (Nat → Int32) × (Nat → Int32)) (t' : Int32 × Int32 × (Nat → Int32) × (Nat → Int32)) => t.1 = t'.1 ∧ t.2.2.1 = nI (j + 1) ∧ t'.2.1 = nI (j + 1) ∧ (t.1 = -1 ∨ ∃ q : Nat, 1 ≤ q ∧ q ≤ 9 ∧ t.1 = nI q ∧ t.2.1 = dst R (cel w B M W nm b m (nI q)))) (fun r r' => ∃ v u u', r = some (v, u) ∧ r' = some (v, u') ∧ (v = -1 ∨ ∃ q : Nat, 1 ≤ q ∧ q ≤ 9 ∧ v = nI q)) (n := 9) ?_ ?_ (j := 0) (by omega) ⟨rfl, rfl, rfl, Or.inl rfl⟩
  · rintro j ⟨t1, t2, t3, t4, t5⟩ ⟨u1, u2, u3, u4⟩ hj ⟨i1, i2, i3, i4⟩
    dsimp only at i1 i2 i3 i4
    subst i1 i2 i3
    left
    obtain ⟨s1, hs1⟩ := cx_flick (s := t4) (L := t5) x (mil_pw (show j + 1 ≤ 9 by omega)) hb hm
    obtain ⟨s2, hs2⟩ := cx_lands (s := u4) (L := u3) x (mil_pw (show j + 1 ≤ 9 by omega)) hb hm
    have hlt : ¬ (9 : Int32) < nI (j + 1) := fun q => by have := (nx_Llt (by decide) (by omega)).mp q; omega
    unfold f_Lane_nearestPower_L8 f_M_aimOf_L5
    simp only [hlt, if_false, hs1, hs2, bind_some', l_isDrain x, m_isDrain, l_distance x, m_offHole, f_Lane_nearestPower_J61, f_Lane_nearestPower_J50, f_M_aimOf_J62, f_M_aimOf_J61, f_M_aimOf_J56, nx_add]
    by_cases z : drn R (cel w B M W nm b m (nI (j + 1))) = 0
    · simp only [z, if_true]
      rcases i4 with e | ⟨q, q1, q9, e, e2⟩
      · simp only [e, if_true]
        exact ⟨_, _, rfl, rfl, rfl, rfl, rfl, Or.inr ⟨j + 1, (by omega), (by omega), rfl, rfl⟩⟩
      · have hne : ¬ nI q = -1 := m1_ne (by omega)
        obtain ⟨s3, hs3⟩ := cx_lands (s := s2.2) (L := s2.1) x (mil_pw q9) hb hm
        simp only [e, e2, hne, if_false, hs3, bind_some']
        by_cases z2 : dst R (cel w B M W nm b m (nI q)) ≤ dst R (cel w B M W nm b m (nI (j + 1)))
        · simp only [z2, if_true]
          exact ⟨_, _, rfl, rfl, rfl, rfl, rfl, Or.inr ⟨q, q1, q9, rfl, rfl⟩⟩
        · simp only [z2, if_false]
          exact ⟨_, _, rfl, rfl, rfl, rfl, rfl, Or.inr ⟨j + 1, (by omega), (by omega), rfl, rfl⟩⟩
    · simp only [z, if_false]
      exact ⟨_, _, rfl, rfl, rfl, rfl, rfl, i4⟩
  · rintro ⟨t1, t2, t3, t4, t5⟩ ⟨u1, u2, u3, u4⟩ ⟨i1, i2, i3, i4⟩
    dsimp only at i1 i2 i3 i4
    subst i1 i2 i3
    refine ⟨t1, (t4, t5), (u3, u4), oLp_out rfl, oLp_out rfl, ?_⟩
    · rcases i4 with e | ⟨q, q1, q9, e, e2⟩
      · exact Or.inl e
      · exact Or.inr ⟨q, q1, q9, e⟩
theorem q_aim {Y C R B M F O W : Nat → Int32} {mb mm mf : Int32} {nb nm nf : Nat} {As Ac Mh : Int32} {Ad Al Kc Kv Kl Kt Kf Ku : Nat → Int32} {w : Option ((Nat → Int32) → Int32)} {p0 p1 : Int32} {s L s' L' : Nat → Int32} (x : cx Y C R B M F O W mb mm mf nb nm nf As Ac Mh Ad Al Kc Kv Kl Kt Kf Ku w) : ∃ v u u', f_Main_aim As Ac Ad Al s Y C (nI nm) (W 6) (W 9) O L p0 p1 = some (v, u) ∧ f_M_aim mb mm Mh Kc Kv Kl Kt Kf Ku L' s' R B M W p0 p1 = some (v, u') := by
  have h := x.1
  obtain ⟨⟨h5, h6, h6'⟩, ⟨c1, c2, c3⟩, ⟨e1, e2, e3⟩, hr, hbo, hma, hfa, rb, rm, rf, r0, r1, r2⟩ := h
  unfold f_Main_aim f_M_aim
  subst e1 e2
  rw [y_hasBoy c1, bind_some', m_isBoy (by omega), bind_some']
  rcases inB_cases p0 (n := nb) (by omega) with ⟨e, _⟩ | ⟨b, hb, rfl, e⟩
  · rw [e]
    exact ⟨_, _, _, rfl, rfl⟩
  · rw [e, if_neg d10, if_neg d10, y_hasMarble c2, bind_some', m_isMarble (by omega), bind_some']
    rcases inB_cases p1 (n := nm) (by omega) with ⟨e, _⟩ | ⟨m, hm, rfl, e⟩
    · rw [e]
      exact ⟨_, _, _, rfl, rfl⟩
    · rw [e, if_neg d10, if_neg d10]
      obtain ⟨v, u, u', h1, h2, _⟩ := q_aimOf (s := s) (L := L) (s' := s') (L' := L') x hb hm
      rw [h1, h2]
      exact ⟨_, _, _, rfl, rfl⟩
theorem q_lands {Y C R B M F O W : Nat → Int32} {mb mm mf : Int32} {nb nm nf : Nat} {As Ac Mh : Int32} {Ad Al Kc Kv Kl Kt Kf Ku : Nat → Int32} {w : Option ((Nat → Int32) → Int32)} {p0 p1 p2 : Int32} {s L s' L' : Nat → Int32} (x : cx Y C R B M F O W mb mm mf nb nm nf As Ac Mh Ad Al Kc Kv Kl Kt Kf Ku w) : ∃ v u u', f_Main_lands As Ac Ad Al s Y C (nI nm) (W 6) (W 9) O L p0 p1 p2 = some (v, u) ∧ f_M_lands mb mm Mh Kc Kv Kl Kt Kf Ku L' s' B M W p0 p1 p2 = some (v, u') := by
  have h := x.1
  obtain ⟨⟨h5, h6, h6'⟩, ⟨c1, c2, c3⟩, ⟨e1, e2, e3⟩, hr, hbo, hma, hfa, rb, rm, rf, r0, r1, r2⟩ := h
  unfold f_Main_lands f_M_lands
  subst e1 e2
  rw [y_hasBoy c1, bind_some', m_isBoy (by omega), bind_some']
  rcases inB_cases p0 (n := nb) (by omega) with ⟨e, _⟩ | ⟨b, hb, rfl, e⟩
  · rw [e]
    exact ⟨_, _, _, rfl, rfl⟩
  · rw [e, if_neg d10, if_neg d10, y_hasMarble c2, bind_some', m_isMarble (by omega), bind_some']
    rcases inB_cases p1 (n := nm) (by omega) with ⟨e, _⟩ | ⟨m, hm, rfl, e⟩
    · rw [e]
      exact ⟨_, _, _, rfl, rfl⟩
    · rw [e, if_neg d10, if_neg d10, l_isPower, bind_some', m_isPower, bind_some']
      rcases pw_cases p2 with e | ⟨e, q, q1, q9, rfl⟩
      · rw [e]
        exact ⟨_, _, _, rfl, rfl⟩
      · rw [e, if_neg d10, if_neg d10]
        obtain ⟨s1, hs1⟩ := cx_flick (s := s) (L := L) x (mil_pw q9) hb hm
        obtain ⟨s2, hs2⟩ := cx_lands (s := s') (L := L') x (mil_pw q9) hb hm
        rw [hs1, hs2]
        exact ⟨_, _, _, rfl, rfl⟩
theorem whP_ne {W : Nat → Int32} {nm : Nat} {p q a b : Int32} : whP W nm p a q b = -1 ∨ ¬ whP W nm p a q b = -1 := Classical.em _
theorem q_wins {Y C R B M F O W : Nat → Int32} {mb mm mf : Int32} {nb nm nf : Nat} {As Ac Mh : Int32} {Ad Al Kc Kv Kl Kt Kf Ku : Nat → Int32} {w : Option ((Nat → Int32) → Int32)} {p0 p1 p2 p3 : Int32} {s L s' L' : Nat → Int32} (x : cx Y C R B M F O W mb mm mf nb nm nf As Ac Mh Ad Al Kc Kv Kl Kt Kf Ku w) : ∃ v u u', f_Main_wins As Ac Ad Al s Y C (nI nm) (W 6) (W 7) (W 9) O L p0 p1 p2 p3 = some (v, u) ∧ f_M_wins mm Mh Kc Kv Kl Kt Kf Ku L' s' R B M W p0 p1 p2 p3 = some (v, u') := by
  have h := x.1
  obtain ⟨⟨h5, h6, h6'⟩, ⟨c1, c2, c3⟩, ⟨e1, e2, e3⟩, hr, hbo, hma, hfa, rb, rm, rf, r0, r1, r2⟩ := h
  subst e1 e2
  unfold f_Main_wins f_M_wins
  rw [l_refusal x, bind_some', m_whyNotPlay h6, bind_some']
  rcases whP_ne (W := W) (nm := nm) (p := p0) (a := p1) (q := p2) (b := p3) with z | z
  · rw [if_pos z, if_pos z]
    obtain ⟨zn, ⟨a, a1, a9, rfl⟩, ⟨a', a1', a9', rfl⟩⟩ := whP_m1 z
    obtain ⟨m, o, b, b', hm, ho, hmo, rfl, rfl, hb, hb', hbb, wm, wo'⟩ := whN_m1 h6 x.2.2.1 zn
    have om : O m = nI b := (x.2.1 m hm).trans wm
    have oo : O o = nI b' := (x.2.1 o ho).trans wo'
    obtain ⟨s1, hs1⟩ := cx_flick (s := s) (L := L) x (mil_pw a9) hb hm
    obtain ⟨s2, hs2⟩ := cx_flick (s := s1.1) (L := s1.2) x (mil_pw a9') hb' ho
    obtain ⟨t1, ht1⟩ := cx_cell (s := s') (L := L') x (mil_pw a9) hb hm wm
    obtain ⟨t2, ht2⟩ := cx_cell (s := t1.2) (L := t1.1) x (mil_pw a9') hb' ho wo'
    unfold f_Lane_winnerOf
    simp only [n_ownerOf hm h6, n_ownerOf ho h6, bind_some', om, oo, hs1, hs2, ht1, ht2, l_nearerOf x, m_winner]
    exact ⟨_, _, _, rfl, rfl⟩
  · rw [if_neg z, if_neg z]
    exact ⟨_, _, _, rfl, rfl⟩
theorem q_game {Y C R B M F O W : Nat → Int32} {mb mm mf : Int32} {nb nm nf : Nat} {As Ac Mh : Int32} {Ad Al Kc Kv Kl Kt Kf Ku : Nat → Int32} {w : Option ((Nat → Int32) → Int32)} {p0 p1 p2 p3 p4 : Int32} {s L s' L' : Nat → Int32} (x : cx Y C R B M F O W mb mm mf nb nm nf As Ac Mh Ad Al Kc Kv Kl Kt Kf Ku w) : ∃ v u u', f_Main_game As Ac Ad Al s Y C (nI nm) (W 6) (W 7) (W 9) O L p0 p1 p2 p3 p4 = some (v, u) ∧ f_M_game mm Mh Kc Kv Kl Kt Kf Ku L' s' R B M W p0 p1 p2 p3 p4 = some (v, u') := by
  have h := x.1
  obtain ⟨⟨h5, h6, h6'⟩, ⟨c1, c2, c3⟩, ⟨e1, e2, e3⟩, hr, hbo, hma, hfa, rb, rm, rf, r0, r1, r2⟩ := h
  subst e1 e2
  unfold f_Main_game f_M_game
  rw [l_refusal x, bind_some', m_whyNotPlay h6, bind_some']
  unfold f_M_in
  rcases whP_ne (W := W) (nm := nm) (p := p0) (a := p1) (q := p2) (b := p3) with z | z
  · rw [if_pos z, if_pos z]
    by_cases h0 : p4 < 0
    · rw [if_pos h0, if_pos h0]
      exact ⟨_, _, _, rfl, rfl⟩
    · rw [if_neg h0, if_neg h0]
      by_cases h1 : 1 < p4
      · rw [if_pos h1, if_pos h1]
        exact ⟨_, _, _, rfl, rfl⟩
      · rw [if_neg h1, if_neg h1]
        obtain ⟨zn, ⟨a, a1, a9, rfl⟩, ⟨a', a1', a9', rfl⟩⟩ := whP_m1 z
        obtain ⟨m, o, b, b', hm, ho, hmo, rfl, rfl, hb, hb', hbb, wm, wo'⟩ := whN_m1 h6 x.2.2.1 zn
        have om : O m = nI b := (x.2.1 m hm).trans wm
        have oo : O o = nI b' := (x.2.1 o ho).trans wo'
        obtain ⟨s1, hs1⟩ := cx_flick (s := s) (L := L) x (mil_pw a9) hb hm
        obtain ⟨s2, hs2⟩ := cx_flick (s := s1.1) (L := s1.2) x (mil_pw a9') hb' ho
        simp only [n_ownerOf hm h6, n_ownerOf ho h6, bind_some', om, oo, hs1, hs2, l_gain x, y_size (show m < 6 by omega), y_size (show o < 6 by omega), hma m 2 hm (by omega), hma o 2 ho (by omega)]
        rw [if_neg d10]
        by_cases h2 : p4 = 0
        · obtain ⟨t1, ht1⟩ := cx_game (s := s') (L := L') x (mil_pw a9) (mil_pw a9') hb hm wm hb' ho wo'
          rw [if_pos h2, if_pos h2, ht1]
          exact ⟨_, _, _, rfl, rfl⟩
        · obtain ⟨t1, ht1⟩ := cx_game (s := s') (L := L') x (mil_pw a9') (mil_pw a9) hb' ho wo' hb hm wm
          rw [if_neg h2, if_neg h2, ht1]
          exact ⟨_, _, _, rfl, rfl⟩
  · rw [if_neg z, if_neg z]
    by_cases h0 : p4 < 0
    · rw [if_pos h0]
      exact ⟨_, _, _, rfl, rfl⟩
    · rw [if_neg h0]
      by_cases h1 : 1 < p4
      · rw [if_pos h1]
        exact ⟨_, _, _, rfl, rfl⟩
      · rw [if_neg h1]
        exact ⟨_, _, _, rfl, rfl⟩
/-! odds -/
noncomputable def pby (v c : Int32) (k : Nat) : Int32 := (f_M_partBy v c (nI k)).getD 0
theorem m_partBy {v c : Int32} {k : Nat} : f_M_partBy v c (nI k) = some (pby v c k) := by
  unfold pby f_M_partBy oL
  dsimp only
  split
  · rfl
  · split <;> rfl
theorem l_parts0 {v c : Int32} : f_Lane_partsOf v (-1) c = some (pby v c 1) := rfl
theorem l_parts1 {v c : Int32} : f_Lane_partsOf v 0 c = some (pby v c 0) := rfl
theorem l_parts2 {v c : Int32} : f_Lane_partsOf v 1 c = some (pby v c 2) := rfl
def cby (v : Int32) (k : Nat) : Int32 := if k = 0 then v else if k = 1 then jmax 0 (v - 1) else v + 1
theorem m_cellBy {v : Int32} {k : Nat} (h : k < 3) : f_M_cellBy v (nI k) = some (cby v k) := by
  rcases (show k = 0 ∨ k = 1 ∨ k = 2 by omega) with rfl | rfl | rfl <;> rfl
noncomputable def odt (R : Nat → Int32) (a b c : Int32) (i j : Nat) : Int32 := if wnr R (cby a i) (cby b j) = 1 then pby (pby 1000000000 c i) c j else 0
theorem clamp_60 (v : Int32) : ∃ n : Nat, n ≤ 60 ∧ jmax 0 (jmin 60 v) = nI n := by
  have h60 : (60 : Int32).toInt = 60 := (by decide)
  have h00 : (0 : Int32).toInt = 0 := (by decide)
  unfold jmax jmin
  by_cases h1 : v < 60
  · rw [if_pos h1]
    by_cases h2 : 0 < v
    · rw [if_pos h2]
      rw [Int32.lt_iff_toInt_lt] at h1 h2
      obtain ⟨k, hk, e⟩ := nI_of2 (x := v) h60 (fun q => by rw [Int32.lt_iff_toInt_lt] at q; omega) (by rw [Int32.le_iff_toInt_le]; omega)
      exact ⟨k, hk, e⟩
    · rw [if_neg h2]
      exact ⟨0, (by omega), rfl⟩
  · rw [if_neg h1, if_pos (by decide)]
    exact ⟨60, (by omega), rfl⟩
theorem cel_60 {B M W : Nat → Int32} {w : Option ((Nat → Int32) → Int32)} {nm b m : Nat} {p : Int32} : ∃ n : Nat, n ≤ 60 ∧ cel w B M W nm b m p = nI n := clamp_60 _
theorem l_wp_in {Y C R B M F O W : Nat → Int32} {mb mm mf : Int32} {nb nm nf : Nat} {As Ac Mh : Int32} {Ad Al Kc Kv Kl Kt Kf Ku : Nat → Int32} {w : Option ((Nat → Int32) → Int32)} {a b c v5 v6 s0 : Int32} (x : cx Y C R B M F O W mb mm mf nb nm nf As Ac Mh Ad Al Kc Kv Kl Kt Kf Ku w) (hb0 : ∃ n : Nat, n ≤ 60 ∧ b = nI n) (i : Nat) (hi : jmax 0 (a + v5) = cby a i) (h6 : v6 = pby 1000000000 c i) : oLp (f_Lane_winningParts_L25 Y a b c v5 v6) (s0, -1) = some (.inl (s0 + odt R a b c i 1 + odt R a b c i 0 + odt R a b c i 2, v5 + 1)) := by
  obtain ⟨n, hn, rfl⟩ := hb0
  have e0 : jmax 0 (nI n + -1) = cby (nI n) 1 := by
    show _ = jmax 0 (nI n - 1)
    rw [Int32.sub_eq_add_neg]
  have e1 : jmax 0 (nI n + 0) = cby (nI n) 0 := by
    show _ = nI n
    rw [Int32.add_zero]
    unfold jmax
    by_cases h : (0 : Int32) < nI n
    · rw [if_pos h]
    · rw [if_neg h]
      have : ¬ 0 < n := fun q => h ((nx_Llt (by decide) (by omega)).mpr q)
      have : n = 0 := (by omega)
      rw [this]
      rfl
  have e2 : jmax 0 (nI n + 1) = cby (nI n) 2 := by
    show _ = nI n + 1
    rw [nx_add]
    unfold jmax
    rw [if_pos ((nx_Llt (by decide) (by omega)).mpr (by show 0 < _; omega))]
  have go : ∀ (s k : Int32) (j : Nat), ¬ 1 < k → jmax 0 (nI n + k) = cby (nI n) j → f_Lane_partsOf v6 k c = some (pby v6 c j) → f_Lane_winningParts_L25 Y a (nI n) c v5 v6 (s, k) = some (.inl (s + odt R a (nI n) c i j, k + 1)) := by
    intro s k j hk hj hp
    unfold f_Lane_winningParts_L25 odt
    simp only [hk, if_false, hi, hj, l_nearerOf x, bind_some', hp, f_Lane_winningParts_J68, oL, ← h6]
    split
    · rfl
    · rw [Int32.add_zero]
  rw [oLp_go (go s0 (-1) 1 (by decide) e0 l_parts0), show (-1 : Int32) + 1 = 0 from rfl, oLp_go (go _ 0 0 (by decide) e1 l_parts1), show (0 : Int32) + 1 = 1 from rfl, oLp_go (go _ 1 2 (by decide) e2 l_parts2)]
  exact oLp_out rfl
theorem m_od_in {R : Nat → Int32} {a b c s0 : Int32} {i : Nat} (hi : i < 3) : oLp (f_M_odds_L70 R c a b (nI i) (pby 1000000000 c i)) (s0, 0) = some (.inl (s0 + odt R a b c i 0 + odt R a b c i 1 + odt R a b c i 2, nI (i + 1))) := by
  have go : ∀ (s : Int32) (j : Nat), j < 3 → f_M_odds_L70 R c a b (nI i) (pby 1000000000 c i) (s, nI j) = some (.inl (s + odt R a b c i j, nI (j + 1))) := by
    intro s j hj
    have hk : ¬ (3 : Int32) ≤ nI j := nI_ge hj (by decide)
    unfold f_M_odds_L70 odt
    simp only [hk, if_false, m_cellBy hi, m_cellBy hj, m_winner, bind_some', m_partBy, f_M_odds_J113, oL, nx_add]
    split
    · rfl
    · rfl
  rw [show (0 : Int32) = nI 0 from rfl, oLp_go (go s0 0 (by omega)), oLp_go (go _ 1 (by omega)), oLp_go (go _ 2 (by omega))]
  refine oLp_out ?_
  unfold f_M_odds_L70
  simp only [nx_add]
  rfl
theorem q_odds {Y C R B M F O W : Nat → Int32} {mb mm mf : Int32} {nb nm nf : Nat} {As Ac Mh : Int32} {Ad Al Kc Kv Kl Kt Kf Ku : Nat → Int32} {w : Option ((Nat → Int32) → Int32)} {p0 p1 p2 p3 p4 : Int32} {s L s' L' : Nat → Int32} (x : cx Y C R B M F O W mb mm mf nb nm nf As Ac Mh Ad Al Kc Kv Kl Kt Kf Ku w) : ∃ v u u', f_Main_odds As Ac Ad Al s Y C (nI nm) (W 6) (W 7) (W 9) O L p0 p1 p2 p3 p4 = some (v, u) ∧ f_M_odds mm Mh Kc Kv Kl Kt Kf Ku L' s' R B M W p0 p1 p2 p3 p4 = some (v, u') := by
  have h := x.1
  obtain ⟨⟨h5, h6, h6'⟩, ⟨c1, c2, c3⟩, ⟨e1, e2, e3⟩, hr, hbo, hma, hfa, rb, rm, rf, r0, r1, r2⟩ := h
  subst e1 e2
  unfold f_Main_odds f_M_odds
  rw [l_refusal x, bind_some', m_whyNotPlay h6, bind_some']
  unfold f_M_in
  rcases whP_ne (W := W) (nm := nm) (p := p0) (a := p1) (q := p2) (b := p3) with z | z
  · rw [if_pos z, if_pos z]
    by_cases h0 : p4 < 0
    · rw [if_pos h0, if_pos h0]
      exact ⟨_, _, _, rfl, rfl⟩
    · rw [if_neg h0, if_neg h0]
      by_cases h1 : 100 < p4
      · rw [if_pos h1, if_pos h1]
        exact ⟨_, _, _, rfl, rfl⟩
      · rw [if_neg h1, if_neg h1]
        obtain ⟨zn, ⟨a, a1, a9, rfl⟩, ⟨a', a1', a9', rfl⟩⟩ := whP_m1 z
        obtain ⟨m, o, b, b', hm, ho, hmo, rfl, rfl, hb, hb', hbb, wm, wo'⟩ := whN_m1 h6 x.2.2.1 zn
        have om : O m = nI b := (x.2.1 m hm).trans wm
        have oo : O o = nI b' := (x.2.1 o ho).trans wo'
        obtain ⟨s1, hs1⟩ := cx_flick (s := s) (L := L) x (mil_pw a9) hb hm
        obtain ⟨s2, hs2⟩ := cx_flick (s := s1.1) (L := s1.2) x (mil_pw a9') hb' ho
        obtain ⟨t1, ht1⟩ := cx_cell (s := s') (L := L') x (mil_pw a9) hb hm wm
        obtain ⟨t2, ht2⟩ := cx_cell (s := t1.2) (L := t1.1) x (mil_pw a9') hb' ho wo'
        simp only [n_ownerOf hm h6, n_ownerOf ho h6, bind_some', om, oo, hs1, hs2, ht1, ht2]
        rw [if_neg d10]
        have k1 := cel_60 (w := w) (B := B) (M := M) (W := W) (nm := nm) (b := b) (m := m) (p := nI a)
        have k2 := cel_60 (w := w) (B := B) (M := M) (W := W) (nm := nm) (b := b') (m := o) (p := nI a')
        generalize cel w B M W nm b m (nI a) = c1' at k1 ⊢
        generalize cel w B M W nm b' o (nI a') = c2' at k2 ⊢
        obtain ⟨n, hn, rfl⟩ := k1
        have e0 : jmax 0 (nI n + -1) = cby (nI n) 1 := by
          show _ = jmax 0 (nI n - 1)
          rw [Int32.sub_eq_add_neg]
        have e1 : jmax 0 (nI n + 0) = cby (nI n) 0 := by
          show _ = nI n
          rw [Int32.add_zero]
          unfold jmax
          by_cases h : (0 : Int32) < nI n
          · rw [if_pos h]
          · rw [if_neg h]
            have : ¬ 0 < n := fun q => h ((nx_Llt (by decide) (by omega)).mpr q)
            have : n = 0 := (by omega)
            rw [this]
            rfl
        have e2 : jmax 0 (nI n + 1) = cby (nI n) 2 := by
          show _ = nI n + 1
          rw [nx_add]
          unfold jmax
          rw [if_pos ((nx_Llt (by decide) (by omega)).mpr (by show 0 < _; omega))]
        have go : ∀ (s k : Int32) (i : Nat), ¬ 1 < k → jmax 0 (nI n + k) = cby (nI n) i → f_Lane_partsOf 1000000000 k p4 = some (pby 1000000000 p4 i) → f_Lane_winningParts_L6 Y (nI n) c2' p4 (s, k) = some (.inl (s + odt R (nI n) c2' p4 i 1 + odt R (nI n) c2' p4 i 0 + odt R (nI n) c2' p4 i 2, k + 1)) := by
          intro s k i hk hi hp
          unfold f_Lane_winningParts_L6
          simp only [hk, if_false, hp, bind_some']
          exact l_wp_in x k2 i hi rfl
        have gm : ∀ (L s : Nat → Int32) (s0 : Int32) (i : Nat), i < 3 → f_M_odds_L49 L s R p4 (nI n) c2' (s0, nI i) = some (.inl (s0 + odt R (nI n) c2' p4 i 0 + odt R (nI n) c2' p4 i 1 + odt R (nI n) c2' p4 i 2, nI (i + 1))) := by
          intro L s s0 i hi
          have hk : ¬ (3 : Int32) ≤ nI i := nI_ge hi (by decide)
          unfold f_M_odds_L49
          simp only [hk, if_false, m_partBy, bind_some']
          exact m_od_in hi
        unfold f_Lane_winningParts
        rw [oLp_go (go 0 (-1) 1 (by decide) e0 l_parts0), show (-1 : Int32) + 1 = 0 from rfl, oLp_go (go _ 0 0 (by decide) e1 l_parts1), show (0 : Int32) + 1 = 1 from rfl, oLp_go (go _ 1 2 (by decide) e2 l_parts2)]
        rw [show ((0 : Int32), (0 : Int32)) = (0, nI 0) from rfl, oLp_go (gm _ _ 0 0 (by omega)), oLp_go (gm _ _ _ 1 (by omega)), oLp_go (gm _ _ _ 2 (by omega))]
        generalize odt R (nI n) c2' p4 0 0 = t00
        generalize odt R (nI n) c2' p4 0 1 = t01
        generalize odt R (nI n) c2' p4 0 2 = t02
        generalize odt R (nI n) c2' p4 1 0 = t10
        generalize odt R (nI n) c2' p4 1 1 = t11
        generalize odt R (nI n) c2' p4 1 2 = t12
        generalize odt R (nI n) c2' p4 2 0 = t20
        generalize odt R (nI n) c2' p4 2 1 = t21
        generalize odt R (nI n) c2' p4 2 2 = t22
        have es : 0 + t00 + t01 + t02 + t10 + t11 + t12 + t20 + t21 + t22 = 0 + t11 + t10 + t12 + t01 + t00 + t02 + t21 + t20 + t22 := by ac_rfl
        refine ⟨0 + t11 + t10 + t12 + t01 + t00 + t02 + t21 + t20 + t22, s2, t2, by rw [oLp_out (t := 0 + t11 + t10 + t12 + t01 + t00 + t02 + t21 + t20 + t22) rfl]; rfl, oLp_out ?_⟩
        rw [← es]
        rfl
  · rw [if_neg z, if_neg z]
    by_cases h0 : p4 < 0
    · rw [if_pos h0]
      exact ⟨_, _, _, rfl, rfl⟩
    · rw [if_neg h0]
      by_cases h1 : 100 < p4
      · rw [if_pos h1]
        exact ⟨_, _, _, rfl, rfl⟩
      · rw [if_neg h1]
        exact ⟨_, _, _, rfl, rfl⟩
