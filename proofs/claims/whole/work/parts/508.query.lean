/-! small queries -/
theorem in_lit (p : Int32) (k : Nat) (hk : k < 1000) : f_M_in p 0 (nI k) = some (inB p (k + 1)) := by
  have := in_inB p (n := k + 1) (by omega)
  rw [show nI (k + 1) - 1 = nI k from by rw [nx_sub (by show 1 ≤ k + 1; omega)]; rfl] at this
  exact this
theorem stands_m {nm : Nat} (h : nm ≤ 6) : (nI nm = 0) ↔ nm = 0 := nx_eqL (by omega) (by decide)
theorem stands_le {nm : Nat} (h : nm ≤ 6) : (nI nm ≤ 0) ↔ nm = 0 := by
  rw [nx_leL (by omega) (by decide)]
  constructor
  · intro q
    have q : nm ≤ 0 := q
    omega
  · intro q
    show nm ≤ 0
    omega
theorem q_rule {Y C R B M F O W : Nat → Int32} {mb mm mf : Int32} {nb nm nf : Nat} {As Ac Mh : Int32} {Ad Al Kc Kv Kl Kt Kf Ku : Nat → Int32} {w : Option ((Nat → Int32) → Int32)} {p0 : Int32} (x : cx Y C R B M F O W mb mm mf nb nm nf As Ac Mh Ad Al Kc Kv Kl Kt Kf Ku w) : ∃ v, f_Main_rule Y C (W 8) p0 = some v ∧ f_M_rule mm R W p0 = some v := by
  have h := x.1
  obtain ⟨⟨h5, h6, h6'⟩, ⟨c1, c2, c3⟩, ⟨e1, e2, e3⟩, hr, hbo, hma, hfa, rb, rm, rf, r0, r1, r2⟩ := h
  subst e1 e2
  unfold f_Main_rule f_M_rule
  rw [y_stands c2 (by omega), bind_some']
  by_cases hz : nm = 0
  · rw [if_pos hz, if_pos ((stands_m h6).mpr hz)]
    exact ⟨_, rfl, rfl⟩
  · rw [if_neg hz, if_neg d10, if_neg (fun q => hz ((stands_m h6).mp q)), show f_M_in p0 0 2 = _ from in_lit p0 2 (by omega), bind_some', y_hole, y_behind, hr 0 (by omega), hr 1 (by omega)]
    rcases inB_cases p0 (n := 3) (by decide) with ⟨e, hn⟩ | ⟨j, hj, rfl, e⟩
    · have a0 : ¬ p0 = 0 := hn 0 (by omega)
      have a1 : ¬ p0 = 1 := hn 1 (by omega)
      have a2 : ¬ p0 = 2 := hn 2 (by omega)
      rw [if_neg a0, if_neg a1, if_neg a2, e]
      exact ⟨_, rfl, rfl⟩
    · rw [e]
      rcases (show j = 0 ∨ j = 1 ∨ j = 2 by omega) with rfl | rfl | rfl <;> exact ⟨_, rfl, rfl⟩
theorem q_boy {Y C R B M F O W : Nat → Int32} {mb mm mf : Int32} {nb nm nf : Nat} {As Ac Mh : Int32} {Ad Al Kc Kv Kl Kt Kf Ku : Nat → Int32} {w : Option ((Nat → Int32) → Int32)} {p0 p1 T : Int32} (x : cx Y C R B M F O W mb mm mf nb nm nf As Ac Mh Ad Al Kc Kv Kl Kt Kf Ku w) : (∃ v, f_Main_boy Y C (nI nm) O p0 p1 = some v ∧ f_M_boy T mb mm B W p0 p1 = some (v, 0)) ∨ ∃ r v, f_Yard_hasBoy C p0 = some r ∧ (r = 0 ∨ p1 < 0 ∨ ¬ p1 ≤ 2) ∧ f_M_boy T mb mm B W p0 p1 = some (v, 1) := by
  have h := x.1
  obtain ⟨⟨h5, h6, h6'⟩, ⟨c1, c2, c3⟩, ⟨e1, e2, e3⟩, hr, hbo, hma, hfa, rb, rm, rf, r0, r1, r2⟩ := h
  subst e1 e2
  unfold f_Main_boy f_M_boy
  rw [y_hasBoy c1, bind_some', m_isBoy (by omega), bind_some', show f_M_in p1 0 2 = _ from in_lit p1 2 (by omega), bind_some']
  rcases inB_cases p0 (n := nb) (by omega) with ⟨e, hn⟩ | ⟨b, hb, rfl, e⟩
  · rw [e]
    exact Or.inr ⟨_, _, rfl, Or.inl rfl, rfl⟩
  · rw [e, if_neg d10, if_neg d10]
    rcases inB_cases p1 (n := 3) (by decide) with ⟨e, hn⟩ | ⟨j, hj, rfl, e⟩
    · right
      rw [e]
      refine ⟨_, _, rfl, Or.inr ?_, rfl⟩
      by_cases h0 : p1 < 0
      · exact Or.inl h0
      · refine Or.inr (fun q => ?_)
        obtain ⟨k, hk, e⟩ := nI_of2 (M := 2) (n := 2) (by decide) h0 q
        exact hn k (by omega) e
    · left
      rw [e, if_neg d10, if_neg (nI_lt0 (by omega)), if_pos (show nI j ≤ 2 from (nx_leL (by omega) (by decide)).mpr (by show j ≤ 2; omega)), y_skill (by omega), y_boyPlace (by omega), n_handOf h6 x.2.1]
      unfold f_M_boy_J23
      rw [m_handsOf h6]
      rcases (show j = 0 ∨ j = 1 ∨ j = 2 by omega) with rfl | rfl | rfl
      · refine ⟨B (2 * b), ?_, ?_⟩
        · show some (Y ((1 + b) * 3)) = _
          rw [show Y ((1 + b) * 3) = B (2 * b) from hbo b 0 hb (by omega)]
        · show oI (2 * nI b + nI 0) 10 (some (B (2 * nI b + nI 0).toNatClampNeg, 0)) = _
          rw [nx_mull, nI_add, oI_nI (by omega) (by decide), nI_clamp (by omega)]
          rfl
      · refine ⟨B (2 * b + 1), ?_, ?_⟩
        · show some (Y ((1 + b) * 3 + 1)) = _
          rw [hbo b 1 hb (by omega)]
        · show oI (2 * nI b + nI 1) 10 (some (B (2 * nI b + nI 1).toNatClampNeg, 0)) = _
          rw [nx_mull, nI_add, oI_nI (by omega) (by decide), nI_clamp (by omega)]
      · exact ⟨_, rfl, rfl⟩
theorem hs01i (c m : Int32) : (if hs c m = 0 then some (0 : Int32) else some 1) = some (hs c m) := by
  rcases hs_01 c m with z | z <;> rw [z] <;> rfl
theorem q_marble {Y C R B M F O W : Nat → Int32} {mb mm mf : Int32} {nb nm nf : Nat} {As Ac Mh : Int32} {Ad Al Kc Kv Kl Kt Kf Ku : Nat → Int32} {w : Option ((Nat → Int32) → Int32)} {p0 p1 : Int32} (x : cx Y C R B M F O W mb mm mf nb nm nf As Ac Mh Ad Al Kc Kv Kl Kt Kf Ku w) : ∃ v, f_Main_marble Y C (nI nm) (W 6) (W 7) O p0 p1 = some v ∧ f_M_marble mm M W p0 p1 = some v := by
  have h := x.1
  obtain ⟨⟨h5, h6, h6'⟩, ⟨c1, c2, c3⟩, ⟨e1, e2, e3⟩, hr, hbo, hma, hfa, rb, rm, rf, r0, r1, r2⟩ := h
  subst e1 e2
  unfold f_Main_marble f_M_marble
  rw [y_hasMarble c2, bind_some', m_isMarble (by omega), bind_some', show f_M_in p1 0 4 = _ from in_lit p1 4 (by omega), bind_some']
  rcases inB_cases p0 (n := nm) (by omega) with ⟨e, hn⟩ | ⟨m, hm, rfl, e⟩
  · rw [e]
    exact ⟨_, rfl, rfl⟩
  · rw [e, if_neg d10, if_neg d10, n_ownerOf hm h6, y_kind (by omega), y_size (by omega), n_isChipped, n_isSwallowed, x.2.1 m hm, hma m 1 hm (by omega), hma m 2 hm (by omega), nx_zadd, oI_nI (by omega) (by decide), nI_clamp (by omega)]
    simp only [bind_some', hs01i]
    rcases inB_cases p1 (n := 5) (by decide) with ⟨e, hn⟩ | ⟨j, hj, rfl, e⟩
    · have a0 : ¬ p1 = 0 := hn 0 (by omega)
      have a1 : ¬ p1 = 1 := hn 1 (by omega)
      have a2 : ¬ p1 = 2 := hn 2 (by omega)
      have a3 : ¬ p1 = 3 := hn 3 (by omega)
      have a4 : ¬ p1 = 4 := hn 4 (by omega)
      rw [if_neg a0, if_neg a1, if_neg a2, if_neg a3, if_neg a4, e]
      exact ⟨_, rfl, rfl⟩
    · rw [e]
      rcases (show j = 0 ∨ j = 1 ∨ j = 2 ∨ j = 3 ∨ j = 4 by omega) with rfl | rfl | rfl | rfl | rfl
      · exact ⟨_, rfl, rfl⟩
      · refine ⟨_, rfl, ?_⟩
        show (f_M_of M (nI m) (nI 1)).bind _ = _
        rw [m_of (by omega) (by omega)]
        rfl
      · refine ⟨_, rfl, ?_⟩
        show (f_M_of M (nI m) (nI 2)).bind _ = _
        rw [m_of (by omega) (by omega)]
        rfl
      · exact ⟨_, rfl, rfl⟩
      · exact ⟨_, rfl, rfl⟩
theorem cnt_hs {M B F O : Nat → Int32} {c : Int32} {nm nf f : Nat} (hf : f < nf) (h6 : nf ≤ 6) : hs (cnt M B F O c nm nf) (nI f) = if wth M B O c nm (F (3 * f)) = F (3 * f + 1) then 1 else 0 := by
  unfold hs
  have h1 : ∀ i, i < 32 → bt 1 i = decide (i = 0) := by decide +kernel
  have key : bt (cnt M B F O c nm nf) f = decide (wth M B O c nm (F (3 * f)) = F (3 * f + 1)) := by
    unfold cnt
    rw [bB_bt (by omega) (by omega), decide_eq_true hf, Bool.true_and]
  refine b_ext (fun i hi => ?_)
  rw [b_and, b_sshr f (by omega) _ hi, h1 i hi]
  by_cases e : i = 0
  · subst e
    rw [if_pos (by omega), Nat.add_zero, key]
    by_cases z : wth M B O c nm (F (3 * f)) = F (3 * f + 1)
    · rw [if_pos z, decide_eq_true z]
      rfl
    · rw [if_neg z, decide_eq_false z]
      rfl
  · rw [decide_eq_false e, Bool.and_false]
    split
    · rw [h1 i hi, decide_eq_false e]
    · rw [b_0]
theorem q_farm {Y C R B M F O W : Nat → Int32} {mb mm mf : Int32} {nb nm nf : Nat} {As Ac Mh : Int32} {Ad Al Kc Kv Kl Kt Kf Ku : Nat → Int32} {w : Option ((Nat → Int32) → Int32)} {p0 p1 : Int32} {S : Nat → Int32} (x : cx Y C R B M F O W mb mm mf nb nm nf As Ac Mh Ad Al Kc Kv Kl Kt Kf Ku w) : ∃ v u, f_Main_farm Y C (nI nm) (W 6) O S p0 p1 = some (v, u) ∧ f_M_farm mm mf B M F W p0 p1 = some v := by
  have h := x.1
  obtain ⟨⟨h5, h6, h6'⟩, ⟨c1, c2, c3⟩, ⟨e1, e2, e3⟩, hr, hbo, hma, hfa, rb, rm, rf, r0, r1, r2⟩ := h
  subst e1 e2 e3
  unfold f_Main_farm f_M_farm
  rw [y_hasFarm c3, bind_some', in_inB p0 (by omega), bind_some', show f_M_in p1 0 3 = _ from in_lit p1 3 (by omega), bind_some']
  rcases inB_cases p0 (n := nf) (by omega) with ⟨e, hn⟩ | ⟨f, hf, rfl, e⟩
  · rw [e]
    exact ⟨_, _, rfl, rfl⟩
  · obtain ⟨S', hS'⟩ := s_contentNow (S := S) (c := W 6) x.1 x.2.1 x.2.2.1
    rw [e, if_neg d10, if_neg d10, y_farmPlace (by omega), y_wanted (by omega), y_payment (by omega), hS', show Y ((12 + f) * 3) = F (3 * f) from hfa f 0 hf (by omega), hfa f 1 hf (by omega), hfa f 2 hf (by omega)]
    simp only [bind_some']
    rcases inB_cases p1 (n := 4) (by decide) with ⟨e, hn⟩ | ⟨j, hj, rfl, e⟩
    · have a0 : ¬ p1 = 0 := hn 0 (by omega)
      have a1 : ¬ p1 = 1 := hn 1 (by omega)
      have a2 : ¬ p1 = 2 := hn 2 (by omega)
      have a3 : ¬ p1 = 3 := hn 3 (by omega)
      rw [if_neg a0, if_neg a1, if_neg a2, if_neg a3, e]
      exact ⟨_, _, rfl, rfl⟩
    · rw [e]
      rcases (show j = 0 ∨ j = 1 ∨ j = 2 ∨ j = 3 by omega) with rfl | rfl | rfl | rfl
      · refine ⟨_, _, rfl, ?_⟩
        show (f_M_ofFarm F (nI f) (nI 0)).bind _ = _
        rw [m_ofFarm (by omega) (by omega)]
        rfl
      · refine ⟨_, _, rfl, ?_⟩
        show (f_M_ofFarm F (nI f) (nI 1)).bind _ = _
        rw [m_ofFarm (by omega) (by omega)]
        rfl
      · refine ⟨_, _, rfl, ?_⟩
        show (f_M_ofFarm F (nI f) (nI 2)).bind _ = _
        rw [m_ofFarm (by omega) (by omega)]
        rfl
      · refine ⟨hs (cnt M B F W (W 6) nm nf) (nI f), _, rfl, ?_⟩
        show (f_M_isContent (nI nm) B M F W (nI f)).bind _ = _
        rw [m_isContent h6 h5 x.2.2.1 (yA_maA x.1) (by omega), cnt_hs hf h6', bind_some']
        split <;> rfl
theorem q_status {A Z : Nat → Int32} {p0 : Int32} (h : ∀ j, j < 5 → A j = Z j) : ∃ v, f_Main_status A p0 = some v ∧ f_M_status Z p0 = some v := by
  unfold f_Main_status f_M_status
  rw [show f_M_in p0 0 4 = _ from in_lit p0 4 (by omega), bind_some']
  rcases inB_cases p0 (n := 5) (by decide) with ⟨e, hn⟩ | ⟨j, hj, rfl, e⟩
  · rw [e]
    unfold inB at e
    by_cases h0 : p0 < 0
    · rw [if_pos h0]
      exact ⟨_, rfl, rfl⟩
    · rw [if_neg h0] at e ⊢
      by_cases h1 : nI 5 ≤ p0
      · rw [if_pos (show (5 : Int32) ≤ p0 from h1)]
        exact ⟨_, rfl, rfl⟩
      · rw [if_neg h1] at e
        exact absurd e (by decide)
  · rw [e, if_neg d10, if_neg (nI_lt0 (by omega)), if_neg (show ¬ (5 : Int32) ≤ nI j from nI_ge hj (by decide)), oI_nI hj (by decide), nI_clamp (by omega), h j hj, oI_nI hj (by decide)]
    exact ⟨_, rfl, rfl⟩
theorem q_hands {Y C R B M F O W : Nat → Int32} {mb mm mf : Int32} {nb nm nf : Nat} {As Ac Mh : Int32} {Ad Al Kc Kv Kl Kt Kf Ku : Nat → Int32} {w : Option ((Nat → Int32) → Int32)} {p0 : Int32} (x : cx Y C R B M F O W mb mm mf nb nm nf As Ac Mh Ad Al Kc Kv Kl Kt Kf Ku w) : ∃ v, f_Main_hands C (nI nm) O p0 = some v ∧ f_M_hands mb mm W p0 = some v := by
  have h := x.1
  obtain ⟨⟨h5, h6, h6'⟩, ⟨c1, c2, c3⟩, ⟨e1, e2, e3⟩, hr, hbo, hma, hfa, rb, rm, rf, r0, r1, r2⟩ := h
  subst e1 e2
  unfold f_Main_hands f_M_hands
  rw [y_hasBoy c1, bind_some', m_isBoy (by omega), bind_some', n_handOf h6 x.2.1, m_handsOf h6]
  rcases inB_cases p0 (n := nb) (by omega) with ⟨e, hn⟩ | ⟨b, hb, rfl, e⟩
  · rw [e]
    exact ⟨_, rfl, rfl⟩
  · rw [e, if_neg d10]
    exact ⟨_, rfl, rfl⟩
theorem isPlace_in {p : Int32} : f_M_isPlace p = some (inB p 10) := by
  unfold f_M_isPlace
  rw [show f_M_in p 0 9 = _ from in_lit p 9 (by omega), bind_some', oZ_inB]
theorem isKind_in {p : Int32} : f_M_isKind p = some (inB p 6) := by
  unfold f_M_isKind
  rw [show f_M_in p 0 5 = _ from in_lit p 5 (by omega), bind_some', oZ_inB]
theorem q_weather {Y C R B M F O W : Nat → Int32} {mb mm mf : Int32} {nb nm nf : Nat} {As Ac Mh : Int32} {Ad Al Kc Kv Kl Kt Kf Ku : Nat → Int32} {w : Option ((Nat → Int32) → Int32)} {p0 : Int32} {S : Nat → Int32} (x : cx Y C R B M F O W mb mm mf nb nm nf As Ac Mh Ad Al Kc Kv Kl Kt Kf Ku w) : ∃ v u, f_Main_weather Y C (nI nm) (W 6) O S p0 = some (v, u) ∧ f_M_weather mm B M W p0 = some v := by
  have h := x.1
  obtain ⟨⟨h5, h6, h6'⟩, ⟨c1, c2, c3⟩, ⟨e1, e2, e3⟩, hr, hbo, hma, hfa, rb, rm, rf, r0, r1, r2⟩ := h
  subst e1 e2
  unfold f_Main_weather f_M_weather
  rw [y_stands c2 (by omega), bind_some', isPlace_in, bind_some']
  by_cases hz : nm = 0
  · rw [if_pos hz, if_pos ((stands_le h6).mpr hz)]
    exact ⟨_, _, rfl, rfl⟩
  · rw [if_neg hz, if_neg d10, if_neg (fun q => hz ((stands_le h6).mp q))]
    rcases inB_cases p0 (n := 10) (by decide) with ⟨e, hn⟩ | ⟨j, hj, rfl, e⟩
    · rw [e]
      by_cases h0 : p0 < 0
      · rw [if_pos h0]
        exact ⟨_, _, rfl, rfl⟩
      · rw [if_neg h0, if_neg]
        · exact ⟨_, _, rfl, rfl⟩
        · intro q
          rcases ix_cases p0 (n := 10) (by decide) with r | ⟨j, hj, e⟩
          · exact r ⟨h0, q⟩
          · exact hn j hj e
    · obtain ⟨S', hS', hk⟩ := s_measure (S := S) (c := W 6) x.1 x.2.1 x.2.2.1
      rw [e, if_neg d10, if_neg (nI_lt0 (by omega)), if_pos (show nI j < 10 from nI_lt hj (by decide)), hS', bind_some', s_strongest hj hk, m_weatherOf h6 h5 x.2.2.1 (yA_maA x.1)]
      exact ⟨_, _, rfl, rfl⟩
theorem l_placeKind {Y C R B M F O W : Nat → Int32} {mb mm mf : Int32} {nb nm nf : Nat} {As Ac Mh : Int32} {Ad Al Kc Kv Kl Kt Kf Ku : Nat → Int32} {w : Option ((Nat → Int32) → Int32)} {p q : Int32} (x : cx Y C R B M F O W mb mm mf nb nm nf As Ac Mh Ad Al Kc Kv Kl Kt Kf Ku w) : f_Main_isPlaceAndKind C p q = some (if nm = 0 then 0 else if inB p 10 = 0 then 0 else inB q 6) := by
  have h := x.1
  obtain ⟨⟨h5, h6, h6'⟩, ⟨c1, c2, c3⟩, ⟨e1, e2, e3⟩, hr, hbo, hma, hfa, rb, rm, rf, r0, r1, r2⟩ := h
  unfold f_Main_isPlaceAndKind
  rw [y_stands c2 (by omega), bind_some']
  by_cases hz : nm = 0
  · rw [if_pos hz, if_pos hz]
    rfl
  · rw [if_neg hz, if_neg hz, if_neg d10]
    unfold inB
    by_cases h0 : p < 0
    · rw [if_pos h0, if_pos h0]
      rfl
    · rw [if_neg h0, if_neg h0]
      by_cases h1 : (10 : Int32) ≤ p
      · rw [if_pos h1, if_pos (show nI 10 ≤ p from h1)]
        rfl
      · rw [if_neg h1, if_neg (show ¬ nI 10 ≤ p from h1), if_neg d10]
        by_cases h2 : q < 0
        · rw [if_pos h2, if_pos h2]
        · rw [if_neg h2, if_neg h2]
          by_cases h3 : (6 : Int32) ≤ q
          · rw [if_pos h3, if_pos (show nI 6 ≤ q from h3)]
          · rw [if_neg h3, if_neg (show ¬ nI 6 ≤ q from h3)]
theorem q_spell {Y C R B M F O W : Nat → Int32} {mb mm mf : Int32} {nb nm nf : Nat} {As Ac Mh : Int32} {Ad Al Kc Kv Kl Kt Kf Ku : Nat → Int32} {w : Option ((Nat → Int32) → Int32)} {p0 p1 : Int32} {S : Nat → Int32} (x : cx Y C R B M F O W mb mm mf nb nm nf As Ac Mh Ad Al Kc Kv Kl Kt Kf Ku w) : ∃ v u, f_Main_spell Y C (nI nm) (W 6) O S p0 p1 = some (v, u) ∧ f_M_spell mm B M W p0 p1 = some v := by
  unfold f_Main_spell f_M_spell
  rw [l_placeKind x, bind_some']
  have h := x.1
  obtain ⟨⟨h5, h6, h6'⟩, ⟨c1, c2, c3⟩, ⟨e1, e2, e3⟩, hr, hbo, hma, hfa, rb, rm, rf, r0, r1, r2⟩ := h
  subst e1 e2
  rw [isPlace_in, bind_some', isKind_in, bind_some']
  by_cases hz : nm = 0
  · rw [if_pos hz, if_pos ((stands_le h6).mpr hz)]
    exact ⟨_, _, rfl, rfl⟩
  · rw [if_neg hz, if_neg (fun q => hz ((stands_le h6).mp q))]
    rcases inB_cases p0 (n := 10) (by decide) with ⟨e, hn⟩ | ⟨p, hp, rfl, e⟩
    · rw [e]
      exact ⟨_, _, rfl, rfl⟩
    · rw [e, if_neg d10, if_neg d10]
      rcases inB_cases p1 (n := 6) (by decide) with ⟨e, hn⟩ | ⟨k, hk, rfl, e⟩
      · rw [e]
        exact ⟨_, _, rfl, rfl⟩
      · obtain ⟨S', hS', hq⟩ := s_measure (S := S) (c := W 6) x.1 x.2.1 x.2.2.1
        rw [e, if_neg d10, if_neg d10, hS', bind_some', m_strengthOf h6 h5 x.2.2.1 (yA_maA x.1)]
        unfold f_Sky_strengthOf
        rw [nx_mul, nI_add, oI_nI (by omega) (by decide), nI_clamp (by omega), hq p k hp hk]
        exact ⟨_, _, rfl, rfl⟩
theorem q_pays {Y C R B M F O W : Nat → Int32} {mb mm mf : Int32} {nb nm nf : Nat} {As Ac Mh : Int32} {Ad Al Kc Kv Kl Kt Kf Ku : Nat → Int32} {w : Option ((Nat → Int32) → Int32)} {S : Nat → Int32} (x : cx Y C R B M F O W mb mm mf nb nm nf As Ac Mh Ad Al Kc Kv Kl Kt Kf Ku w) : ∃ v u, f_Main_pays Y C (nI nm) (W 6) O S = some (v, u) ∧ f_M_pays mm mf B M F W = some v := by
  have h := x.1
  obtain ⟨⟨h5, h6, h6'⟩, ⟨c1, c2, c3⟩, ⟨e1, e2, e3⟩, hr, hbo, hma, hfa, rb, rm, rf, r0, r1, r2⟩ := h
  subst e1 e2 e3
  unfold f_Main_pays f_M_pays
  rw [y_stands c2 (by omega), bind_some']
  by_cases hz : nm = 0
  · rw [if_pos hz, if_pos ((stands_m h6).mpr hz)]
    exact ⟨_, _, rfl, rfl⟩
  · obtain ⟨S', hS'⟩ := s_contentNow (S := S) (c := W 6) x.1 x.2.1 x.2.2.1
    rw [if_neg hz, if_neg d10, if_neg (fun q => hz ((stands_m h6).mp q)), hS']
    simp only [bind_some', y_paymentOf x.1, m_contents h6 h5 h6' x.2.2.1 (yA_maA x.1), m_payOf h6']
    exact ⟨_, _, rfl, rfl⟩
theorem q_saves {Y C R B M F O W : Nat → Int32} {mb mm mf : Int32} {nb nm nf : Nat} {As Ac Mh : Int32} {Ad Al Kc Kv Kl Kt Kf Ku : Nat → Int32} {w : Option ((Nat → Int32) → Int32)} {p0 : Int32} {S : Nat → Int32} (x : cx Y C R B M F O W mb mm mf nb nm nf As Ac Mh Ad Al Kc Kv Kl Kt Kf Ku w) : ∃ v u, f_Main_saves Y C (nI nm) (W 6) (W 8) O S p0 = some (v, u) ∧ f_M_saves mm mf B M F W p0 = some v := by
  have h := x.1
  obtain ⟨⟨h5, h6, h6'⟩, ⟨c1, c2, c3⟩, ⟨e1, e2, e3⟩, hr, hbo, hma, hfa, rb, rm, rf, r0, r1, r2⟩ := h
  subst e1 e2 e3
  unfold f_Main_saves f_M_saves f_M_in
  rw [y_stands c2 (by omega), bind_some']
  by_cases hz : nm = 0
  · rw [if_pos hz, if_pos ((stands_m h6).mpr hz)]
    exact ⟨_, _, rfl, rfl⟩
  · obtain ⟨S', hS'⟩ := s_contentNow (S := S) (c := W 6) x.1 x.2.1 x.2.2.1
    rw [if_neg hz, if_neg d10, if_neg (fun q => hz ((stands_m h6).mp q)), hS']
    simp only [bind_some', y_paymentOf x.1, m_contents h6 h5 h6' x.2.2.1 (yA_maA x.1), m_payOf h6']
    by_cases h1 : p0 < 1
    · rw [if_pos h1, if_pos h1]
      exact ⟨_, _, rfl, rfl⟩
    · rw [if_neg h1, if_neg h1]
      by_cases h2 : p0 ≤ 999
      · rw [if_pos h2, if_neg (fun q => i_le_lt.mpr q h2), bind_some', if_neg d10]
        refine qlp2 (fun j (s s' : Int32) => s = nI j ∧ s' = nI j) (fun r r' => ∃ v u, r = some (v, u) ∧ r' = some v) (n := 61) ?_ ?_ (j := 0) (by omega) ⟨rfl, rfl⟩
        · rintro j s s' hj ⟨rfl, rfl⟩
          have hk : ¬ (60 : Int32) < nI j := fun q => by have := (nx_Llt (by decide) (by omega)).mp q; omega
          by_cases hc : W 8 + nI j * pyS F (cnt M B F W (W 6) nm nf) nf < p0
          · refine Or.inl ⟨nI (j + 1), nI (j + 1), ?_, ?_, rfl, rfl⟩
            · unfold f_Main_saves_L38
              rw [if_neg hk, if_pos hc, nx_add]
            · unfold f_M_saves_L31
              rw [if_neg hk, nx_oI (by decide) (by decide), if_pos (show W (8 : Int32).toNatClampNeg + _ < _ from hc), nx_add]
          · refine Or.inr ⟨nI j, S', oLp_out ?_, oLp_out ?_⟩
            · unfold f_Main_saves_L38
              rw [if_neg hk, if_neg hc]
            · unfold f_M_saves_L31
              rw [if_neg hk, nx_oI (by decide) (by decide), if_neg (show ¬ W (8 : Int32).toNatClampNeg + _ < _ from hc)]
        · rintro s s' ⟨rfl, rfl⟩
          exact ⟨_, _, oLp_out rfl, oLp_out rfl⟩
      · rw [if_neg h2, if_pos (i_nle h2), bind_some', if_pos rfl]
        exact ⟨_, _, rfl, rfl⟩
theorem q_spills {A p0 : Int32} : ∃ v u, f_Main_spills A p0 = some (v, u) ∧ f_M_spills A p0 = some (v, u) := by
  unfold f_Main_spills f_M_spills f_M_in
  by_cases h0 : p0 < 0
  · rw [if_pos h0, if_pos h0]
    exact ⟨_, _, rfl, rfl⟩
  · rw [if_neg h0, if_neg h0]
    by_cases h1 : 9 < p0
    · rw [if_pos h1, if_pos h1]
      exact ⟨_, _, rfl, rfl⟩
    · rw [if_neg h1, if_neg h1, bind_some', if_neg d10]
      split <;> exact ⟨_, _, rfl, rfl⟩
