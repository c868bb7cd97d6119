/-! the acts -/
theorem stL_chg {W W' E : Nat → Int32} {nb nm D : Nat} (h : ∀ j, 9 ≤ j → W' j = W j) (ho : owA W' nb nm) (k6 : ∃ c : Nat, c < 64 ∧ W' 6 = nI c) (k7 : ∃ c : Nat, c < 64 ∧ W' 7 = nI c) (k8 : ∃ s : Nat, s ≤ 999 ∧ W' 8 = nI s) (x : stL W E nb nm D) : stL W' E nb nm D := by
  obtain ⟨x1, ⟨y1, y2, y3, y4⟩, x3, x4, x5, x6⟩ := x
  refine ⟨ho, ⟨k6, k7, k8, by rw [h 9 (by omega)]; exact y4⟩, by rw [h 9 (by omega)]; exact x3, x4, by rw [h 10 (by omega)]; exact x5, fun j hj => ?_⟩
  rw [h (11 + 2 * j) (by omega), h (12 + 2 * j) (by omega)]
  exact x6 j hj
theorem a_play {Y C R B M F O W : Nat → Int32} {mb mm mf : Int32} {nb nm nf : Nat} {As Ac Mh : Int32} {Ad Al Kc Kv Kl Kt Kf Ku : Nat → Int32} {w : Option ((Nat → Int32) → Int32)} {s L s2 L2 Rc Rm E Mk : Nat → Int32} {Pa : Nat → Int64} {Pn Pk Ma p0 p1 p2 p3 : Int32} (x : cx Y C R B M F O W mb mm mf nb nm nf As Ac Mh Ad Al Kc Kv Kl Kt Kf Ku w) (ps : psA nb nm Pn Pk Pa E Ma Mk W) (hr : rfA Rc Rm) : ∃ v s1 O1 Pn1 Pk1 Pa1 L1 Rc1 Ma1 L3 s3 W1 Rm1 Mk1, f_Main_play As Ac Ad Al s Y C (nI nm) (W 6) (W 7) (W 8) (W 9) O Pn Pk Pa L Rc p0 p1 p2 p3 = some (v, s1, O1, Pn1, Pk1, Pa1, L1, Rc1) ∧ f_M_play mm Mh Ma Kc Kv Kl Kt Kf Ku L2 s2 R B M W Rm Mk p0 p1 p2 p3 = some (v, Ma1, L3, s3, W1, Rm1, Mk1) ∧ (∀ m, m < nm → O1 m = W1 m) ∧ psA nb nm Pn1 Pk1 Pa1 E Ma1 Mk1 W1 ∧ (∀ j, 6 ≤ j → W1 j = W j) ∧ rfA Rc1 Rm1 := by
  have hrf := hr
  have h := x.1
  obtain ⟨⟨h5, h6, h6'⟩, ⟨c1, c2, c3⟩, ⟨e1, e2, e3⟩, hr, hbo, hma, hfa, rb, rm, rf, r0, r1, r2⟩ := h
  subst e1 e2 e3
  unfold f_Main_play f_M_play
  rw [l_refusal x, bind_some', m_whyNotPlay h6, bind_some']
  rcases whP_cs (W := W) (nm := nm) (p := p0) (q := p2) (a := p1) (b := p3) with e | ⟨k, hk, e⟩
  · obtain ⟨z, ⟨n1, _, z2, rfl⟩, n2, _, z4, rfl⟩ := whP_m1 e
    obtain ⟨m, o, b, b', hm, ho, hne, rfl, rfl, hb, hb', _, hmb, hob⟩ := whN_m1 h6 x.2.2.1 z
    obtain ⟨Pn', Pk', Pa', Ma', Mk', r1, r2, r3⟩ := ps_remember h5 h6 x.2.1 ps
    obtain ⟨v, s1, O1, L1, L3, s3, W1, g1, g2, g3, g4, g5⟩ := p_carry (s := s) (L := L) (s2 := s2) (L2 := L2) x hm ho hne hb hb' hmb hob (mil_pw z2) (mil_pw z4)
    rw [e, if_pos rfl, m_notRef, bind_some']
    dsimp only
    rw [if_pos rfl, r1, bind_some', g1, bind_some', r2, bind_some', g2, bind_some']
    exact ⟨_, _, _, _, _, _, _, _, _, _, _, _, _, _, rfl, rfl, g3, ps_same r3 (fun D hD => stL_own h6 g5 g4 hD), fun j hj => g5 j (by omega), hrf⟩
  · obtain ⟨Rc', Rm', r1, r2, r3⟩ := p_refuse (k := k) hrf (by omega)
    rw [e, if_neg (m1_ne (n := k) (by omega)), r1, bind_some', r2, bind_some']
    dsimp only
    rw [if_neg d10]
    exact ⟨_, _, _, _, _, _, _, _, _, _, _, _, _, _, rfl, rfl, x.2.1, ps, fun _ _ => rfl, r3⟩
theorem a_swap {Y C R B M F O W : Nat → Int32} {mb mm mf : Int32} {nb nm nf : Nat} {As Ac Mh : Int32} {Ad Al Kc Kv Kl Kt Kf Ku : Nat → Int32} {w : Option ((Nat → Int32) → Int32)} {Rc Rm E Mk : Nat → Int32} {Pa : Nat → Int64} {Pn Pk Ma p0 p1 : Int32} (x : cx Y C R B M F O W mb mm mf nb nm nf As Ac Mh Ad Al Kc Kv Kl Kt Kf Ku w) (ps : psA nb nm Pn Pk Pa E Ma Mk W) (hr : rfA Rc Rm) : ∃ v O1 Pn1 Pk1 Pa1 Rc1 Ma1 W1 Rm1 Mk1, f_Main_swap C (nI nm) (W 6) (W 7) (W 8) (W 9) O Pn Pk Pa Rc p0 p1 = some (v, O1, Pn1, Pk1, Pa1, Rc1) ∧ f_M_swap mm Ma W Rm Mk p0 p1 = some (v, Ma1, W1, Rm1, Mk1) ∧ (∀ m, m < nm → O1 m = W1 m) ∧ psA nb nm Pn1 Pk1 Pa1 E Ma1 Mk1 W1 ∧ (∀ j, 6 ≤ j → W1 j = W j) ∧ rfA Rc1 Rm1 := by
  have hrf := hr
  have h := x.1
  obtain ⟨⟨h5, h6, h6'⟩, ⟨c1, c2, c3⟩, ⟨e1, e2, e3⟩, hr, hbo, hma, hfa, rb, rm, rf, r0, r1, r2⟩ := h
  subst e1 e2 e3
  unfold f_Main_swap f_M_swap
  rw [l_refusal x, bind_some', m_whyNot h6, bind_some', whP_11]
  rcases whN_cs (W := W) (nm := nm) (p := p0) (q := p1) with e | ⟨k, hk, e⟩
  · obtain ⟨m, o, b, b', hm, ho, hne, rfl, rfl, hb, hb', _, hmb, hob⟩ := whN_m1 h6 x.2.2.1 e
    obtain ⟨Pn', Pk', Pa', Ma', Mk', r1, r2, r3⟩ := ps_remember h5 h6 x.2.1 ps
    have hne' : ¬ o = m := fun q => hne q.symm
    have hO := x.2.1
    have g2 : f_M_swapNow W (nI m) (nI o) = some (upd (upd W m (W o)) o (W m)) := by
      unfold f_M_swapNow
      rw [nx_zadd, nx_zadd, oI_nI (j := m) (n := 131) (by omega) (by decide), nI_clamp (n := m) (by omega), nI_clamp (n := o) (by omega), oL_eq, oI_nI (j := o) (n := 131) (by omega) (by decide), oI_nI (j := m) (n := 131) (by omega) (by decide), oL_eq, oI_nI (j := o) (n := 131) (by omega) (by decide)]
      rfl
    rw [e, if_pos rfl, m_notRef, bind_some']
    dsimp only
    rw [if_pos rfl, r1, bind_some', n_ownerOf hm h6, bind_some', n_ownerOf ho h6, bind_some', n_hand hm h6, bind_some', n_hand ho h6, bind_some', n_ownerOf hm h6, bind_some', r2, bind_some', g2, bind_some', nx_zadd, oI_nI (j := m) (n := 131) (by omega) (by decide), nI_clamp (n := m) (by omega)]
    have hsame : ∀ j, j < nm → upd (upd O m (O o)) o (O m) j = upd (upd W m (W o)) o (W m) j := by
      intro j hj
      simp only [upd_if, hO m hm, hO o ho, hO j hj]
    refine ⟨_, _, _, _, _, _, _, upd (upd W m (W o)) o (W m), _, _, rfl, ?_, hsame, ps_same r3 (fun D hD => stL_own h6 (fun j hj => ?_) (fun j hj => ?_) hD), fun j hj => ?_, hrf⟩
    · rw [hsame m hm]
    · rw [upd_ne (by omega), upd_ne (by omega)]
    · simp only [upd_if]
      split
      · exact x.2.2.1 m hm
      · split
        · exact x.2.2.1 o ho
        · exact x.2.2.1 j hj
    · rw [upd_ne (by omega), upd_ne (by omega)]
  · obtain ⟨Rc', Rm', r1, r2, r3⟩ := p_refuse (k := k) hrf (by omega)
    rw [e, if_neg (m1_ne (n := k) (by omega)), r1, bind_some', r2, bind_some']
    dsimp only
    rw [if_neg d10]
    exact ⟨_, _, _, _, _, _, _, _, _, _, rfl, rfl, x.2.1, ps, fun _ _ => rfl, r3⟩
theorem a_give {Y C R B M F O W : Nat → Int32} {mb mm mf : Int32} {nb nm nf : Nat} {As Ac Mh : Int32} {Ad Al Kc Kv Kl Kt Kf Ku : Nat → Int32} {w : Option ((Nat → Int32) → Int32)} {Rc Rm E Mk : Nat → Int32} {Pa : Nat → Int64} {Pn Pk Ma p0 p1 : Int32} (x : cx Y C R B M F O W mb mm mf nb nm nf As Ac Mh Ad Al Kc Kv Kl Kt Kf Ku w) (ps : psA nb nm Pn Pk Pa E Ma Mk W) (hr : rfA Rc Rm) : ∃ v O1 Pn1 Pk1 Pa1 Rc1 Ma1 W1 Rm1 Mk1, f_Main_give Y C (nI nm) (W 6) (W 7) (W 8) (W 9) O Pn Pk Pa Rc p0 p1 = some (v, W1 8, O1, Pn1, Pk1, Pa1, Rc1) ∧ f_M_give mb mm Ma M W Rm Mk p0 p1 = some (v, Ma1, W1, Rm1, Mk1) ∧ (∀ m, m < nm → O1 m = W1 m) ∧ psA nb nm Pn1 Pk1 Pa1 E Ma1 Mk1 W1 ∧ (∀ j, 6 ≤ j → j ≠ 8 → W1 j = W j) ∧ rfA Rc1 Rm1 := by
  have hrf := hr
  have h := x.1
  obtain ⟨⟨h5, h6, h6'⟩, ⟨c1, c2, c3⟩, ⟨e1, e2, e3⟩, hr, hbo, hma, hfa, rb, rm, rf, r0, r1, r2⟩ := h
  subst e1 e2 e3
  have hbad : ∀ k : Nat, k < 5 → ∃ Rc' Rm', f_Main_refuse Rc (nI k) = some (-1, Rc') ∧ f_M_give_J66 Ma M W Rm Mk p0 p1 (nI k) = some (-1, Ma, W, Rm', Mk) ∧ rfA Rc' Rm' := by
    intro k hk
    obtain ⟨Rc', Rm', r1, r2, r3⟩ := p_refuse (k := k) hrf hk
    refine ⟨Rc', Rm', r1, ?_, r3⟩
    unfold f_M_give_J66
    rw [r2, bind_some']
    dsimp only
    rw [if_neg d10]
  have fin : ∀ Rc' Rm' : Nat → Int32, rfA Rc' Rm' → ∃ v O1 Pn1 Pk1 Pa1 Rc1 Ma1 W1 Rm1 Mk1, some ((-1 : Int32), W 8, O, Pn, Pk, Pa, Rc') = some (v, W1 8, O1, Pn1, Pk1, Pa1, Rc1) ∧ some ((-1 : Int32), Ma, W, Rm', Mk) = some (v, Ma1, W1, Rm1, Mk1) ∧ (∀ m, m < nm → O1 m = W1 m) ∧ psA nb nm Pn1 Pk1 Pa1 E Ma1 Mk1 W1 ∧ (∀ j, 6 ≤ j → j ≠ 8 → W1 j = W j) ∧ rfA Rc1 Rm1 := fun Rc' Rm' hh => ⟨_, _, _, _, _, _, _, W, _, _, rfl, rfl, x.2.1, ps, fun _ _ _ => rfl, hh⟩
  obtain ⟨Rc0, Rm0, z1, z2, z3⟩ := hbad 0 (by decide)
  obtain ⟨Rc2, Rm2, y1, y2, y3⟩ := hbad 2 (by decide)
  have z1 : f_Main_refuse Rc 0 = some (-1, Rc0) := z1
  have z2 : f_M_give_J66 Ma M W Rm Mk p0 p1 0 = some (-1, Ma, W, Rm0, Mk) := z2
  have y1 : f_Main_refuse Rc 2 = some (-1, Rc2) := y1
  have y2 : f_M_give_J66 Ma M W Rm Mk p0 p1 2 = some (-1, Ma, W, Rm2, Mk) := y2
  unfold f_Main_give f_M_give f_Main_give_J22 f_Main_give_J51 f_M_give_J17 f_M_give_J41
  rw [y_hasMarble c2, bind_some', m_isMarble (by omega), bind_some', y_hasBoy c1, bind_some', m_isBoy (by omega), bind_some']
  rcases inB_cases p0 (n := nm) (by omega) with ⟨e, _⟩ | ⟨m, hm, rfl, e⟩
  · rw [e, if_pos rfl, if_pos rfl, z1, z2, bind_some']
    exact fin _ _ z3
  · rw [e, if_neg d10, if_neg d10]
    rcases inB_cases p1 (n := nb) (by omega) with ⟨e, _⟩ | ⟨b, hb, rfl, e⟩
    · rw [e, if_pos rfl, if_pos rfl, z1, z2, bind_some']
      exact fin _ _ z3
    · rw [e, if_neg d10, if_neg d10, n_isFree hm h6, bind_some', m_isLoose (by omega), bind_some', x.2.1 m hm]
      by_cases hf : fre (W m) (hs (W 7) (nI m)) = 0
      · rw [if_pos hf, if_pos hf, y1, y2, bind_some']
        exact fin _ _ y3
      · rw [if_neg hf, if_neg hf, n_ownerOf hm h6, bind_some', nx_zadd, oI_nI (j := m) (n := 131) (by omega) (by decide), nI_clamp (n := m) (by omega), x.2.1 m hm]
        by_cases ho : W m = nI b
        · rw [if_pos ho, if_pos ho, y1, y2, bind_some']
          exact fin _ _ y3
        · rw [if_neg ho, if_neg ho, y_size (by omega), bind_some', nx_oI (by decide) (by decide), nx_cl 8 (by decide), show W (OfNat.ofNat 8) = W 8 from rfl, show (2 : Int32) = nI 2 from rfl, m_of (m := m) (k := 2) (by omega) (by decide), bind_some', hma m 2 hm (by decide)]
          by_cases hs : M (3 * m + 2) ≤ W 8
          · obtain ⟨Pn', Pk', Pa', Ma', Mk', r1, r2, r3⟩ := ps_remember h5 h6 x.2.1 ps
            obtain ⟨g, hg, eg⟩ := (rm m hm).2.2
            obtain ⟨sw, hsw, esw⟩ := x.2.2.2.2.2.1
            have hle : g ≤ sw := by
              rw [eg, esw] at hs
              exact (nx_le (by omega) (by omega)).mp hs
            rw [if_pos hs, if_pos hs, r1, bind_some', bind_some', oL_eq, n_hand hm h6, bind_some']
            unfold f_M_give_J66
            rw [m_notRef, bind_some']
            dsimp only
            rw [if_pos rfl, r2, bind_some', nx_zadd, oI_nI (j := m) (n := 131) (by omega) (by decide), nI_clamp (n := m) (by omega), oL_eq, nx_oI (by decide) (by decide), show (2 : Int32) = nI 2 from rfl, m_of (m := m) (k := 2) (by omega) (by decide), bind_some', nx_oI (by decide) (by decide), nx_cl 8 (by decide), oL_eq, nx_oI (by decide) (by decide)]
            have hu : upd W m (nI b) (OfNat.ofNat 8) = W 8 := upd_ne (show 8 ≠ m by omega)
            rw [hu]
            have h8 : upd (upd W m (nI b)) (OfNat.ofNat 8) (W 8 - M (3 * m + 2)) (OfNat.ofNat 8) = W 8 - M (3 * m + 2) := upd_at
            rw [h8]
            have hown : owA (upd (upd W m (nI b)) 8 (W 8 - M (3 * m + 2))) nb nm := by
              intro j hj
              rw [upd_ne (by omega)]
              by_cases q : j = m
              · rw [q, upd_at]
                exact Or.inr ⟨b, hb, rfl⟩
              · rw [upd_ne q]
                exact x.2.2.1 j hj
            refine ⟨W 8 - M (3 * m + 2), upd O m (nI b), Pn', Pk', Pa', Rc, Ma', upd (upd W m (nI b)) 8 (W 8 - M (3 * m + 2)), Rm, Mk', ?_, rfl, fun j hj => ?_, ps_same r3 (fun D hD => stL_chg (fun j hj => ?_) hown ?_ ?_ ?_ hD), fun j hj hj' => ?_, hrf⟩
            · rw [upd_at]
            · rw [upd_ne (m := 8) (by omega)]
              by_cases q : j = m
              · rw [q, upd_at, upd_at]
              · rw [upd_ne q, upd_ne q, x.2.1 j hj]
            · rw [upd_ne (by omega), upd_ne (by omega)]
            · rw [upd_ne (by decide), upd_ne (by omega)]
              exact x.2.2.2.1
            · rw [upd_ne (by decide), upd_ne (by omega)]
              exact x.2.2.2.2.1
            · rw [upd_at, eg, esw, nx_subN hle]
              exact ⟨sw - g, (by omega), rfl⟩
            · rw [upd_ne hj', upd_ne (by omega)]
          · obtain ⟨Rc3, Rm3, q1, q2, q3⟩ := hbad 3 (by decide)
            have q1 : f_Main_refuse Rc 3 = some (-1, Rc3) := q1
            have q2 : f_M_give_J66 Ma M W Rm Mk (nI m) (nI b) 3 = some (-1, Ma, W, Rm3, Mk) := q2
            rw [if_neg hs, if_neg hs, q1, q2, bind_some']
            exact fin _ _ q3
theorem a_chip {Y C R B M F O W : Nat → Int32} {mb mm mf : Int32} {nb nm nf : Nat} {As Ac Mh : Int32} {Ad Al Kc Kv Kl Kt Kf Ku : Nat → Int32} {w : Option ((Nat → Int32) → Int32)} {Rc Rm E Mk : Nat → Int32} {Pa : Nat → Int64} {Pn Pk Ma p0 : Int32} (x : cx Y C R B M F O W mb mm mf nb nm nf As Ac Mh Ad Al Kc Kv Kl Kt Kf Ku w) (ps : psA nb nm Pn Pk Pa E Ma Mk W) (hr : rfA Rc Rm) : ∃ v Pn1 Pk1 Pa1 Rc1 Ma1 W1 Rm1 Mk1, f_Main_chip C (nI nm) (W 6) (W 7) (W 8) (W 9) O Pn Pk Pa Rc p0 = some (v, W1 6, Pn1, Pk1, Pa1, Rc1) ∧ f_M_chip mm Ma W Rm Mk p0 = some (v, Ma1, W1, Rm1, Mk1) ∧ (∀ m, m < nm → O m = W1 m) ∧ psA nb nm Pn1 Pk1 Pa1 E Ma1 Mk1 W1 ∧ (∀ j, 6 ≤ j → j ≠ 6 → W1 j = W j) ∧ rfA Rc1 Rm1 := by
  have hrf := hr
  have h := x.1
  obtain ⟨⟨h5, h6, h6'⟩, ⟨c1, c2, c3⟩, ⟨e1, e2, e3⟩, hr, hbo, hma, hfa, rb, rm, rf, r0, r1, r2⟩ := h
  subst e1 e2 e3
  have hbad : ∀ k : Nat, k < 5 → ∃ Rc' Rm', f_Main_refuse Rc (nI k) = some (-1, Rc') ∧ f_M_mark_J43 Ma W Rm Mk 6 p0 (nI k) = some (-1, Ma, W, Rm', Mk) ∧ rfA Rc' Rm' := by
    intro k hk
    obtain ⟨Rc', Rm', r1, r2, r3⟩ := p_refuse (k := k) hrf hk
    refine ⟨Rc', Rm', r1, ?_, r3⟩
    unfold f_M_mark_J43
    rw [r2, bind_some']
    dsimp only
    rw [if_neg d10]
  have fin : ∀ Rc' Rm' : Nat → Int32, rfA Rc' Rm' → ∃ v Pn1 Pk1 Pa1 Rc1 Ma1 W1 Rm1 Mk1, some ((-1 : Int32), W 6, Pn, Pk, Pa, Rc') = some (v, W1 6, Pn1, Pk1, Pa1, Rc1) ∧ some ((-1 : Int32), Ma, W, Rm', Mk) = some (v, Ma1, W1, Rm1, Mk1) ∧ (∀ m, m < nm → O m = W1 m) ∧ psA nb nm Pn1 Pk1 Pa1 E Ma1 Mk1 W1 ∧ (∀ j, 6 ≤ j → j ≠ 6 → W1 j = W j) ∧ rfA Rc1 Rm1 := fun Rc' Rm' hh => ⟨_, _, _, _, _, _, W, _, _, rfl, rfl, x.2.1, ps, fun _ _ _ => rfl, hh⟩
  obtain ⟨Rc0, Rm0, z1, z2, z3⟩ := hbad 0 (by decide)
  obtain ⟨Rc2, Rm2, y1, y2, y3⟩ := hbad 2 (by decide)
  have z1 : f_Main_refuse Rc 0 = some (-1, Rc0) := z1
  have z2 : f_M_mark_J43 Ma W Rm Mk 6 p0 0 = some (-1, Ma, W, Rm0, Mk) := z2
  have y1 : f_Main_refuse Rc 2 = some (-1, Rc2) := y1
  have y2 : f_M_mark_J43 Ma W Rm Mk 6 p0 2 = some (-1, Ma, W, Rm2, Mk) := y2
  unfold f_Main_chip f_M_chip f_M_mark f_Main_chip_J39 f_M_mark_J38
  rw [y_hasMarble c2, bind_some', m_isMarble (by omega), bind_some']
  rcases inB_cases p0 (n := nm) (by omega) with ⟨e, _⟩ | ⟨m, hm, rfl, e⟩
  · rw [e, if_pos rfl, if_pos rfl, z1, z2, bind_some', bind_some']
    exact fin _ _ z3
  · rw [e, if_neg d10, if_neg d10, n_isChipped, bind_some', m_has, bind_some', nx_oI (by decide) (by decide), nx_cl 6 (by decide), show W (OfNat.ofNat 6) = W 6 from rfl, n_isDrained hm h6, bind_some', nx_zadd, oI_nI (j := m) (n := 131) (by omega) (by decide), nI_clamp (n := m) (by omega), x.2.1 m hm]
    by_cases hc : hs (W 6) (nI m) = 0
    · rw [if_pos hc, if_pos hc]
      by_cases hw : W m = -1
      · rw [if_pos hw, if_neg d10, if_pos hw, y1, y2, bind_some', bind_some']
        exact fin _ _ y3
      · obtain ⟨Pn', Pk', Pa', Ma', Mk', r1, r2, r3⟩ := ps_remember h5 h6 x.2.1 ps
        obtain ⟨c, hc64, ec⟩ := x.2.2.2.1
        have hsh : ∀ n : Fin 6, (1 : Int32) <<< (nI n.val &&& 31) = nI (2 ^ n.val) := by decide +kernel
        have h2 : 2 ^ m < 64 := Nat.lt_of_lt_of_le (Nat.pow_lt_pow_right (by decide) (show m < 6 by omega)) (by decide)
        have eor : W 6 ||| ((1 : Int32) <<< (nI m &&& 31)) = nI (c ||| 2 ^ m) := by
          rw [ec, hsh ⟨m, (by omega)⟩, nx_or]
        have hor : c ||| 2 ^ m < 64 := Nat.or_lt_two_pow (n := 6) hc64 h2
        rw [if_neg hw, if_pos rfl, if_neg hw, r1, bind_some', oL_eq, eor, j_bitCount, bind_some']
        unfold f_M_mark_J43
        rw [m_notRef, bind_some']
        dsimp only
        rw [if_pos rfl, r2, bind_some', nx_oI (by decide) (by decide), nx_oI (by decide) (by decide), nx_cl 6 (by decide), show W (OfNat.ofNat 6) = W 6 from rfl, eor, oL_eq, nx_oI (by decide) (by decide)]
        have h8 : upd W (OfNat.ofNat 6) (nI (c ||| 2 ^ m)) (OfNat.ofNat 6) = nI (c ||| 2 ^ m) := upd_at
        rw [h8, j_bitCount, bind_some', bind_some']
        have hown : owA (upd W 6 (nI (c ||| 2 ^ m))) nb nm := by
          intro j hj
          rw [upd_ne (by omega)]
          exact x.2.2.1 j hj
        refine ⟨bc (nI (c ||| 2 ^ m)), Pn', Pk', Pa', Rc, Ma', upd W 6 (nI (c ||| 2 ^ m)), Rm, Mk', ?_, rfl, fun j hj => ?_, ps_same r3 (fun D hD => stL_chg (fun j hj => ?_) hown ?_ ?_ ?_ hD), fun j hj hj' => ?_, hrf⟩
        · rw [upd_at]
        · rw [upd_ne (by omega), x.2.1 j hj]
        · rw [upd_ne (by omega)]
        · rw [upd_at]
          exact ⟨_, hor, rfl⟩
        · rw [upd_ne (by decide)]
          exact x.2.2.2.2.1
        · rw [upd_ne (by decide)]
          exact x.2.2.2.2.2.1
        · rw [upd_ne hj']
    · rw [if_neg hc, if_neg hc, y1, y2, bind_some', bind_some']
      exact fin _ _ y3
theorem a_swallow {Y C R B M F O W : Nat → Int32} {mb mm mf : Int32} {nb nm nf : Nat} {As Ac Mh : Int32} {Ad Al Kc Kv Kl Kt Kf Ku : Nat → Int32} {w : Option ((Nat → Int32) → Int32)} {Rc Rm E Mk : Nat → Int32} {Pa : Nat → Int64} {Pn Pk Ma p0 : Int32} (x : cx Y C R B M F O W mb mm mf nb nm nf As Ac Mh Ad Al Kc Kv Kl Kt Kf Ku w) (ps : psA nb nm Pn Pk Pa E Ma Mk W) (hr : rfA Rc Rm) : ∃ v Pn1 Pk1 Pa1 Rc1 Ma1 W1 Rm1 Mk1, f_Main_swallow C (nI nm) (W 6) (W 7) (W 8) (W 9) O Pn Pk Pa Rc p0 = some (v, W1 7, Pn1, Pk1, Pa1, Rc1) ∧ f_M_swallow mm Ma W Rm Mk p0 = some (v, Ma1, W1, Rm1, Mk1) ∧ (∀ m, m < nm → O m = W1 m) ∧ psA nb nm Pn1 Pk1 Pa1 E Ma1 Mk1 W1 ∧ (∀ j, 6 ≤ j → j ≠ 7 → W1 j = W j) ∧ rfA Rc1 Rm1 := by
  have hrf := hr
  have h := x.1
  obtain ⟨⟨h5, h6, h6'⟩, ⟨c1, c2, c3⟩, ⟨e1, e2, e3⟩, hr, hbo, hma, hfa, rb, rm, rf, r0, r1, r2⟩ := h
  subst e1 e2 e3
  have hbad : ∀ k : Nat, k < 5 → ∃ Rc' Rm', f_Main_refuse Rc (nI k) = some (-1, Rc') ∧ f_M_mark_J43 Ma W Rm Mk 7 p0 (nI k) = some (-1, Ma, W, Rm', Mk) ∧ rfA Rc' Rm' := by
    intro k hk
    obtain ⟨Rc', Rm', r1, r2, r3⟩ := p_refuse (k := k) hrf hk
    refine ⟨Rc', Rm', r1, ?_, r3⟩
    unfold f_M_mark_J43
    rw [r2, bind_some']
    dsimp only
    rw [if_neg d10]
  have fin : ∀ Rc' Rm' : Nat → Int32, rfA Rc' Rm' → ∃ v Pn1 Pk1 Pa1 Rc1 Ma1 W1 Rm1 Mk1, some ((-1 : Int32), W 7, Pn, Pk, Pa, Rc') = some (v, W1 7, Pn1, Pk1, Pa1, Rc1) ∧ some ((-1 : Int32), Ma, W, Rm', Mk) = some (v, Ma1, W1, Rm1, Mk1) ∧ (∀ m, m < nm → O m = W1 m) ∧ psA nb nm Pn1 Pk1 Pa1 E Ma1 Mk1 W1 ∧ (∀ j, 6 ≤ j → j ≠ 7 → W1 j = W j) ∧ rfA Rc1 Rm1 := fun Rc' Rm' hh => ⟨_, _, _, _, _, _, W, _, _, rfl, rfl, x.2.1, ps, fun _ _ _ => rfl, hh⟩
  obtain ⟨Rc0, Rm0, z1, z2, z3⟩ := hbad 0 (by decide)
  obtain ⟨Rc2, Rm2, y1, y2, y3⟩ := hbad 2 (by decide)
  have z1 : f_Main_refuse Rc 0 = some (-1, Rc0) := z1
  have z2 : f_M_mark_J43 Ma W Rm Mk 7 p0 0 = some (-1, Ma, W, Rm0, Mk) := z2
  have y1 : f_Main_refuse Rc 2 = some (-1, Rc2) := y1
  have y2 : f_M_mark_J43 Ma W Rm Mk 7 p0 2 = some (-1, Ma, W, Rm2, Mk) := y2
  unfold f_Main_swallow f_M_swallow f_M_mark f_Main_swallow_J39 f_M_mark_J38
  rw [y_hasMarble c2, bind_some', m_isMarble (by omega), bind_some']
  rcases inB_cases p0 (n := nm) (by omega) with ⟨e, _⟩ | ⟨m, hm, rfl, e⟩
  · rw [e, if_pos rfl, if_pos rfl, z1, z2, bind_some', bind_some']
    exact fin _ _ z3
  · rw [e, if_neg d10, if_neg d10, n_isSwallowed, bind_some', m_has, bind_some', nx_oI (by decide) (by decide), nx_cl 7 (by decide), show W (OfNat.ofNat 7) = W 7 from rfl, n_isDrained hm h6, bind_some', nx_zadd, oI_nI (j := m) (n := 131) (by omega) (by decide), nI_clamp (n := m) (by omega), x.2.1 m hm]
    by_cases hc : hs (W 7) (nI m) = 0
    · rw [if_pos hc, if_pos hc]
      by_cases hw : W m = -1
      · rw [if_pos hw, if_neg d10, if_pos hw, y1, y2, bind_some', bind_some']
        exact fin _ _ y3
      · obtain ⟨Pn', Pk', Pa', Ma', Mk', r1, r2, r3⟩ := ps_remember h5 h6 x.2.1 ps
        obtain ⟨c, hc64, ec⟩ := x.2.2.2.2.1
        have hsh : ∀ n : Fin 6, (1 : Int32) <<< (nI n.val &&& 31) = nI (2 ^ n.val) := by decide +kernel
        have h2 : 2 ^ m < 64 := Nat.lt_of_lt_of_le (Nat.pow_lt_pow_right (by decide) (show m < 6 by omega)) (by decide)
        have eor : W 7 ||| ((1 : Int32) <<< (nI m &&& 31)) = nI (c ||| 2 ^ m) := by
          rw [ec, hsh ⟨m, (by omega)⟩, nx_or]
        have hor : c ||| 2 ^ m < 64 := Nat.or_lt_two_pow (n := 6) hc64 h2
        rw [if_neg hw, if_pos rfl, if_neg hw, r1, bind_some', oL_eq, eor, j_bitCount, bind_some']
        unfold f_M_mark_J43
        rw [m_notRef, bind_some']
        dsimp only
        rw [if_pos rfl, r2, bind_some', nx_oI (by decide) (by decide), nx_oI (by decide) (by decide), nx_cl 7 (by decide), show W (OfNat.ofNat 7) = W 7 from rfl, eor, oL_eq, nx_oI (by decide) (by decide)]
        have h8 : upd W (OfNat.ofNat 7) (nI (c ||| 2 ^ m)) (OfNat.ofNat 7) = nI (c ||| 2 ^ m) := upd_at
        rw [h8, j_bitCount, bind_some', bind_some']
        have hown : owA (upd W 7 (nI (c ||| 2 ^ m))) nb nm := by
          intro j hj
          rw [upd_ne (by omega)]
          exact x.2.2.1 j hj
        refine ⟨bc (nI (c ||| 2 ^ m)), Pn', Pk', Pa', Rc, Ma', upd W 7 (nI (c ||| 2 ^ m)), Rm, Mk', ?_, rfl, fun j hj => ?_, ps_same r3 (fun D hD => stL_chg (fun j hj => ?_) hown ?_ ?_ ?_ hD), fun j hj hj' => ?_, hrf⟩
        · rw [upd_at]
        · rw [upd_ne (by omega), x.2.1 j hj]
        · rw [upd_ne (by omega)]
        · rw [upd_ne (by decide)]
          exact x.2.2.2.1
        · rw [upd_at]
          exact ⟨_, hor, rfl⟩
        · rw [upd_ne (by decide)]
          exact x.2.2.2.2.2.1
        · rw [upd_ne hj']
    · rw [if_neg hc, if_neg hc, y1, y2, bind_some', bind_some']
      exact fin _ _ y3
theorem in_160 {p : Int32} : (∃ n : Nat, 1 ≤ n ∧ n ≤ 60 ∧ p = nI n) ∨ (f_M_in p 1 60 = some 0 ∧ (p < 1 ∨ ¬ p < 1 ∧ ¬ p ≤ 60)) := by
  unfold f_M_in
  by_cases h1 : p < 1
  · right
    rw [if_pos h1]
    exact ⟨rfl, Or.inl h1⟩
  · by_cases h2 : 60 < p
    · right
      rw [if_neg h1, if_pos h2]
      refine ⟨rfl, Or.inr ⟨h1, fun q => ?_⟩⟩
      rw [Int32.lt_iff_toInt_lt] at h2
      rw [Int32.le_iff_toInt_le] at q
      omega
    · left
      have h3 : ¬ p < 0 := fun q => h1 (by rw [Int32.lt_iff_toInt_lt] at q ⊢; have : (0 : Int32).toInt = 0 := by decide
                                           have : (1 : Int32).toInt = 1 := by decide
                                           omega)
      obtain ⟨k, hk, e⟩ := nI_of2 (M := 60) (n := 60) (by decide) h3 (i_nlt h2)
      refine ⟨k, ?_, hk, e⟩
      rcases Nat.eq_zero_or_pos k with z | z
      · subst z
        exact absurd (by rw [e]; decide) h1
      · exact z
theorem in_160n {n : Nat} (h1 : 1 ≤ n) (h2 : n ≤ 60) : f_M_in (nI n) 1 60 = some 1 := by
  unfold f_M_in
  rw [if_neg (show ¬ nI n < 1 from nx_nlt (b := 1) h1 (by omega)), if_neg]
  intro q
  have := (nx_Llt (a := 60) (by decide) (by omega)).mp q
  have : 60 < n := this
  omega
/-- days pass, one by one -/
theorem p_daysLoop {Y C R B M F On W E S Rc Rm Mk : Nat → Int32} {mb mf : Int32} {nb nm nf D n : Nat} {Pa : Nat → Int64} {Pn Pk Ma : Int32} (h : yA Y C mb (nI nm) mf R B M F nb nm nf) (hO : ∀ m, m < nm → On m = W m) (ps : psA nb nm Pn Pk Pa E Ma Mk W) (h9 : W 9 = nI D) (hn : n ≤ 60) (hD : D + n ≤ 9999) : ∃ S1 Pn1 Pk1 Pa1 E1 Ma1 W1 Mk1, oLp (f_Main_days_L56 Y C (nI nm) (W 6) (W 7) On Rc (nI n)) (0, W 8, W 9, Pn, Pk, Pa, E, S) = some (W1 8, W1 8, W1 9, Pn1, Pk1, Pa1, E1, S1, Rc) ∧ oLp (f_M_days_L49 (nI nm) mf B M F Rm (nI n)) (0, Ma, W, Mk) = some (W1 8, Ma1, W1, Rm, Mk1) ∧ psA nb nm Pn1 Pk1 Pa1 E1 Ma1 Mk1 W1 ∧ ∀ j, j < 8 → W1 j = W j := by
  have hY := h
  obtain ⟨⟨h5, h6, h6'⟩, ⟨c1, c2, c3⟩, ⟨e1, e2, e3⟩, hr, hbo, hma, hfa, rb, rm, rf, r0, r1, r2⟩ := h
  refine qlp2 (fun j (t : Int32 × Int32 × Int32 × Int32 × Int32 × (Nat → Int64) × (Nat → Int32) × (Nat → Int32)) (u : Int32 × Int32 × (Nat → Int32) × (Nat → Int32)) => ∃ (V : Nat → Int32) (Qn Qk : Int32) (Qa : Nat → Int64) (G T : Nat → Int32) (La : Int32) (Lk : Nat → Int32), t = (nI j, V 8, V 9, Qn, Qk, Qa, G, T) ∧ u = (nI j, La, V, Lk) ∧ psA nb nm Qn Qk Qa G La Lk V ∧ V 9 = nI (D + j) ∧ ∀ i, i < 8 → V i = W i) (fun r q => ∃ (S1 : Nat → Int32) (Pn1 Pk1 : Int32) (Pa1 : Nat → Int64) (E1 : Nat → Int32) (Ma1 : Int32) (W1 Mk1 : Nat → Int32), r = some (W1 8, W1 8, W1 9, Pn1, Pk1, Pa1, E1, S1, Rc) ∧ q = some (W1 8, Ma1, W1, Rm, Mk1) ∧ psA nb nm Pn1 Pk1 Pa1 E1 Ma1 Mk1 W1 ∧ ∀ j, j < 8 → W1 j = W j) (n := n) ?_ ?_ (j := 0) (by omega) ⟨W, _, _, _, _, _, _, _, rfl, rfl, ps, h9, fun _ _ => rfl⟩
  · rintro j t u hj ⟨V, Qn, Qk, Qa, G, T, La, Lk, rfl, rfl, q1, q2, q3⟩
    left
    have hOV : ∀ m, m < nm → On m = V m := fun m hm => (hO m hm).trans (q3 m (by omega)).symm
    obtain ⟨Pn', Pk', Pa', Ma', Mk', r1, r2, r3⟩ := ps_remember h5 h6 hOV q1
    obtain ⟨D', k, y, dd, y1, y2⟩ := q1
    have hDD : D' = D + j := nI_inj (by have := y1.2.2.2.1; omega) (by omega) (y1.2.2.1.symm.trans q2)
    subst hDD
    obtain ⟨V', T', v, g1, g2, g3, g4, g5⟩ := p_passDay (S := T) hY hOV y1 (by omega)
    refine ⟨(nI (j + 1), V' 8, V' 9, Pn', Pk', Pa', upd G ((D + j) % 128) v, T'), (nI (j + 1), Ma', V', Mk'), ?_, ?_, V', _, _, _, _, _, _, _, rfl, rfl, ps_day q2 (by omega) r3 (fun _ => g5), g4, fun i hi => (g3 i hi).trans (q3 i hi)⟩
    · unfold f_Main_days_L56
      dsimp only
      rw [if_neg (show ¬ nI n ≤ nI j from nI_ge hj (by omega)), ← q3 6 (by decide), ← q3 7 (by decide), r1, bind_some', g1, bind_some', nx_add]
    · unfold f_M_days_L49
      dsimp only
      rw [if_neg (show ¬ nI n ≤ nI j from nI_ge hj (by omega)), r2, bind_some', e3, g2, bind_some', nx_add]
  · rintro t u ⟨V, Qn, Qk, Qa, G, T, La, Lk, rfl, rfl, q1, q2, q3⟩
    refine ⟨T, Qn, Qk, Qa, G, La, V, Lk, oLp_out ?_, oLp_out ?_, q1, q3⟩
    · unfold f_Main_days_L56
      dsimp only
      rw [if_pos (Int32.le_refl _)]
    · unfold f_M_days_L49
      dsimp only
      rw [if_pos (Int32.le_refl _), nx_oI (by decide) (by decide), nx_cl 8 (by decide)]
      rfl
theorem a_days {Y C R B M F O W : Nat → Int32} {mb mm mf : Int32} {nb nm nf : Nat} {As Ac Mh : Int32} {Ad Al Kc Kv Kl Kt Kf Ku : Nat → Int32} {w : Option ((Nat → Int32) → Int32)} {S Rc Rm E Mk : Nat → Int32} {Pa : Nat → Int64} {Pn Pk Ma p0 : Int32} (x : cx Y C R B M F O W mb mm mf nb nm nf As Ac Mh Ad Al Kc Kv Kl Kt Kf Ku w) (ps : psA nb nm Pn Pk Pa E Ma Mk W) (hr : rfA Rc Rm) : ∃ v Pn1 Pk1 Pa1 E1 S1 Rc1 Ma1 W1 Rm1 Mk1, f_Main_days Y C (nI nm) (W 6) (W 7) (W 8) (W 9) O Pn Pk Pa E S Rc p0 = some (v, W1 8, W1 9, Pn1, Pk1, Pa1, E1, S1, Rc1) ∧ f_M_days mm mf Ma B M F W Rm Mk p0 = some (v, Ma1, W1, Rm1, Mk1) ∧ psA nb nm Pn1 Pk1 Pa1 E1 Ma1 Mk1 W1 ∧ (∀ j, j < 8 → W1 j = W j) ∧ rfA Rc1 Rm1 := by
  have hrf := hr
  have h := x.1
  have hY := h
  obtain ⟨⟨h5, h6, h6'⟩, ⟨c1, c2, c3⟩, ⟨e1, e2, e3⟩, hr, hbo, hma, hfa, rb, rm, rf, r0, r1, r2⟩ := h
  subst e1 e2 e3
  have hbad : ∀ k : Nat, k < 5 → ∃ Rc' Rm', f_Main_refuse Rc (nI k) = some (-1, Rc') ∧ f_M_days_J39 (nI nm) (nI nf) Ma B M F W Rm Mk p0 (nI k) = some (-1, Ma, W, Rm', Mk) ∧ rfA Rc' Rm' := by
    intro k hk
    obtain ⟨Rc', Rm', r1, r2, r3⟩ := p_refuse (k := k) hrf hk
    refine ⟨Rc', Rm', r1, ?_, r3⟩
    unfold f_M_days_J39
    rw [r2, bind_some']
    dsimp only
    rw [if_neg d10]
  have fin : ∀ Rc' Rm' : Nat → Int32, rfA Rc' Rm' → ∃ v Pn1 Pk1 Pa1 E1 S1 Rc1 Ma1 W1 Rm1 Mk1, some ((-1 : Int32), W 8, W 9, Pn, Pk, Pa, E, S, Rc') = some (v, W1 8, W1 9, Pn1, Pk1, Pa1, E1, S1, Rc1) ∧ some ((-1 : Int32), Ma, W, Rm', Mk) = some (v, Ma1, W1, Rm1, Mk1) ∧ psA nb nm Pn1 Pk1 Pa1 E1 Ma1 Mk1 W1 ∧ (∀ j, j < 8 → W1 j = W j) ∧ rfA Rc1 Rm1 := fun Rc' Rm' hh => ⟨_, _, _, _, _, _, _, _, W, _, _, rfl, rfl, ps, fun _ _ => rfl, hh⟩
  unfold f_Main_days f_M_days f_Main_days_J27
  rw [y_stands c2 (by omega), bind_some']
  by_cases hz : nm = 0
  · obtain ⟨Rc0, Rm0, z1, z2, z3⟩ := hbad 0 (by decide)
    have z1 : f_Main_refuse Rc 0 = some (-1, Rc0) := z1
    have z2 : f_M_days_J39 (nI nm) (nI nf) Ma B M F W Rm Mk p0 0 = some (-1, Ma, W, Rm0, Mk) := z2
    rw [if_pos hz, if_pos rfl, if_pos ((stands_m h6).mpr hz), z1, z2, bind_some']
    exact fin _ _ z3
  · rw [if_neg hz, if_neg d10, if_neg (fun q => hz ((stands_m h6).mp q))]
    obtain ⟨Rc1, Rm1, z1, z2, z3⟩ := hbad 1 (by decide)
    have z1 : f_Main_refuse Rc 1 = some (-1, Rc1) := z1
    have z2 : f_M_days_J39 (nI nm) (nI nf) Ma B M F W Rm Mk p0 1 = some (-1, Ma, W, Rm1, Mk) := z2
    rcases in_160 (p := p0) with ⟨n, hn1, hn2, rfl⟩ | ⟨g, hg⟩
    · have hps := ps
      obtain ⟨D, k, y, dd, y1, y2⟩ := ps
      rw [if_neg (show ¬ nI n < 1 from nx_nlt (b := 1) hn1 (by omega)), if_pos ((nx_leL (by omega) (by decide)).mpr hn2), in_160n hn1 hn2, bind_some', if_neg d10]
      unfold f_M_areDays
      rw [in_160n hn1 hn2, bind_some', if_neg d10, nx_oI (by decide) (by decide), nx_cl 9 (by decide), show W (OfNat.ofNat 9) = nI D from y1.2.2.1, nI_add]
      have hDm := y1.2.2.2.1
      by_cases hd : D + n ≤ 9999
      · obtain ⟨S1, Pn1, Pk1, Pa1, E1, Ma1, W1, Mk1, g1, g2, g3, g4⟩ := p_daysLoop (S := S) (Rc := Rc) (Rm := Rm) hY x.2.1 hps y1.2.2.1 hn2 hd
        rw [y1.2.2.1] at g1
        rw [if_pos ((nx_leL (by omega) (by decide)).mpr hd), if_neg (show ¬ (9999 : Int32) < nI (D + n) from fun q => by have := (nx_Llt (a := 9999) (by decide) (by omega)).mp q; have : 9999 < D + n := this; omega), bind_some', if_neg d10, g1]
        unfold f_M_days_J39
        rw [m_notRef, bind_some']
        dsimp only
        rw [if_pos rfl, g2]
        exact ⟨_, _, _, _, _, _, _, _, W1, _, _, rfl, rfl, g3, g4, hrf⟩
      · obtain ⟨Rc4, Rm4, z1, z2, z3⟩ := hbad 4 (by decide)
        have z1 : f_Main_refuse Rc 4 = some (-1, Rc4) := z1
        have z2 : f_M_days_J39 (nI nm) (nI nf) Ma B M F W Rm Mk (nI n) 4 = some (-1, Ma, W, Rm4, Mk) := z2
        rw [if_neg (fun q => hd ((nx_leL (by omega) (by decide)).mp q)), if_pos ((nx_Llt (a := 9999) (by decide) (by omega)).mpr (show 9999 < D + n by omega)), bind_some', if_pos rfl, z1, z2, bind_some', ← y1.2.2.1]
        exact fin _ _ z3
    · rw [g, bind_some', if_pos rfl, z1, z2, bind_some']
      rcases hg with q | ⟨q, q'⟩
      · rw [if_pos q]
        exact fin _ _ z3
      · rw [if_neg q, if_neg q']
        exact fin _ _ z3
