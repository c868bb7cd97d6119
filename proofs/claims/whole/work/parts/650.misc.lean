/-! corner, liking, trades, shares -/
theorem q_corner {Y C R B M F O W : Nat → Int32} {mb mm mf : Int32} {nb nm nf : Nat} {As Ac Mh : Int32} {Ad Al Kc Kv Kl Kt Kf Ku : Nat → Int32} {w : Option ((Nat → Int32) → Int32)} {p0 : Int32} (x : cx Y C R B M F O W mb mm mf nb nm nf As Ac Mh Ad Al Kc Kv Kl Kt Kf Ku w) : ∃ v, f_Main_corner Y C (nI nm) O p0 = some v ∧ f_M_corner mm M W p0 = some v := by
  have h := x.1
  obtain ⟨⟨h5, h6, h6'⟩, ⟨c1, c2, c3⟩, ⟨e1, e2, e3⟩, hr, hbo, hma, hfa, rb, rm, rf, r0, r1, r2⟩ := h
  subst e2
  have hO := x.2.1
  unfold f_Main_corner f_M_corner
  rw [isKind_in, bind_some']
  rcases inB_cases p0 (n := 6) (by decide) with ⟨e, hn⟩ | ⟨j, hj, rfl, e⟩
  · have hm : oLp (f_M_corner_L10 (nI nm) M W p0) (-1, 0, 0) = some (-1) := by
      refine oLp_out ?_
      unfold f_M_corner_L10 f_M_corner_J87
      dsimp only
      split <;> rfl
    rw [e, hm]
    by_cases h0 : p0 < 0
    · rw [if_pos h0]
      exact ⟨_, rfl, rfl⟩
    · rw [if_neg h0, if_neg]
      · exact ⟨_, rfl, rfl⟩
      · intro q
        rcases ix_cases p0 (n := 6) (by decide) with r | ⟨j, hj, e⟩
        · exact r ⟨h0, q⟩
        · exact hn j hj e
  · rw [e, if_neg (nI_lt0 (by omega)), if_pos (show nI j < 6 from nI_lt hj (by decide))]
    refine qlp2 (fun m (s : Int32 × Int32) (s' : Int32 × Int32 × Int32) => ∃ b : Int32, s = (b, nI m) ∧ s' = (b, 1, nI m)) (fun r r' => ∃ v, r = some v ∧ r' = some v) (n := nm) ?_ ?_ (j := 0) (by omega) ⟨-1, rfl, rfl⟩
    · rintro m s s' hm ⟨b, rfl, rfl⟩
      have eC : f_Main_corner_L16 Y C (nI nm) O (nI j) (b, nI m) = if M (3 * m + 1) = nI j then (if W m = -1 then some (.inl (b, nI (m + 1))) else if b = -1 then some (.inl (W m, nI (m + 1))) else if b = W m then some (.inl (W m, nI (m + 1))) else some (.inr (-1))) else some (.inl (b, nI (m + 1))) := by
        unfold f_Main_corner_L16 f_Main_corner_J72 f_Main_corner_J81
        dsimp only
        rw [y_marbles, bind_some', c2, if_neg (nI_ge hm (by omega)), y_kind (by omega), bind_some', hma m 1 hm (by omega), n_isDrained hm h6, bind_some', n_ownerOf hm h6, bind_some', bind_some', hO m hm, nx_add]
        by_cases z : W m = -1
        · rw [if_pos z, if_neg d10, if_pos z]
        · rw [if_neg z, if_pos rfl, if_neg z]
      have eM : f_M_corner_L10 (nI nm) M W (nI j) (b, 1, nI m) = if M (3 * m + 1) = nI j then (if W m = -1 then some (.inl (b, 1, nI (m + 1))) else if b = -1 then some (.inl (W m, 1, nI (m + 1))) else if b = W m then some (.inl (W m, 1, nI (m + 1))) else some (.inl (W m, 0, nI (m + 1)))) else some (.inl (b, 1, nI (m + 1))) := by
        unfold f_M_corner_L10 f_M_corner_J65 f_M_corner_J70 f_M_corner_J81
        dsimp only
        rw [if_neg (nI_ge hm (by omega)), if_neg d10, m_of1 (by omega), bind_some', nx_zadd, oI_nI (j := m) (n := 131) (by omega) (by decide), nI_clamp (n := m) (by omega), oI_nI (j := m) (n := 131) (by omega) (by decide), oI_nI (j := m) (n := 131) (by omega) (by decide), oI_nI (j := m) (n := 131) (by omega) (by decide), nx_add]
        rfl
      by_cases z1 : M (3 * m + 1) = nI j
      · rw [if_pos z1] at eC eM
        by_cases z2 : W m = -1
        · rw [if_pos z2] at eC eM
          exact Or.inl ⟨_, _, eC, eM, b, rfl, rfl⟩
        · rw [if_neg z2] at eC eM
          by_cases z3 : b = -1
          · rw [if_pos z3] at eC eM
            exact Or.inl ⟨_, _, eC, eM, W m, rfl, rfl⟩
          · rw [if_neg z3] at eC eM
            by_cases z4 : b = W m
            · rw [if_pos z4] at eC eM
              exact Or.inl ⟨_, _, eC, eM, W m, rfl, rfl⟩
            · rw [if_neg z4] at eC eM
              refine Or.inr ⟨-1, oLp_out eC, ?_⟩
              rw [oLp_go eM]
              refine oLp_out ?_
              unfold f_M_corner_L10 f_M_corner_J87
              dsimp only
              split <;> rfl
      · rw [if_neg z1] at eC eM
        exact Or.inl ⟨_, _, eC, eM, b, rfl, rfl⟩
    · rintro s s' ⟨b, rfl, rfl⟩
      refine ⟨b, oLp_out ?_, oLp_out ?_⟩
      · unfold f_Main_corner_L16
        dsimp only
        rw [y_marbles, bind_some', c2, if_pos (nI_le (Nat.le_refl nm) (by omega))]
      · unfold f_M_corner_L10 f_M_corner_J87
        dsimp only
        rw [if_pos (nI_le (Nat.le_refl nm) (by omega)), if_neg d10]
        rfl
def lkB (B M F : Nat → Int32) (b m : Nat) : Nat → Bool
  | 0 => false
  | j + 1 => lkB B M F b m j || (decide (F (3 * j) = B (2 * b + 1)) && decide (F (3 * j + 1) = M (3 * m + 1)))
def lkV (B M F : Nat → Int32) (c : Int32) (nf b m : Nat) : Int32 := wo (M (3 * m + 2)) (hs c (nI m)) + (if lkB B M F b m nf = true then 5 else 0)
theorem c_liking {Y C R B M F : Nat → Int32} {mb mm mf c : Int32} {nb nm nf b m : Nat} (h : yA Y C mb mm mf R B M F nb nm nf) (hb : b < nb) (hm : m < nm) : f_Main_likingFor Y C c (nI b) (nI m) = some (lkV B M F c nf b m) := by
  have hY := h
  obtain ⟨⟨h5, h6, h6'⟩, ⟨c1, c2, c3⟩, ⟨e1, e2, e3⟩, hr, hbo, hma, hfa, rb, rm, rf, r0, r1, r2⟩ := h
  unfold f_Main_likingFor
  refine oLp_for (fun j => (if lkB B M F b m j = true then (1 : Int32) else 0, nI j)) (i := 0) (n := nf) (by omega) (fun j _ hj => ?_) ?_
  · unfold f_Main_likingFor_L5 f_Main_likingFor_J62 f_Main_likingFor_J63
    dsimp only
    rw [y_farms, bind_some', c3, if_neg (nI_ge hj (by omega)), y_farmPlace (by omega), bind_some', y_boyPlace (by omega), bind_some', y_wanted (by omega), bind_some', y_kind (by omega), bind_some', show Y ((12 + j) * 3) = F (3 * j) from hfa j 0 hj (by omega), hbo b 1 hb (by omega), hfa j 1 hj (by omega), hma m 1 hm (by omega), nx_add]
    by_cases hq : lkB B M F b m j = true <;> by_cases z1 : F (3 * j) = B (2 * b + 1) <;> by_cases z2 : F (3 * j + 1) = M (3 * m + 1) <;> simp [oL, lkB, hq, z1, z2]
  · unfold f_Main_likingFor_L5 lkV
    dsimp only
    rw [y_farms, bind_some', c3, if_pos (nI_le (Nat.le_refl nf) (by omega)), s_sound hY hm, bind_some']
    cases lkB B M F b m nf <;> rfl
theorem m_liking {Y C R B M F W : Nat → Int32} {mb mm mf : Int32} {nb nm nf b m : Nat} (h : yA Y C mb mm mf R B M F nb nm nf) (hb : b < nb) (hm : m < nm) : f_M_likingOf (nI nf) B M F W (nI b) (nI m) = some (lkV B M F (W 6) nf b m) := by
  obtain ⟨⟨h5, h6, h6'⟩, ⟨c1, c2, c3⟩, ⟨e1, e2, e3⟩, hr, hbo, hma, hfa, rb, rm, rf, r0, r1, r2⟩ := h
  obtain ⟨v, hv, ev⟩ := (rm m hm).2.2
  unfold f_M_likingOf
  refine oLp_for (fun j => (if lkB B M F b m j = true then (5 : Int32) else 0, nI j)) (i := 0) (n := nf) (by omega) (fun j _ hj => ?_) ?_
  · unfold f_M_likingOf_L5 f_M_likingOf_J54 f_M_likingOf_J55
    dsimp only
    rw [if_neg (nI_ge hj (by omega)), m_ofF0 (by omega), bind_some', m_ofF1 (by omega), bind_some', m_of1 (by omega), bind_some', nx_mull, nx_add, oI_nI (j := 2 * b + 1) (n := 10) (by omega) (by decide), nI_clamp (n := 2 * b + 1) (by omega), nx_add]
    by_cases hq : lkB B M F b m j = true <;> by_cases z1 : F (3 * j) = B (2 * b + 1) <;> by_cases z2 : F (3 * j + 1) = M (3 * m + 1) <;> simp [lkB, hq, z1, z2]
  · unfold f_M_likingOf_L5 lkV
    dsimp only
    rw [if_pos (nI_le (Nat.le_refl nf) (by omega)), m_worthNow (by omega) ev hv, bind_some']
    rfl
theorem q_liking {Y C R B M F O W : Nat → Int32} {mb mm mf : Int32} {nb nm nf : Nat} {As Ac Mh : Int32} {Ad Al Kc Kv Kl Kt Kf Ku : Nat → Int32} {w : Option ((Nat → Int32) → Int32)} {p0 p1 : Int32} (x : cx Y C R B M F O W mb mm mf nb nm nf As Ac Mh Ad Al Kc Kv Kl Kt Kf Ku w) : ∃ v, f_Main_liking Y C (W 6) p0 p1 = some v ∧ f_M_liking mb mm mf B M F W p0 p1 = some v := by
  have h := x.1
  have hY := h
  obtain ⟨⟨h5, h6, h6'⟩, ⟨c1, c2, c3⟩, ⟨e1, e2, e3⟩, hr, hbo, hma, hfa, rb, rm, rf, r0, r1, r2⟩ := h
  subst e1 e2 e3
  unfold f_Main_liking f_M_liking
  rw [y_hasBoy c1, bind_some', m_isBoy (by omega), bind_some', y_hasMarble c2, bind_some', m_isMarble (by omega), bind_some']
  rcases inB_cases p0 (n := nb) (by omega) with ⟨e, hn⟩ | ⟨b, hb, rfl, e⟩
  · rw [e]
    exact ⟨_, rfl, rfl⟩
  · rw [e, if_neg d10, if_neg d10]
    rcases inB_cases p1 (n := nm) (by omega) with ⟨e, hn⟩ | ⟨m, hm, rfl, e⟩
    · rw [e]
      exact ⟨_, rfl, rfl⟩
    · rw [e, if_neg d10, if_neg d10, c_liking hY hb hm, m_liking hY hb hm]
      exact ⟨_, rfl, rfl⟩
theorem q_both {Y C R B M F O W : Nat → Int32} {mb mm mf : Int32} {nb nm nf : Nat} {As Ac Mh : Int32} {Ad Al Kc Kv Kl Kt Kf Ku : Nat → Int32} {w : Option ((Nat → Int32) → Int32)} {m o : Nat} (x : cx Y C R B M F O W mb mm mf nb nm nf As Ac Mh Ad Al Kc Kv Kl Kt Kf Ku w) (hm : m < nm) (ho : o < nm) : ∃ r, f_Main_bothWouldSwap Y C (nI nm) (W 6) (W 7) O (nI m) (nI o) = some r ∧ f_M_isTrade (nI nm) (nI nf) B M F W (nI m) (nI o) = some r := by
  have hY := x.1
  have h6 : nm ≤ 6 := hY.1.2.1
  unfold f_Main_bothWouldSwap f_M_isTrade
  rw [l_refusal x, bind_some', m_whyNot h6, bind_some', whP_11]
  by_cases z : whN W nm (nI m) (nI o) = -1
  · obtain ⟨m', o', b, b', hm', ho', hmo, em, eo, hb, hb', hbb, wm, wo'⟩ := whN_m1 h6 x.2.2.1 z
    have := nI_inj (show m < 2 ^ 31 by omega) (show m' < 2 ^ 31 by omega) em
    subst this
    have := nI_inj (show o < 2 ^ 31 by omega) (show o' < 2 ^ 31 by omega) eo
    subst this
    have om : O m = nI b := (x.2.1 m hm).trans wm
    have oo : O o = nI b' := (x.2.1 o ho).trans wo'
    rw [if_pos z, if_pos z, n_ownerOf hm h6, bind_some', n_ownerOf ho h6, bind_some', om, oo, nx_zadd, nx_zadd, oI_nI (j := m) (n := 131) (by omega) (by decide), nI_clamp (n := m) (by omega), nI_clamp (n := o) (by omega)]
    simp only [oL]
    rw [oI_nI (j := o) (n := 131) (by omega) (by decide), wm, wo', c_liking hY hb ho, c_liking hY hb hm, c_liking hY hb' hm, c_liking hY hb' ho, m_liking hY hb ho, m_liking hY hb hm, m_liking hY hb' hm, m_liking hY hb' ho]
    simp only [bind_some']
    split
    · exact ⟨_, rfl, rfl⟩
    · split
      · exact ⟨_, rfl, rfl⟩
      · exact ⟨_, rfl, rfl⟩
  · rw [if_neg z, if_neg z]
    exact ⟨_, rfl, rfl⟩
theorem lt_m1 {p : Int32} {n : Nat} (hn : n < 2 ^ 31) (h : nI n = p) : ¬ p < -1 := by
  rw [← h, Int32.lt_iff_toInt_lt, nI_toInt hn]
  have : (-1 : Int32).toInt = -1 := (by decide)
  omega
theorem q_trades {Y C R B M F O W : Nat → Int32} {mb mm mf : Int32} {nb nm nf : Nat} {As Ac Mh : Int32} {Ad Al Kc Kv Kl Kt Kf Ku : Nat → Int32} {w : Option ((Nat → Int32) → Int32)} {p0 : Int32} (x : cx Y C R B M F O W mb mm mf nb nm nf As Ac Mh Ad Al Kc Kv Kl Kt Kf Ku w) : ∃ v, f_Main_trades Y C (nI nm) (W 6) (W 7) O p0 = some v ∧ f_M_trades mm mf B M F W p0 = some v := by
  have h := x.1
  obtain ⟨⟨h5, h6, h6'⟩, ⟨c1, c2, c3⟩, ⟨e1, e2, e3⟩, hr, hbo, hma, hfa, rb, rm, rf, r0, r1, r2⟩ := h
  subst e2 e3
  unfold f_Main_trades f_M_trades
  rw [y_stands c2 (by omega), bind_some']
  by_cases hz : nm = 0
  · rw [if_pos hz, if_pos ((stands_m h6).mpr hz)]
    exact ⟨_, rfl, rfl⟩
  · rw [if_neg hz, if_neg d10, if_neg (fun q => hz ((stands_m h6).mp q))]
    have key : ∃ v, oLp (f_Main_trades_L16 Y C (nI nm) (W 6) (W 7) O p0) (0, 0) = some v ∧ oLp (f_M_trades_L18 (nI nm) (nI nf) B M F W p0) (0, 0) = some v ∧ (p0 < -1 → v = -1) := by
      refine qlp2 (fun m (s s' : Int32 × Int32) => ∃ n : Nat, n ≤ 10 * m ∧ s = (nI n, nI m) ∧ s' = (nI n, nI m)) (fun r r' => ∃ v, r = some v ∧ r' = some v ∧ (p0 < -1 → v = -1)) (n := nm) ?_ ?_ (j := 0) (by omega) ⟨0, (by omega), rfl, rfl⟩
      · rintro m s s' hm ⟨n, hn, rfl, rfl⟩
        have eC : f_Main_trades_L16 Y C (nI nm) (W 6) (W 7) O p0 (nI n, nI m) = oLp (f_Main_trades_L32 Y C (nI nm) (W 6) (W 7) O p0 (nI m)) (nI n, nI (m + 1)) := by
          unfold f_Main_trades_L16
          dsimp only
          rw [y_marbles, bind_some', c2, if_neg (nI_ge hm (by omega)), nx_add]
          rfl
        have eM : f_M_trades_L18 (nI nm) (nI nf) B M F W p0 (nI n, nI m) = oLp (f_M_trades_L31 (nI nm) (nI nf) B M F W p0 (nI m)) (nI n, nI (m + 1)) := by
          unfold f_M_trades_L18
          dsimp only
          rw [if_neg (nI_ge hm (by omega)), nx_add]
          rfl
        have inner : (∃ n' : Nat, n' ≤ 10 * (m + 1) ∧ oLp (f_Main_trades_L32 Y C (nI nm) (W 6) (W 7) O p0 (nI m)) (nI n, nI (m + 1)) = some (.inl (nI n', nI (m + 1))) ∧ oLp (f_M_trades_L31 (nI nm) (nI nf) B M F W p0 (nI m)) (nI n, nI (m + 1)) = some (.inl (nI n', nI (m + 1)))) ∨ ∃ v, oLp (f_Main_trades_L32 Y C (nI nm) (W 6) (W 7) O p0 (nI m)) (nI n, nI (m + 1)) = some (.inr v) ∧ oLp (f_M_trades_L31 (nI nm) (nI nf) B M F W p0 (nI m)) (nI n, nI (m + 1)) = some (.inr v) ∧ ¬ p0 < -1 := by
          refine qlp2 (fun j (s s' : Int32 × Int32) => ∃ n1 : Nat, n1 ≤ n + j ∧ s = (nI n1, nI (m + 1 + j)) ∧ s' = (nI n1, nI (m + 1 + j))) (fun (r r' : Option ((Int32 × Int32) ⊕ Int32)) => (∃ n' : Nat, n' ≤ 10 * (m + 1) ∧ r = some (.inl (nI n', nI (m + 1))) ∧ r' = some (.inl (nI n', nI (m + 1)))) ∨ ∃ v, r = some (.inr v) ∧ r' = some (.inr v) ∧ ¬ p0 < -1) (n := nm - (m + 1)) ?_ ?_ (j := 0) (by omega) ⟨n, (by omega), rfl, rfl⟩
          · rintro j s s' hj ⟨n1, hn1, rfl, rfl⟩
            obtain ⟨r, r1, r2⟩ := q_both x hm (show m + 1 + j < nm by omega)
            unfold f_Main_trades_L32 f_M_trades_L31 f_Main_trades_J70 f_M_trades_J66
            have bC : f_Main_trades_L32 Y C (nI nm) (W 6) (W 7) O p0 (nI m) (nI n1, nI (m + 1 + j)) = if r = 0 then some (.inl (nI n1, nI (m + 1 + (j + 1)))) else if nI n1 = p0 then some (.inr (.inr (10 * nI m + nI (m + 1 + j)))) else some (.inl (nI (n1 + 1), nI (m + 1 + (j + 1)))) := by
              unfold f_Main_trades_L32 f_Main_trades_J70
              dsimp only
              rw [y_marbles, bind_some', c2, if_neg (nI_ge (show m + 1 + j < nm by omega) (by omega)), r1, bind_some', nx_add, nx_add]
              rfl
            have bM : f_M_trades_L31 (nI nm) (nI nf) B M F W p0 (nI m) (nI n1, nI (m + 1 + j)) = if r = 0 then some (.inl (nI n1, nI (m + 1 + (j + 1)))) else if nI n1 = p0 then some (.inr (.inr (10 * nI m + nI (m + 1 + j)))) else some (.inl (nI (n1 + 1), nI (m + 1 + (j + 1)))) := by
              unfold f_M_trades_L31 f_M_trades_J66
              dsimp only
              rw [if_neg (nI_ge (show m + 1 + j < nm by omega) (by omega)), r2, bind_some', nx_add, nx_add]
              rfl
            by_cases z : r = 0
            · rw [if_pos z] at bC bM
              exact Or.inl ⟨_, _, bC, bM, n1, (by omega), rfl, rfl⟩
            · rw [if_neg z] at bC bM
              by_cases z2 : nI n1 = p0
              · rw [if_pos z2] at bC bM
                exact Or.inr (Or.inr ⟨_, oLp_out bC, oLp_out bM, lt_m1 (show n1 < 2 ^ 31 by omega) z2⟩)
              · rw [if_neg z2] at bC bM
                exact Or.inl ⟨_, _, bC, bM, n1 + 1, (by omega), rfl, rfl⟩
          · rintro s s' ⟨n1, hn1, rfl, rfl⟩
            rw [show m + 1 + (nm - (m + 1)) = nm by omega]
            refine Or.inl ⟨n1, (by omega), oLp_out ?_, oLp_out ?_⟩
            · unfold f_Main_trades_L32
              dsimp only
              rw [y_marbles, bind_some', c2, if_pos (nI_le (Nat.le_refl nm) (by omega)), nx_add]
              rfl
            · unfold f_M_trades_L31
              dsimp only
              rw [if_pos (nI_le (Nat.le_refl nm) (by omega)), nx_add]
              rfl
        rcases inner with ⟨n', hn', i1, i2⟩ | ⟨v, i1, i2, i3⟩
        · exact Or.inl ⟨_, _, eC.trans i1, eM.trans i2, n', hn', rfl, rfl⟩
        · exact Or.inr ⟨v, oLp_out (eC.trans i1), oLp_out (eM.trans i2), fun q => absurd q i3⟩
      · rintro s s' ⟨n, hn, rfl, rfl⟩
        have eC : f_Main_trades_L16 Y C (nI nm) (W 6) (W 7) O p0 (nI n, nI nm) = some (.inr (if p0 = -1 then nI n else -1)) := by
          unfold f_Main_trades_L16
          dsimp only
          rw [y_marbles, bind_some', c2, if_pos (nI_le (Nat.le_refl nm) (by omega))]
          split <;> rfl
        have eM : f_M_trades_L18 (nI nm) (nI nf) B M F W p0 (nI n, nI nm) = some (.inr (if p0 = -1 then nI n else -1)) := by
          unfold f_M_trades_L18
          dsimp only
          rw [if_pos (nI_le (Nat.le_refl nm) (by omega))]
          split <;> rfl
        refine ⟨_, oLp_out eC, oLp_out eM, fun q => if_neg (fun e => ?_)⟩
        rw [e] at q
        exact absurd q (by decide)
    obtain ⟨v, k1, k2, k3⟩ := key
    rw [k1]
    by_cases hp : (-1 : Int32) ≤ p0
    · rw [if_pos hp, k2]
      exact ⟨v, rfl, rfl⟩
    · rw [if_neg hp, k3 (i_nle hp)]
      exact ⟨_, rfl, rfl⟩
