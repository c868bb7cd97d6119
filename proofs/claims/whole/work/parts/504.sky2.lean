/-! measuring, lifting, putting -/
theorem yA_boA {Y C R B M F : Nat → Int32} {mb mm mf : Int32} {nb nm nf : Nat} (h : yA Y C mb mm mf R B M F nb nm nf) : boA B nb := by
  obtain ⟨⟨h5, h6, h6'⟩, ⟨c1, c2, c3⟩, ⟨e1, e2, e3⟩, hr, hbo, hma, hfa, rb, rm, rf, r0, r1, r2⟩ := h
  exact fun b hb => (rb b hb).2
theorem yA_maA {Y C R B M F : Nat → Int32} {mb mm mf : Int32} {nb nm nf : Nat} (h : yA Y C mb mm mf R B M F nb nm nf) : maA M nm := by
  obtain ⟨⟨h5, h6, h6'⟩, ⟨c1, c2, c3⟩, ⟨e1, e2, e3⟩, hr, hbo, hma, hfa, rb, rm, rf, r0, r1, r2⟩ := h
  exact fun b hb => (rm b hb).2
theorem yA_faA {Y C R B M F : Nat → Int32} {mb mm mf : Int32} {nb nm nf : Nat} (h : yA Y C mb mm mf R B M F nb nm nf) : faA F nf := by
  obtain ⟨⟨h5, h6, h6'⟩, ⟨c1, c2, c3⟩, ⟨e1, e2, e3⟩, hr, hbo, hma, hfa, rb, rm, rf, r0, r1, r2⟩ := h
  exact fun b hb => rf b hb
theorem s_fill {S : Nat → Int32} : ∃ S', f_J_fill_C23 S 0 = some S' ∧ ∀ j, j < 60 → S' j = 0 := by
  unfold f_J_fill_C23
  refine qlp1 (fun j (s : Int32 × (Nat → Int32)) => s.1 = nI j ∧ ∀ i, i < j → s.2 i = 0) (fun r => ∃ S', r = some S' ∧ ∀ j, j < 60 → S' j = 0) (n := 60) (fun j s hj hq => Or.inl ⟨(nI (j + 1), upd s.2 j 0), ?_, rfl, fun i hi => ?_⟩) (fun s hq => ⟨s.2, oLp_out ?_, hq.2⟩) (j := 0) (s := ((0 : Int32), S)) (by omega) ⟨rfl, fun i hi => absurd hi (by omega)⟩
  · unfold f_J_fill_C23_L5
    rw [hq.1, if_neg (show ¬ (60 : Int32) ≤ nI j from nI_ge hj (by decide)), oI_nI (by omega) (by decide), nI_clamp (by omega)]
    unfold oL
    rw [nx_add]
  · show upd s.2 j 0 i = 0
    unfold upd
    by_cases e : i = j
    · rw [if_pos e]
    · rw [if_neg e]
      exact hq.2 i (by omega)
  · unfold f_J_fill_C23_L5
    rw [hq.1, if_pos (show (60 : Int32) ≤ nI 60 from nI_le (Nat.le_refl 60) (by decide))]
theorem s_index {Y C R B M F : Nat → Int32} {mb mm mf : Int32} {nb nm nf b m : Nat} (h : yA Y C mb mm mf R B M F nb nm nf) (hb : b < nb) (hm : m < nm) : ∃ p k : Nat, p < 10 ∧ k < 6 ∧ B (2 * b + 1) = nI p ∧ M (3 * m + 1) = nI k ∧ f_Sky_indexOf Y (nI b) (nI m) = some (nI (p * 6 + k)) := by
  obtain ⟨⟨h5, h6, h6'⟩, ⟨c1, c2, c3⟩, ⟨e1, e2, e3⟩, hr, hbo, hma, hfa, rb, rm, rf, r0, r1, r2⟩ := h
  obtain ⟨p, hp, ep⟩ := (rb b hb).2
  obtain ⟨k, hk, ek⟩ := (rm m hm).2.1
  refine ⟨p, k, by omega, by omega, ep, ek, ?_⟩
  unfold f_Sky_indexOf
  rw [y_boyPlace (by omega), bind_some', y_kind (by omega), bind_some', hbo b 1 hb (by omega), hma m 1 hm (by omega), ep, ek, nx_mul, nI_add]
theorem s_sound {Y C R B M F : Nat → Int32} {mb mm mf c : Int32} {nb nm nf m : Nat} (h : yA Y C mb mm mf R B M F nb nm nf) (hm : m < nm) : f_Now_soundSize_C13 Y c (nI m) = some (wo (M (3 * m + 2)) (hs c (nI m))) := by
  obtain ⟨⟨h5, h6, h6'⟩, ⟨c1, c2, c3⟩, ⟨e1, e2, e3⟩, hr, hbo, hma, hfa, rb, rm, rf, r0, r1, r2⟩ := h
  rw [n_soundSize (by omega), hma m 2 hm (by omega)]
theorem stC_at {M B O : Nat → Int32} {c : Int32} {m b p k p' k' : Nat} (ho : O m = nI b) (hb : b < 5) (hB : B (2 * b + 1) = nI p) (hK : M (3 * m + 1) = nI k) (hp : p < 10) (hk : k < 6) (hp' : p' < 10) (hk' : k' < 6) : stC M B O c (nI p') (nI k') m = if p' * 6 + k' = p * 6 + k then wo (M (3 * m + 2)) (hs c (nI m)) else 0 := by
  unfold stC
  have hne : ¬ O m = -1 := by rw [ho]; exact m1_ne (by omega)
  rw [if_neg hne, ho, nI_clamp (by omega), hB, hK]
  by_cases e : p' * 6 + k' = p * 6 + k
  · have e1 : k' = k := by omega
    have e2 : p' = p := by omega
    subst e1
    subst e2
    rw [if_pos rfl, if_pos rfl, if_pos rfl]
  · rw [if_neg e]
    by_cases e1 : k = k'
    · subst e1
      rw [if_pos rfl, if_neg]
      intro q
      have := nI_inj (by omega) (by omega) q
      omega
    · rw [if_neg]
      intro q
      have := nI_inj (by omega) (by omega) q
      omega
theorem s_measure {Y C R B M F O W : Nat → Int32} {mb mm mf c : Int32} {nb nm nf : Nat} {S : Nat → Int32} (h : yA Y C mb mm mf R B M F nb nm nf) (hO : ∀ m, m < nm → O m = W m) (hW : owA W nb nm) : ∃ S', f_Sky_measure Y C (nI nm) c O S = some S' ∧ skA S' M B W c nm := by
  have hY := h
  obtain ⟨⟨h5, h6, h6'⟩, ⟨c1, c2, c3⟩, ⟨e1, e2, e3⟩, hr, hbo, hma, hfa, rb, rm, rf, r0, r1, r2⟩ := h
  unfold f_Sky_measure
  obtain ⟨S0, hS0, hz⟩ := s_fill (S := S)
  rw [hS0, bind_some']
  refine qlp1 (fun j (s : Int32 × (Nat → Int32)) => s.1 = nI j ∧ ∀ p k : Nat, p < 10 → k < 6 → s.2 (p * 6 + k) = stS M B W c (nI p) (nI k) j) (fun r => ∃ S', r = some S' ∧ skA S' M B W c nm) (n := nm) (fun j s hj hq => Or.inl ?_) (fun s hq => ⟨s.2, oLp_out ?_, hq.2⟩) (j := 0) (by omega) ⟨rfl, fun p k hp hk => hz _ (by omega)⟩
  · obtain ⟨s1, S'⟩ := s
    obtain ⟨hs1, hs'⟩ := hq
    dsimp only at hs1 hs'
    subst hs1
    unfold f_Sky_measure_L10
    dsimp only
    rw [y_marbles, bind_some', c2, if_neg (nI_ge hj (by omega)), n_isDrained hj h6, bind_some', n_ownerOf hj h6, bind_some', hO j hj, s_sound hY hj]
    rcases hW j hj with ho | ⟨b, hb, ho⟩
    · refine ⟨(nI (j + 1), S'), ?_, rfl, fun p k hp hk => ?_⟩
      · rw [if_pos ho, if_neg (by decide)]
        unfold f_Sky_measure_J65
        rw [nx_add]
      · show _ = stS M B W c (nI p) (nI k) j + stC M B W c (nI p) (nI k) j
        dsimp only
        rw [hs' p k hp hk]
        unfold stC
        rw [if_pos ho, Int32.add_zero]
    · have hne : ¬ W j = -1 := by rw [ho]; exact m1_ne (by omega)
      obtain ⟨p0, k0, hp0, hk0, ep, ek, ei⟩ := s_index hY hb hj
      refine ⟨(nI (j + 1), upd S' (p0 * 6 + k0) (S' (p0 * 6 + k0) + wo (M (3 * j + 2)) (hs c (nI j)))), ?_, rfl, fun p k hp hk => ?_⟩
      · rw [if_neg hne, if_pos rfl, ho, ei, bind_some', oI_nI (by omega) (by decide), bind_some', oI_nI (by omega) (by decide), nI_clamp (by omega)]
        unfold oL f_Sky_measure_J65
        rw [nx_add]
      · show _ = stS M B W c (nI p) (nI k) j + stC M B W c (nI p) (nI k) j
        dsimp only
        rw [stC_at ho (by omega) ep ek hp0 hk0 hp hk]
        unfold upd
        by_cases e : p * 6 + k = p0 * 6 + k0
        · rw [if_pos e, if_pos e, ← e, hs' p k hp hk]
        · rw [if_neg e, if_neg e, hs' p k hp hk, Int32.add_zero]
  · unfold f_Sky_measure_L10
    rw [hq.1, y_marbles, bind_some', c2, if_pos (nI_le (Nat.le_refl nm) (by omega))]
/-! a marble moved -/
theorem stS_upd {M B O : Nat → Int32} {c p k x : Int32} {m n : Nat} : stS M B (upd O m x) c p k n = stS M B (upd O m (-1)) c p k n + (if m < n then stC M B (upd O m x) c p k m else 0) := by
  induction n with
  | zero =>
    rw [if_neg (by omega), Int32.add_zero]
    rfl
  | succ n ih =>
    show stS M B (upd O m x) c p k n + stC M B (upd O m x) c p k n = stS M B (upd O m (-1)) c p k n + stC M B (upd O m (-1)) c p k n + _
    rw [ih]
    have hz : stC M B (upd O m (-1)) c p k m = 0 := by
      unfold stC upd
      rw [if_pos (by rw [if_pos rfl])]
    by_cases e : m = n
    · subst e
      rw [if_neg (by omega), if_pos (by omega), hz, Int32.add_zero]
      try rw [Int32.add_zero]
    · have hc : stC M B (upd O m x) c p k n = stC M B (upd O m (-1)) c p k n := by
        unfold stC upd
        rw [if_neg (show ¬ n = m by omega), if_neg (show ¬ n = m by omega)]
      rw [hc]
      by_cases e2 : m < n
      · rw [if_pos e2, if_pos (by omega), Int32.add_assoc, Int32.add_assoc, Int32.add_comm (stC M B (upd O m x) c p k m)]
      · rw [if_neg e2, if_neg (by omega), Int32.add_zero, Int32.add_zero]
theorem upd_id {O : Nat → Int32} {m : Nat} {x : Int32} (h : O m = x) : upd O m x = O := by
  funext j
  unfold upd
  by_cases e : j = m
  · rw [if_pos e, e, h]
  · rw [if_neg e]
theorem upd_upd {O : Nat → Int32} {m : Nat} {x y : Int32} : upd (upd O m x) m y = upd O m y := by
  funext j
  unfold upd
  by_cases e : j = m
  · rw [if_pos e, if_pos e]
  · rw [if_neg e, if_neg e, if_neg e]
theorem upd_at {O : Nat → Int32} {m : Nat} {x : Int32} : upd O m x m = x := if_pos rfl
theorem upd_ne {O : Nat → Int32} {m j : Nat} {x : Int32} (h : j ≠ m) : upd O m x j = O j := if_neg h
theorem s_lift {Y C R B M F O : Nat → Int32} {mb mm mf c : Int32} {nb nm nf b m : Nat} {S : Nat → Int32} (h : yA Y C mb mm mf R B M F nb nm nf) (hS : skA S M B O c nm) (hm : m < nm) (hb : b < nb) (ho : O m = nI b) : ∃ S', f_Sky_lift Y c S (nI m) (nI b) = some S' ∧ skA S' M B (upd O m (-1)) c nm := by
  have h5 : nb ≤ 5 := h.1.1
  obtain ⟨p0, k0, hp0, hk0, ep, ek, ei⟩ := s_index h hb hm
  refine ⟨upd S (p0 * 6 + k0) (S (p0 * 6 + k0) - wo (M (3 * m + 2)) (hs c (nI m))), ?_, fun p k hp hk => ?_⟩
  · unfold f_Sky_lift
    rw [ei, bind_some', oI_nI (by omega) (by decide), s_sound h hm, bind_some', oI_nI (by omega) (by decide), nI_clamp (by omega)]
    rfl
  · have e1 := hS p k hp hk
    rw [← upd_id ho, stS_upd, if_pos hm, upd_id ho, stC_at ho (by omega) ep ek hp0 hk0 hp hk] at e1
    unfold upd
    by_cases e : p * 6 + k = p0 * 6 + k0
    · rw [if_pos e, ← e, e1, if_pos e, Int32.add_sub_cancel]
      rfl
    · rw [if_neg e, e1, if_neg e, Int32.add_zero]
      rfl
theorem s_put {Y C R B M F O : Nat → Int32} {mb mm mf c : Int32} {nb nm nf b m : Nat} {S : Nat → Int32} (h : yA Y C mb mm mf R B M F nb nm nf) (hS : skA S M B (upd O m (-1)) c nm) (hm : m < nm) (hb : b < nb) : ∃ S', f_Sky_put Y c S (nI m) (nI b) = some S' ∧ skA S' M B (upd O m (nI b)) c nm := by
  have h5 : nb ≤ 5 := h.1.1
  obtain ⟨p0, k0, hp0, hk0, ep, ek, ei⟩ := s_index h hb hm
  refine ⟨upd S (p0 * 6 + k0) (S (p0 * 6 + k0) + wo (M (3 * m + 2)) (hs c (nI m))), ?_, fun p k hp hk => ?_⟩
  · unfold f_Sky_put
    rw [ei, bind_some', oI_nI (by omega) (by decide), s_sound h hm, bind_some', oI_nI (by omega) (by decide), nI_clamp (by omega)]
    rfl
  · have e1 := hS p k hp hk
    rw [stS_upd, if_pos hm, stC_at (upd_at) (by omega) ep ek hp0 hk0 hp hk]
    unfold upd at e1 ⊢
    by_cases e : p * 6 + k = p0 * 6 + k0
    · rw [if_pos e, if_pos e, ← e, e1]
    · rw [if_neg e, if_neg e, e1, Int32.add_zero]
theorem s_move {Y C R B M F O : Nat → Int32} {mb mm mf c : Int32} {nb nm nf b b' m : Nat} {S : Nat → Int32} (h : yA Y C mb mm mf R B M F nb nm nf) (hS : skA S M B O c nm) (hm : m < nm) (hb : b < nb) (hb' : b' < nb) (ho : O m = nI b) : ∃ S', f_Sky_move Y c S (nI m) (nI b) (nI b') = some S' ∧ skA S' M B (upd O m (nI b')) c nm := by
  obtain ⟨S1, h1, k1⟩ := s_lift h hS hm hb ho
  obtain ⟨S2, h2, k2⟩ := s_put h k1 hm hb'
  refine ⟨S2, ?_, k2⟩
  unfold f_Sky_move
  rw [h1, bind_some', h2, bind_some']
