/-! an atom -/
theorem p_atom {t n d h hh : Nat} {T X : Nat → Int32} {RR : tyC} {RM : tyM} (ht : tpA t T X) (hn : n < 5) (hd : d ≤ 6) (h2 : 2 ≤ h) (hhh : hh ≤ h) (hS : d < 6 → pS t n T X (d + 1) hh false RR RM) : pS t n T X d h false (f_LawR_readAtomB RR) (f_M_atomB RM) := by
  intro a g c G Cd Vl Co ha hg hc hCo
  have h240 := ht.1
  have hb1 := lk_ge (X := X) ha
  have hb2 := lk_le (X := X) ha
  have hbb := lk_lk (X := X) ha
  unfold f_LawR_readAtomB f_M_atomB
  rw [c_sign ht ha, m_look h240 ha, bind_some', bind_some']
  dsimp only
  rw [m_isDigit, bind_some']
  have hk := ch_kind (a := lk X t a) ht
  have hbyte := ch_byte (a := lk X t a) ht
  rcases dg_01 (ch X t (lk X t a)) with z | z
  · rw [z, if_pos rfl, m_letterOf, bind_some']
    rcases ltr_cases (ch X t (lk X t a)) with ⟨e, en⟩ | ⟨i, hi, e, e1, e2⟩
    · rw [e, if_pos rfl]
      by_cases h91 : ch X t (lk X t a) = 91
      · obtain ⟨hlt, _⟩ := ch_lt h91 (by decide)
        rw [if_pos h91, if_pos h91]
        by_cases hd6 : d = 6
        · subst hd6
          rw [if_neg (by decide)]
          unfold f_M_opens f_M_opens_J13
          rw [if_pos (show nI 6 = 6 from rfl), m_bad, bind_some']
          simp only [oL, bind_some', nx_add]
          rw [if_neg (m1_ne (by omega))]
          exact Or.inr ⟨lk X t a, lk X t a + 1, c, nI g, _, G, Cd, Vl, Co, rfl, rfl, ⟨(by omega), (by omega), (by omega), (by omega), (by omega)⟩, fr2_id hCo⟩
        · have hdl : d < 6 := (by omega)
          rw [if_pos (show nI d < 6 from nI_lt hdl (by decide))]
          unfold f_M_opens f_M_opens_J13 f_Tape_step
          rw [if_neg (show ¬ nI d = 6 from nx_neL (b := 6) hd6 (by omega) (by decide))]
          simp only [oL, bind_some', nx_add]
          rw [if_pos trivial]
          rcases hS hdl (lk X t a + 1) g c G Cd Vl Co (by omega) (by omega) (by omega) hCo with ⟨a', g', c', G', Cd', Vl', Co', x1, x2, x3, x4, x5, x6⟩ | ⟨p, x, c', g', dp, G', Cd', Vl', Co', x1, x2, x3, x4⟩
          · rw [x1, x2, bind_some', bind_some']
            dsimp only
            have hc1 := lk_ge (X := X) (show a' ≤ t by omega)
            have hc2 := lk_le (X := X) (show a' ≤ t by omega)
            rw [if_neg d10, c_takes ht (by omega), bind_some']
            unfold f_M_closes
            rw [if_pos rfl, m_look h240 (by omega), bind_some']
            dsimp only
            by_cases h93 : ch X t (lk X t a') = 93
            · obtain ⟨hlt2, _⟩ := ch_lt h93 (by decide)
              rw [if_pos h93, if_pos h93]
              dsimp only
              rw [if_neg d10]
              unfold f_M_closes_J20
              simp only [oL, bind_some', nx_add, nx_pre1]
              exact Or.inl ⟨lk X t a' + 1, g', c', G', Cd', Vl', Co', rfl, rfl, ⟨(by omega), (by omega), (by omega), (by omega), (by omega), (by omega)⟩, x4, x5, pEv_mono x6 hhh⟩
            · rw [if_neg h93, if_neg h93]
              dsimp only
              rw [if_pos rfl, m_bad, bind_some']
              unfold f_M_closes_J20
              simp only [oL, bind_some', nx_add, nx_pre1]
              exact Or.inr ⟨lk X t a', lk X t a' + 1, c', nI g', _, G', Cd', Vl', Co', rfl, rfl, ⟨(by omega), (by omega), (by omega), (by omega), (by omega)⟩, x5⟩
          · rw [x1, x2, bind_some', bind_some']
            dsimp only
            rw [if_pos rfl]
            unfold f_M_closes f_M_closes_J20
            rw [if_neg (m1_ne (show p < 2 ^ 31 by omega))]
            simp only [oL, bind_some', nx_add]
            exact Or.inr ⟨p, x + 1, c', g', _, G', Cd', Vl', Co', rfl, rfl, ⟨(by omega), (by omega), (by omega), (by omega), (by omega)⟩, x4⟩
      · rw [if_neg h91, if_neg h91, c_noLetter en, c_noNumber ht hb2 (by rw [hbb]; exact z), bind_some', hbb]
        dsimp only
        rw [if_pos rfl, m_bad, bind_some']
        exact Or.inr ⟨lk X t a, lk X t a, c, nI g, _, G, Cd, Vl, Co, rfl, rfl, ⟨(by omega), (by omega), (by omega), (by omega), (by omega)⟩, fr2_id hCo⟩
    · have hne : ¬ ltr (ch X t (lk X t a)) = -1 := by
        rw [e]
        exact m1_ne (by omega)
      have hlt : lk X t a < t := by
        rcases hbyte with ⟨q, _⟩ | ⟨q, _⟩
        · rw [q] at hne
          exact absurd (by decide) hne
        · exact q
      rw [if_neg hne, if_neg (hk.2 hne), c_letter hi e1 e2, c_emit (by omega), bind_some', e]
      simp only [oL, nx_add, bind_some']
      rw [m_put hn hCo (by omega), bind_some']
      refine Or.inl ⟨lk X t a + 1, g + 1, c + 1, _, _, _, _, rfl, rfl, ⟨(by omega), (by omega), (by omega), (by omega), (by omega), (by omega)⟩, fun i hi => upd_ne (by omega), fr2_put (fr2_id hCo) (by omega) (by omega), ?_⟩
      exact pEv_mono (pEv_let (i := i) upd_at hi upd_at upd_at) (by omega)
  · rw [z, if_neg d10]
    obtain ⟨k1, k2⟩ := hk.1 z
    rw [if_neg k1]
    rcases ltr_cases (ch X t (lk X t a)) with ⟨e, en⟩ | ⟨i, hi, e, e1, e2⟩
    · have hq := p_number ht hb2 (by rw [hbb]; exact z)
      rw [hbb] at hq
      obtain ⟨v, a', hv, hx1, hx2, hq⟩ := hq
      rw [c_noLetter en]
      rcases hq with ⟨q1, q2⟩ | ⟨q1, q2⟩
      · rw [q1, q2, bind_some', bind_some']
        dsimp only
        rw [if_neg (m1_ne (by omega)), c_emit (by omega), bind_some', m_put hn hCo (by omega), bind_some']
        refine Or.inl ⟨a', g + 1, c + 1, _, _, _, _, rfl, rfl, ⟨(by omega), (by omega), (by omega), (by omega), (by omega), (by omega)⟩, fun i hi => upd_ne (by omega), fr2_put (fr2_id hCo) (by omega) (by omega), ?_⟩
        exact pEv_mono (pEv_num upd_at hv upd_at upd_at) (by omega)
      · rw [q1, q2, bind_some', bind_some']
        dsimp only
        rw [if_pos rfl, m_put hn hCo (by omega), bind_some']
        exact Or.inr ⟨a', a', c + 1, nI g, _, G, _, _, _, rfl, rfl, ⟨(by omega), (by omega), (by omega), (by omega), (by omega)⟩, fr2_put (fr2_id hCo) (by omega) (by omega)⟩
    · rw [e] at k2
      exact absurd k2 (m1_ne (by omega))
/-! sums at all depths -/
theorem p_sums {t n : Nat} {T X : Nat → Int32} (ht : tpA t T X) (hn : n < 5) : ∀ (k d : Nat), d ≤ 6 → 7 ≤ d + k → pS t n T X d (16 - 2 * d) false (f_LawR_readSum k) (f_M_sum k) := by
  intro k
  induction k with
  | zero => intro d h1 h2; omega
  | succ k ih =>
    intro d h1 h2
    have hA : pS t n T X d (14 - 2 * d) false (f_LawR_readAtomB (f_LawR_readSum k)) (f_M_atomB (f_M_sum k)) := p_atom (hh := 16 - 2 * (d + 1)) ht hn h1 (by omega) (by omega) (fun hd => ih (d + 1) (by omega) (by omega))
    have hT := p_term ht hn h1 (by omega) hA
    have hS := p_sum ht hn h1 (by omega) hT
    rw [show 14 - 2 * d + 1 + 1 = 16 - 2 * d by omega] at hS
    exact hS
theorem p_sum8 {t n d : Nat} {T X : Nat → Int32} (ht : tpA t T X) (hn : n < 5) (hd : d ≤ 6) : pS t n T X d (16 - 2 * d) false (f_LawR_readSum 8) (f_M_sum 8) := p_sums ht hn 8 d hd (by omega)
