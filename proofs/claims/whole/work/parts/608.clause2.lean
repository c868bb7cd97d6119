theorem kOut_weak {t n a a2 g c k : Nat} {G Cd Vl Co Cl TF SF ST : Nat → Int32} {v : Int32} {rc : trC} {rm : trK} (x : kOut t n a g c k G Cd Vl Co Cl (upd TF (140 * n + k) v) SF ST rc rm) (ha : a2 ≤ a) : kOut t n a2 g c k G Cd Vl Co Cl TF SF ST rc rm := by
  rcases x with ⟨a', e, c', tf, sf, st, G', Cd', Vl', Co', Cl', TF', SF', ST', x1, x2, x3, x4, x5, ⟨x6, x6'⟩, x7⟩ | ⟨p, c', g', x, dp, G', Cd', Vl', Co', Cl', TF', SF', ST', x1, x2, x3, x4, ⟨x5, x5'⟩⟩
  · exact Or.inl ⟨a', e, c', tf, sf, st, G', Cd', Vl', Co', Cl', TF', SF', ST', x1, x2, ⟨(by omega), (by omega), (by omega), (by omega), (by omega), (by omega), (by omega), (by omega)⟩, x4, x5, ⟨x6, fun j hj => ⟨(x6' j hj).1.trans (upd_ne hj), (x6' j hj).2⟩⟩, x7⟩
  · exact Or.inr ⟨p, c', g', x, dp, G', Cd', Vl', Co', Cl', TF', SF', ST', x1, x2, x3, x4, ⟨x5, fun j hj => ⟨(x5' j hj).1.trans (upd_ne hj), (x5' j hj).2⟩⟩⟩
theorem p_clause {t n a g c k : Nat} {T X G Cd Vl Co Cl TF SF ST : Nat → Int32} (ht : tpA t T X) (hn : n < 5) (hk : k < 140) (ha : a ≤ t) (hg : g ≤ a) (hc : c ≤ a) (hCo : Co n = nI c) (hl : Cl n = nI k) : kOut t n a g c k G Cd Vl Co Cl TF SF ST (f_LawR_readClause (nI t) (nI a) T (nI g) G) (f_M_clause (nI t) (nI a) (-1) 0 (nI n) X Cd Vl Co Cl TF SF ST) := by
  have h240 := ht.1
  have hb1 := lk_ge (X := X) ha
  have hb2 := lk_le (X := X) ha
  unfold f_LawR_readClause f_M_clause
  rw [c_takes ht ha, bind_some', oI_nI (j := n) (n := 5) hn (by decide), nI_clamp (n := n) (by omega), hl, nx_mull, nI_add]
  simp only [oL]
  rw [if_pos trivial, m_look h240 ha, bind_some']
  dsimp only
  by_cases ey : ch X t (lk X t a) = 121
  · obtain ⟨hlt, _⟩ := ch_lt ey (by decide)
    rw [if_pos ey, if_pos ey]
    dsimp only
    have hp : lk X t a + 1 ≤ t := (by omega)
    have hq1 := lk_ge (X := X) hp
    have hq2 := lk_le (X := X) hp
    unfold f_M_clause_J40
    rw [if_neg d10, c_takes ht hp, bind_some', nx_add]
    simp only [oL]
    rw [if_pos trivial, m_look h240 hp, bind_some']
    dsimp only
    generalize lk X t (lk X t a + 1) = a1 at hq1 hq2 ⊢
    by_cases ec : ch X t a1 = 58
    · obtain ⟨hlt2, _⟩ := ch_lt ec (by decide)
      rw [if_pos ec, if_pos ec]
      dsimp only
      have hr : a1 + 1 ≤ t := (by omega)
      have hr1 := lk_ge (X := X) hr
      have hr2 := lk_le (X := X) hr
      have hr3 := lk_lk (X := X) hr
      unfold f_M_clause_J71
      rw [if_neg d10, c_sign ht hr, bind_some', nx_add]
      simp only [oL]
      rw [if_pos trivial, oI_nI (j := n) (n := 5) hn (by decide), oI_nI (j := 140 * n + k) (n := 700) (by omega) (by decide), nI_clamp (n := 140 * n + k) (by omega), nI_clamp (n := n) (by omega), hCo, m_look h240 hr, bind_some']
      dsimp only
      rw [m_look h240 hr2, hr3, bind_some']
      dsimp only
      generalize lk X t (a1 + 1) = b at hr1 hr2 hr3 ⊢
      have hU := p_units ht hn 8 0 (by omega) (by omega)
      have cnd : kOut t n a g c k G Cd Vl Co Cl TF SF ST (f_LawR_readClause_J50 (nI t) (nI b) T (nI g) G) (f_M_clause_J123 (nI t) (nI b) (-1) 0 (nI n) X Cd Vl Co Cl (upd TF (140 * n + k) (nI c)) SF ST (nI (140 * n + k))) := by
        have hx := p_cond ht hn (show 0 ≤ 6 by omega) (show 2 ≤ 17 - 2 * 0 by omega) hU b g c G Cd Vl Co hr2 (by omega) (by omega) hCo
        have hy := p_sumK (w2 := 1) (Cl := Cl) (TF := upd TF (140 * n + k) (nI c)) (SF := SF) (ST := ST) ht hn hk (show g + 2 ≤ b by omega) (show c + 2 ≤ b by omega) hl upd_at d10 hx
        have hz := kOut_weak hy (show a ≤ b - 2 by omega)
        unfold f_LawR_readClause_J50 f_LawR_readClause_J51 f_LawR_readClause_J88 f_M_clause_J123 f_M_clause_J128
        rw [if_pos rfl, if_neg d10]
        exact hz
      by_cases e33 : ch X t b = 33
      · rw [if_pos e33, if_pos e33]
        exact cnd
      · rw [if_neg e33, if_neg e33]
        by_cases e40 : ch X t b = 40
        · rw [if_pos e40, if_pos e40]
          exact cnd
        · rw [if_neg e40, if_neg e40]
          unfold f_LawR_readClause_J51 f_M_clause_J128
          rw [if_neg d10, if_pos rfl, show (0 : Int32) = nI 0 from rfl]
          rcases p_sum8 (d := 0) ht hn (by omega) b g c G Cd Vl Co hr2 (by omega) (by omega) hCo with ⟨a', g', c', G', Cd', Vl', Co', x1, x2, x3, x4, x5, x6⟩ | ⟨p, x, c', g', dp, G', Cd', Vl', Co', x1, x2, x3, x4⟩
          · rw [x1, x2, bind_some', bind_some']
            dsimp only
            have hc1 := lk_ge (X := X) (show a' ≤ t by omega)
            have hc2 := lk_le (X := X) (show a' ≤ t by omega)
            rw [if_neg (show ¬ (1 : Int32) = nI 0 from d10), if_pos rfl, c_sign ht (by omega), bind_some', m_look h240 (by omega), bind_some']
            dsimp only
            have sg : f_LawR_isComparison (ch X t (lk X t a')) = f_M_isSign (ch X t (lk X t a')) := rfl
            rw [sg]
            have sg2 : f_M_isSign (ch X t (lk X t a')) = some 0 ∨ f_M_isSign (ch X t (lk X t a')) = some 1 := by
              unfold f_M_isSign
              repeat' split
              all_goals first | exact Or.inl rfl | exact Or.inr rfl
            rcases sg2 with e | e
            · rw [e, bind_some', bind_some', if_pos (show (0 : Int32) = nI 0 from rfl), if_pos (show (0 : Int32) = nI 0 from rfl), c_emit (show g' < 240 by omega), bind_some']
              unfold f_M_clause_J166 f_M_clause_J167 f_M_clause_J184
              rw [if_pos rfl, oI_nI (j := 140 * n + k) (n := 700) (by omega) (by decide), oI_nI (j := 140 * n + k) (n := 700) (by omega) (by decide), nI_clamp (n := 140 * n + k) (by omega)]
              simp only [oL]
              rw [if_pos trivial, m_J251 hn hk x5.2.1 hl]
              left
              refine ⟨lk X t a', g', c', c, c, c', _, _, _, _, _, _, _, _, rfl, rfl, ⟨(by omega), (by omega), (by omega), (by omega), (by omega), (by omega), (by omega), (by omega)⟩, fun i hi => ?_, x5, frK_all (fun j hj => upd_ne hj) (fun j hj => upd_ne hj) (fun j hj => upd_ne hj), upd_at, upd_at, ?_, upd_at, Or.inl ⟨rfl, (by omega), (by omega), ?_, upd_at⟩⟩
              · rw [upd_ne (by omega)]
                exact x4 i hi
              · rw [upd_at, upd_at]
              · exact pEv_mono (pEv_agree x6 (fun i i1 i2 => upd_ne (by omega)) (fun i i1 i2 => ⟨rfl, rfl⟩)) (by omega)
            · rw [e, bind_some', bind_some', if_neg (show ¬ (1 : Int32) = nI 0 from d10), if_neg (show ¬ (1 : Int32) = nI 0 from d10)]
              have hx := p_condK (a := lk X t a') (G := G') (Cd := Cd') (Vl := Vl') (Co := Co') ht hn (show g ≤ b by omega) (show c ≤ b by omega) ⟨⟨(by omega), (by omega), (by omega), (by omega), (by omega), (by omega)⟩, x4, x5, x6⟩
              have hy := p_sumK (w2 := 1) (Cl := Cl) (TF := upd TF (140 * n + k) (nI c)) (SF := SF) (ST := ST) ht hn hk (show g + 2 ≤ b by omega) (show c + 2 ≤ b by omega) hl upd_at d10 hx
              have hz := kOut_weak hy (show a ≤ b - 2 by omega)
              unfold f_LawR_readClause_J88 f_M_clause_J167
              rw [if_neg d10]
              have eb : ∀ (E : trM) (F1 F2 : (Int32 × Int32 × Int32 × (Nat → Int32) × (Nat → Int32) × (Nat → Int32)) → trM) (F3 : (Int32 × Int32 × Int32 × (Nat → Int32) × (Nat → Int32) × (Nat → Int32)) → trK), (E.bind fun r => (F1 r).bind fun s => (F2 s).bind F3) = (E.bind fun r => (F1 r).bind F2).bind F3 := by
                intro E F1 F2 F3
                cases E with
                | none => rfl
                | some r =>
                  show (F1 r).bind (fun s => (F2 s).bind F3) = ((F1 r).bind F2).bind F3
                  cases F1 r <;> rfl
              rw [eb]
              exact hz
          · rw [x1, x2, bind_some', bind_some']
            dsimp only
            rw [if_pos (show (0 : Int32) = nI 0 from rfl), if_neg (m1_ne (show p < 2 ^ 31 by omega))]
            unfold f_M_clause_J166 f_M_clause_J167 f_M_clause_J184
            rw [if_pos rfl, oI_nI (j := 140 * n + k) (n := 700) (by omega) (by decide), oI_nI (j := 140 * n + k) (n := 700) (by omega) (by decide), nI_clamp (n := 140 * n + k) (by omega)]
            simp only [oL]
            rw [if_pos trivial, m_J251 hn hk x4.2.1 hl]
            right
            exact ⟨p, c', g', _, dp, G', _, _, _, _, _, _, _, rfl, rfl, (by omega), x4, frK_all (fun j hj => upd_ne hj) (fun j hj => upd_ne hj) (fun j hj => upd_ne hj)⟩
    · rw [if_neg ec, if_neg ec]
      dsimp only
      unfold f_M_clause_J71
      rw [if_pos rfl, m_bad, bind_some']
      simp only [oL]
      rw [if_neg (m1_ne (show a1 < 2 ^ 31 by omega))]
      right
      exact ⟨a1, c, nI g, _, _, G, Cd, Vl, Co, Cl, TF, SF, ST, rfl, rfl, (by omega), fr2_id hCo, frK_id⟩
  · rw [if_neg ey, if_neg ey]
    dsimp only
    unfold f_M_clause_J40 f_M_clause_J71
    rw [if_pos rfl, m_bad, bind_some']
    simp only [oL]
    rw [if_neg (m1_ne (show lk X t a < 2 ^ 31 by omega)), if_neg (m1_ne (show lk X t a < 2 ^ 31 by omega))]
    right
    exact ⟨lk X t a, c, nI g, _, _, G, Cd, Vl, Co, Cl, TF, SF, ST, rfl, rfl, (by omega), fr2_id hCo, frK_id⟩
