/-! conditions -/
def acc (t n a0 g0 c0 : Nat) (G0 Cd0 Vl0 Co0 : Nat → Int32) (a g c : Nat) (G Cd Vl Co : Nat → Int32) (h : Nat) (q : Bool) : Prop :=
  (a0 < a ∧ a ≤ t ∧ g0 < g ∧ g + a0 ≤ g0 + a ∧ c0 < c ∧ c + a0 ≤ c0 + a) ∧ (∀ i, i < g0 → G i = G0 i) ∧ fr2 n c0 Cd0 Vl0 Co0 Cd Vl Co c ∧ pEv G Cd Vl g0 g (520 * n + c0) (520 * n + c) h q
theorem p_loop {t n d h a0 g0 c0 o : Nat} {o' : Int32} {T X G0 Cd0 Vl0 Co0 : Nat → Int32} {FC : tyC} {FM : tyM} {bC : (Int32 × Int32 × Int32 × (Nat → Int32)) → Option ((Int32 × Int32 × Int32 × (Nat → Int32)) ⊕ (Int32 × Int32 × Int32 × (Nat → Int32)))} {bM : (Int32 × Int32 × Int32 × (Nat → Int32) × (Nat → Int32) × (Nat → Int32)) → Option ((Int32 × Int32 × Int32 × (Nat → Int32) × (Nat → Int32) × (Nat → Int32)) ⊕ (Int32 × Int32 × Int32 × (Nat → Int32) × (Nat → Int32) × (Nat → Int32)))}
  (ht : tpA t T X) (hn : n < 5) (hd : d ≤ 6) (h2 : 2 ≤ h) (hU : pS t n T X d h true FC FM) (hg0 : g0 ≤ a0) (hc0 : c0 ≤ a0) (hop : opP o o' true true) (ho : o < 256) (hno : o ≠ 33) (z0 : ¬ o' = 0) (z1 : ¬ o' = 1) (z9 : ¬ o' = 9)
  (hC0 : ∀ (k a g : Nat) (G : Nat → Int32), k < 240 → a ≤ t → ¬ ch X t (lk X t a) = nI o → bC (nI k, nI a, nI g, G) = some (.inr (1, nI (lk X t a), nI g, G)))
  (hC1 : ∀ (k a g : Nat) (G : Nat → Int32), k < 240 → a ≤ t → ch X t (lk X t a) = nI o → bC (nI k, nI a, nI g, G) = (FC (nI t) (nI (lk X t a + 1)) T (nI g) G (nI d)).bind fun r => if r.1 = 0 then some (.inr (0, r.2.1, r.2.2.1, r.2.2.2)) else (f_LawR_emit r.2.2.1 r.2.2.2 (nI (20000 + o))).bind fun e => some (.inl (nI k + 1, r.2.1, e.1, e.2)))
  (hM0 : ∀ (a : Nat) (Cd Vl Co : Nat → Int32), a ≤ t → ¬ ch X t (lk X t a) = nI o → bM (nI a, -1, nI d, Cd, Vl, Co) = some (.inr (nI (lk X t a), -1, nI d, Cd, Vl, Co)))
  (hM1 : ∀ (a : Nat) (Cd Vl Co : Nat → Int32), a ≤ t → ch X t (lk X t a) = nI o → bM (nI a, -1, nI d, Cd, Vl, Co) = (FM (nI t) (nI (lk X t a + 1)) (-1) (nI d) (nI n) X Cd Vl Co).bind fun r => (f_M_put (nI n) r.2.2.2.1 r.2.2.2.2.1 r.2.2.2.2.2 o' 0).bind fun p => some (.inl (r.1, r.2.1, r.2.2.1, p.1, p.2.1, p.2.2)))
  (hM2 : ∀ (x p dp : Int32) (Cd Vl Co : Nat → Int32), ¬ p = -1 → bM (x, p, dp, Cd, Vl, Co) = some (.inr (x, p, dp, Cd, Vl, Co)))
  {a g c : Nat} {G Cd Vl Co : Nat → Int32} (x : acc t n a0 g0 c0 G0 Cd0 Vl0 Co0 a g c G Cd Vl Co (h + 1) true) : pOut t n d a0 g0 c0 G0 Cd0 Vl0 Co0 (h + 1) true (oLp bC (0, nI a, nI g, G)) (oLp bM (nI a, -1, nI d, Cd, Vl, Co)) := by
  have h240 := ht.1
  refine qlpW (fun m (s : Int32 × Int32 × Int32 × (Nat → Int32)) (s' : Int32 × Int32 × Int32 × (Nat → Int32) × (Nat → Int32) × (Nat → Int32)) => ∃ (k a g c : Nat) (G Cd Vl Co : Nat → Int32), m = t - a ∧ s = (nI k, nI a, nI g, G) ∧ s' = (nI a, -1, nI d, Cd, Vl, Co) ∧ k < a ∧ acc t n a0 g0 c0 G0 Cd0 Vl0 Co0 a g c G Cd Vl Co (h + 1) true) (pOut t n d a0 g0 c0 G0 Cd0 Vl0 Co0 (h + 1) true) ?_ (m := t - a) ⟨0, a, g, c, G, Cd, Vl, Co, rfl, rfl, rfl, by have := x.1; omega, x⟩
  clear x a g c G Cd Vl Co
  rintro m s s' ⟨k, a, g, c, G, Cd, Vl, Co, rfl, rfl, rfl, hk, ⟨⟨y1, y2, y3, y4, y5, y6⟩, y8, y9, y10⟩⟩
  have hb1 := lk_ge (X := X) y2
  have hb2 := lk_le (X := X) y2
  by_cases e : ch X t (lk X t a) = nI o
  · obtain ⟨hlt, _⟩ := ch_lt e (m1_ne (by omega))
    have eC := hC1 k a g G (by omega) y2 e
    have eM := hM1 a Cd Vl Co y2 e
    rcases hU (lk X t a + 1) g c G Cd Vl Co (by omega) (by omega) (by omega) y9.2.1 with ⟨a', g', c', G', Cd', Vl', Co', x1, x2, x3, x4, x5, x6⟩ | ⟨p, x, c', g', dp, G', Cd', Vl', Co', x1, x2, x3, x4⟩
    · left
      rw [x1, bind_some'] at eC
      dsimp only at eC
      rw [if_neg d10, c_emit (show g' < 240 by omega), bind_some'] at eC
      rw [x2, bind_some'] at eM
      dsimp only at eM
      rw [m_put hn x5.2.1 (show c' < 520 by omega), bind_some'] at eM
      dsimp only at eC eM
      refine ⟨_, _, t - a', (by omega), eC, eM, k + 1, a', g' + 1, c' + 1, _, _, _, _, rfl, by rw [nx_add], rfl, (by omega), ⟨(by omega), (by omega), (by omega), (by omega), (by omega), (by omega)⟩, fun i hi => ?_, fr2_put (fr2_trans y9 x5 (by omega)) (by omega) (by omega), ?_⟩
      · rw [upd_ne (by omega), x4 i (by omega)]
        exact y8 i hi
      · exact pEv_step y10 x6 x4 x5 hop (by omega) (by omega) (by omega) (by omega) (by omega) hno z0 z1 z9 (by omega) (by omega)
    · right
      rw [x1, bind_some'] at eC
      dsimp only at eC
      rw [if_pos rfl] at eC
      rw [x2, bind_some'] at eM
      dsimp only at eM
      rw [m_put hn x4.2.1 (show c' < 520 by omega), bind_some'] at eM
      rw [oLp_out eC, oLp_go eM]
      right
      refine ⟨p, x, c' + 1, g', dp, G', _, _, _, rfl, oLp_out (hM2 _ _ _ _ _ _ (m1_ne (by omega))), ⟨(by omega), (by omega), (by omega), (by omega), (by omega)⟩, fr2_put (fr2_trans y9 x4 (by omega)) (by omega) (by omega)⟩
  · right
    left
    exact ⟨lk X t a, g, c, G, Cd, Vl, Co, oLp_out (hC0 k a g G (by omega) y2 e), oLp_out (hM0 a Cd Vl Co y2 e), ⟨(by omega), (by omega), (by omega), (by omega), (by omega), (by omega)⟩, y8, y9, y10⟩
/-! behind the first unit: '&' -/
theorem p_and {t n d h h0 a0 g0 c0 : Nat} {T X G0 Cd0 Vl0 Co0 : Nat → Int32} {RR : tyC} {RM : tyM} (ht : tpA t T X) (hn : n < 5) (hd : d ≤ 6) (h2 : 2 ≤ h) (hU : pS t n T X d h true RR RM) (hg0 : g0 ≤ a0) (hc0 : c0 ≤ a0) (hh : h0 ≤ h + 1) {rc : trC} {rm : trM} (x : pOut t n d a0 g0 c0 G0 Cd0 Vl0 Co0 h0 true rc rm) : pOut t n d a0 g0 c0 G0 Cd0 Vl0 Co0 (h + 1) true (rc.bind fun r => f_LawR_readTruth_J17 RR (nI t) r.2.1 T r.2.2.1 r.2.2.2 (nI d) r.1) (rm.bind fun r => f_M_goOnAndB RM (nI t) r.1 r.2.1 r.2.2.1 (nI n) X r.2.2.2.1 r.2.2.2.2.1 r.2.2.2.2.2) := by
  have h240 := ht.1
  rcases x with ⟨a', g', c', G', Cd', Vl', Co', x1, x2, x3, x4, x5, x6⟩ | ⟨p, x, c', g', dp, G', Cd', Vl', Co', x1, x2, x3, x4⟩
  · rw [x1, x2, bind_some', bind_some']
    unfold f_LawR_readTruth_J17 f_M_goOnAndB
    dsimp only
    rw [if_neg d10]
    refine p_loop (o := 38) (o' := 10) (FC := RR) (FM := RM) ht hn hd h2 hU hg0 hc0 op_and (by decide) (by decide) (by decide) (by decide) (by decide) ?_ ?_ ?_ ?_ ?_ ⟨x3, x4, x5, pEv_mono x6 hh⟩
    · intro k a g G hk ha e
      unfold f_LawR_readTruth_L27
      dsimp only
      rw [if_neg (show ¬ (240 : Int32) ≤ nI k from nI_ge hk (by decide)), c_takes ht ha, bind_some', if_neg (show ¬ _ = (38 : Int32) from e)]
      rfl
    · intro k a g G hk ha e
      unfold f_LawR_readTruth_L27
      dsimp only
      rw [if_neg (show ¬ (240 : Int32) ≤ nI k from nI_ge hk (by decide)), c_takes ht ha, bind_some', if_pos (show _ = (38 : Int32) from e)]
      dsimp only
      rw [if_neg d10]
      rfl
    · intro a Cd Vl Co ha e
      unfold f_M_goOnAnd_L0
      dsimp only
      rw [if_pos rfl, m_look h240 ha, bind_some', if_neg (show ¬ _ = (38 : Int32) from e)]
    · intro a Cd Vl Co ha e
      unfold f_M_goOnAnd_L0
      dsimp only
      rw [if_pos rfl, m_look h240 ha, bind_some', if_pos (show _ = (38 : Int32) from e)]
      simp only [oL, nx_add]
    · intro x p dp Cd Vl Co hp
      unfold f_M_goOnAnd_L0
      dsimp only
      rw [if_neg hp]
  · rw [x1, x2, bind_some', bind_some']
    unfold f_LawR_readTruth_J17 f_M_goOnAndB
    dsimp only
    rw [if_pos rfl]
    right
    refine ⟨p, x, c', g', dp, G', Cd', Vl', Co', rfl, oLp_out ?_, x3, x4⟩
    unfold f_M_goOnAnd_L0
    dsimp only
    rw [if_neg (m1_ne (show p < 2 ^ 31 by omega))]
noncomputable def mTruth (RM : tyM) : tyM := fun sz at' w dp tx tp cd vl co => (RM sz at' w dp tx tp cd vl co).bind fun r => f_M_goOnAndB RM sz r.1 r.2.1 r.2.2.1 tx tp r.2.2.2.1 r.2.2.2.2.1 r.2.2.2.2.2
noncomputable def cTruth (RR : tyC) : tyC := fun tl at' tb g G d => f_LawR_readTruthB RR tl at' tb g G d 0
theorem p_truth {t n d h : Nat} {T X : Nat → Int32} {RR : tyC} {RM : tyM} (ht : tpA t T X) (hn : n < 5) (hd : d ≤ 6) (h2 : 2 ≤ h) (hU : pS t n T X d h true RR RM) : pS t n T X d (h + 1) true (cTruth RR) (mTruth RM) := by
  intro a g c G Cd Vl Co ha hg hc hCo
  unfold cTruth mTruth f_LawR_readTruthB
  rw [if_pos rfl]
  exact p_and ht hn hd h2 hU hg hc (by omega) (hU a g c G Cd Vl Co ha hg hc hCo)
/-! .. and '|' -/
theorem p_or {t n d h h0 a0 g0 c0 : Nat} {T X G0 Cd0 Vl0 Co0 : Nat → Int32} {RR : tyC} {RM : tyM} (ht : tpA t T X) (hn : n < 5) (hd : d ≤ 6) (h2 : 2 ≤ h) (hU : pS t n T X d h true RR RM) (hg0 : g0 ≤ a0) (hc0 : c0 ≤ a0) (hh : h0 ≤ h + 2) {rc : trC} {rm : trM} (x : pOut t n d a0 g0 c0 G0 Cd0 Vl0 Co0 h0 true rc rm) : pOut t n d a0 g0 c0 G0 Cd0 Vl0 Co0 (h + 2) true (rc.bind fun r => if r.1 = 0 then some (0, r.2.1, r.2.2.1, r.2.2.2) else oLp (f_LawR_readCondition_L13 RR (nI t) T (nI d)) (0, r.2.1, r.2.2.1, r.2.2.2)) (rm.bind fun r => f_M_goOnOrB RM (nI t) r.1 r.2.1 r.2.2.1 (nI n) X r.2.2.2.1 r.2.2.2.2.1 r.2.2.2.2.2) := by
  have h240 := ht.1
  have hT := p_truth ht hn hd h2 hU
  rcases x with ⟨a', g', c', G', Cd', Vl', Co', x1, x2, x3, x4, x5, x6⟩ | ⟨p, x, c', g', dp, G', Cd', Vl', Co', x1, x2, x3, x4⟩
  · rw [x1, x2, bind_some', bind_some']
    unfold f_M_goOnOrB
    dsimp only
    rw [if_neg d10]
    refine p_loop (o := 124) (o' := 11) (FC := cTruth RR) (FM := mTruth RM) ht hn hd (by omega) hT hg0 hc0 op_or (by decide) (by decide) (by decide) (by decide) (by decide) ?_ ?_ ?_ ?_ ?_ ⟨x3, x4, x5, pEv_mono x6 hh⟩
    · intro k a g G hk ha e
      unfold f_LawR_readCondition_L13
      dsimp only
      rw [if_neg (show ¬ (240 : Int32) ≤ nI k from nI_ge hk (by decide)), c_takes ht ha, bind_some', if_neg (show ¬ _ = (124 : Int32) from e)]
      rfl
    · intro k a g G hk ha e
      unfold f_LawR_readCondition_L13
      dsimp only
      rw [if_neg (show ¬ (240 : Int32) ≤ nI k from nI_ge hk (by decide)), c_takes ht ha, bind_some', if_pos (show _ = (124 : Int32) from e)]
      dsimp only
      rw [if_neg d10]
      rfl
    · intro a Cd Vl Co ha e
      unfold f_M_goOnOr_L0
      dsimp only
      rw [if_pos rfl, m_look h240 ha, bind_some', if_neg (show ¬ _ = (124 : Int32) from e)]
    · intro a Cd Vl Co ha e
      unfold f_M_goOnOr_L0 mTruth
      dsimp only
      rw [if_pos rfl, m_look h240 ha, bind_some', if_pos (show _ = (124 : Int32) from e)]
      simp only [oL, nx_add]
      cases RM (nI t) (nI (lk X t a + 1)) (-1) (nI d) (nI n) X Cd Vl Co <;> rfl
    · intro x p dp Cd Vl Co hp
      unfold f_M_goOnOr_L0
      dsimp only
      rw [if_neg hp]
  · rw [x1, x2, bind_some', bind_some']
    unfold f_M_goOnOrB
    dsimp only
    rw [if_pos rfl]
    right
    refine ⟨p, x, c', g', dp, G', Cd', Vl', Co', rfl, oLp_out ?_, x3, x4⟩
    unfold f_M_goOnOr_L0
    dsimp only
    rw [if_neg (m1_ne (show p < 2 ^ 31 by omega))]
theorem opt_eta {α β γ : Type} {E : Option (α × β × γ)} : (E.bind fun r => some (r.1, r.2.1, r.2.2)) = E := by cases E <;> rfl
noncomputable def cCond (RR : tyC) : tyC := fun tl at' tb g G d => f_LawR_readConditionB RR tl at' tb g G d 0
theorem p_cond {t n d h : Nat} {T X : Nat → Int32} {RR : tyC} {RM : tyM} (ht : tpA t T X) (hn : n < 5) (hd : d ≤ 6) (h2 : 2 ≤ h) (hU : pS t n T X d h true RR RM) : pS t n T X d (h + 2) true (cCond RR) (f_M_conditionB RM) := by
  intro a g c G Cd Vl Co ha hg hc hCo
  have hx := p_or ht hn hd h2 hU hg hc (show h + 1 ≤ h + 2 by omega) (p_truth ht hn hd h2 hU a g c G Cd Vl Co ha hg hc hCo)
  unfold cTruth mTruth at hx
  unfold cCond f_LawR_readConditionB f_M_conditionB
  have e : ∀ (E : trM) (F1 F2 : (Int32 × Int32 × Int32 × (Nat → Int32) × (Nat → Int32) × (Nat → Int32)) → trM), (E.bind fun r => (F1 r).bind fun s => (F2 s).bind fun q => some (q.1, q.2.1, q.2.2.1, q.2.2.2.1, q.2.2.2.2.1, q.2.2.2.2.2)) = ((E.bind F1).bind F2) := by
    intro E F1 F2
    cases E with
    | none => rfl
    | some r =>
      show ((F1 r).bind fun s => (F2 s).bind fun q => some (q.1, q.2.1, q.2.2.1, q.2.2.2.1, q.2.2.2.2.1, q.2.2.2.2.2)) = (F1 r).bind F2
      cases F1 r with
      | none => rfl
      | some s =>
        show ((F2 s).bind fun q => some (q.1, q.2.1, q.2.2.1, q.2.2.2.1, q.2.2.2.2.1, q.2.2.2.2.2)) = F2 s
        cases F2 s <;> rfl
  rw [e (RM (nI t) (nI a) (-1) (nI d) (nI n) X Cd Vl Co) (fun r => f_M_goOnAndB RM (nI t) r.1 r.2.1 r.2.2.1 (nI n) X r.2.2.2.1 r.2.2.2.2.1 r.2.2.2.2.2) (fun r => f_M_goOnOrB RM (nI t) r.1 r.2.1 r.2.2.1 (nI n) X r.2.2.2.1 r.2.2.2.2.1 r.2.2.2.2.2)]
  exact hx
