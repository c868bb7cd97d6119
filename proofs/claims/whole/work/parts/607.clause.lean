/-! a clause of a law -/
theorem p_condK {t n a0 g0 c0 a g c : Nat} {T X G0 Cd0 Vl0 Co0 G Cd Vl Co : Nat → Int32} (ht : tpA t T X) (hn : n < 5) (hg0 : g0 ≤ a0) (hc0 : c0 ≤ a0) (x : acc t n a0 g0 c0 G0 Cd0 Vl0 Co0 a g c G Cd Vl Co 16 false) : pOut t n 0 a0 g0 c0 G0 Cd0 Vl0 Co0 19 true (f_LawR_readConditionB (f_LawR_readUnit 8) (nI t) (nI a) T (nI g) G (nI 0) 1) ((f_M_compare (nI t) (nI a) (-1) (nI 0) (nI n) X Cd Vl Co).bind fun r => (f_M_goOnAndB (f_M_unit 8) (nI t) r.1 r.2.1 r.2.2.1 (nI n) X r.2.2.2.1 r.2.2.2.2.1 r.2.2.2.2.2).bind fun r => f_M_goOnOrB (f_M_unit 8) (nI t) r.1 r.2.1 r.2.2.1 (nI n) X r.2.2.2.1 r.2.2.2.2.1 r.2.2.2.2.2) := by
  have hU := p_units ht hn 8 0 (by omega) (by omega)
  have h1 := p_compare (d := 0) ht hn (by omega) hg0 hc0 x
  have h2 := p_and (h := 17) (h0 := 17) ht hn (by omega) (by omega) hU hg0 hc0 (by omega) h1
  have h3 := p_or (h := 17) (h0 := 18) ht hn (by omega) (by omega) hU hg0 hc0 (by omega) h2
  unfold f_LawR_readConditionB f_LawR_readTruthB
  rw [if_neg d10]
  have e : ∀ (E : trM) (F1 F2 : (Int32 × Int32 × Int32 × (Nat → Int32) × (Nat → Int32) × (Nat → Int32)) → trM), (E.bind fun r => (F1 r).bind F2) = ((E.bind F1).bind F2) := by
    intro E F1 F2
    cases E <;> rfl
  rw [e]
  exact h3
def clP (G Cd Vl : Nat → Int32) (n s e tf sf st : Nat) : Prop :=
  (tf = sf ∧ s < e ∧ sf < st ∧ pEv G Cd Vl s e (520 * n + sf) (520 * n + st) 19 false ∧ G e = nI 30000)
  ∨ ∃ j, (tf < sf ∧ s < j ∧ j + 1 < e ∧ sf < st) ∧ pEv G Cd Vl s j (520 * n + tf) (520 * n + sf) 19 true ∧ G j = nI (40000 + (e + 1)) ∧ pEv G Cd Vl (j + 1) e (520 * n + sf) (520 * n + st) 19 false ∧ G e = nI 30000
abbrev trK := Option (Int32 × Int32 × Int32 × (Nat → Int32) × (Nat → Int32) × (Nat → Int32) × (Nat → Int32) × (Nat → Int32) × (Nat → Int32) × (Nat → Int32))
def frK (n k : Nat) (Cl TF SF ST Cl' TF' SF' ST' : Nat → Int32) : Prop := (∀ j, j ≠ n → Cl' j = Cl j) ∧ ∀ j, j ≠ 140 * n + k → TF' j = TF j ∧ SF' j = SF j ∧ ST' j = ST j
def kOK (t n a g c k : Nat) (G Cd Vl Co Cl TF SF ST : Nat → Int32) (rc : trC) (rm : trK) : Prop :=
  ∃ (a' e c' tf sf st : Nat) (G' Cd' Vl' Co' Cl' TF' SF' ST' : Nat → Int32), rc = some (1, nI a', nI (e + 1), G') ∧ rm = some (nI a', -1, 0, Cd', Vl', Co', Cl', TF', SF', ST') ∧ (a + 3 ≤ a' ∧ a' ≤ t ∧ g ≤ e ∧ e + 1 + a ≤ g + a' ∧ c < c' ∧ c' + a ≤ c + a' ∧ st ≤ c' ∧ c ≤ tf) ∧ (∀ i, i < g → G' i = G i) ∧ fr2 n c Cd Vl Co Cd' Vl' Co' c' ∧ frK n k Cl TF SF ST Cl' TF' SF' ST' ∧ Cl' n = nI (k + 1) ∧ TF' (140 * n + k) = nI tf ∧ SF' (140 * n + k) = nI sf ∧ ST' (140 * n + k) = nI st ∧ clP G' Cd' Vl' n g e tf sf st
def kNO (t n c k : Nat) (Cd Vl Co Cl TF SF ST : Nat → Int32) (rc : trC) (rm : trK) : Prop :=
  ∃ (p c' : Nat) (g' x dp : Int32) (G' Cd' Vl' Co' Cl' TF' SF' ST' : Nat → Int32), rc = some (0, nI p, g', G') ∧ rm = some (x, nI p, dp, Cd', Vl', Co', Cl', TF', SF', ST') ∧ p ≤ t ∧ fr2 n c Cd Vl Co Cd' Vl' Co' c' ∧ frK n k Cl TF SF ST Cl' TF' SF' ST'
def kOut (t n a g c k : Nat) (G Cd Vl Co Cl TF SF ST : Nat → Int32) (rc : trC) (rm : trK) : Prop := kOK t n a g c k G Cd Vl Co Cl TF SF ST rc rm ∨ kNO t n c k Cd Vl Co Cl TF SF ST rc rm
theorem frK_id {n k : Nat} {Cl TF SF ST : Nat → Int32} : frK n k Cl TF SF ST Cl TF SF ST := ⟨fun _ _ => rfl, fun _ _ => ⟨rfl, rfl, rfl⟩⟩
theorem frK_all {n k : Nat} {Cl TF SF ST TF' SF' ST' : Nat → Int32} {x : Int32} (h1 : ∀ j, j ≠ 140 * n + k → TF' j = TF j) (h2 : ∀ j, j ≠ 140 * n + k → SF' j = SF j) (h3 : ∀ j, j ≠ 140 * n + k → ST' j = ST j) : frK n k Cl TF SF ST (upd Cl n x) TF' SF' ST' := ⟨fun _ h => upd_ne h, fun j hj => ⟨h1 j hj, h2 j hj, h3 j hj⟩⟩
theorem m_J251 {n k c : Nat} {at' w dp : Int32} {Cd Vl Co Cl TF SF ST : Nat → Int32} (hn : n < 5) (hk : k < 140) (hc : Co n = nI c) (hl : Cl n = nI k) : f_M_clause_J251 at' w dp (nI n) Cd Vl Co Cl TF SF ST (nI (140 * n + k)) = some (at', w, dp, Cd, Vl, Co, upd Cl n (nI (k + 1)), TF, SF, upd ST (140 * n + k) (nI c)) := by
  unfold f_M_clause_J251
  rw [oI_nI (j := n) (n := 5) hn (by decide), oI_nI (j := 140 * n + k) (n := 700) (by omega) (by decide), nI_clamp (n := 140 * n + k) (by omega), nI_clamp (n := n) (by omega), hc, hl]
  simp only [oL]
  rw [oI_nI (j := n) (n := 5) hn (by decide), oI_nI (j := n) (n := 5) hn (by decide), nx_add]
/-- the end of a clause behind its condition -/
theorem p_sumK {t n a0 g0 c0 k : Nat} {T X G0 Cd0 Vl0 Co0 Cl TF SF ST : Nat → Int32} {w2 : Int32} (ht : tpA t T X) (hn : n < 5) (hk : k < 140) (hg0 : g0 + 2 ≤ a0) (hc0 : c0 + 2 ≤ a0) (hl : Cl n = nI k) (hTF : TF (140 * n + k) = nI c0) (hw2 : ¬ w2 = 0) {rc : trC} {rm : trM} (x : pOut t n 0 a0 g0 c0 G0 Cd0 Vl0 Co0 19 true rc rm) : kOut t n (a0 - 2) g0 c0 k G0 Cd0 Vl0 Co0 Cl TF SF ST (rc.bind fun a_4 => if a_4.1 = 0 then (some (0, a_4.2.1, a_4.2.2.1, a_4.2.2.2)) else ((f_Tape_takes (nI t) a_4.2.1 T 63).bind fun a_5 => if a_5.1 = 0 then (some (0, a_5.2, a_4.2.2.1, a_4.2.2.2)) else ((f_LawR_emit a_4.2.2.1 a_4.2.2.2 40000).bind fun a_6 => (f_LawR_readSum 8 (nI t) a_5.2 T a_6.1 a_6.2 0).bind fun a_7 => if a_7.1 = 0 then (some (0, a_7.2.1, a_7.2.2.1, a_7.2.2.2)) else ((f_LawR_emit a_7.2.2.1 a_7.2.2.2 30000).bind fun a_8 => (f_LawR_aimJump a_8.1 a_8.2 a_4.2.2.1).bind fun a_9 => some (1, a_7.2.1, a_8.1, a_9))))) (rm.bind fun r => f_M_clause_J184 (nI t) r.1 r.2.1 r.2.2.1 (nI n) X r.2.2.2.1 r.2.2.2.2.1 r.2.2.2.2.2 Cl TF SF ST (nI (140 * n + k)) w2) := by
  have h240 := ht.1
  rcases x with ⟨a', g', c', G', Cd', Vl', Co', x1, x2, x3, x4, x5, x6⟩ | ⟨p, x, c', g', dp, G', Cd', Vl', Co', x1, x2, x3, x4⟩
  · rw [x1, x2, bind_some', bind_some']
    unfold f_M_clause_J184
    dsimp only
    have hc1 := lk_ge (X := X) (show a' ≤ t by omega)
    have hc2 := lk_le (X := X) (show a' ≤ t by omega)
    rw [if_neg d10, c_takes ht (by omega), bind_some', oI_nI (j := 140 * n + k) (n := 700) (by omega) (by decide), oI_nI (j := 140 * n + k) (n := 700) (by omega) (by decide), nI_clamp (n := 140 * n + k) (by omega)]
    simp only [oL]
    rw [if_neg hw2, if_pos trivial, m_look h240 (by omega), bind_some']
    dsimp only
    by_cases h63 : ch X t (lk X t a') = 63
    · obtain ⟨hlt2, _⟩ := ch_lt h63 (by decide)
      rw [if_pos h63, if_pos h63]
      dsimp only
      rw [if_neg d10, c_emit (show g' < 240 by omega), bind_some', oI_nI (j := n) (n := 5) hn (by decide), oI_nI (j := 140 * n + k) (n := 700) (by omega) (by decide), nI_clamp (n := n) (by omega), x5.2.1, nx_add]
      dsimp only
      rw [show (0 : Int32) = nI 0 from rfl]
      rcases p_sum8 (d := 0) ht hn (by omega) (lk X t a' + 1) (g' + 1) c' (upd G' g' 40000) Cd' Vl' Co' (by omega) (by omega) (by omega) x5.2.1 with ⟨a2, g2, c2, G2, Cd2, Vl2, Co2, w1, w2', w3, w4, w5, w6⟩ | ⟨p, x, c2, g2, dp, G2, Cd2, Vl2, Co2, w1, w2', w3, w4⟩
      · rw [w1, w2', bind_some', bind_some']
        dsimp only
        rw [if_neg (show ¬ (1 : Int32) = nI 0 from d10), c_emit (show g2 < 240 by omega), bind_some']
        unfold f_LawR_aimJump
        rw [if_neg (show ¬ (240 : Int32) ≤ nI g' from nI_ge (b := 240) (by omega) (by decide)), oI_nI (j := g') (n := 240) (by omega) (by decide), nI_clamp (n := g') (by omega), m_J251 hn hk w5.2.1 hl]
        simp only [oL, bind_some']
        left
        refine ⟨a2, g2, c2, c0, c', c2, _, _, _, _, _, _, _, _, rfl, rfl, ⟨(by omega), (by omega), (by omega), (by omega), (by omega), (by omega), (by omega), (by omega)⟩, fun i hi => ?_, fr2_trans x5 w5 (by omega), frK_all (fun j _ => rfl) (fun j hj => ?_) (fun j hj => upd_ne hj), upd_at, hTF, upd_at, upd_at, Or.inr ⟨g', ⟨(by omega), (by omega), (by omega), (by omega)⟩, ?_, ?_, ?_, ?_⟩⟩
        · rw [upd_ne (by omega), upd_ne (by omega), w4 i (by omega), upd_ne (by omega)]
          exact x4 i hi
        · rw [upd_ne hj, upd_ne hj]
        · refine pEv_agree x6 (fun i i1 i2 => ?_) (fun i i1 i2 => w5.1 i (Or.inl i2))
          rw [upd_ne (by omega), upd_ne (by omega), w4 i (by omega), upd_ne (by omega)]
        · rw [upd_at]
          exact nI_add 40000 (g2 + 1)
        · refine pEv_mono (pEv_agree w6 (fun i i1 i2 => ?_) (fun i i1 i2 => ⟨rfl, rfl⟩)) (by omega)
          rw [upd_ne (by omega), upd_ne (by omega)]
        · rw [upd_ne (by omega), upd_at]
          rfl
      · rw [w1, w2', bind_some', bind_some']
        dsimp only
        rw [if_pos (show (0 : Int32) = nI 0 from rfl), m_J251 hn hk w4.2.1 hl]
        right
        refine ⟨p, c2, g2, _, dp, G2, _, _, _, _, _, _, _, rfl, rfl, (by omega), fr2_trans x5 w4 (by omega), frK_all (fun j _ => rfl) (fun j hj => ?_) (fun j hj => upd_ne hj)⟩
        rw [upd_ne hj, upd_ne hj]
    · rw [if_neg h63, if_neg h63]
      dsimp only
      rw [if_pos rfl, m_bad, bind_some']
      right
      refine ⟨lk X t a', c', nI g', _, _, G', _, _, _, _, _, _, _, rfl, rfl, (by omega), x5, fun _ _ => rfl, fun j hj => ⟨rfl, upd_ne hj, rfl⟩⟩
  · rw [x1, x2, bind_some', bind_some']
    unfold f_M_clause_J184
    dsimp only
    rw [if_pos rfl, oI_nI (j := 140 * n + k) (n := 700) (by omega) (by decide), oI_nI (j := 140 * n + k) (n := 700) (by omega) (by decide), nI_clamp (n := 140 * n + k) (by omega)]
    simp only [oL]
    rw [if_neg hw2, if_neg (m1_ne (show p < 2 ^ 31 by omega)), m_J251 hn hk x4.2.1 hl]
    right
    exact ⟨p, c', g', _, dp, G', _, _, _, _, _, _, _, rfl, rfl, (by omega), x4, frK_all (fun j _ => rfl) (fun j hj => upd_ne hj) (fun j hj => upd_ne hj)⟩
