/-! a law's clauses, one behind another -/
def lawP (G Cd Vl TF SF ST : Nat → Int32) (n g c k : Nat) : Prop := ∃ E : Nat → Nat, E 0 = 0 ∧ E k = g ∧ ∀ i, i < k → ∃ e tf sf st : Nat, E (i + 1) = e + 1 ∧ E i ≤ e ∧ e + 1 ≤ g ∧ TF (140 * n + i) = nI tf ∧ SF (140 * n + i) = nI sf ∧ ST (140 * n + i) = nI st ∧ st ≤ c ∧ clP G Cd Vl n (E i) e tf sf st
theorem clP_agree {G Cd Vl G' Cd' Vl' : Nat → Int32} {n s e tf sf st : Nat} (x : clP G Cd Vl n s e tf sf st) (h1 : ∀ i, i ≤ e → G' i = G i) (h2 : ∀ i, 520 * n ≤ i → i < 520 * n + st → Cd' i = Cd i ∧ Vl' i = Vl i) : clP G' Cd' Vl' n s e tf sf st := by
  rcases x with ⟨x1, x2, x3, x4, x5⟩ | ⟨j, ⟨y1, y2, y3, y4⟩, x1, x2, x3, x4⟩
  · exact Or.inl ⟨x1, x2, x3, pEv_agree x4 (fun i _ i2 => h1 i (by omega)) (fun i i1 i2 => h2 i (by omega) (by omega)), (h1 e (by omega)).trans x5⟩
  · exact Or.inr ⟨j, ⟨y1, y2, y3, y4⟩, pEv_agree x1 (fun i _ i2 => h1 i (by omega)) (fun i i1 i2 => h2 i (by omega) (by omega)), (h1 j (by omega)).trans x2, pEv_agree x3 (fun i _ i2 => h1 i (by omega)) (fun i i1 i2 => h2 i (by omega) (by omega)), (h1 e (by omega)).trans x4⟩
theorem lawP_agree {G Cd Vl TF SF ST G' Cd' Vl' TF' SF' ST' : Nat → Int32} {n g c k : Nat} (x : lawP G Cd Vl TF SF ST n g c k) (h1 : ∀ i, i < g → G' i = G i) (h2 : ∀ i, 520 * n ≤ i → i < 520 * n + c → Cd' i = Cd i ∧ Vl' i = Vl i) (h3 : ∀ i, 140 * n ≤ i → i < 140 * n + k → TF' i = TF i ∧ SF' i = SF i ∧ ST' i = ST i) : lawP G' Cd' Vl' TF' SF' ST' n g c k := by
  obtain ⟨E, E0, Ek, hE⟩ := x
  refine ⟨E, E0, Ek, fun i hi => ?_⟩
  obtain ⟨e, tf, sf, st, q1, q2, q3, q4, q5, q6, q7, q8⟩ := hE i hi
  obtain ⟨r1, r2, r3⟩ := h3 (140 * n + i) (by omega) (by omega)
  exact ⟨e, tf, sf, st, q1, q2, q3, r1.trans q4, r2.trans q5, r3.trans q6, q7, clP_agree q8 (fun i i1 => h1 i (by omega)) (fun i i1 i2 => h2 i i1 (by omega))⟩
theorem lawP_0 {G Cd Vl TF SF ST : Nat → Int32} {n c : Nat} : lawP G Cd Vl TF SF ST n 0 c 0 := ⟨fun _ => 0, rfl, rfl, fun i hi => absurd hi (by omega)⟩
theorem lawP_step {G Cd Vl TF SF ST : Nat → Int32} {n g c k e c' tf sf st : Nat} (x : lawP G Cd Vl TF SF ST n g c k) (hc : c ≤ c') (he : g ≤ e) (hst : st ≤ c') (h4 : TF (140 * n + k) = nI tf) (h5 : SF (140 * n + k) = nI sf) (h6 : ST (140 * n + k) = nI st) (y : clP G Cd Vl n g e tf sf st) : lawP G Cd Vl TF SF ST n (e + 1) c' (k + 1) := by
  obtain ⟨E, E0, Ek, hE⟩ := x
  refine ⟨fun i => if i ≤ k then E i else e + 1, ?_, ?_, fun i hi => ?_⟩
  · show (if 0 ≤ k then E 0 else e + 1) = 0
    rw [if_pos (by omega), E0]
  · show (if k + 1 ≤ k then E (k + 1) else e + 1) = e + 1
    rw [if_neg (by omega)]
  · by_cases hik : i < k
    · obtain ⟨e1, tf1, sf1, st1, q1, q2, q3, q4, q5, q6, q7, q8⟩ := hE i hik
      refine ⟨e1, tf1, sf1, st1, ?_, ?_, (by omega), q4, q5, q6, (by omega), ?_⟩
      · show (if i + 1 ≤ k then E (i + 1) else e + 1) = e1 + 1
        rw [if_pos (by omega), q1]
      · show (if i ≤ k then E i else e + 1) ≤ e1
        rw [if_pos (by omega)]
        exact q2
      · show clP G Cd Vl n (if i ≤ k then E i else e + 1) e1 tf1 sf1 st1
        rw [if_pos (by omega)]
        exact q8
    · have hik : i = k := (by omega)
      subst hik
      refine ⟨e, tf, sf, st, ?_, ?_, (by omega), h4, h5, h6, hst, ?_⟩
      · show (if i + 1 ≤ i then E (i + 1) else e + 1) = e + 1
        rw [if_neg (by omega)]
      · show (if i ≤ i then E i else e + 1) ≤ e
        rw [if_pos (by omega), Ek]
        exact he
      · show clP G Cd Vl n (if i ≤ i then E i else e + 1) e tf sf st
        rw [if_pos (by omega), Ek]
        exact y
def fr3 (n : Nat) (Cd Vl Co Cl TF SF ST Cd' Vl' Co' Cl' TF' SF' ST' : Nat → Int32) : Prop := (∀ j, (j < 520 * n ∨ 520 * n + 520 ≤ j) → Cd' j = Cd j ∧ Vl' j = Vl j) ∧ (∀ j, j ≠ n → Co' j = Co j ∧ Cl' j = Cl j) ∧ ∀ j, (j < 140 * n ∨ 140 * n + 140 ≤ j) → TF' j = TF j ∧ SF' j = SF j ∧ ST' j = ST j
theorem fr3_of {n c k c' : Nat} {Cd Vl Co Cl TF SF ST Cd1 Vl1 Co1 Cl1 TF1 SF1 ST1 Cd' Vl' Co' Cl' TF' SF' ST' : Nat → Int32} (x : fr3 n Cd Vl Co Cl TF SF ST Cd1 Vl1 Co1 Cl1 TF1 SF1 ST1) (y : fr2 n c Cd1 Vl1 Co1 Cd' Vl' Co' c') (z : frK n k Cl1 TF1 SF1 ST1 Cl' TF' SF' ST') (hk : k < 140) : fr3 n Cd Vl Co Cl TF SF ST Cd' Vl' Co' Cl' TF' SF' ST' := by
  obtain ⟨x1, x2, x3⟩ := x
  obtain ⟨y1, y2, y3⟩ := y
  obtain ⟨z1, z2⟩ := z
  refine ⟨fun j hj => ?_, fun j hj => ⟨(y3 j hj).trans (x2 j hj).1, (z1 j hj).trans (x2 j hj).2⟩, fun j hj => ?_⟩
  · have h1 := y1 j (by omega)
    have h2 := x1 j hj
    exact ⟨h1.1.trans h2.1, h1.2.trans h2.2⟩
  · have h1 := z2 j (by omega)
    have h2 := x3 j hj
    exact ⟨h1.1.trans h2.1, h1.2.1.trans h2.2.1, h1.2.2.trans h2.2.2⟩
abbrev trR := Option (Int32 × Int32 × Int32 × Int32 × Int32 × (Nat → Int32) × (Nat → Int32) × (Nat → Int32) × (Nat → Int32) × (Nat → Int32) × (Nat → Int32) × (Nat → Int32))
def rdOut (t n : Nat) (Cd Vl Co Cl TF SF ST : Nat → Int32) (rc : trC) (rm : trR) : Prop :=
  (∃ (len c k : Nat) (p x dp : Int32) (G' Cd' Vl' Co' Cl' TF' SF' ST' : Nat → Int32), rc = some (1, p, nI len, G') ∧ rm = some (-1, x, -1, dp, nI n, Cd', Vl', Co', Cl', TF', SF', ST') ∧ (len ≤ 240 ∧ c ≤ 240 ∧ k < 140) ∧ lawP G' Cd' Vl' TF' SF' ST' n len c k ∧ Cl' n = nI k ∧ fr3 n Cd Vl Co Cl TF SF ST Cd' Vl' Co' Cl' TF' SF' ST')
  ∨ ∃ (p : Nat) (g' x dp : Int32) (G' Cd' Vl' Co' Cl' TF' SF' ST' : Nat → Int32), rc = some (0, nI p, g', G') ∧ rm = some (nI p, x, nI p, dp, nI n, Cd', Vl', Co', Cl', TF', SF', ST') ∧ p ≤ t ∧ fr3 n Cd Vl Co Cl TF SF ST Cd' Vl' Co' Cl' TF' SF' ST'
theorem oLp_bind {S T R : Type} {body : S → Option (S ⊕ T)} {s : S} {E : Option R} {f : R → S} (h : body s = E.bind fun r => some (.inl (f r))) : oLp body s = E.bind fun r => oLp body (f r) := by
  rw [oLp_eq, h]
  cases E <;> rfl
noncomputable def mcl (t n : Nat) (X : Nat → Int32) (r : trK) : trR := r.bind fun a_2 => oLp (f_M_readLaw_L9 (nI t) (nI n) X) (a_2.1, a_2.2.1, a_2.2.2.1, a_2.2.2.2.1, a_2.2.2.2.2.1, a_2.2.2.2.2.2.1, a_2.2.2.2.2.2.2.1, a_2.2.2.2.2.2.2.2.1, a_2.2.2.2.2.2.2.2.2.1, a_2.2.2.2.2.2.2.2.2.2)
theorem p_reads {t n : Nat} {T X Cd0 Vl0 Co0 Cl0 TF0 SF0 ST0 : Nat → Int32} (ht : tpA t T X) (hn : n < 5) : ∀ (m a g c k : Nat) (G Cd Vl Co Cl TF SF ST : Nat → Int32), t - a ≤ m → a ≤ t → g ≤ a → c ≤ a → 3 * k ≤ a → Co n = nI c → Cl n = nI k → lawP G Cd Vl TF SF ST n g c k → fr3 n Cd0 Vl0 Co0 Cl0 TF0 SF0 ST0 Cd Vl Co Cl TF SF ST → rdOut t n Cd0 Vl0 Co0 Cl0 TF0 SF0 ST0 (oLp (f_LawR_reads_L16 (nI t) T) (1, nI k, nI a, nI g, G)) (mcl t n X (f_M_clause (nI t) (nI a) (-1) 0 (nI n) X Cd Vl Co Cl TF SF ST)) := by
  have h240 := ht.1
  intro m
  induction m with
  | zero =>
    intro a g c k G Cd Vl Co Cl TF SF ST hm ha hg hc hk hCo hl hP hF
    have hat : a = t := (by omega)
    rcases p_clause (G := G) (Cd := Cd) (Vl := Vl) (TF := TF) (SF := SF) (ST := ST) ht hn (show k < 140 by omega) ha hg hc hCo hl with ⟨a', e, c', tf, sf, st, G', Cd', Vl', Co', Cl', TF', SF', ST', x1, x2, x3, x4⟩ | ⟨p, c', g', x, dp, G', Cd', Vl', Co', Cl', TF', SF', ST', x1, x2, x3, x4, x5⟩
    · omega
    · right
      unfold mcl
      rw [x2, bind_some']
      refine ⟨p, g', x, dp, G', _, _, _, _, _, _, _, oLp_out ?_, oLp_out ?_, x3, fr3_of hF x4 x5 (by omega)⟩
      · unfold f_LawR_reads_L16
        dsimp only
        rw [if_neg (show ¬ (240 : Int32) ≤ nI k from nI_ge (b := 240) (by omega) (by decide)), if_neg d10, x1, bind_some']
        rfl
      · unfold f_M_readLaw_L9 f_M_readLaw_J43 f_M_atEnd
        dsimp only
        rw [if_neg (m1_ne (show p < 2 ^ 31 by omega)), if_neg (m1_ne (show p < 2 ^ 31 by omega))]
        rfl
  | succ m ih =>
    intro a g c k G Cd Vl Co Cl TF SF ST hm ha hg hc hk hCo hl hP hF
    rcases p_clause (G := G) (Cd := Cd) (Vl := Vl) (TF := TF) (SF := SF) (ST := ST) ht hn (show k < 140 by omega) ha hg hc hCo hl with ⟨a', e, c', tf, sf, st, G', Cd', Vl', Co', Cl', TF', SF', ST', x1, x2, x3, x4, x5, x6, x7, x8, x9, x10, x11⟩ | ⟨p, c', g', x, dp, G', Cd', Vl', Co', Cl', TF', SF', ST', x1, x2, x3, x4, x5⟩
    · have hc1 := lk_ge (X := X) (show a' ≤ t by omega)
      have hc2 := lk_le (X := X) (show a' ≤ t by omega)
      have hc3 := lk_lk (X := X) (show a' ≤ t by omega)
      have hP2 : lawP G' Cd' Vl' TF' SF' ST' n (e + 1) c' (k + 1) := lawP_step (lawP_agree hP (fun i hi => x4 i hi) (fun i i1 i2 => x5.1 i (Or.inl (by omega))) (fun i i1 i2 => x6.2 i (by omega))) (by omega) (by omega) (by omega) x8 x9 x10 x11
      have hF2 := fr3_of hF x5 x6 (by omega)
      have eC : f_LawR_reads_L16 (nI t) T (1, nI k, nI a, nI g, G) = some (.inl ((if ch X t (lk X t a') = 59 then ((1 : Int32), nI (lk X t a' + 1)) else (0, nI (lk X t a'))).1, nI (k + 1), (if ch X t (lk X t a') = 59 then ((1 : Int32), nI (lk X t a' + 1)) else (0, nI (lk X t a'))).2, nI (e + 1), G')) := by
        unfold f_LawR_reads_L16
        dsimp only
        rw [if_neg (show ¬ (240 : Int32) ≤ nI k from nI_ge (b := 240) (by omega) (by decide)), if_neg d10, x1, bind_some']
        dsimp only
        rw [if_neg d10, c_takes ht (by omega), bind_some', nx_add]
      unfold mcl
      rw [oLp_go eC, x2, bind_some']
      dsimp only
      by_cases e59 : ch X t (lk X t a') = 59
      · obtain ⟨hlt, _⟩ := ch_lt e59 (by decide)
        rw [if_pos e59]
        dsimp only
        have eM : f_M_readLaw_L9 (nI t) (nI n) X (nI a', -1, 0, Cd', Vl', Co', Cl', TF', SF', ST') = (f_M_clause (nI t) (nI (lk X t a' + 1)) (-1) 0 (nI n) X Cd' Vl' Co' Cl' TF' SF' ST').bind fun a_6 => some (.inl (a_6.1, a_6.2.1, a_6.2.2.1, a_6.2.2.2.1, a_6.2.2.2.2.1, a_6.2.2.2.2.2.1, a_6.2.2.2.2.2.2.1, a_6.2.2.2.2.2.2.2.1, a_6.2.2.2.2.2.2.2.2.1, a_6.2.2.2.2.2.2.2.2.2)) := by
          unfold f_M_readLaw_L9
          dsimp only
          rw [if_pos rfl, m_look h240 (by omega), bind_some', if_pos e59]
          simp only [oL, nx_add]
        rw [oLp_bind eM]
        exact ih (lk X t a' + 1) (e + 1) c' (k + 1) G' Cd' Vl' Co' Cl' TF' SF' ST' (by omega) (by omega) (by omega) (by omega) (by omega) x5.2.1 x7 hP2 hF2
      · rw [if_neg e59]
        dsimp only
        have eM : f_M_readLaw_L9 (nI t) (nI n) X (nI a', -1, 0, Cd', Vl', Co', Cl', TF', SF', ST') = (f_M_readLaw_J43 (nI t) (nI (lk X t a')) (-1) 0 (nI n) X Cd' Vl' Co' Cl' TF' SF' ST').map .inr := by
          unfold f_M_readLaw_L9
          dsimp only
          rw [if_pos rfl, m_look h240 (by omega), bind_some', if_neg e59]
        have eC2 : f_LawR_reads_L16 (nI t) T (0, nI (k + 1), nI (lk X t a'), nI (e + 1), G') = (f_LawR_reads_J52 (nI t) (nI (lk X t a')) T (nI (e + 1)) G').map .inr := by
          unfold f_LawR_reads_L16
          dsimp only
          rw [if_neg (show ¬ (240 : Int32) ≤ nI (k + 1) from nI_ge (b := 240) (by omega) (by decide)), if_pos rfl]
        rw [oLp_map eM, oLp_map eC2]
        unfold f_LawR_reads_J52 f_M_readLaw_J43 f_M_atEnd
        rw [c_sign ht hc2, bind_some', if_pos rfl, m_look h240 hc2, bind_some', hc3]
        dsimp only
        by_cases e0 : ch X t (lk X t a') = -1
        · rw [if_pos e0, if_pos e0]
          left
          exact ⟨e + 1, c', k + 1, _, _, _, G', _, _, _, _, _, _, _, rfl, rfl, ⟨(by omega), (by omega), (by omega)⟩, hP2, x7, hF2⟩
        · rw [if_neg e0, if_neg e0, m_bad, bind_some']
          right
          exact ⟨lk X t a', _, _, _, G', _, _, _, _, _, _, _, rfl, rfl, (by omega), hF2⟩
    · right
      unfold mcl
      rw [x2, bind_some']
      refine ⟨p, g', x, dp, G', _, _, _, _, _, _, _, oLp_out ?_, oLp_out ?_, x3, fr3_of hF x4 x5 (by omega)⟩
      · unfold f_LawR_reads_L16
        dsimp only
        rw [if_neg (show ¬ (240 : Int32) ≤ nI k from nI_ge (b := 240) (by omega) (by decide)), if_neg d10, x1, bind_some']
        rfl
      · unfold f_M_readLaw_L9 f_M_readLaw_J43 f_M_atEnd
        dsimp only
        rw [if_neg (m1_ne (show p < 2 ^ 31 by omega)), if_neg (m1_ne (show p < 2 ^ 31 by omega))]
        rfl
theorem p_readLaw {t n : Nat} {T X G Cd Vl Co Cl TF SF ST : Nat → Int32} {Ta Ma Mw Md Mt Gl : Int32} (ht : tpA t T X) (hn : n < 5) : rdOut t n Cd Vl Co Cl TF SF ST (f_LawR_reads (nI t) Ta T Gl G) (f_M_readLaw (nI t) Ma Mw Md Mt X Cd Vl Co Cl TF SF ST (nI n)) := by
  have h := p_reads (Cd0 := Cd) (Vl0 := Vl) (Co0 := Co) (Cl0 := Cl) (TF0 := TF) (SF0 := SF) (ST0 := ST) ht hn t 0 0 0 0 G Cd Vl (upd Co n 0) (upd Cl n 0) TF SF ST (by omega) (by omega) (by omega) (by omega) (by omega) upd_at upd_at lawP_0 ⟨fun _ _ => ⟨rfl, rfl⟩, fun j hj => ⟨upd_ne hj, upd_ne hj⟩, fun _ _ => ⟨rfl, rfl, rfl⟩⟩
  unfold f_LawR_reads f_M_readLaw f_M_open f_Tape_rewind
  rw [bind_some', oI_nI (j := n) (n := 5) hn (by decide), nI_clamp (n := n) (by omega)]
  simp only [oL]
  rw [oI_nI (j := n) (n := 5) hn (by decide), bind_some']
  exact h
