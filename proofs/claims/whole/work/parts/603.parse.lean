/-! readers of a law, side by side -/
theorem qlpW {S T S' T' : Type} {b : S → Option (S ⊕ T)} {b' : S' → Option (S' ⊕ T')} (I : Nat → S → S' → Prop) (Q : Option T → Option T' → Prop) (h : ∀ m s s', I m s s' → (∃ u u' m', m' < m ∧ b s = some (.inl u) ∧ b' s' = some (.inl u') ∧ I m' u u') ∨ Q (oLp b s) (oLp b' s')) {m : Nat} {s : S} {s' : S'} (hs : I m s s') : Q (oLp b s) (oLp b' s') := by
  induction m using Nat.strongRecOn generalizing s s' with
  | _ m ih =>
    rcases h m s s' hs with ⟨u, u', m', hm, e, e', hi⟩ | q
    · rw [oLp_go e, oLp_go e']
      exact ih m' hm hi
    · exact q
abbrev tyC := Int32 → Int32 → (Nat → Int32) → Int32 → (Nat → Int32) → Int32 → Option (Int32 × Int32 × Int32 × (Nat → Int32))
abbrev tyM := Int32 → Int32 → Int32 → Int32 → Int32 → (Nat → Int32) → (Nat → Int32) → (Nat → Int32) → (Nat → Int32) → Option (Int32 × Int32 × Int32 × (Nat → Int32) × (Nat → Int32) × (Nat → Int32))
abbrev trC := Option (Int32 × Int32 × Int32 × (Nat → Int32))
abbrev trM := Option (Int32 × Int32 × Int32 × (Nat → Int32) × (Nat → Int32) × (Nat → Int32))
def fr2 (n c : Nat) (Cd Vl Co Cd' Vl' Co' : Nat → Int32) (c' : Nat) : Prop := (∀ j, (j < 520 * n + c ∨ 520 * n + 520 ≤ j) → Cd' j = Cd j ∧ Vl' j = Vl j) ∧ Co' n = nI c' ∧ ∀ j, j ≠ n → Co' j = Co j
def pOK (t n d a g c : Nat) (G Cd Vl Co : Nat → Int32) (h : Nat) (q : Bool) (rc : trC) (rm : trM) : Prop :=
  ∃ (a' g' c' : Nat) (G' Cd' Vl' Co' : Nat → Int32), rc = some (1, nI a', nI g', G') ∧ rm = some (nI a', -1, nI d, Cd', Vl', Co') ∧ (a < a' ∧ a' ≤ t ∧ g < g' ∧ g' + a ≤ g + a' ∧ c < c' ∧ c' + a ≤ c + a') ∧ (∀ i, i < g → G' i = G i) ∧ fr2 n c Cd Vl Co Cd' Vl' Co' c' ∧ pEv G' Cd' Vl' g g' (520 * n + c) (520 * n + c') h q
def pNO (t n d a c : Nat) (Cd Vl Co : Nat → Int32) (rc : trC) (rm : trM) : Prop :=
  ∃ (p x c' : Nat) (g' dp : Int32) (G' Cd' Vl' Co' : Nat → Int32), rc = some (0, nI p, g', G') ∧ rm = some (nI x, nI p, dp, Cd', Vl', Co') ∧ (p ≤ t ∧ a ≤ x ∧ x + d ≤ t + 6 ∧ c ≤ c' ∧ c' + a ≤ c + x) ∧ fr2 n c Cd Vl Co Cd' Vl' Co' c'
def pOut (t n d a g c : Nat) (G Cd Vl Co : Nat → Int32) (h : Nat) (q : Bool) (rc : trC) (rm : trM) : Prop := pOK t n d a g c G Cd Vl Co h q rc rm ∨ pNO t n d a c Cd Vl Co rc rm
def pS (t n : Nat) (T X : Nat → Int32) (d h : Nat) (q : Bool) (FC : tyC) (FM : tyM) : Prop := ∀ (a g c : Nat) (G Cd Vl Co : Nat → Int32), a ≤ t → g ≤ a → c ≤ a → Co n = nI c → pOut t n d a g c G Cd Vl Co h q (FC (nI t) (nI a) T (nI g) G (nI d)) (FM (nI t) (nI a) (-1) (nI d) (nI n) X Cd Vl Co)
theorem c_emit {g : Nat} {G : Nat → Int32} {k : Int32} (h : g < 240) : f_LawR_emit (nI g) G k = some (nI (g + 1), upd G g k) := by
  unfold f_LawR_emit
  rw [if_neg (show ¬ (240 : Int32) ≤ nI g from nI_ge h (by decide)), oI_nI h (by decide), nI_clamp (by omega)]
  simp only [oL, nx_add]
theorem m_put {n c : Nat} {Cd Vl Co : Nat → Int32} {k v : Int32} (hn : n < 5) (hc : Co n = nI c) (h : c < 520) : f_M_put (nI n) Cd Vl Co k v = some (upd Cd (520 * n + c) k, upd Vl (520 * n + c) v, upd Co n (nI (c + 1))) := by
  unfold f_M_put
  rw [nI_clamp (n := n) (by omega), hc, nx_mull, nI_add, oI_nI (j := n) (n := 5) hn (by decide), oI_nI (j := 520 * n + c) (n := 2600) (by omega) (by decide)]
  simp only [oL]
  rw [oI_nI (j := n) (n := 5) hn (by decide), oI_nI (j := 520 * n + c) (n := 2600) (by omega) (by decide), oI_nI (j := n) (n := 5) hn (by decide), oI_nI (j := n) (n := 5) hn (by decide), nI_clamp (n := 520 * n + c) (by omega), nx_add]
theorem fr2_put {n c c' : Nat} {Cd Vl Co Cd' Vl' Co' : Nat → Int32} {k v : Int32} (x : fr2 n c Cd Vl Co Cd' Vl' Co' c') (hc : c ≤ c') (h : c' < 520) : fr2 n c Cd Vl Co (upd Cd' (520 * n + c') k) (upd Vl' (520 * n + c') v) (upd Co' n (nI (c' + 1))) (c' + 1) := by
  obtain ⟨x1, x2, x3⟩ := x
  refine ⟨fun j hj => ?_, upd_at, fun j hj => (upd_ne hj).trans (x3 j hj)⟩
  rw [upd_ne (by omega), upd_ne (by omega)]
  exact x1 j hj
theorem fr2_id {n c : Nat} {Cd Vl Co : Nat → Int32} (h : Co n = nI c) : fr2 n c Cd Vl Co Cd Vl Co c := ⟨fun _ _ => ⟨rfl, rfl⟩, h, fun _ _ => rfl⟩
theorem fr2_trans {n c c' c2 : Nat} {Cd Vl Co Cd' Vl' Co' Cd2 Vl2 Co2 : Nat → Int32} (x : fr2 n c Cd Vl Co Cd' Vl' Co' c') (y : fr2 n c' Cd' Vl' Co' Cd2 Vl2 Co2 c2) (h : c ≤ c') : fr2 n c Cd Vl Co Cd2 Vl2 Co2 c2 := by
  obtain ⟨x1, x2, x3⟩ := x
  obtain ⟨y1, y2, y3⟩ := y
  refine ⟨fun j hj => ?_, y2, fun j hj => (y3 j hj).trans (x3 j hj)⟩
  have h1 := y1 j (by omega)
  have h2 := x1 j hj
  exact ⟨h1.1.trans h2.1, h1.2.trans h2.2⟩
/-- the code so far stays -/
theorem pEv_fr {n c c' c2 g g2 h : Nat} {q : Bool} {G G' Cd Vl Co Cd' Vl' Co' : Nat → Int32} (x : pEv G Cd Vl g g2 (520 * n + c) (520 * n + c') h q) (hg : ∀ i, i < g2 → G' i = G i) (hf : fr2 n c' Cd Vl Co Cd' Vl' Co' c2) : pEv G' Cd' Vl' g g2 (520 * n + c) (520 * n + c') h q :=
  pEv_agree x (fun i _ h2 => hg i h2) (fun i _ h2 => hf.1 i (Or.inl h2))
/-- one operator more -/
theorem pEv_step {n c0 c c' g0 g g' h hh o : Nat} {o' : Int32} {qi qo : Bool} {G G' Cd Vl Co Cd' Vl' Co' : Nat → Int32} {v : Int32} (x : pEv G Cd Vl g0 g (520 * n + c0) (520 * n + c) hh qi) (y : pEv G' Cd' Vl' g g' (520 * n + c) (520 * n + c') h qi) (hg : ∀ i, i < g → G' i = G i) (hf : fr2 n c Cd Vl Co Cd' Vl' Co' c') (hp : opP o o' qi qo) (h1 : g0 ≤ g) (h2 : g ≤ g') (h3 : c0 ≤ c) (h4 : c ≤ c') (ho : o < 1000) (hn : o ≠ 33) (h0 : ¬ o' = 0) (h1' : ¬ o' = 1) (h9 : ¬ o' = 9) (q2 : h + 1 ≤ hh) (q3 : 3 ≤ hh) : pEv (upd G' g' (nI (20000 + o))) (upd Cd' (520 * n + c') o') (upd Vl' (520 * n + c') v) g0 (g' + 1) (520 * n + c0) (520 * n + (c' + 1)) hh qo := by
  refine pEv_op (b' := 520 * n + c) (c' := 520 * n + c') (pEv_agree x ?_ ?_) (pEv_agree y ?_ ?_) hp h1 h2 (by omega) (by omega) upd_at upd_at ho hn h0 h1' h9 (Nat.le_refl _) q2 q3
  · intro i i1 i2
    rw [upd_ne (by omega)]
    exact hg i i2
  · intro i i1 i2
    rw [upd_ne (by omega), upd_ne (by omega)]
    exact hf.1 i (Or.inl i2)
  · intro i i1 i2
    exact upd_ne (by omega)
  · intro i i1 i2
    exact ⟨upd_ne (by omega), upd_ne (by omega)⟩
theorem pOut_mono {t n d a g c : Nat} {G Cd Vl Co : Nat → Int32} {h h' : Nat} {q : Bool} {rc : trC} {rm : trM} (x : pOut t n d a g c G Cd Vl Co h q rc rm) (hh : h ≤ h') : pOut t n d a g c G Cd Vl Co h' q rc rm := by
  rcases x with ⟨a', g', c', G', Cd', Vl', Co', x1, x2, x3, x4, x5, x6⟩ | x
  · exact Or.inl ⟨a', g', c', G', Cd', Vl', Co', x1, x2, x3, x4, x5, pEv_mono x6 hh⟩
  · exact Or.inr x
theorem m_bad {a : Nat} : f_M_bad (nI a) (-1) = some (nI a) := rfl
theorem p_term {t n d h : Nat} {T X : Nat → Int32} {RR : tyC} {RM : tyM} (ht : tpA t T X) (hn : n < 5) (hd : d ≤ 6) (h2 : 2 ≤ h) (hA : pS t n T X d h false (f_LawR_readAtomB RR) (f_M_atomB RM)) : pS t n T X d (h + 1) false (f_LawR_readTermB RR) (f_M_termB RM) := by
  intro a0 g0 c0 G0 Cd0 Vl0 Co0 ha0 hg0 hc0 hCo0
  have h240 := ht.1
  unfold f_LawR_readTermB f_M_termB
  rcases hA a0 g0 c0 G0 Cd0 Vl0 Co0 ha0 hg0 hc0 hCo0 with ⟨a', g', c', G', Cd', Vl', Co', x1, x2, x3, x4, x5, x6⟩ | ⟨p, x, c', g', dp, G', Cd', Vl', Co', x1, x2, x3, x4⟩
  · rw [x1, x2, bind_some', bind_some']
    dsimp only
    rw [if_neg d10, if_pos rfl, m_look h240 (by omega), bind_some']
    unfold f_M_term_J20
    dsimp only
    refine qlpW (fun m (s : Int32 × Int32 × Int32 × (Nat → Int32)) (s' : Int32 × Int32 × Int32 × Int32 × (Nat → Int32) × (Nat → Int32) × (Nat → Int32)) => ∃ (k a g c : Nat) (G Cd Vl Co : Nat → Int32), m = t - a ∧ s = (nI k, nI a, nI g, G) ∧ s' = (ch X t (lk X t a), nI (lk X t a), -1, nI d, Cd, Vl, Co) ∧ (a0 < a ∧ a ≤ t ∧ g0 < g ∧ g + a0 ≤ g0 + a ∧ c0 < c ∧ c + a0 ≤ c0 + a ∧ k < a) ∧ (∀ i, i < g0 → G i = G0 i) ∧ fr2 n c0 Cd0 Vl0 Co0 Cd Vl Co c ∧ pEv G Cd Vl g0 g (520 * n + c0) (520 * n + c) (h + 1) false) (pOut t n d a0 g0 c0 G0 Cd0 Vl0 Co0 (h + 1) false) ?_ (m := t - a') ⟨0, a', g', c', G', Cd', Vl', Co', rfl, rfl, rfl, ⟨x3.1, x3.2.1, x3.2.2.1, x3.2.2.2.1, x3.2.2.2.2.1, x3.2.2.2.2.2, by omega⟩, x4, x5, pEv_mono x6 (by omega)⟩
    clear x1 x2 x3 x4 x5 x6 a' g' c' G' Cd' Vl' Co'
    rintro m s s' ⟨k, a, g, c, G, Cd, Vl, Co, rfl, rfl, rfl, ⟨y1, y2, y3, y4, y5, y6, y7⟩, y8, y9, y10⟩
    have hb1 := lk_ge (X := X) y2
    have hb2 := lk_le (X := X) y2
    have step : ∀ (o : Nat) (o' : Int32), opP o o' false false → o < 1000 → o ≠ 33 → ¬ o' = 0 → ¬ o' = 1 → ¬ o' = 9 → lk X t a < t → f_LawR_readTerm_L12 RR (nI t) T (nI d) (nI k, nI a, nI g, G) = f_LawR_readTerm_J41 RR (nI t) (nI (lk X t a)) T (nI g) G (nI d) (nI k) (nI o) → f_M_term_L21 RM (nI t) (nI n) X (ch X t (lk X t a), nI (lk X t a), -1, nI d, Cd, Vl, Co) = ((f_M_atomB RM (nI t) (nI (lk X t a + 1)) (-1) (nI d) (nI n) X Cd Vl Co).bind fun r => f_M_term_J59 (nI t) r.1 r.2.1 r.2.2.1 (nI n) X r.2.2.2.1 r.2.2.2.2.1 r.2.2.2.2.2 o') → ((∃ u u' m', m' < t - a ∧ f_LawR_readTerm_L12 RR (nI t) T (nI d) (nI k, nI a, nI g, G) = some (.inl u) ∧ f_M_term_L21 RM (nI t) (nI n) X (ch X t (lk X t a), nI (lk X t a), -1, nI d, Cd, Vl, Co) = some (.inl u') ∧ ∃ (k a g c : Nat) (G Cd Vl Co : Nat → Int32), m' = t - a ∧ u = (nI k, nI a, nI g, G) ∧ u' = (ch X t (lk X t a), nI (lk X t a), -1, nI d, Cd, Vl, Co) ∧ (a0 < a ∧ a ≤ t ∧ g0 < g ∧ g + a0 ≤ g0 + a ∧ c0 < c ∧ c + a0 ≤ c0 + a ∧ k < a) ∧ (∀ i, i < g0 → G i = G0 i) ∧ fr2 n c0 Cd0 Vl0 Co0 Cd Vl Co c ∧ pEv G Cd Vl g0 g (520 * n + c0) (520 * n + c) (h + 1) false) ∨ pOut t n d a0 g0 c0 G0 Cd0 Vl0 Co0 (h + 1) false (oLp (f_LawR_readTerm_L12 RR (nI t) T (nI d)) (nI k, nI a, nI g, G)) (oLp (f_M_term_L21 RM (nI t) (nI n) X) (ch X t (lk X t a), nI (lk X t a), -1, nI d, Cd, Vl, Co))) := by
      intro o o' hop ho hno z0 z1 z9 hlt eC eM
      unfold f_LawR_readTerm_J41 f_Tape_step at eC
      simp only [oL, bind_some', nx_add] at eC
      rcases hA (lk X t a + 1) g c G Cd Vl Co (by omega) (by omega) (by omega) y9.2.1 with ⟨a', g', c', G', Cd', Vl', Co', x1, x2, x3, x4, x5, x6⟩ | ⟨p, x, c', g', dp, G', Cd', Vl', Co', x1, x2, x3, x4⟩
      · left
        rw [x1, bind_some'] at eC
        dsimp only at eC
        rw [if_neg d10, c_emit (show g' < 240 by omega), bind_some'] at eC
        rw [x2, bind_some'] at eM
        dsimp only at eM
        unfold f_M_term_J59 f_M_term_J79 at eM
        rw [m_put hn x5.2.1 (show c' < 520 by omega), bind_some', if_pos rfl, m_look h240 (by omega), bind_some'] at eM
        have etok : (20000 : Int32) + nI o = nI (20000 + o) := nI_add 20000 o
        rw [etok] at eC
        dsimp only at eC eM
        refine ⟨_, _, t - a', (by omega), eC, eM, k + 1, a', g' + 1, c' + 1, _, _, _, _, rfl, rfl, rfl, ⟨(by omega), (by omega), (by omega), (by omega), (by omega), (by omega), (by omega)⟩, fun i hi => ?_, fr2_put (fr2_trans y9 x5 (by omega)) (by omega) (by omega), ?_⟩
        · rw [upd_ne (by omega), x4 i (by omega)]
          exact y8 i hi
        · exact pEv_step y10 x6 x4 x5 hop (by omega) (by omega) (by omega) (by omega) ho hno z0 z1 z9 (by omega) (by omega)
      · right
        rw [x1, bind_some'] at eC
        dsimp only at eC
        rw [if_pos rfl] at eC
        rw [x2, bind_some'] at eM
        dsimp only at eM
        unfold f_M_term_J59 f_M_term_J79 at eM
        rw [m_put hn x4.2.1 (show c' < 520 by omega), bind_some', if_neg (m1_ne (show p < 2 ^ 31 by omega))] at eM
        rw [oLp_out eC, oLp_go eM]
        right
        refine ⟨p, x, c' + 1, g', dp, G', _, _, _, rfl, oLp_out rfl, ⟨(by omega), (by omega), (by omega), (by omega), (by omega)⟩, fr2_put (fr2_trans y9 x4 (by omega)) (by omega) (by omega)⟩
    have hk : ¬ (240 : Int32) ≤ nI k := nI_ge (b := 240) (by omega) (by decide)
    by_cases e1 : ch X t (lk X t a) = 42
    · obtain ⟨hlt, _⟩ := ch_lt e1 (by decide)
      refine step 42 4 op_mul (by decide) (by decide) (by decide) (by decide) (by decide) hlt ?_ ?_
      · unfold f_LawR_readTerm_L12
        dsimp only
        rw [if_neg hk, c_sign ht y2, bind_some', e1, if_pos rfl]
        rfl
      · unfold f_M_term_L21
        dsimp only
        rw [e1, if_pos rfl]
        unfold f_M_term_J33
        simp only [oL, nx_add]
        rfl
    · by_cases e2 : ch X t (lk X t a) = 47
      · obtain ⟨hlt, _⟩ := ch_lt e2 (by decide)
        refine step 47 5 op_div (by decide) (by decide) (by decide) (by decide) (by decide) hlt ?_ ?_
        · unfold f_LawR_readTerm_L12
          dsimp only
          rw [if_neg hk, c_sign ht y2, bind_some', e2]
          dsimp only
          rw [if_neg (by decide), if_pos rfl]
          rfl
        · unfold f_M_term_L21
          dsimp only
          rw [e2, if_neg (by decide), if_pos rfl]
          unfold f_M_term_J33
          simp only [oL, nx_add]
          rfl
      · right
        left
        refine ⟨lk X t a, g, c, G, Cd, Vl, Co, oLp_out ?_, oLp_out ?_, ⟨(by omega), (by omega), (by omega), (by omega), (by omega), (by omega)⟩, y8, y9, y10⟩
        · unfold f_LawR_readTerm_L12
          dsimp only
          rw [if_neg hk, c_sign ht y2, bind_some', if_neg e1, if_neg e2]
        · unfold f_M_term_L21
          dsimp only
          rw [if_neg e1, if_neg e2]
  · rw [x1, x2, bind_some', bind_some']
    dsimp only
    rw [if_pos rfl, if_neg (m1_ne (show p < 2 ^ 31 by omega))]
    right
    exact ⟨p, x, c', g', dp, G', Cd', Vl', Co', rfl, oLp_out rfl, x3, x4⟩
theorem p_sum {t n d h : Nat} {T X : Nat → Int32} {RR : tyC} {RM : tyM} (ht : tpA t T X) (hn : n < 5) (hd : d ≤ 6) (h2 : 2 ≤ h) (hA : pS t n T X d h false (f_LawR_readTermB RR) (f_M_termB RM)) : pS t n T X d (h + 1) false (f_LawR_readSumB RR) (f_M_sumB RM) := by
  intro a0 g0 c0 G0 Cd0 Vl0 Co0 ha0 hg0 hc0 hCo0
  have h240 := ht.1
  unfold f_LawR_readSumB f_M_sumB
  rcases hA a0 g0 c0 G0 Cd0 Vl0 Co0 ha0 hg0 hc0 hCo0 with ⟨a', g', c', G', Cd', Vl', Co', x1, x2, x3, x4, x5, x6⟩ | ⟨p, x, c', g', dp, G', Cd', Vl', Co', x1, x2, x3, x4⟩
  · rw [x1, x2, bind_some', bind_some']
    dsimp only
    rw [if_neg d10, if_pos rfl, m_look h240 (by omega), bind_some']
    unfold f_M_sum_J20
    dsimp only
    refine qlpW (fun m (s : Int32 × Int32 × Int32 × (Nat → Int32)) (s' : Int32 × Int32 × Int32 × Int32 × (Nat → Int32) × (Nat → Int32) × (Nat → Int32)) => ∃ (k a g c : Nat) (G Cd Vl Co : Nat → Int32), m = t - a ∧ s = (nI k, nI a, nI g, G) ∧ s' = (ch X t (lk X t a), nI (lk X t a), -1, nI d, Cd, Vl, Co) ∧ (a0 < a ∧ a ≤ t ∧ g0 < g ∧ g + a0 ≤ g0 + a ∧ c0 < c ∧ c + a0 ≤ c0 + a ∧ k < a) ∧ (∀ i, i < g0 → G i = G0 i) ∧ fr2 n c0 Cd0 Vl0 Co0 Cd Vl Co c ∧ pEv G Cd Vl g0 g (520 * n + c0) (520 * n + c) (h + 1) false) (pOut t n d a0 g0 c0 G0 Cd0 Vl0 Co0 (h + 1) false) ?_ (m := t - a') ⟨0, a', g', c', G', Cd', Vl', Co', rfl, rfl, rfl, ⟨x3.1, x3.2.1, x3.2.2.1, x3.2.2.2.1, x3.2.2.2.2.1, x3.2.2.2.2.2, by omega⟩, x4, x5, pEv_mono x6 (by omega)⟩
    clear x1 x2 x3 x4 x5 x6 a' g' c' G' Cd' Vl' Co'
    rintro m s s' ⟨k, a, g, c, G, Cd, Vl, Co, rfl, rfl, rfl, ⟨y1, y2, y3, y4, y5, y6, y7⟩, y8, y9, y10⟩
    have hb1 := lk_ge (X := X) y2
    have hb2 := lk_le (X := X) y2
    have step : ∀ (o : Nat) (o' : Int32), opP o o' false false → o < 1000 → o ≠ 33 → ¬ o' = 0 → ¬ o' = 1 → ¬ o' = 9 → lk X t a < t → f_LawR_readSum_L12 RR (nI t) T (nI d) (nI k, nI a, nI g, G) = f_LawR_readSum_J41 RR (nI t) (nI (lk X t a)) T (nI g) G (nI d) (nI k) (nI o) → f_M_sum_L21 RM (nI t) (nI n) X (ch X t (lk X t a), nI (lk X t a), -1, nI d, Cd, Vl, Co) = ((f_M_termB RM (nI t) (nI (lk X t a + 1)) (-1) (nI d) (nI n) X Cd Vl Co).bind fun r => f_M_sum_J59 (nI t) r.1 r.2.1 r.2.2.1 (nI n) X r.2.2.2.1 r.2.2.2.2.1 r.2.2.2.2.2 o') → ((∃ u u' m', m' < t - a ∧ f_LawR_readSum_L12 RR (nI t) T (nI d) (nI k, nI a, nI g, G) = some (.inl u) ∧ f_M_sum_L21 RM (nI t) (nI n) X (ch X t (lk X t a), nI (lk X t a), -1, nI d, Cd, Vl, Co) = some (.inl u') ∧ ∃ (k a g c : Nat) (G Cd Vl Co : Nat → Int32), m' = t - a ∧ u = (nI k, nI a, nI g, G) ∧ u' = (ch X t (lk X t a), nI (lk X t a), -1, nI d, Cd, Vl, Co) ∧ (a0 < a ∧ a ≤ t ∧ g0 < g ∧ g + a0 ≤ g0 + a ∧ c0 < c ∧ c + a0 ≤ c0 + a ∧ k < a) ∧ (∀ i, i < g0 → G i = G0 i) ∧ fr2 n c0 Cd0 Vl0 Co0 Cd Vl Co c ∧ pEv G Cd Vl g0 g (520 * n + c0) (520 * n + c) (h + 1) false) ∨ pOut t n d a0 g0 c0 G0 Cd0 Vl0 Co0 (h + 1) false (oLp (f_LawR_readSum_L12 RR (nI t) T (nI d)) (nI k, nI a, nI g, G)) (oLp (f_M_sum_L21 RM (nI t) (nI n) X) (ch X t (lk X t a), nI (lk X t a), -1, nI d, Cd, Vl, Co))) := by
      intro o o' hop ho hno z0 z1 z9 hlt eC eM
      unfold f_LawR_readSum_J41 f_Tape_step at eC
      simp only [oL, bind_some', nx_add] at eC
      rcases hA (lk X t a + 1) g c G Cd Vl Co (by omega) (by omega) (by omega) y9.2.1 with ⟨a', g', c', G', Cd', Vl', Co', x1, x2, x3, x4, x5, x6⟩ | ⟨p, x, c', g', dp, G', Cd', Vl', Co', x1, x2, x3, x4⟩
      · left
        rw [x1, bind_some'] at eC
        dsimp only at eC
        rw [if_neg d10, c_emit (show g' < 240 by omega), bind_some'] at eC
        rw [x2, bind_some'] at eM
        dsimp only at eM
        unfold f_M_sum_J59 f_M_sum_J79 at eM
        rw [m_put hn x5.2.1 (show c' < 520 by omega), bind_some', if_pos rfl, m_look h240 (by omega), bind_some'] at eM
        have etok : (20000 : Int32) + nI o = nI (20000 + o) := nI_add 20000 o
        rw [etok] at eC
        dsimp only at eC eM
        refine ⟨_, _, t - a', (by omega), eC, eM, k + 1, a', g' + 1, c' + 1, _, _, _, _, rfl, rfl, rfl, ⟨(by omega), (by omega), (by omega), (by omega), (by omega), (by omega), (by omega)⟩, fun i hi => ?_, fr2_put (fr2_trans y9 x5 (by omega)) (by omega) (by omega), ?_⟩
        · rw [upd_ne (by omega), x4 i (by omega)]
          exact y8 i hi
        · exact pEv_step y10 x6 x4 x5 hop (by omega) (by omega) (by omega) (by omega) ho hno z0 z1 z9 (by omega) (by omega)
      · right
        rw [x1, bind_some'] at eC
        dsimp only at eC
        rw [if_pos rfl] at eC
        rw [x2, bind_some'] at eM
        dsimp only at eM
        unfold f_M_sum_J59 f_M_sum_J79 at eM
        rw [m_put hn x4.2.1 (show c' < 520 by omega), bind_some', if_neg (m1_ne (show p < 2 ^ 31 by omega))] at eM
        rw [oLp_out eC, oLp_go eM]
        right
        refine ⟨p, x, c' + 1, g', dp, G', _, _, _, rfl, oLp_out rfl, ⟨(by omega), (by omega), (by omega), (by omega), (by omega)⟩, fr2_put (fr2_trans y9 x4 (by omega)) (by omega) (by omega)⟩
    have hk : ¬ (240 : Int32) ≤ nI k := nI_ge (b := 240) (by omega) (by decide)
    by_cases e1 : ch X t (lk X t a) = 43
    · obtain ⟨hlt, _⟩ := ch_lt e1 (by decide)
      refine step 43 2 op_add (by decide) (by decide) (by decide) (by decide) (by decide) hlt ?_ ?_
      · unfold f_LawR_readSum_L12
        dsimp only
        rw [if_neg hk, c_sign ht y2, bind_some', e1, if_pos rfl]
        rfl
      · unfold f_M_sum_L21
        dsimp only
        rw [e1, if_pos rfl]
        unfold f_M_sum_J33
        simp only [oL, nx_add]
        rfl
    · by_cases e2 : ch X t (lk X t a) = 45
      · obtain ⟨hlt, _⟩ := ch_lt e2 (by decide)
        refine step 45 3 op_sub (by decide) (by decide) (by decide) (by decide) (by decide) hlt ?_ ?_
        · unfold f_LawR_readSum_L12
          dsimp only
          rw [if_neg hk, c_sign ht y2, bind_some', e2]
          dsimp only
          rw [if_neg (by decide), if_pos rfl]
          rfl
        · unfold f_M_sum_L21
          dsimp only
          rw [e2, if_neg (by decide), if_pos rfl]
          unfold f_M_sum_J33
          simp only [oL, nx_add]
          rfl
      · right
        left
        refine ⟨lk X t a, g, c, G, Cd, Vl, Co, oLp_out ?_, oLp_out ?_, ⟨(by omega), (by omega), (by omega), (by omega), (by omega), (by omega)⟩, y8, y9, y10⟩
        · unfold f_LawR_readSum_L12
          dsimp only
          rw [if_neg hk, c_sign ht y2, bind_some', if_neg e1, if_neg e2]
        · unfold f_M_sum_L21
          dsimp only
          rw [if_neg e1, if_neg e2]
  · rw [x1, x2, bind_some', bind_some']
    dsimp only
    rw [if_pos rfl, if_neg (m1_ne (show p < 2 ^ 31 by omega))]
    right
    exact ⟨p, x, c', g', dp, G', Cd', Vl', Co', rfl, oLp_out rfl, x3, x4⟩
