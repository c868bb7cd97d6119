/-! a text that is taken -/
theorem yA_cp {D Dc Y C R B M F R' B' M' F' : Nat → Int32} {nb nm nf : Nat} (h : yA D Dc (nI nb) (nI nm) (nI nf) R B M F nb nm nf) (y : ∀ j, j < 54 → Y j = D j) (c : ∀ j, j < 4 → C j = Dc j) (hR : ∀ j, j < 3 → R' j = R j) (hB : ∀ j, j < 10 → B' j = B j) (hM : ∀ j, j < 18 → M' j = M j) (hF : ∀ j, j < 18 → F' j = F j) : yA Y C (nI nb) (nI nm) (nI nf) R' B' M' F' nb nm nf := by
  obtain ⟨⟨h5, h6, h6'⟩, ⟨c1, c2, c3⟩, ⟨e1, e2, e3⟩, hr, hbo, hma, hfa, rb, rm, rf, r0, r1, r2⟩ := h
  refine ⟨⟨h5, h6, h6'⟩, ⟨by rw [c 1 (by decide), c1], by rw [c 2 (by decide), c2], by rw [c 3 (by decide), c3]⟩, ⟨rfl, rfl, rfl⟩, fun k hk => ?_, fun b k hb hk => ?_, fun m k hm hk => ?_, fun f k hf hk => ?_, fun b hb => ?_, fun m hm => ?_, fun f hf => ?_, ?_, ?_, ?_⟩
  · rw [y k (by omega), hR k hk, hr k hk]
  · rw [y _ (by omega), hB _ (by omega), hbo b k hb hk]
  · rw [y _ (by omega), hM _ (by omega), hma m k hm hk]
  · rw [y _ (by omega), hF _ (by omega), hfa f k hf hk]
  · rw [hB _ (by omega), hB _ (by omega)]
    exact rb b hb
  · rw [hM _ (by omega), hM _ (by omega), hM _ (by omega)]
    exact rm m hm
  · rw [hF _ (by omega), hF _ (by omega), hF _ (by omega)]
    exact rf f hf
  · rw [hR _ (by decide)]
    exact r0
  · rw [hR _ (by decide)]
    exact r1
  · rw [hR _ (by decide)]
    exact r2
theorem m_takeYard {rR rB rM rF R B M F W : Nat → Int32} {x1 x2 x3 x4 x5 x6 : Int32} {nb nm nf : Nat} (h6 : nm ≤ 6) : ∃ R1 B1 M1 F1 W1 : Nat → Int32, f_M_takeYard (nI nb) (nI nm) (nI nf) x1 x2 x3 x4 x5 x6 rR rB rM rF R B M F W = some (nI nm, nI nb, nI nm, nI nf, 0, 0, 0, R1, B1, M1, F1, W1) ∧ (∀ j, j < 3 → R1 j = rR j) ∧ (∀ j, j < 10 → B1 j = rB j) ∧ (∀ j, j < 18 → M1 j = rM j) ∧ (∀ j, j < 18 → F1 j = rF j) ∧ (∀ m, m < nm → W1 m = rM (3 * m)) ∧ W1 8 = rR 2 ∧ W1 6 = 0 ∧ W1 7 = 0 ∧ W1 9 = 0 ∧ W1 10 = 0 := by
  have k5 : ∀ (R1 B1 M1 F1 V : Nat → Int32), (∀ j, j < 18 → M1 j = rM j) → (∀ j, j < 3 → R1 j = rR j) → (∀ j, j < 131 → V j = 0) → ∃ W1, oLp (f_M_takeYard_L137 (nI nb) (nI nm) (nI nf) R1 B1 M1 F1) (0, V) = some (nI nm, nI nb, nI nm, nI nf, 0, 0, 0, R1, B1, M1, F1, W1) ∧ (∀ m, m < nm → W1 m = rM (3 * m)) ∧ W1 8 = rR 2 ∧ W1 6 = 0 ∧ W1 7 = 0 ∧ W1 9 = 0 ∧ W1 10 = 0 := by
    intro R1 B1 M1 F1 V hM hR hV
    refine qlp1 (fun j (t : Int32 × (Nat → Int32)) => ∃ U : Nat → Int32, t = (nI j, U) ∧ (∀ m, m < j → U m = rM (3 * m)) ∧ ∀ i, j ≤ i → i < 131 → U i = 0) (fun r => ∃ W1 : Nat → Int32, r = some (nI nm, nI nb, nI nm, nI nf, 0, 0, 0, R1, B1, M1, F1, W1) ∧ (∀ m, m < nm → W1 m = rM (3 * m)) ∧ W1 8 = rR 2 ∧ W1 6 = 0 ∧ W1 7 = 0 ∧ W1 9 = 0 ∧ W1 10 = 0) (n := nm) ?_ ?_ (j := 0) (by omega) ⟨V, rfl, fun i hi => absurd hi (by omega), fun i _ hi => hV i hi⟩
    · rintro j t hj ⟨U, rfl, h1, h2⟩
      left
      refine ⟨(nI (j + 1), upd U j (rM (3 * j))), ?_, _, rfl, fun i hi => ?_, fun i hi hi' => ?_⟩
      · unfold f_M_takeYard_L137
        dsimp only
        rw [if_neg (show ¬ nI nm ≤ nI j from nI_ge hj (by omega)), show (0 : Int32) = nI 0 from rfl, m_of (m := j) (k := 0) (by omega) (by decide), bind_some', hM _ (by omega), nI_add, Nat.zero_add, oI_nI (j := j) (n := 131) (by omega) (by decide), nI_clamp (n := j) (by omega), oL_eq, nx_add]
        rfl
      · by_cases e : i = j
        · rw [e, upd_at]
        · rw [upd_ne e]
          exact h1 i (by omega)
      · rw [upd_ne (by omega)]
        exact h2 i (by omega) hi'
    · rintro t ⟨U, rfl, h1, h2⟩
      refine ⟨upd U 8 (rR 2), oLp_out ?_, fun m hm => ?_, upd_at, ?_, ?_, ?_, ?_⟩
      · unfold f_M_takeYard_L137
        dsimp only
        rw [if_pos (Int32.le_refl _), nx_oI (by decide) (by decide), nx_oI (by decide) (by decide), nx_cl 2 (by decide), show R1 (OfNat.ofNat 2) = rR 2 from hR 2 (by decide), nx_cl 8 (by decide)]
        rfl
      · rw [upd_ne (by omega)]
        exact h1 m hm
      · rw [upd_ne (by decide)]
        exact h2 6 (by omega) (by decide)
      · rw [upd_ne (by decide)]
        exact h2 7 (by omega) (by decide)
      · rw [upd_ne (by decide)]
        exact h2 9 (by omega) (by decide)
      · rw [upd_ne (by decide)]
        exact h2 10 (by omega) (by decide)
  have k4 : ∀ (R1 B1 M1 F1 : Nat → Int32), (∀ j, j < 18 → M1 j = rM j) → (∀ j, j < 3 → R1 j = rR j) → ∃ W1, oLp (f_M_takeYard_L115 (nI nb) (nI nm) (nI nf) R1 B1 M1 F1) (0, W) = some (nI nm, nI nb, nI nm, nI nf, 0, 0, 0, R1, B1, M1, F1, W1) ∧ (∀ m, m < nm → W1 m = rM (3 * m)) ∧ W1 8 = rR 2 ∧ W1 6 = 0 ∧ W1 7 = 0 ∧ W1 9 = 0 ∧ W1 10 = 0 := by
    intro R1 B1 M1 F1 hM hR
    refine qlp1 (fun j (t : Int32 × (Nat → Int32)) => ∃ U : Nat → Int32, t = (nI j, U) ∧ ∀ i, i < j → U i = 0) (fun r => ∃ W1 : Nat → Int32, r = some (nI nm, nI nb, nI nm, nI nf, 0, 0, 0, R1, B1, M1, F1, W1) ∧ (∀ m, m < nm → W1 m = rM (3 * m)) ∧ W1 8 = rR 2 ∧ W1 6 = 0 ∧ W1 7 = 0 ∧ W1 9 = 0 ∧ W1 10 = 0) (n := 131) ?_ ?_ (j := 0) (by omega) ⟨W, rfl, fun i hi => absurd hi (by omega)⟩
    · rintro j t hj ⟨U, rfl, h1⟩
      left
      refine ⟨(nI (j + 1), upd U j 0), ?_, _, rfl, fun i hi => ?_⟩
      · unfold f_M_takeYard_L115
        dsimp only
        rw [if_neg (show ¬ (131 : Int32) ≤ nI j from nI_ge (b := 131) hj (by decide)), oI_nI (j := j) (n := 131) (by omega) (by decide), nI_clamp (n := j) (by omega), nx_add]
        rfl
      · by_cases e : i = j
        · rw [e, upd_at]
        · rw [upd_ne e]
          exact h1 i (by omega)
    · rintro t ⟨U, rfl, h1⟩
      obtain ⟨W1, w1, w2⟩ := k5 R1 B1 M1 F1 U hM hR h1
      refine ⟨W1, oLp_map ?_, w2⟩
      unfold f_M_takeYard_L115
      dsimp only
      rw [if_pos (show (131 : Int32) ≤ nI 131 from by decide), w1]
  have k3 : ∀ (R1 B1 : Nat → Int32), (∀ j, j < 3 → R1 j = rR j) → ∃ M1 F1 W1, oLp (f_M_takeYard_L77 (nI nb) (nI nm) (nI nf) rM rF R1 B1 W) (0, M, F) = some (nI nm, nI nb, nI nm, nI nf, 0, 0, 0, R1, B1, M1, F1, W1) ∧ (∀ j, j < 18 → M1 j = rM j) ∧ (∀ j, j < 18 → F1 j = rF j) ∧ (∀ m, m < nm → W1 m = rM (3 * m)) ∧ W1 8 = rR 2 ∧ W1 6 = 0 ∧ W1 7 = 0 ∧ W1 9 = 0 ∧ W1 10 = 0 := by
    intro R1 B1 hR
    refine qlp1 (fun j (t : Int32 × (Nat → Int32) × (Nat → Int32)) => ∃ U V : Nat → Int32, t = (nI j, U, V) ∧ (∀ i, i < j → U i = rM i) ∧ ∀ i, i < j → V i = rF i) (fun r => ∃ M1 F1 W1 : Nat → Int32, r = some (nI nm, nI nb, nI nm, nI nf, 0, 0, 0, R1, B1, M1, F1, W1) ∧ (∀ j, j < 18 → M1 j = rM j) ∧ (∀ j, j < 18 → F1 j = rF j) ∧ (∀ m, m < nm → W1 m = rM (3 * m)) ∧ W1 8 = rR 2 ∧ W1 6 = 0 ∧ W1 7 = 0 ∧ W1 9 = 0 ∧ W1 10 = 0) (n := 18) ?_ ?_ (j := 0) (by omega) ⟨M, F, rfl, fun i hi => absurd hi (by omega), fun i hi => absurd hi (by omega)⟩
    · rintro j t hj ⟨U, V, rfl, h1, h2⟩
      left
      refine ⟨(nI (j + 1), upd U j (rM j), upd V j (rF j)), ?_, _, _, rfl, fun i hi => ?_, fun i hi => ?_⟩
      · unfold f_M_takeYard_L77
        dsimp only
        rw [if_neg (show ¬ (18 : Int32) ≤ nI j from nI_ge (b := 18) hj (by decide)), oI_nI (j := j) (n := 18) (by omega) (by decide), oI_nI (j := j) (n := 18) (by omega) (by decide), nI_clamp (n := j) (by omega), oL_eq, oI_nI (j := j) (n := 18) (by omega) (by decide), oI_nI (j := j) (n := 18) (by omega) (by decide), nx_add]
        rfl
      · by_cases e : i = j
        · rw [e, upd_at]
        · rw [upd_ne e]
          exact h1 i (by omega)
      · by_cases e : i = j
        · rw [e, upd_at]
        · rw [upd_ne e]
          exact h2 i (by omega)
    · rintro t ⟨U, V, rfl, h1, h2⟩
      obtain ⟨W1, w1, w2⟩ := k4 R1 B1 U V h1 hR
      refine ⟨U, V, W1, oLp_map ?_, h1, h2, w2⟩
      unfold f_M_takeYard_L77
      dsimp only
      rw [if_pos (show (18 : Int32) ≤ nI 18 from by decide), w1]
  have k2 : ∀ R1 : Nat → Int32, (∀ j, j < 3 → R1 j = rR j) → ∃ B1 M1 F1 W1, oLp (f_M_takeYard_L51 (nI nb) (nI nm) (nI nf) rB rM rF R1 M F W) (0, B) = some (nI nm, nI nb, nI nm, nI nf, 0, 0, 0, R1, B1, M1, F1, W1) ∧ (∀ j, j < 10 → B1 j = rB j) ∧ (∀ j, j < 18 → M1 j = rM j) ∧ (∀ j, j < 18 → F1 j = rF j) ∧ (∀ m, m < nm → W1 m = rM (3 * m)) ∧ W1 8 = rR 2 ∧ W1 6 = 0 ∧ W1 7 = 0 ∧ W1 9 = 0 ∧ W1 10 = 0 := by
    intro R1 hR
    refine qlp1 (fun j (t : Int32 × (Nat → Int32)) => ∃ U : Nat → Int32, t = (nI j, U) ∧ ∀ i, i < j → U i = rB i) (fun r => ∃ B1 M1 F1 W1 : Nat → Int32, r = some (nI nm, nI nb, nI nm, nI nf, 0, 0, 0, R1, B1, M1, F1, W1) ∧ (∀ j, j < 10 → B1 j = rB j) ∧ (∀ j, j < 18 → M1 j = rM j) ∧ (∀ j, j < 18 → F1 j = rF j) ∧ (∀ m, m < nm → W1 m = rM (3 * m)) ∧ W1 8 = rR 2 ∧ W1 6 = 0 ∧ W1 7 = 0 ∧ W1 9 = 0 ∧ W1 10 = 0) (n := 10) ?_ ?_ (j := 0) (by omega) ⟨B, rfl, fun i hi => absurd hi (by omega)⟩
    · rintro j t hj ⟨U, rfl, h1⟩
      left
      refine ⟨(nI (j + 1), upd U j (rB j)), ?_, _, rfl, fun i hi => ?_⟩
      · unfold f_M_takeYard_L51
        dsimp only
        rw [if_neg (show ¬ (10 : Int32) ≤ nI j from nI_ge (b := 10) hj (by decide)), oI_nI (j := j) (n := 10) (by omega) (by decide), oI_nI (j := j) (n := 10) (by omega) (by decide), nI_clamp (n := j) (by omega), nx_add]
        rfl
      · by_cases e : i = j
        · rw [e, upd_at]
        · rw [upd_ne e]
          exact h1 i (by omega)
    · rintro t ⟨U, rfl, h1⟩
      obtain ⟨M1, F1, W1, w1, w2⟩ := k3 R1 U hR
      refine ⟨U, M1, F1, W1, oLp_map ?_, h1, w2⟩
      unfold f_M_takeYard_L51
      dsimp only
      rw [if_pos (show (10 : Int32) ≤ nI 10 from by decide), w1]
  unfold f_M_takeYard
  refine qlp1 (fun j (t : Int32 × (Nat → Int32)) => ∃ U : Nat → Int32, t = (nI j, U) ∧ ∀ i, i < j → U i = rR i) (fun r => ∃ R1 B1 M1 F1 W1 : Nat → Int32, r = some (nI nm, nI nb, nI nm, nI nf, 0, 0, 0, R1, B1, M1, F1, W1) ∧ (∀ j, j < 3 → R1 j = rR j) ∧ (∀ j, j < 10 → B1 j = rB j) ∧ (∀ j, j < 18 → M1 j = rM j) ∧ (∀ j, j < 18 → F1 j = rF j) ∧ (∀ m, m < nm → W1 m = rM (3 * m)) ∧ W1 8 = rR 2 ∧ W1 6 = 0 ∧ W1 7 = 0 ∧ W1 9 = 0 ∧ W1 10 = 0) (n := 3) ?_ ?_ (j := 0) (by omega) ⟨R, rfl, fun i hi => absurd hi (by omega)⟩
  · rintro j t hj ⟨U, rfl, h1⟩
    left
    refine ⟨(nI (j + 1), upd U j (rR j)), ?_, _, rfl, fun i hi => ?_⟩
    · unfold f_M_takeYard_L26
      dsimp only
      rw [if_neg (show ¬ (3 : Int32) ≤ nI j from nI_ge (b := 3) hj (by decide)), oI_nI (j := j) (n := 3) (by omega) (by decide), oI_nI (j := j) (n := 3) (by omega) (by decide), nI_clamp (n := j) (by omega), nx_add]
      rfl
    · by_cases e : i = j
      · rw [e, upd_at]
      · rw [upd_ne e]
        exact h1 i (by omega)
  · rintro t ⟨U, rfl, h1⟩
    obtain ⟨B1, M1, F1, W1, w1, w2⟩ := k2 U h1
    refine ⟨U, B1, M1, F1, W1, oLp_map ?_, h1, w2⟩
    unfold f_M_takeYard_L26
    dsimp only
    rw [if_pos (show (3 : Int32) ≤ nI 3 from by decide), w1]
