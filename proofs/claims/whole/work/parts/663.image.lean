/-! the log, the image -/
theorem lgl {d : Nat} (hd : d ≤ 9999) : f_Past_logLength (nI d) = some (nI (min d 60)) := by
  unfold f_Past_logLength
  rw [show (60 : Int32) = nI 60 from rfl, jmin_nat (by omega) (by decide)]
theorem q_log {W E : Nat → Int32} {nb nm d : Nat} {p0 p1 : Int32} (h : stL W E nb nm d) : ∃ v, f_Main_log (W 9) E p0 p1 = some v ∧ f_M_log W p0 p1 = some v := by
  obtain ⟨s1, s2, s3, s4, s5, s6⟩ := h
  unfold f_Main_log f_M_log
  rw [s3, nx_oI (by decide) (by decide), nx_cl 10 (by decide), show W (OfNat.ofNat 10) = nI (min d 60) from s5, in_inB p0 (by omega), bind_some', lgl s4]
  rcases inB_cases p0 (n := min d 60) (by omega) with ⟨e, hn⟩ | ⟨i, hi, rfl, e⟩
  · rw [e, if_pos rfl]
    by_cases h0 : p0 < 0
    · rw [if_pos h0]
      exact ⟨_, rfl, rfl⟩
    · rw [if_neg h0, bind_some', if_neg]
      · exact ⟨_, rfl, rfl⟩
      · intro q
        rcases ix_cases p0 (n := min d 60) (by omega) with z | ⟨j, hj, z⟩
        · exact z ⟨h0, q⟩
        · exact hn j hj z
  · rw [e, if_neg d10, if_neg (nI_lt0 (by omega)), bind_some', if_pos ((nx_lt (by omega) (by omega)).mpr hi), show (1 : Int32) = nI 2 - 1 from rfl, in_inB p1 (by decide), bind_some']
    obtain ⟨s, c, h1, h2, h3, h4, h5⟩ := s6 (min d 60 - 1 - i) (by omega)
    have e1 : nI (min d 60) - (nI 2 - 1) - nI i = nI (min d 60 - 1 - i) := by
      rw [show nI 2 - 1 = nI 1 from rfl, nx_subN (by omega), nx_subN (by omega)]
    have e2 : (d - min d 60 + (min d 60 - 1 - i)) = d - 1 - i := (by omega)
    rw [e2] at h5
    rcases inB_cases p1 (n := 2) (by decide) with ⟨e', hn⟩ | ⟨b, hb, rfl, e'⟩
    · rw [e', if_pos rfl, if_neg (show ¬ p1 = 0 from hn 0 (by decide)), if_neg (show ¬ p1 = nI 2 - 1 from hn 1 (by decide))]
      exact ⟨_, rfl, rfl⟩
    · rw [e', if_neg d10, nx_oI (by decide) (by decide)]
      unfold f_Past_sweetsThen f_Past_contentThen
      rw [ring_nat (d := d) (i := i) (by omega) s4, bind_some', oI_nI (j := (d - 1 - i) % 128) (n := 128) (Nat.mod_lt _ (by decide)) (by decide), nI_clamp (n := (d - 1 - i) % 128) (by omega), h5, e1, nx_mull, nx_addl, nI_add]
      rcases (show b = 0 ∨ b = 1 by omega) with rfl | rfl
      · rw [if_pos (show nI 0 = 0 from rfl), ent_s h1 h2, oI_nI (j := 11 + 2 * (min d 60 - 1 - i) + 0) (n := 131) (by omega) (by decide), nI_clamp (n := 11 + 2 * (min d 60 - 1 - i) + 0) (by omega), Nat.add_zero, h3]
        exact ⟨_, rfl, rfl⟩
      · rw [if_neg (show ¬ nI 1 = 0 from by decide), if_pos (show nI 1 = nI 2 - 1 from rfl), bind_some', oI_nI (j := (d - 1 - i) % 128) (n := 128) (Nat.mod_lt _ (by decide)) (by decide), nI_clamp (n := (d - 1 - i) % 128) (by omega), h5, ent_c h2, oI_nI (j := 11 + 2 * (min d 60 - 1 - i) + 1) (n := 131) (by omega) (by decide), nI_clamp (n := 11 + 2 * (min d 60 - 1 - i) + 1) (by omega), show 11 + 2 * (min d 60 - 1 - i) + 1 = 12 + 2 * (min d 60 - 1 - i) from (by omega), h4]
        exact ⟨_, rfl, rfl⟩
theorem m_copyB {W V : Nat → Int32} : ∃ U : Nat → Int32, oLp (f_M_back_L11 W) (0, V) = some (W 9, 0, U) ∧ ∀ j, j < 131 → U j = W j := by
  refine qlp1 (fun j (t : Int32 × (Nat → Int32)) => ∃ M1 : Nat → Int32, t = (nI j, M1) ∧ ∀ i, i < j → M1 i = W i) (fun r => ∃ U : Nat → Int32, r = some (W 9, 0, U) ∧ ∀ j, j < 131 → U j = W j) (n := 131) ?_ ?_ (j := 0) (by omega) ⟨V, rfl, fun i hi => absurd hi (by omega)⟩
  · rintro j t hj ⟨M1, rfl, h1⟩
    left
    refine ⟨(nI (j + 1), upd M1 j (W j)), ?_, _, rfl, fun i hi => ?_⟩
    · unfold f_M_back_L11
      dsimp only
      rw [if_neg (show ¬ (131 : Int32) ≤ nI j from nI_ge (b := 131) hj (by decide)), oI_nI (j := j) (n := 131) hj (by decide), oI_nI (j := j) (n := 131) hj (by decide), nI_clamp (n := j) (by omega), nx_add]
      rfl
    · by_cases e : i = j
      · subst e
        exact upd_at
      · rw [upd_ne e]
        exact h1 i (by omega)
  · rintro t ⟨M1, rfl, h1⟩
    refine ⟨M1, oLp_out ?_, h1⟩
    unfold f_M_back_L11
    dsimp only
    rw [if_pos (show (131 : Int32) ≤ nI 131 from by decide), nx_oI (by decide) (by decide), nx_cl 9 (by decide), show M1 (OfNat.ofNat 9) = W 9 from h1 9 (by decide)]
    rfl
theorem m_copyI {W V : Nat → Int32} : ∃ U : Nat → Int32, oLp (f_M_image_L11 W) (0, V) = some (W 9, 1, U) ∧ ∀ j, j < 131 → U j = W j := by
  refine qlp1 (fun j (t : Int32 × (Nat → Int32)) => ∃ M1 : Nat → Int32, t = (nI j, M1) ∧ ∀ i, i < j → M1 i = W i) (fun r => ∃ U : Nat → Int32, r = some (W 9, 1, U) ∧ ∀ j, j < 131 → U j = W j) (n := 131) ?_ ?_ (j := 0) (by omega) ⟨V, rfl, fun i hi => absurd hi (by omega)⟩
  · rintro j t hj ⟨M1, rfl, h1⟩
    left
    refine ⟨(nI (j + 1), upd M1 j (W j)), ?_, _, rfl, fun i hi => ?_⟩
    · unfold f_M_image_L11
      dsimp only
      rw [if_neg (show ¬ (131 : Int32) ≤ nI j from nI_ge (b := 131) hj (by decide)), oI_nI (j := j) (n := 131) hj (by decide), oI_nI (j := j) (n := 131) hj (by decide), nI_clamp (n := j) (by omega), nx_add]
      rfl
    · by_cases e : i = j
      · subst e
        exact upd_at
      · rw [upd_ne e]
        exact h1 i (by omega)
  · rintro t ⟨M1, rfl, h1⟩
    refine ⟨M1, oLp_out ?_, h1⟩
    unfold f_M_image_L11
    dsimp only
    rw [if_pos (show (131 : Int32) ≤ nI 131 from by decide), nx_oI (by decide) (by decide), nx_cl 9 (by decide)]
    rfl
def imL (Mi Pe : Nat → Int32) (nb nm d : Nat) : Prop := ∃ E, stL Mi E nb nm d ∧ ∀ j, j < min d 60 → Pe (min d 60 - 1 - j) = E ((d - min d 60 + j) % 128)
def imA (nb nm : Nat) (Ph : Int32) (Pi : Int64) (Pe : Nat → Int32) (Mh : Int32) (Mi : Nat → Int32) : Prop := (Ph = 0 ∧ Mh = 0) ∨ (Ph = 1 ∧ Mh = 1 ∧ Pi = lN (pkN Mi nm) ∧ ∃ d, imL Mi Pe nb nm d)
theorem c_restore {E Pe On : Nat → Int32} {a b c d' : Int32} {d : Nat} (hd : d ≤ 9999) (hd' : d' = nI d) : ∃ E1 : Nat → Int32, oLp (f_Past_restoreImage_L22 a b c d' On Pe) (0, E) = some (1, a, b, c, d', On, 0, E1) ∧ ∀ i, i < min d 60 → E1 ((d - 1 - i) % 128) = Pe i := by
  subst hd'
  refine qlp1 (fun j (t : Int32 × (Nat → Int32)) => ∃ M1 : Nat → Int32, t = (nI j, M1) ∧ ∀ i, i < j → M1 ((d - 1 - i) % 128) = Pe i) (fun r => ∃ U : Nat → Int32, r = some (1, a, b, c, nI d, On, 0, U) ∧ ∀ i, i < min d 60 → U ((d - 1 - i) % 128) = Pe i) (n := min d 60) ?_ ?_ (j := 0) (by omega) ⟨E, rfl, fun i hi => absurd hi (by omega)⟩
  · rintro j t hj ⟨M1, rfl, h1⟩
    left
    refine ⟨(nI (j + 1), upd M1 ((d - 1 - j) % 128) (Pe j)), ?_, _, rfl, fun i hi => ?_⟩
    · unfold f_Past_restoreImage_L22
      dsimp only
      rw [lgl hd, bind_some', if_neg (show ¬ nI (min d 60) ≤ nI j from nI_ge hj (by omega)), ring_nat (d := d) (i := j) (by omega) hd, bind_some', oI_nI (j := j) (n := 60) (by omega) (by decide), oI_nI (j := (d - 1 - j) % 128) (n := 128) (Nat.mod_lt _ (by decide)) (by decide), nI_clamp (n := (d - 1 - j) % 128) (by omega), nI_clamp (n := j) (by omega), nx_add]
      rfl
    · by_cases e : i = j
      · subst e
        exact upd_at
      · rw [upd_ne (by omega)]
        exact h1 i (by omega)
  · rintro t ⟨M1, rfl, h1⟩
    refine ⟨M1, oLp_out ?_, h1⟩
    unfold f_Past_restoreImage_L22
    dsimp only
    rw [lgl hd, bind_some', if_pos (Int32.le_refl _)]
    rfl
theorem ps_back {W On Mk E Pe Mi : Nat → Int32} {Pa : Nat → Int64} {Pi : Int64} {Pn Pk Ma Ph Mh : Int32} {nb nm : Nat} (h5 : nb ≤ 5) (h6 : nm ≤ 6) (hO : ∀ m, m < nm → On m = W m) (x : psA nb nm Pn Pk Pa E Ma Mk W) (i : imA nb nm Ph Pi Pe Mh Mi) : ∃ v W1 On1 Pk1 E1 Ma1, f_Main_back (nI nm) (W 6) (W 7) (W 8) (W 9) On Pk Ph Pi E Pe = some (v, W1 6, W1 7, W1 8, W1 9, On1, Pk1, E1) ∧ f_M_back Ma Mh W Mi = some (v, Ma1, W1) ∧ (∀ m, m < nm → On1 m = W1 m) ∧ psA nb nm Pn Pk1 Pa E1 Ma1 Mk W1 := by
  unfold f_Main_back f_Past_restoreImage f_M_back
  rcases i with ⟨rfl, rfl⟩ | ⟨rfl, rfl, rfl, d, Ei, hst, hE⟩
  · rw [if_pos rfl, if_pos rfl, bind_some', if_pos rfl]
    exact ⟨_, W, On, _, _, _, rfl, rfl, hO, x⟩
  · obtain ⟨On1, u1, u2⟩ := c_unpack (On := On) (a := W 6) (b := W 7) (c' := W 8) (d' := W 9) h5 h6 hst.1 hst.2.1
    obtain ⟨W1, w1, w2⟩ := m_copyB (W := Mi) (V := W)
    obtain ⟨E1, r1, r2⟩ := c_restore (E := E) (Pe := Pe) (On := On1) (a := Mi 6) (b := Mi 7) (c := Mi 8) (d := d) hst.2.2.2.1 hst.2.2.1
    rw [if_neg d10, if_neg d10, u1, bind_some', w1]
    dsimp only
    rw [r1, bind_some', if_neg d10]
    have hw : stL W1 E1 nb nm d := by
      refine stL_E (stL_congr h6 w2 hst) (fun j hj => ?_)
      rw [← hE j hj, ← r2 _ (by omega), show d - 1 - (min d 60 - 1 - j) = d - min d 60 + j by omega]
    obtain ⟨D, k, y, dd, y1, y2, y3, y4, y5, y6, y7, y8⟩ := x
    refine ⟨Mi 9, W1, On1, 0, E1, 0, ?_, rfl, fun m hm => (u2 m hm).trans (w2 m (by omega)).symm, d, 0, y, fun _ => d, hw, rfl, y3, (by omega), y5, rfl, rfl, fun i hi => absurd hi (by omega)⟩
    rw [w2 6 (by decide), w2 7 (by decide), w2 8 (by decide), w2 9 (by decide)]
theorem c_keepImg {E Pe : Nat → Int32} {a : Int64} {d' : Int32} {d : Nat} (hd : d ≤ 9999) (hd' : d' = nI d) : ∃ E1 : Nat → Int32, oLp (f_Past_keepImage_L18 d' 1 a E) (0, Pe) = some (1, a, E1) ∧ ∀ i, i < min d 60 → E1 i = E ((d - 1 - i) % 128) := by
  subst hd'
  refine qlp1 (fun j (t : Int32 × (Nat → Int32)) => ∃ M1 : Nat → Int32, t = (nI j, M1) ∧ ∀ i, i < j → M1 i = E ((d - 1 - i) % 128)) (fun r => ∃ U : Nat → Int32, r = some (1, a, U) ∧ ∀ i, i < min d 60 → U i = E ((d - 1 - i) % 128)) (n := min d 60) ?_ ?_ (j := 0) (by omega) ⟨Pe, rfl, fun i hi => absurd hi (by omega)⟩
  · rintro j t hj ⟨M1, rfl, h1⟩
    left
    refine ⟨(nI (j + 1), upd M1 j (E ((d - 1 - j) % 128))), ?_, _, rfl, fun i hi => ?_⟩
    · unfold f_Past_keepImage_L18
      dsimp only
      rw [lgl hd, bind_some', if_neg (show ¬ nI (min d 60) ≤ nI j from nI_ge hj (by omega)), ring_nat (d := d) (i := j) (by omega) hd, bind_some', oI_nI (j := (d - 1 - j) % 128) (n := 128) (Nat.mod_lt _ (by decide)) (by decide), oI_nI (j := j) (n := 60) (by omega) (by decide), nI_clamp (n := (d - 1 - j) % 128) (by omega), nI_clamp (n := j) (by omega), nx_add]
      rfl
    · by_cases e : i = j
      · subst e
        exact upd_at
      · rw [upd_ne (by omega)]
        exact h1 i (by omega)
  · rintro t ⟨M1, rfl, h1⟩
    refine ⟨M1, oLp_out ?_, h1⟩
    unfold f_Past_keepImage_L18
    dsimp only
    rw [lgl hd, bind_some', if_pos (Int32.le_refl _)]
theorem ps_image {Y C R B M F W On E Pe Mi : Nat → Int32} {mb mm mf : Int32} {Pi : Int64} {Ph Mh : Int32} {nb nm nf d : Nat} (h : yA Y C mb mm mf R B M F nb nm nf) (hO : ∀ m, m < nm → On m = W m) (hst : stL W E nb nm d) (i : imA nb nm Ph Pi Pe Mh Mi) : ∃ v Ph1 Pi1 Pe1 Mh1 Mi1, f_Main_image C (nI nm) (W 6) (W 7) (W 8) (W 9) On Ph Pi E Pe = some (v, Ph1, Pi1, Pe1) ∧ f_M_image mm Mh W Mi = some (v, Mh1, Mi1) ∧ imA nb nm Ph1 Pi1 Pe1 Mh1 Mi1 := by
  obtain ⟨⟨h5, h6, h6'⟩, ⟨c1, c2, c3⟩, ⟨e1, e2, e3⟩, hr, hbo, hma, hfa, rb, rm, rf, r0, r1, r2⟩ := h
  subst e1 e2 e3
  unfold f_Main_image f_M_image f_Past_keepImage
  rw [y_stands c2 (by omega), bind_some']
  by_cases hz : nm = 0
  · rw [if_pos hz, if_pos rfl, if_pos ((stands_m h6).mpr hz)]
    exact ⟨_, _, _, _, _, _, rfl, rfl, i⟩
  · obtain ⟨Pe1, r1, r2⟩ := c_keepImg (E := E) (Pe := Pe) (a := lN (pkN W nm)) hst.2.2.2.1 hst.2.2.1
    obtain ⟨W1, w1, w2⟩ := m_copyI (W := W) (V := Mi)
    rw [if_neg hz, if_neg d10, if_neg (fun q => hz ((stands_m h6).mp q)), c_packed h5 h6 hst.1 hst.2.1 hO, bind_some', r1, bind_some', w1]
    refine ⟨_, _, _, _, _, _, rfl, rfl, Or.inr ⟨rfl, rfl, ?_, d, E, stL_congr h6 w2 hst, fun j hj => ?_⟩⟩
    · rw [pkN_congr h6 w2]
    · show Pe1 _ = _
      rw [r2 _ (by omega), show d - 1 - (min d 60 - 1 - j) = d - min d 60 + j by omega]
