def rsP (R : Nat → Int32) (k1 k2 : Nat → Int32) (sm so' : Int32) (x y : Nat) : Prop := ∀ p, 1 ≤ p → p ≤ 9 → gn R (k1 p) (k2 y) sm so' ≤ gn R (k1 x) (k2 y) sm so' ∧ gn R (k2 p) (k1 x) so' sm ≤ gn R (k2 y) (k1 x) so' sm
theorem m_isRest {Y C R B M F O W : Nat → Int32} {mb mm mf : Int32} {nb nm nf : Nat} {As Ac Mh : Int32} {Ad Al Kc Kv Kl Kt Kf Ku : Nat → Int32} {w : Option ((Nat → Int32) → Int32)} {m o b b' xx yy : Nat} {s L : Nat → Int32} (x : cx Y C R B M F O W mb mm mf nb nm nf As Ac Mh Ad Al Kc Kv Kl Kt Kf Ku w) (hm : m < nm) (ho : o < nm) (hb : b < nb) (hb' : b' < nb) (wm : W m = nI b) (wo' : W o = nI b') (hxx : xx ≤ 9) (hyy : yy ≤ 9) : (rsP R (fun p => cel w B M W nm b m (nI p)) (fun p => cel w B M W nm b' o (nI p)) (M (3 * m + 2)) (M (3 * o + 2)) xx yy ∧ ∃ u, f_M_isRest (nI nm) Mh Kc Kv Kl Kt Kf Ku L s R B M W (nI m) (nI xx) (nI o) (nI yy) = some (1, u)) ∨ (¬ rsP R (fun p => cel w B M W nm b m (nI p)) (fun p => cel w B M W nm b' o (nI p)) (M (3 * m + 2)) (M (3 * o + 2)) xx yy ∧ ∃ u, f_M_isRest (nI nm) Mh Kc Kv Kl Kt Kf Ku L s R B M W (nI m) (nI xx) (nI o) (nI yy) = some (0, u)) := by
  unfold f_M_isRest
  refine qlp1 (fun j (t : Int32 × (Nat → Int32) × (Nat → Int32)) => ∃ (L s : Nat → Int32), t = (nI (j + 1), L, s) ∧ ∀ p, 1 ≤ p → p ≤ j → gn R (cel w B M W nm b m (nI p)) (cel w B M W nm b' o (nI yy)) (M (3 * m + 2)) (M (3 * o + 2)) ≤ gn R (cel w B M W nm b m (nI xx)) (cel w B M W nm b' o (nI yy)) (M (3 * m + 2)) (M (3 * o + 2)) ∧ gn R (cel w B M W nm b' o (nI p)) (cel w B M W nm b m (nI xx)) (M (3 * o + 2)) (M (3 * m + 2)) ≤ gn R (cel w B M W nm b' o (nI yy)) (cel w B M W nm b m (nI xx)) (M (3 * o + 2)) (M (3 * m + 2))) (fun (r : Option (Int32 × (Nat → Int32) × (Nat → Int32))) => (rsP R (fun p => cel w B M W nm b m (nI p)) (fun p => cel w B M W nm b' o (nI p)) (M (3 * m + 2)) (M (3 * o + 2)) xx yy ∧ ∃ u, r = some (1, u)) ∨ (¬ rsP R (fun p => cel w B M W nm b m (nI p)) (fun p => cel w B M W nm b' o (nI p)) (M (3 * m + 2)) (M (3 * o + 2)) xx yy ∧ ∃ u, r = some (0, u))) (n := 9) ?_ ?_ (j := 0) (by omega) ⟨L, s, rfl, fun p h1 h2 => absurd h1 (by omega)⟩
  · rintro j t hj ⟨L1, s1, rfl, hp⟩
    obtain ⟨u1, g1⟩ := cx_game (s := s1) (L := L1) x (mil_pw (show j + 1 ≤ 9 by omega)) (mil_pw hyy) hb hm wm hb' ho wo'
    obtain ⟨u2, g2⟩ := cx_game (s := u1.2) (L := u1.1) x (mil_pw hxx) (mil_pw hyy) hb hm wm hb' ho wo'
    obtain ⟨u3, g3⟩ := cx_game (s := u2.2) (L := u2.1) x (mil_pw (show j + 1 ≤ 9 by omega)) (mil_pw hxx) hb' ho wo' hb hm wm
    obtain ⟨u4, g4⟩ := cx_game (s := u3.2) (L := u3.1) x (mil_pw hyy) (mil_pw hxx) hb' ho wo' hb hm wm
    have eb : f_M_isRest_L3 (nI nm) Mh Kc Kv Kl Kt Kf Ku R B M W (nI m) (nI xx) (nI o) (nI yy) (nI (j + 1), L1, s1) = if gn R (cel w B M W nm b m (nI xx)) (cel w B M W nm b' o (nI yy)) (M (3 * m + 2)) (M (3 * o + 2)) < gn R (cel w B M W nm b m (nI (j + 1))) (cel w B M W nm b' o (nI yy)) (M (3 * m + 2)) (M (3 * o + 2)) then some (.inr (0, u2.1, u2.2)) else if gn R (cel w B M W nm b' o (nI (j + 1))) (cel w B M W nm b m (nI xx)) (M (3 * o + 2)) (M (3 * m + 2)) ≤ gn R (cel w B M W nm b' o (nI yy)) (cel w B M W nm b m (nI xx)) (M (3 * o + 2)) (M (3 * m + 2)) then some (.inl (nI (j + 2), u4.1, u4.2)) else some (.inr (0, u4.1, u4.2)) := by
      unfold f_M_isRest_L3
      dsimp only
      rw [if_neg (show ¬ (9 : Int32) < nI (j + 1) from fun q => by have := (nx_Llt (by decide) (by omega)).mp q; have : 9 < j + 1 := this; omega), g1, bind_some']
      dsimp only
      rw [g2, bind_some']
      dsimp only
      rw [g3, bind_some']
      dsimp only
      rw [g4, bind_some', nx_add]
    by_cases z1 : gn R (cel w B M W nm b m (nI xx)) (cel w B M W nm b' o (nI yy)) (M (3 * m + 2)) (M (3 * o + 2)) < gn R (cel w B M W nm b m (nI (j + 1))) (cel w B M W nm b' o (nI yy)) (M (3 * m + 2)) (M (3 * o + 2))
    · rw [if_pos z1] at eb
      exact Or.inr (Or.inr ⟨fun q => i_le_lt.mpr z1 (q (j + 1) (by omega) (by omega)).1, _, oLp_out eb⟩)
    · rw [if_neg z1] at eb
      by_cases z2 : gn R (cel w B M W nm b' o (nI (j + 1))) (cel w B M W nm b m (nI xx)) (M (3 * o + 2)) (M (3 * m + 2)) ≤ gn R (cel w B M W nm b' o (nI yy)) (cel w B M W nm b m (nI xx)) (M (3 * o + 2)) (M (3 * m + 2))
      · rw [if_pos z2] at eb
        refine Or.inl ⟨_, eb, _, _, rfl, fun p p1 p2 => ?_⟩
        by_cases e : p = j + 1
        · subst e
          exact ⟨i_nlt z1, z2⟩
        · exact hp p p1 (by omega)
      · rw [if_neg z2] at eb
        exact Or.inr (Or.inr ⟨fun q => z2 (q (j + 1) (by omega) (by omega)).2, _, oLp_out eb⟩)
  · rintro t ⟨L1, s1, rfl, hp⟩
    refine Or.inl ⟨hp, (L1, s1), oLp_out ?_⟩
    unfold f_M_isRest_L3
    dsimp only
    rw [if_pos (by decide)]
theorem q_rests {Y C R B M F O W : Nat → Int32} {mb mm mf : Int32} {nb nm nf : Nat} {As Ac Mh : Int32} {Ad Al Kc Kv Kl Kt Kf Ku : Nat → Int32} {w : Option ((Nat → Int32) → Int32)} {p0 p1 p2 : Int32} {s L FC SC FB SB s' L' : Nat → Int32} (x : cx Y C R B M F O W mb mm mf nb nm nf As Ac Mh Ad Al Kc Kv Kl Kt Kf Ku w) : ∃ v u u', f_Main_rests As Ac Ad Al s Y C (nI nm) (W 6) (W 7) (W 9) O L FC SC FB SB p0 p1 p2 = some (v, u) ∧ f_M_rests mm Mh Kc Kv Kl Kt Kf Ku L' s' R B M W p0 p1 p2 = some (v, u') := by
  have h := x.1
  have hY := h
  obtain ⟨⟨h5, h6, h6'⟩, ⟨c1, c2, c3⟩, ⟨e1, e2, e3⟩, hr, hbo, hma, hfa, rb, rm, rf, r0, r1, r2⟩ := h
  subst e2
  unfold f_Main_rests f_M_rests
  rw [l_refusal x, bind_some', m_whyNot h6, bind_some', whP_11]
  by_cases z : whN W nm p0 p1 = -1
  · rw [if_pos z, if_pos z]
    obtain ⟨m, o, b, b', hm, ho, hmo, rfl, rfl, hb, hb', hbb, wm, wo'⟩ := whN_m1 h6 x.2.2.1 z
    obtain ⟨st, L1, FC1, SC1, FB1, SB1, a1, a2⟩ := c_answers (s := s) (L := L) (FC := FC) (SC := SC) (FB := FB) (SB := SB) x hm ho hb hb' wm wo'
    unfold f_Lane_restingPowers
    rw [y_size (by omega), bind_some', y_size (by omega), bind_some', a1, bind_some', hma m 2 hm (by omega), hma o 2 ho (by omega)]
    dsimp only
    have cond : ∀ xx yy, 1 ≤ xx → xx ≤ 9 → 1 ≤ yy → yy ≤ 9 → (rsP R (fun p => cel w B M W nm b m (nI p)) (fun p => cel w B M W nm b' o (nI p)) (M (3 * m + 2)) (M (3 * o + 2)) xx yy ↔ (gn R (FC1 xx) (SC1 yy) (M (3 * m + 2)) (M (3 * o + 2)) = FB1 yy ∧ gn R (SC1 yy) (FC1 xx) (M (3 * o + 2)) (M (3 * m + 2)) = SB1 xx)) := by
      intro xx yy h1 h2 h3 h4
      have ax := a2 xx h1 h2
      have ay := a2 yy h3 h4
      rw [ax.1, ay.2.1, ay.2.2.1, ax.2.2.2]
      have f1 := fmx_iff (g := fun q => gn R (cel w B M W nm b m (nI q)) (cel w B M W nm b' o (nI yy)) (M (3 * m + 2)) (M (3 * o + 2))) (b := -M (3 * m + 2)) h1 h2 (fun p => gn_ge (rm m hm).2.2 (rm o ho).2.2)
      have f2 := fmx_iff (g := fun q => gn R (cel w B M W nm b' o (nI q)) (cel w B M W nm b m (nI xx)) (M (3 * o + 2)) (M (3 * m + 2))) (b := -M (3 * o + 2)) h3 h4 (fun p => gn_ge (rm o ho).2.2 (rm m hm).2.2)
      constructor
      · intro q
        exact ⟨f1.mpr (fun p p1 p2 => (q p p1 p2).1), f2.mpr (fun p p1 p2 => (q p p1 p2).2)⟩
      · rintro ⟨q1, q2⟩ p p1 p2
        exact ⟨f1.mp q1 p p1 p2, f2.mp q2 p p1 p2⟩
    have key : ∃ v u u', oLp (f_Lane_restingPowers_L32 st Y L1 FC1 SC1 FB1 SB1 p2 (M (3 * m + 2)) (M (3 * o + 2))) (0, 1) = some (v, u) ∧ oLp (f_M_rests_L23 (nI nm) Mh Kc Kv Kl Kt Kf Ku R B M W (nI m) (nI o) p2) (0, 1, L', s') = some (v, u') ∧ (p2 < -1 → v = -1) := by
      refine qlp2 (fun j (t : Int32 × Int32) (t' : Int32 × Int32 × (Nat → Int32) × (Nat → Int32)) => ∃ (n : Nat) (L s : Nat → Int32), n ≤ 10 * j ∧ t = (nI n, nI (j + 1)) ∧ t' = (nI n, nI (j + 1), L, s)) (fun (r : Option (Int32 × (Nat → Int32) × (Nat → Int32) × (Nat → Int32) × (Nat → Int32) × (Nat → Int32) × (Nat → Int32))) (r' : Option (Int32 × (Nat → Int32) × (Nat → Int32))) => ∃ v u u', r = some (v, u) ∧ r' = some (v, u') ∧ (p2 < -1 → v = -1)) (n := 9) ?_ ?_ (j := 0) (by omega) ⟨0, L', s', (by omega), rfl, rfl⟩
      · rintro j t t' hj ⟨n, L2, s2, hn, rfl, rfl⟩
        have hj9 : ¬ (9 : Int32) < nI (j + 1) := fun q => by have := (nx_Llt (by decide) (by omega)).mp q; have : 9 < j + 1 := this; omega
        have eC : f_Lane_restingPowers_L32 st Y L1 FC1 SC1 FB1 SB1 p2 (M (3 * m + 2)) (M (3 * o + 2)) (nI n, nI (j + 1)) = oLp (f_Lane_restingPowers_L42 st Y L1 FC1 SC1 FB1 SB1 p2 (M (3 * m + 2)) (M (3 * o + 2)) (nI (j + 1))) (nI n, 1) := by
          unfold f_Lane_restingPowers_L32
          dsimp only
          rw [if_neg hj9]
        have eM : f_M_rests_L23 (nI nm) Mh Kc Kv Kl Kt Kf Ku R B M W (nI m) (nI o) p2 (nI n, nI (j + 1), L2, s2) = oLp (f_M_rests_L33 (nI nm) Mh Kc Kv Kl Kt Kf Ku R B M W (nI m) (nI o) p2 (nI (j + 1))) (nI n, 1, L2, s2) := by
          unfold f_M_rests_L23
          dsimp only
          rw [if_neg hj9]
        have inner : (∃ (n' : Nat) (L3 s3 : Nat → Int32), n' ≤ 10 * (j + 1) ∧ oLp (f_Lane_restingPowers_L42 st Y L1 FC1 SC1 FB1 SB1 p2 (M (3 * m + 2)) (M (3 * o + 2)) (nI (j + 1))) (nI n, 1) = some (.inl (nI n', nI (j + 2))) ∧ oLp (f_M_rests_L33 (nI nm) Mh Kc Kv Kl Kt Kf Ku R B M W (nI m) (nI o) p2 (nI (j + 1))) (nI n, 1, L2, s2) = some (.inl (nI n', nI (j + 2), L3, s3))) ∨ ∃ v u u', oLp (f_Lane_restingPowers_L42 st Y L1 FC1 SC1 FB1 SB1 p2 (M (3 * m + 2)) (M (3 * o + 2)) (nI (j + 1))) (nI n, 1) = some (.inr (v, u)) ∧ oLp (f_M_rests_L33 (nI nm) Mh Kc Kv Kl Kt Kf Ku R B M W (nI m) (nI o) p2 (nI (j + 1))) (nI n, 1, L2, s2) = some (.inr (v, u')) ∧ ¬ p2 < -1 := by
          refine qlp2 (fun y (t : Int32 × Int32) (t' : Int32 × Int32 × (Nat → Int32) × (Nat → Int32)) => ∃ (n1 : Nat) (L s : Nat → Int32), n1 ≤ n + y ∧ t = (nI n1, nI (y + 1)) ∧ t' = (nI n1, nI (y + 1), L, s)) (fun (r : Option ((Int32 × Int32) ⊕ (Int32 × (Nat → Int32) × (Nat → Int32) × (Nat → Int32) × (Nat → Int32) × (Nat → Int32) × (Nat → Int32)))) (r' : Option ((Int32 × Int32 × (Nat → Int32) × (Nat → Int32)) ⊕ (Int32 × (Nat → Int32) × (Nat → Int32)))) => (∃ (n' : Nat) (L3 s3 : Nat → Int32), n' ≤ 10 * (j + 1) ∧ r = some (.inl (nI n', nI (j + 2))) ∧ r' = some (.inl (nI n', nI (j + 2), L3, s3))) ∨ ∃ v u u', r = some (.inr (v, u)) ∧ r' = some (.inr (v, u')) ∧ ¬ p2 < -1) (n := 9) ?_ ?_ (j := 0) (by omega) ⟨n, L2, s2, (by omega), rfl, rfl⟩
          · rintro y t t' hy ⟨n1, L3, s3, hn1, rfl, rfl⟩
            have hy9 : ¬ (9 : Int32) < nI (y + 1) := fun q => by have := (nx_Llt (by decide) (by omega)).mp q; have : 9 < y + 1 := this; omega
            have bC : f_Lane_restingPowers_L42 st Y L1 FC1 SC1 FB1 SB1 p2 (M (3 * m + 2)) (M (3 * o + 2)) (nI (j + 1)) (nI n1, nI (y + 1)) = if gn R (FC1 (j + 1)) (SC1 (y + 1)) (M (3 * m + 2)) (M (3 * o + 2)) = FB1 (y + 1) then (if gn R (SC1 (y + 1)) (FC1 (j + 1)) (M (3 * o + 2)) (M (3 * m + 2)) = SB1 (j + 1) then (if nI n1 = p2 then some (.inr (.inr (10 * nI (j + 1) + nI (y + 1), st, L1, FC1, SC1, FB1, SB1))) else some (.inl (nI (n1 + 1), nI (y + 2)))) else some (.inl (nI n1, nI (y + 2)))) else some (.inl (nI n1, nI (y + 2))) := by
              unfold f_Lane_restingPowers_L42 f_Lane_restingPowers_J131
              dsimp only
              rw [if_neg hy9, nI_clamp (n := j + 1) (by omega), nI_clamp (n := y + 1) (by omega), l_gain x, bind_some', l_gain x, bind_some', nx_add, nx_add]
              simp only [oI_nI (show j + 1 < 10 by omega) (by decide), oI_nI (show y + 1 < 10 by omega) (by decide)]
            have bM : ∀ k u, f_M_isRest (nI nm) Mh Kc Kv Kl Kt Kf Ku L3 s3 R B M W (nI m) (nI (j + 1)) (nI o) (nI (y + 1)) = some (k, u) → f_M_rests_L33 (nI nm) Mh Kc Kv Kl Kt Kf Ku R B M W (nI m) (nI o) p2 (nI (j + 1)) (nI n1, nI (y + 1), L3, s3) = if k = 0 then some (.inl (nI n1, nI (y + 2), u.1, u.2)) else if nI n1 = p2 then some (.inr (.inr (10 * nI (j + 1) + nI (y + 1), u.1, u.2))) else some (.inl (nI (n1 + 1), nI (y + 2), u.1, u.2)) := by
              intro k u hk
              unfold f_M_rests_L33 f_M_rests_J71
              dsimp only
              rw [if_neg hy9, hk, bind_some', nx_add, nx_add]
            have hcond := cond (j + 1) (y + 1) (by omega) (by omega) (by omega) (by omega)
            rcases m_isRest (s := s3) (L := L3) x hm ho hb hb' wm wo' (show j + 1 ≤ 9 by omega) (show y + 1 ≤ 9 by omega) with ⟨q, u, hu⟩ | ⟨q, u, hu⟩
            · obtain ⟨g1, g2⟩ := hcond.mp q
              rw [if_pos g1, if_pos g2] at bC
              have bM' := bM 1 u hu
              rw [if_neg d10] at bM'
              by_cases z2 : nI n1 = p2
              · rw [if_pos z2] at bC bM'
                exact Or.inr (Or.inr ⟨_, _, _, oLp_out bC, oLp_out bM', lt_m1 (show n1 < 2 ^ 31 by omega) z2⟩)
              · rw [if_neg z2] at bC bM'
                exact Or.inl ⟨_, _, bC, bM', n1 + 1, _, _, (by omega), rfl, rfl⟩
            · have bM' := bM 0 u hu
              rw [if_pos rfl] at bM'
              have bC' : f_Lane_restingPowers_L42 st Y L1 FC1 SC1 FB1 SB1 p2 (M (3 * m + 2)) (M (3 * o + 2)) (nI (j + 1)) (nI n1, nI (y + 1)) = some (.inl (nI n1, nI (y + 2))) := by
                rw [bC]
                by_cases g1 : gn R (FC1 (j + 1)) (SC1 (y + 1)) (M (3 * m + 2)) (M (3 * o + 2)) = FB1 (y + 1)
                · rw [if_pos g1, if_neg (fun g2 => q (hcond.mpr ⟨g1, g2⟩))]
                · rw [if_neg g1]
              exact Or.inl ⟨_, _, bC', bM', n1, _, _, (by omega), rfl, rfl⟩
          · rintro t t' ⟨n1, L3, s3, hn1, rfl, rfl⟩
            refine Or.inl ⟨n1, L3, s3, (by omega), oLp_out ?_, oLp_out ?_⟩
            · unfold f_Lane_restingPowers_L42
              dsimp only
              rw [if_pos (by decide), nx_add]
              rfl
            · unfold f_M_rests_L33
              dsimp only
              rw [if_pos (by decide), nx_add]
              rfl
        rcases inner with ⟨n', L3, s3, hn', i1, i2⟩ | ⟨v, u, u', i1, i2, i3⟩
        · exact Or.inl ⟨_, _, eC.trans i1, eM.trans i2, n', L3, s3, hn', rfl, rfl⟩
        · exact Or.inr ⟨v, u, u', oLp_out (eC.trans i1), oLp_out (eM.trans i2), fun q => absurd q i3⟩
      · rintro t t' ⟨n, L2, s2, hn, rfl, rfl⟩
        have eC : f_Lane_restingPowers_L32 st Y L1 FC1 SC1 FB1 SB1 p2 (M (3 * m + 2)) (M (3 * o + 2)) (nI n, nI (9 + 1)) = some (.inr (if p2 = -1 then nI n else -1, st, L1, FC1, SC1, FB1, SB1)) := by
          unfold f_Lane_restingPowers_L32
          dsimp only
          rw [if_pos (by decide)]
          split <;> rfl
        have eM : f_M_rests_L23 (nI nm) Mh Kc Kv Kl Kt Kf Ku R B M W (nI m) (nI o) p2 (nI n, nI (9 + 1), L2, s2) = some (.inr (if p2 = -1 then nI n else -1, L2, s2)) := by
          unfold f_M_rests_L23
          dsimp only
          rw [if_pos (by decide)]
          split <;> rfl
        refine ⟨_, _, _, oLp_out eC, oLp_out eM, fun q => if_neg (fun e => ?_)⟩
        rw [e] at q
        exact absurd q (by decide)
    obtain ⟨v, u, u', k1, k2, k3⟩ := key
    rw [k1, bind_some']
    by_cases hp : (-1 : Int32) ≤ p2
    · rw [if_pos hp, k2]
      exact ⟨v, _, u', rfl, rfl⟩
    · rw [if_neg hp, k3 (i_nle hp)]
      exact ⟨_, _, _, rfl, rfl⟩
  · rw [if_neg z, if_neg z]
    exact ⟨_, _, _, rfl, rfl⟩
