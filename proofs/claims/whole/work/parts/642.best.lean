/-! where to look -/
def wi (M B : Nat → Int32) (c : Int32) (nm : Nat) (V : Nat → Int32) (p : Nat) : Nat := if wth M B V c nm (nI p) = -1 then 0 else (wth M B V c nm (nI p)).toNatClampNeg + 1
theorem wth_cases (M B V : Nat → Int32) (c : Int32) (nm : Nat) (p : Int32) : wth M B V c nm p = -1 ∨ ∃ k : Nat, k < 6 ∧ wth M B V c nm p = nI k := by
  unfold wth
  rcases (wS_pos (fun k => stS M B V c p (nI k) nm) 6).2 with q | ⟨k, q1, q2, _⟩
  · exact Or.inl q
  · exact Or.inr ⟨k, q1, q2⟩
theorem wi_ix {M B V : Nat → Int32} {c : Int32} {nm p : Nat} : wi M B c nm V p < 7 ∧ nI p * 7 + wth M B V c nm (nI p) + 1 = nI (p * 7 + wi M B c nm V p) ∧ 7 * nI p + wth M B V c nm (nI p) + 1 = nI (p * 7 + wi M B c nm V p) := by
  unfold wi
  rcases wth_cases M B V c nm (nI p) with e | ⟨k, hk, e⟩
  · rw [if_pos e, e, nx_mul, nx_mull]
    refine ⟨(by decide), ?_, ?_⟩
    · rw [Int32.add_assoc, show (-1 : Int32) + 1 = 0 from rfl, Int32.add_zero]
      rfl
    · rw [Int32.add_assoc, show (-1 : Int32) + 1 = 0 from rfl, Int32.add_zero, Nat.mul_comm]
      rfl
  · rw [if_neg (by rw [e]; exact m1_ne (by omega)), e, nI_clamp (by omega), nx_mul, nx_mull, nI_add, nI_add, nx_add, nx_add]
    refine ⟨(by omega), rfl, ?_⟩
    rw [Nat.mul_comm]
    rfl
def ad (M B : Nat → Int32) (c : Int32) (nm : Nat) (V t : Nat → Int32) : Nat → (Nat → Int32)
  | 0 => t
  | p + 1 => upd (ad M B c nm V t p) (p * 7 + wi M B c nm V p) (ad M B c nm V t p (p * 7 + wi M B c nm V p) + 1)
theorem ad_congr {M B V t t' : Nat → Int32} {c : Int32} {nm : Nat} (h : ∀ j, j < 70 → t j = t' j) : ∀ p, p ≤ 10 → ∀ j, j < 70 → ad M B c nm V t p j = ad M B c nm V t' p j := by
  intro p
  induction p with
  | zero => intro _ j hj; exact h j hj
  | succ p ih =>
    intro hp j hj
    have hw := (wi_ix (M := M) (B := B) (V := V) (c := c) (nm := nm) (p := p)).1
    unfold ad upd
    by_cases e : j = p * 7 + wi M B c nm V p
    · rw [if_pos e, if_pos e, ih (by omega) _ (by omega)]
    · rw [if_neg e, if_neg e]
      exact ih (by omega) j hj
theorem c_countTold {Y C R B M F On W S Tl : Nat → Int32} {mb mm mf : Int32} {nb nm nf code : Nat} (h : yA Y C mb mm mf R B M F nb nm nf) (hO : ∀ m, m < nm → On m = W m) (hW : owA W nb nm) (hS : skA S M B W (W 6) nm) (hc : code < 100) (hi : isC W nb nm code = true) : ∃ S', f_Clues_countTold Y (nI nm) (W 6) On S Tl (nI code) = some (S', ad M B (W 6) nm (csO W code) Tl 10) ∧ skA S' M B W (W 6) nm := by
  have hY := h
  obtain ⟨⟨h5, h6, h6'⟩, ⟨c1, c2, c3⟩, ⟨e1, e2, e3⟩, hr, hbo, hma, hfa, rb, rm, rf, r0, r1, r2⟩ := h
  obtain ⟨d1, d2⟩ := code_div ⟨code, hc⟩
  dsimp only at d1 d2
  have loop : ∀ (S1 V Sx : Nat → Int32) (v3 v4 : Int32), skA S1 M B V (W 6) nm → (∀ T : Nat → Int32, (if v4 = 0 then (some (S1, T)) else ((f_Sky_move Y (W 6) S1 (nI (code / 10)) (nI code - nI code / 10 * 10) v3).bind fun a_3 => some (a_3, T))) = some (Sx, T)) → oLp (f_Clues_countTold_L48 Y (W 6) S1 (nI code) (nI (code / 10)) v3 v4) (0, Tl) = some (Sx, ad M B (W 6) nm V Tl 10) := by
    intro S1 V Sx v3 v4 hS1 hE
    refine oLp_for (fun j => (nI j, ad M B (W 6) nm V Tl j)) (i := 0) (n := 10) (by omega) (fun j _ hj => ?_) ?_
    · obtain ⟨w1, w2, w3⟩ := wi_ix (M := M) (B := B) (V := V) (c := W 6) (nm := nm) (p := j)
      unfold f_Clues_countTold_L48
      dsimp only
      rw [if_neg (show ¬ (10 : Int32) ≤ nI j from nI_ge (b := 10) hj (by decide)), s_strongest hj hS1, bind_some', w2, oI_nI (j := j * 7 + wi M B (W 6) nm V j) (n := 70) (by omega) (by decide), oI_nI (j := j * 7 + wi M B (W 6) nm V j) (n := 70) (by omega) (by decide), nI_clamp (n := j * 7 + wi M B (W 6) nm V j) (by omega)]
      simp only [oL, nx_add]
      rfl
    · unfold f_Clues_countTold_L48
      dsimp only
      rw [if_pos (show (10 : Int32) ≤ nI 10 from by decide), hE]
      rfl
  unfold f_Clues_countTold
  simp only [oL]
  rw [d1]
  by_cases e : code = 99
  · subst e
    have eo : f_Now_ownerOf (nI nm) On (nI (99 / 10)) = some (-1) := by
      unfold f_Now_ownerOf
      rw [if_neg (by decide), if_pos (nI_le (by omega) (by decide))]
    rw [eo, bind_some', if_pos (show nI 99 = 99 from rfl)]
    unfold f_Clues_countTold_J25 f_Clues_countTold_J45
    rw [if_pos rfl, loop S W S (-1) 0 hS (fun T => rfl)]
    exact ⟨S, rfl, hS⟩
  · obtain ⟨q1, q2, q3, q4⟩ := isC_of e hi
    rw [n_ownerOf q1 h6, bind_some', if_neg (show ¬ nI code = 99 from nx_neL (b := 99) e (by omega) (by decide)), hO _ q1]
    rcases hW _ q1 with ho | ⟨b0, hb0, ho⟩
    · exact absurd ho q3
    · obtain ⟨S3, t1, t2⟩ := s_move hY hS q1 hb0 q2 ho
      obtain ⟨S4, t3, t4⟩ := s_move hY t2 q1 q2 hb0 upd_at
      rw [upd_upd, upd_id ho] at t4
      have ecs : csO W code = upd W (code / 10) (nI (code % 10)) := by
        unfold csO
        rw [if_neg e]
      unfold f_Clues_countTold_J25 f_Clues_countTold_J45
      rw [if_neg d10, ho, ← d1, d2, d1, t1, bind_some', loop S3 (upd W (code / 10) (nI (code % 10))) S4 (nI b0) 1 t2 (fun T => by rw [if_neg d10, d2, t3]; rfl), ecs]
      exact ⟨S4, rfl, t4⟩
def TT (M B W fit : Nat → Int32) (nm : Nat) : Nat → (Nat → Int32)
  | 0 => fun _ => 0
  | i + 1 => ad M B (W 6) nm (csO W (fit i).toNatClampNeg) (TT M B W fit nm i) 10
def mtN (T : Nat → Int32) (p : Nat) : Nat → Int32
  | 0 => 0
  | k + 1 => jmax (mtN T p k) (T (p * 7 + k))
theorem mtN_congr {T T' : Nat → Int32} {p : Nat} (hp : p < 10) (h : ∀ j, j < 70 → T j = T' j) : ∀ k, k ≤ 7 → mtN T p k = mtN T' p k := by
  intro k
  induction k with
  | zero => intro _; rfl
  | succ k ih =>
    intro hk
    unfold mtN
    rw [ih (by omega), h _ (by omega)]
theorem c_mostTold {T : Nat → Int32} {p : Nat} (hp : p < 10) : f_Clues_mostTold T (nI p) = some (mtN T p 7) := by
  unfold f_Clues_mostTold
  refine oLp_for (fun k => (mtN T p k, nI k)) (i := 0) (n := 7) (by omega) (fun j _ hj => ?_) ?_
  · unfold f_Clues_mostTold_L4
    dsimp only
    rw [if_neg (show ¬ (7 : Int32) ≤ nI j from nI_ge (b := 7) hj (by decide)), nx_mul, nI_add, oI_nI (j := p * 7 + j) (n := 70) (by omega) (by decide), nI_clamp (n := p * 7 + j) (by omega), nx_add]
    rfl
  · rfl
theorem m_mostTold {T : Nat → Int32} {p : Nat} {v1 v2 : Int32} (hp : p < 10) : oLp (f_M_best_L129 T v1 v2 (nI p)) (0, 0) = if v1 = -1 then f_M_best_J172 (nI p) (mtN T p 7) else if v2 ≤ mtN T p 7 then f_M_best_J177 v1 v2 (nI p) else f_M_best_J172 (nI p) (mtN T p 7) := by
  refine oLp_forM (fun k => (mtN T p k, nI k)) (i := 0) (n := 7) (by omega) (fun j _ hj => ?_) ?_
  · unfold f_M_best_L129
    dsimp only
    rw [if_neg (show ¬ (6 : Int32) < nI j from fun q => by have := (nx_Llt (by decide) (by omega)).mp q; have : 6 < j := this; omega), nx_mull, nI_add, oI_nI (j := 7 * p + j) (n := 70) (by omega) (by decide), nI_clamp (n := 7 * p + j) (by omega), nx_add, Nat.mul_comm 7 p]
    rfl
  · unfold f_M_best_L129
    dsimp only
    rw [if_pos (show (6 : Int32) < nI 7 from by decide)]
theorem s_fill29 {S : Nat → Int32} : ∃ S', f_J_fill_C29 S 0 = some S' ∧ ∀ j, j < 70 → S' j = 0 := by
  unfold f_J_fill_C29
  refine qlp1 (fun j (s : Int32 × (Nat → Int32)) => s.1 = nI j ∧ ∀ i, i < j → s.2 i = 0) (fun r => ∃ S', r = some S' ∧ ∀ j, j < 70 → S' j = 0) (n := 70) (fun j s hj hq => Or.inl ⟨(nI (j + 1), upd s.2 j 0), ?_, rfl, fun i hi => ?_⟩) (fun s hq => ⟨s.2, oLp_out ?_, hq.2⟩) (j := 0) (s := ((0 : Int32), S)) (by omega) ⟨rfl, fun i hi => absurd hi (by omega)⟩
  · unfold f_J_fill_C29_L5
    rw [hq.1, if_neg (show ¬ (70 : Int32) ≤ nI j from nI_ge hj (by decide)), oI_nI (by omega) (by decide), nI_clamp (by omega)]
    unfold oL
    rw [nx_add]
  · show upd s.2 j 0 i = 0
    unfold upd
    by_cases e : i = j
    · rw [if_pos e]
    · rw [if_neg e]
      exact hq.2 i (by omega)
  · unfold f_J_fill_C29_L5
    rw [hq.1, if_pos (show (70 : Int32) ≤ nI 70 from nI_le (Nat.le_refl 70) (by decide))]
theorem q_best {Y C R B M F O W : Nat → Int32} {mb mm mf : Int32} {nb nm nf : Nat} {As Ac Mh : Int32} {Ad Al Kc Kv Kl Kt Kf Ku : Nat → Int32} {w : Option ((Nat → Int32) → Int32)} {UP UK UH NP NK NH S Fit Tl Tm : Nat → Int32} {Us Mn Uf : Int32} {nt : Nat} (x : cx Y C R B M F O W mb mm mf nb nm nf As Ac Mh Ad Al Kc Kv Kl Kt Kf Ku w) (hn : ntA Us Mn UP UK UH NP NK NH nt) : ∃ v u u', f_Main_best Y C (nI nm) (W 6) O S Us Uf UP UK UH Fit Tl = some (v, u) ∧ f_M_best mb mm Mn B M W NP NK NH Tm = some (v, W, u') := by
  have h := x.1
  have hY := h
  obtain ⟨⟨h5, h6, h6'⟩, ⟨c1, c2, c3⟩, ⟨e1, e2, e3⟩, hr, hbo, hma, hfa, rb, rm, rf, r0, r1, r2⟩ := h
  subst e1 e2
  have hW := x.2.2.1
  have hO := x.2.1
  have hM := yA_maA hY
  unfold f_Main_best f_M_best
  rw [y_stands c2 (by omega), bind_some']
  by_cases hz : nm = 0
  · rw [if_pos hz, if_pos ((stands_m h6).mpr hz)]
    exact ⟨_, _, _, rfl, rfl⟩
  · rw [if_neg hz, if_neg d10, if_neg (fun q => hz ((stands_m h6).mp q))]
    obtain ⟨S', Fit', k1, k2, k3, k4⟩ := c_search (S := S) (Fit := Fit) (Uf := Uf) hY hO hW hn
    unfold f_Clues_placeToLook f_M_who
    rw [k1, bind_some', if_neg (fun q => hz ((stands_m h6).mp q)), if_pos (show (-1 : Int32) ≤ 0 from by decide)]
    dsimp only
    have hcode : ∀ c, so M B NP NK NH W nb nm nt c = true → isC W nb nm c = true := by
      intro c hs
      unfold so at hs
      rw [Bool.and_eq_true] at hs
      exact hs.1
    by_cases h0 : cnN (so M B NP NK NH W nb nm nt) 100 = 0
    · rw [h0, if_pos (show nI 0 = 0 from rfl), bind_some', m_whoL h5 h6 hW hM hn (Nat.le_refl 100) (fun c hc hs q => ?_), oLp_out (t := (-1, W)) ?_, bind_some']
      · exact ⟨_, _, _, rfl, rfl⟩
      · unfold f_M_who_L18
        dsimp only
        rw [if_pos (by decide)]
        rfl
      · have h1 : cnN (so M B NP NK NH W nb nm nt) (c + 1) = cnN (so M B NP NK NH W nb nm nt) c + (if so M B NP NK NH W nb nm nt c = true then 1 else 0) := rfl
        rw [if_pos hs] at h1
        have h2 := cnN_mono (q := so M B NP NK NH W nb nm nt) (a := c + 1) 100 (by omega)
        omega
    · obtain ⟨c, hc, hs, ec⟩ := cnN_at (q := so M B NP NK NH W nb nm nt) (i := 0) 100 (Nat.pos_of_ne_zero h0)
      have hno : ∀ c', c' < c → so M B NP NK NH W nb nm nt c' = true → ¬ nI (cnN (so M B NP NK NH W nb nm nt) c') = 0 := by
        intro c' hc' hs' q
        have h1 : cnN (so M B NP NK NH W nb nm nt) (c' + 1) = cnN (so M B NP NK NH W nb nm nt) c' + (if so M B NP NK NH W nb nm nt c' = true then 1 else 0) := rfl
        rw [if_pos hs'] at h1
        have h2 := cnN_mono (q := so M B NP NK NH W nb nm nt) (a := c' + 1) c (by omega)
        omega
      have hout : f_M_who_L18 (nI nb) (nI nm) Mn B M NP NK NH 0 (nI (cnN (so M B NP NK NH W nb nm nt) c), nI c, W) = some (.inr (nI c, W)) := by
        unfold f_M_who_L18
        dsimp only
        rw [if_neg (show ¬ (99 : Int32) < nI c from fun q => by have := (nx_Llt (by decide) (by omega)).mp q; have : 99 < c := this; omega), m_isSo h5 h6 hW hM hn hc, bind_some']
        dsimp only
        rw [if_pos hs, if_neg d10, if_pos (by rw [ec]; rfl)]
      rw [m_whoL (n := c) h5 h6 hW hM hn (by omega) hno, oLp_out hout, bind_some', if_neg (show ¬ nI (cnN (so M B NP NK NH W nb nm nt) 100) = 0 from fun q => h0 (nI_inj (b := 0) (by omega) (by decide) q))]
      dsimp only
      rw [if_neg (m1_ne (by omega))]
      obtain ⟨Tl0, f1, f2⟩ := s_fill29 (S := Tl)
      rw [f1, bind_some']
      have hcls : ∃ S2 Tl2, oLp (f_Clues_placeToLook_L19 Y (nI nm) (W 6) O (nI (cnN (so M B NP NK NH W nb nm nt) 100)) Fit') (0, S', Tl0) = oLp (f_Clues_placeToLook_L47 S2 (nI (cnN (so M B NP NK NH W nb nm nt) 100)) Fit' Tl2) (0, 1) ∧ ∀ j, j < 70 → Tl2 j = TT M B W Fit' nm (cnN (so M B NP NK NH W nb nm nt) 100) j := by
        refine qlp1 (fun i (s : Int32 × (Nat → Int32) × (Nat → Int32)) => ∃ (S1 T1 : Nat → Int32), s = (nI i, S1, T1) ∧ skA S1 M B W (W 6) nm ∧ ∀ j, j < 70 → T1 j = TT M B W Fit' nm i j) (fun r => ∃ S2 Tl2, r = oLp (f_Clues_placeToLook_L47 S2 (nI (cnN (so M B NP NK NH W nb nm nt) 100)) Fit' Tl2) (0, 1) ∧ ∀ j, j < 70 → Tl2 j = TT M B W Fit' nm (cnN (so M B NP NK NH W nb nm nt) 100) j) (n := cnN (so M B NP NK NH W nb nm nt) 100) ?_ ?_ (j := 0) (by omega) ⟨S', Tl0, rfl, k2, fun j hj => f2 j hj⟩
        · rintro i s hi ⟨S1, T1, rfl, p1, p2⟩
          left
          obtain ⟨ci, hci, hsi, eci⟩ := cnN_at 100 hi
          have efit : Fit' i = nI ci := by
            rw [← eci]
            exact k3 ci hci hsi
          obtain ⟨S2, t1, t2⟩ := c_countTold (Tl := T1) hY hO hW p1 hci (hcode ci hsi)
          refine ⟨(nI (i + 1), S2, ad M B (W 6) nm (csO W ci) T1 10), ?_, S2, _, rfl, t2, fun j hj => ?_⟩
          · unfold f_Clues_placeToLook_L19
            dsimp only
            rw [if_neg (nI_ge hi (by omega)), oI_nI (j := i) (n := 31) (by omega) (by decide), nI_clamp (n := i) (by omega), efit, t1, bind_some', nx_add]
          · show _ = ad M B (W 6) nm (csO W (Fit' i).toNatClampNeg) (TT M B W Fit' nm i) 10 j
            rw [efit, nI_clamp (by omega)]
            exact ad_congr p2 10 (Nat.le_refl _) j hj
        · rintro s ⟨S1, T1, rfl, p1, p2⟩
          refine ⟨S1, T1, oLp_map ?_, p2⟩
          unfold f_Clues_placeToLook_L19
          dsimp only
          rw [if_pos (nI_le (Nat.le_refl _) (by omega))]
      obtain ⟨S2, TlC, hC1, hC2⟩ := hcls
      have hmod : ∃ TlM, oLp (f_M_best_L20 (nI nb) (nI nm) Mn B M W NP NK NH) (0, Tm) = oLp (f_M_best_L117 W TlM) (-1, 0, 0) ∧ ∀ j, j < 70 → TlM j = TT M B W Fit' nm (cnN (so M B NP NK NH W nb nm nt) 100) j := by
        have hz0 : ∃ T0, oLp (f_M_best_L20 (nI nb) (nI nm) Mn B M W NP NK NH) (0, Tm) = oLp (f_M_best_L44 (nI nb) (nI nm) Mn B M NP NK NH) (0, W, T0) ∧ ∀ j, j < 70 → T0 j = 0 := by
          refine qlp1 (fun j (s : Int32 × (Nat → Int32)) => s.1 = nI j ∧ ∀ i, i < j → s.2 i = 0) (fun r => ∃ T0, r = oLp (f_M_best_L44 (nI nb) (nI nm) Mn B M NP NK NH) (0, W, T0) ∧ ∀ j, j < 70 → T0 j = 0) (n := 70) (fun j s hj hq => Or.inl ⟨(nI (j + 1), upd s.2 j 0), ?_, rfl, fun i hi => ?_⟩) (fun s hq => ⟨s.2, oLp_map ?_, hq.2⟩) (j := 0) (by omega) ⟨rfl, fun i hi => absurd hi (by omega)⟩
          · unfold f_M_best_L20
            rw [hq.1, if_neg (show ¬ (70 : Int32) ≤ nI j from nI_ge hj (by decide)), oI_nI (by omega) (by decide), nI_clamp (by omega)]
            unfold oL
            rw [nx_add]
          · show upd s.2 j 0 i = 0
            unfold upd
            by_cases e : i = j
            · rw [if_pos e]
            · rw [if_neg e]
              exact hq.2 i (by omega)
          · unfold f_M_best_L20
            rw [hq.1, if_pos (show (70 : Int32) ≤ nI 70 from nI_le (Nat.le_refl 70) (by decide))]
        obtain ⟨T0, z1, z2⟩ := hz0
        rw [z1]
        refine qlp1 (fun cd (s : Int32 × (Nat → Int32) × (Nat → Int32)) => ∃ (T1 : Nat → Int32), s = (nI cd, W, T1) ∧ ∀ j, j < 70 → T1 j = TT M B W Fit' nm (cnN (so M B NP NK NH W nb nm nt) cd) j) (fun r => ∃ TlM, r = oLp (f_M_best_L117 W TlM) (-1, 0, 0) ∧ ∀ j, j < 70 → TlM j = TT M B W Fit' nm (cnN (so M B NP NK NH W nb nm nt) 100) j) (n := 100) ?_ ?_ (j := 0) (by omega) ⟨T0, rfl, fun j hj => z2 j hj⟩
        · rintro cd s hcd ⟨T1, rfl, p2⟩
          left
          have estep : cnN (so M B NP NK NH W nb nm nt) (cd + 1) = cnN (so M B NP NK NH W nb nm nt) cd + (if so M B NP NK NH W nb nm nt cd = true then 1 else 0) := rfl
          unfold f_M_best_L44
          dsimp only
          rw [if_neg (show ¬ (99 : Int32) < nI cd from fun q => by have := (nx_Llt (by decide) (by omega)).mp q; have : 99 < cd := this; omega), m_isSo h5 h6 hW hM hn hcd, bind_some']
          dsimp only
          by_cases hsd : so M B NP NK NH W nb nm nt cd = true
          · rw [if_pos hsd, if_neg d10]
            rw [if_pos hsd] at estep
            obtain ⟨was, l1, l2⟩ := m_layCase h6 hcd (hcode cd hsd)
            have hV := owA_cs hW (hcode cd hsd)
            have hV6 := csO_6 h6 (hcode cd hsd)
            rw [l1, bind_some']
            dsimp only
            have hl : oLp (f_M_best_L66 (nI nm) B M (csO W cd) (nI cd) was) (0, T1) = some (.inl (nI (cd + 1), W, ad M B (W 6) nm (csO W cd) T1 10)) := by
              refine oLp_for (fun j => (nI j, ad M B (W 6) nm (csO W cd) T1 j)) (i := 0) (n := 10) (by omega) (fun j _ hj => ?_) ?_
              · obtain ⟨w1, w2, w3⟩ := wi_ix (M := M) (B := B) (V := csO W cd) (c := W 6) (nm := nm) (p := j)
                unfold f_M_best_L66
                dsimp only
                rw [if_neg (show ¬ (10 : Int32) ≤ nI j from nI_ge (b := 10) hj (by decide)), m_weatherOf h6 h5 hV hM, bind_some', hV6, w3, oI_nI (j := j * 7 + wi M B (W 6) nm (csO W cd) j) (n := 70) (by omega) (by decide), oI_nI (j := j * 7 + wi M B (W 6) nm (csO W cd) j) (n := 70) (by omega) (by decide), nI_clamp (n := j * 7 + wi M B (W 6) nm (csO W cd) j) (by omega)]
                simp only [oL, nx_add]
                rfl
              · unfold f_M_best_L66 f_M_best_J105
                dsimp only
                rw [if_pos (show (10 : Int32) ≤ nI 10 from by decide), l2, bind_some', nx_add]
                rfl
            refine ⟨_, hl, _, rfl, fun j hj => ?_⟩
            rw [estep]
            show _ = ad M B (W 6) nm (csO W (Fit' (cnN (so M B NP NK NH W nb nm nt) cd)).toNatClampNeg) (TT M B W Fit' nm (cnN (so M B NP NK NH W nb nm nt) cd)) 10 j
            rw [k3 cd hcd hsd, nI_clamp (by omega)]
            exact ad_congr p2 10 (Nat.le_refl _) j hj
          · rw [if_neg hsd, if_pos rfl]
            rw [if_neg hsd] at estep
            unfold f_M_best_J105
            rw [nx_add]
            exact ⟨_, rfl, T1, rfl, by rw [estep]; exact p2⟩
        · rintro s ⟨T1, rfl, p2⟩
          refine ⟨T1, oLp_map ?_, p2⟩
          unfold f_M_best_L44
          dsimp only
          rw [if_pos (by decide)]
      obtain ⟨TlM, hM1, hM2⟩ := hmod
      rw [hC1, hM1]
      have hcm : ∀ p, p < 10 → mtN TlC p 7 = mtN TlM p 7 := fun p hp => mtN_congr hp (fun j hj => (hC2 j hj).trans (hM2 j hj).symm) 7 (Nat.le_refl _)
      have hstart : f_M_best_L117 W TlM (-1, 0, 0) = some (.inl (nI 0, mtN TlM 0 7, nI 1)) := by
        unfold f_M_best_L117
        dsimp only
        rw [if_neg (by decide), show (0 : Int32) = nI 0 from rfl]
        rw [show oLp (f_M_best_L129 TlM (-1) (nI 0) (nI 0)) (nI 0, nI 0) = _ from m_mostTold (p := 0) (by omega), if_pos rfl]
        rfl
      rw [oLp_go hstart]
      refine qlp2 (fun j (s : Int32 × Int32) (s' : Int32 × Int32 × Int32) => ∃ bb : Nat, bb < 10 ∧ s = (nI bb, nI (j + 1)) ∧ s' = (nI bb, mtN TlM bb 7, nI (j + 1))) (fun (r : Option (Int32 × (Nat → Int32) × Int32 × (Nat → Int32) × (Nat → Int32))) (r' : Option (Int32 × (Nat → Int32) × (Nat → Int32))) => ∃ v u u', (r.bind fun a_2 => some (a_2.1, a_2.2.1, a_2.2.2.1, a_2.2.2.2.1, a_2.2.2.2.2)) = some (v, u) ∧ r' = some (v, W, u')) (n := 9) ?_ ?_ (j := 0) (by omega) ⟨0, (by omega), rfl, rfl⟩
      · rintro j s s' hj ⟨bb, hbb, rfl, rfl⟩
        left
        have eC : f_Clues_placeToLook_L47 S2 (nI (cnN (so M B NP NK NH W nb nm nt) 100)) Fit' TlC (nI bb, nI (j + 1)) = if mtN TlM bb 7 ≤ mtN TlM (j + 1) 7 then some (.inl (nI bb, nI (j + 2))) else some (.inl (nI (j + 1), nI (j + 2))) := by
          unfold f_Clues_placeToLook_L47 f_Clues_placeToLook_J68
          dsimp only
          rw [if_neg (show ¬ (10 : Int32) ≤ nI (j + 1) from nI_ge (b := 10) (by omega) (by decide)), c_mostTold (by omega), bind_some', c_mostTold hbb, bind_some', hcm bb hbb, hcm (j + 1) (by omega), nx_add]
        have eM : f_M_best_L117 W TlM (nI bb, mtN TlM bb 7, nI (j + 1)) = if mtN TlM bb 7 ≤ mtN TlM (j + 1) 7 then some (.inl (nI bb, mtN TlM bb 7, nI (j + 2))) else some (.inl (nI (j + 1), mtN TlM (j + 1) 7, nI (j + 2))) := by
          unfold f_M_best_L117
          dsimp only
          rw [if_neg (show ¬ (10 : Int32) ≤ nI (j + 1) from nI_ge (b := 10) (by omega) (by decide)), m_mostTold (p := j + 1) (by omega), if_neg (m1_ne (by omega))]
          unfold f_M_best_J172 f_M_best_J177
          rw [nx_add]
        by_cases z : mtN TlM bb 7 ≤ mtN TlM (j + 1) 7
        · rw [if_pos z] at eC eM
          exact ⟨_, _, eC, eM, bb, hbb, rfl, rfl⟩
        · rw [if_neg z] at eC eM
          exact ⟨_, _, eC, eM, j + 1, (by omega), rfl, rfl⟩
      · rintro s s' ⟨bb, hbb, rfl, rfl⟩
        have eC : f_Clues_placeToLook_L47 S2 (nI (cnN (so M B NP NK NH W nb nm nt) 100)) Fit' TlC (nI bb, nI (9 + 1)) = some (.inr (nI bb, S2, nI (cnN (so M B NP NK NH W nb nm nt) 100), Fit', TlC)) := by
          unfold f_Clues_placeToLook_L47
          dsimp only
          rw [if_pos (by decide)]
        have eM : f_M_best_L117 W TlM (nI bb, mtN TlM bb 7, nI (9 + 1)) = some (.inr (nI bb, W, TlM)) := by
          unfold f_M_best_L117
          dsimp only
          rw [if_pos (by decide)]
        rw [oLp_out eC, oLp_out eM]
        exact ⟨_, _, _, rfl, rfl⟩
