theorem cnN_skip {q : Nat → Bool} {a : Nat} : ∀ b, a ≤ b → (∀ c, a ≤ c → c < b → q c = false) → cnN q b = cnN q a := by
  intro b
  induction b with
  | zero => intro h _; rw [Nat.le_zero.mp h]
  | succ b ih =>
    intro h hq
    rcases Nat.lt_or_eq_of_le h with h1 | h1
    · show cnN q b + (if q b = true then 1 else 0) = _
      rw [hq b (by omega) (by omega), ih (by omega) (fun c c1 c2 => hq c c1 (by omega))]
      rfl
    · rw [h1]
theorem cnN_mono {q : Nat → Bool} {a : Nat} : ∀ b, a ≤ b → cnN q a ≤ cnN q b := by
  intro b
  induction b with
  | zero => intro h; rw [Nat.le_zero.mp h]; exact Nat.le_refl _
  | succ b ih =>
    intro h
    rcases Nat.lt_or_eq_of_le h with h1 | h1
    · have := ih (by omega)
      show _ ≤ cnN q b + (if q b = true then 1 else 0)
      omega
    · rw [h1]; exact Nat.le_refl _
theorem cnN_at {q : Nat → Bool} {i : Nat} : ∀ n, i < cnN q n → ∃ c, c < n ∧ q c = true ∧ cnN q c = i := by
  intro n
  induction n with
  | zero => intro h; exact absurd h (Nat.not_lt_zero _)
  | succ n ih =>
    intro h
    by_cases h1 : i < cnN q n
    · obtain ⟨c, c1, c2⟩ := ih h1
      exact ⟨c, (by omega), c2⟩
    · have h : i < cnN q n + (if q n = true then 1 else 0) := h
      by_cases hq : q n = true
      · rw [if_pos hq] at h
        exact ⟨n, (by omega), hq, (by omega)⟩
      · rw [if_neg hq] at h
        omega
theorem c_keep {M B UP UK UH NP NK NH S V Fit : Nat → Int32} {Us Mn c : Int32} {nt nm fd code : Nat} (h : ntA Us Mn UP UK UH NP NK NH nt) (hS : skA S M B V c nm) (hf : fd < 31) : f_Clues_keepIfSo S Us (nI fd) UP UK UH Fit (nI code) = some (nI (fd + (if soN M B NP NK NH c nm V nt = true then 1 else 0)), if soN M B NP NK NH c nm V nt = true then upd Fit fd (nI code) else Fit) := by
  unfold f_Clues_keepIfSo
  rw [if_neg (show ¬ (31 : Int32) ≤ nI fd from nI_ge (b := 31) hf (by decide)), c_areAllSo h hS, bind_some']
  by_cases e : soN M B NP NK NH c nm V nt = true
  · rw [if_pos e, if_neg d10, oI_nI (j := fd) (n := 31) hf (by decide), nI_clamp (n := fd) (by omega), if_pos e, if_pos e]
    simp only [oL, nx_add]
  · rw [if_neg e, if_pos rfl, if_neg e, if_neg e]
    rfl
theorem c_search {Y C R B M F On W UP UK UH NP NK NH S Fit : Nat → Int32} {mb mm mf Us Mn Uf : Int32} {nb nm nf nt : Nat} (h : yA Y C mb mm mf R B M F nb nm nf) (hO : ∀ m, m < nm → On m = W m) (hW : owA W nb nm) (hn : ntA Us Mn UP UK UH NP NK NH nt) : ∃ S' Fit', f_Clues_search Y C (nI nm) (W 6) On S Us Uf UP UK UH Fit = some (nI (cnN (so M B NP NK NH W nb nm nt) 100), S', nI (cnN (so M B NP NK NH W nb nm nt) 100), Fit') ∧ skA S' M B W (W 6) nm ∧ (∀ code, code < 100 → so M B NP NK NH W nb nm nt code = true → Fit' (cnN (so M B NP NK NH W nb nm nt) code) = nI code) ∧ cnN (so M B NP NK NH W nb nm nt) 100 ≤ 31 := by
  have hY := h
  obtain ⟨⟨h5, h6, h6'⟩, ⟨c1, c2, c3⟩, ⟨e1, e2, e3⟩, hr, hbo, hma, hfa, rb, rm, rf, r0, r1, r2⟩ := h
  unfold f_Clues_search
  obtain ⟨S0, s1, s2⟩ := s_measure (S := S) (c := W 6) hY hO hW
  rw [s1, bind_some']
  have hfalse : ∀ code, ¬ code = 99 → (¬ code / 10 < nm ∨ ¬ code % 10 < nb ∨ W (code / 10) = -1 ∨ W (code / 10) = nI (code % 10)) → so M B NP NK NH W nb nm nt code = false := by
    intro code hc hh
    unfold so
    cases hi : isC W nb nm code with
    | false => rfl
    | true =>
      obtain ⟨q1, q2, q3, q4⟩ := isC_of hc hi
      rcases hh with z | z | z | z
      · exact absurd q1 z
      · exact absurd q2 z
      · exact absurd z q3
      · exact absurd z q4
  refine qlp1 (fun m (s : Int32 × (Nat → Int32) × Int32 × (Nat → Int32)) => ∃ (S1 Fit1 : Nat → Int32), s = (nI m, S1, nI (cnN (so M B NP NK NH W nb nm nt) (10 * m)), Fit1) ∧ skA S1 M B W (W 6) nm ∧ (∀ code, code < 10 * m → so M B NP NK NH W nb nm nt code = true → Fit1 (cnN (so M B NP NK NH W nb nm nt) code) = nI code) ∧ cnN (so M B NP NK NH W nb nm nt) (10 * m) ≤ 5 * m) (fun r => ∃ (S' Fit' : Nat → Int32), r = some (nI (cnN (so M B NP NK NH W nb nm nt) 100), S', nI (cnN (so M B NP NK NH W nb nm nt) 100), Fit') ∧ skA S' M B W (W 6) nm ∧ (∀ code, code < 100 → so M B NP NK NH W nb nm nt code = true → Fit' (cnN (so M B NP NK NH W nb nm nt) code) = nI code) ∧ cnN (so M B NP NK NH W nb nm nt) 100 ≤ 31) (n := nm) ?_ ?_ (j := 0) (by omega) ⟨S0, Fit, rfl, s2, fun c hc => absurd hc (by omega), Nat.le_refl _⟩
  · rintro m s hm ⟨S1, Fit1, rfl, k1, k2, k3⟩
    left
    unfold f_Clues_search_L14
    dsimp only
    rw [y_marbles, bind_some', c2, if_neg (nI_ge hm (by omega)), n_ownerOf hm h6, bind_some', hO m hm]
    have eS : cnN (so M B NP NK NH W nb nm nt) (10 * (m + 1)) = cnN (so M B NP NK NH W nb nm nt) (10 * m + nb) := cnN_skip _ (by omega) (fun c c1 c2 => hfalse c (by omega) (Or.inr (Or.inl (by omega))))
    rcases hW m hm with ho | ⟨b0, hb0, ho⟩
    · have eS2 : cnN (so M B NP NK NH W nb nm nt) (10 * (m + 1)) = cnN (so M B NP NK NH W nb nm nt) (10 * m) := cnN_skip _ (by omega) (fun c c1 c2 => hfalse c (by omega) (Or.inr (Or.inr (Or.inl (by rw [show c / 10 = m by omega]; exact ho)))))
      refine ⟨(nI (m + 1), S1, nI (cnN (so M B NP NK NH W nb nm nt) (10 * (m + 1))), Fit1), oLp_out ?_, S1, Fit1, rfl, k1, fun c hc hs => ?_, (by omega)⟩
      · unfold f_Clues_search_L36 f_Clues_search_J93
        dsimp only
        rw [y_boys, bind_some', eS2, nx_add, ho, if_pos (show (-1 : Int32) = -1 from rfl)]
        split <;> rfl
      · by_cases hcm : c < 10 * m
        · exact k2 c hcm hs
        · rw [hfalse c (by omega) (Or.inr (Or.inr (Or.inl (by rw [show c / 10 = m by omega]; exact ho))))] at hs
          cases hs
    · rw [ho]
      have hinner : ∃ u, oLp (f_Clues_search_L36 Y C (W 6) Us UP UK UH (nI m) (nI b0)) (0, S1, nI (cnN (so M B NP NK NH W nb nm nt) (10 * m)), Fit1) = some (.inl u) ∧ ∃ (S1 Fit1 : Nat → Int32), u = (nI (m + 1), S1, nI (cnN (so M B NP NK NH W nb nm nt) (10 * (m + 1))), Fit1) ∧ skA S1 M B W (W 6) nm ∧ (∀ code, code < 10 * (m + 1) → so M B NP NK NH W nb nm nt code = true → Fit1 (cnN (so M B NP NK NH W nb nm nt) code) = nI code) ∧ cnN (so M B NP NK NH W nb nm nt) (10 * (m + 1)) ≤ 5 * (m + 1) := by
        refine qlp1 (fun b (s : Int32 × (Nat → Int32) × Int32 × (Nat → Int32)) => ∃ (S2 Fit2 : Nat → Int32), s = (nI b, S2, nI (cnN (so M B NP NK NH W nb nm nt) (10 * m + b)), Fit2) ∧ skA S2 M B W (W 6) nm ∧ (∀ code, code < 10 * m + b → so M B NP NK NH W nb nm nt code = true → Fit2 (cnN (so M B NP NK NH W nb nm nt) code) = nI code) ∧ cnN (so M B NP NK NH W nb nm nt) (10 * m + b) ≤ 5 * m + b) (fun (r : Option ((Int32 × (Nat → Int32) × Int32 × (Nat → Int32)) ⊕ (Int32 × (Nat → Int32) × Int32 × (Nat → Int32)))) => ∃ u, r = some (.inl u) ∧ ∃ (S1 Fit1 : Nat → Int32), u = (nI (m + 1), S1, nI (cnN (so M B NP NK NH W nb nm nt) (10 * (m + 1))), Fit1) ∧ skA S1 M B W (W 6) nm ∧ (∀ code, code < 10 * (m + 1) → so M B NP NK NH W nb nm nt code = true → Fit1 (cnN (so M B NP NK NH W nb nm nt) code) = nI code) ∧ cnN (so M B NP NK NH W nb nm nt) (10 * (m + 1)) ≤ 5 * (m + 1)) (n := nb) ?_ ?_ (j := 0) (by omega) ⟨S1, Fit1, rfl, k1, fun c hc => k2 c (by omega), (by omega)⟩
        · rintro b s hb ⟨S2, Fit2, rfl, p1, p2, p3⟩
          left
          unfold f_Clues_search_L36 f_Clues_search_J87
          dsimp only
          rw [y_boys, bind_some', c1, if_neg (nI_ge hb (by omega)), if_neg (m1_ne (by omega))]
          have estep : cnN (so M B NP NK NH W nb nm nt) (10 * m + (b + 1)) = cnN (so M B NP NK NH W nb nm nt) (10 * m + b) + (if so M B NP NK NH W nb nm nt (10 * m + b) = true then 1 else 0) := rfl
          by_cases hbb : b = b0
          · subst hbb
            have ef : so M B NP NK NH W nb nm nt (10 * m + b) = false := hfalse _ (by omega) (Or.inr (Or.inr (Or.inr (by rw [show (10 * m + b) / 10 = m by omega, show (10 * m + b) % 10 = b by omega]; exact ho))))
            rw [ef] at estep
            rw [if_pos rfl, nx_add]
            refine ⟨_, rfl, S2, Fit2, by rw [estep]; rfl, p1, fun c hc hs => ?_, by rw [estep]; show _ + 0 ≤ _; omega⟩
            by_cases hce : c = 10 * m + b
            · subst hce
              rw [ef] at hs
              cases hs
            · exact p2 c (by omega) hs
          · rw [if_neg (fun q => hbb (nI_inj (by omega) (by omega) q))]
            obtain ⟨S3, t1, t2⟩ := s_move hY p1 hm hb0 hb ho
            have ecs : csO W (10 * m + b) = upd W m (nI b) := by
              unfold csO
              rw [if_neg (by omega), show (10 * m + b) / 10 = m by omega, show (10 * m + b) % 10 = b by omega]
            have eis : isC W nb nm (10 * m + b) = true := by
              unfold isC
              rw [show (10 * m + b) / 10 = m by omega, show (10 * m + b) % 10 = b by omega, ho, decide_eq_true hm, decide_eq_true hb, decide_eq_true (show ¬ nI b0 = -1 from m1_ne (by omega)), decide_eq_true (show ¬ nI b0 = nI b from fun q => hbb (nI_inj (by omega) (by omega) q).symm)]
              simp
            have eso : so M B NP NK NH W nb nm nt (10 * m + b) = soN M B NP NK NH (W 6) nm (upd W m (nI b)) nt := by
              unfold so
              rw [eis, Bool.true_and, ecs]
            obtain ⟨S4, t3, t4⟩ := s_move hY t2 hm hb hb0 upd_at
            rw [upd_upd, upd_id ho] at t4
            rw [t1, bind_some', nx_mull, nI_add, c_keep hn t2 (show cnN (so M B NP NK NH W nb nm nt) (10 * m + b) < 31 by omega), bind_some', t3, bind_some', nx_add, ← eso]
            refine ⟨_, rfl, S4, _, rfl, t4, fun c hc hs => ?_, by rw [estep]; split <;> omega⟩
            dsimp only
            by_cases hce : c = 10 * m + b
            · subst hce
              rw [if_pos hs]
              exact upd_at
            · have hold := p2 c (by omega) hs
              by_cases hz : so M B NP NK NH W nb nm nt (10 * m + b) = true
              · rw [if_pos hz, upd_ne]
                · exact hold
                · have h1 : cnN (so M B NP NK NH W nb nm nt) (c + 1) = cnN (so M B NP NK NH W nb nm nt) c + (if so M B NP NK NH W nb nm nt c = true then 1 else 0) := rfl
                  rw [if_pos hs] at h1
                  have h2 := cnN_mono (q := so M B NP NK NH W nb nm nt) (a := c + 1) (10 * m + b) (by omega)
                  omega
              · rw [if_neg hz]
                exact hold
        · rintro s ⟨S2, Fit2, rfl, p1, p2, p3⟩
          refine ⟨(nI (m + 1), S2, nI (cnN (so M B NP NK NH W nb nm nt) (10 * (m + 1))), Fit2), oLp_out ?_, S2, Fit2, rfl, p1, fun c hc hs => ?_, (by omega)⟩
          · unfold f_Clues_search_L36 f_Clues_search_J93
            dsimp only
            rw [y_boys, bind_some', c1, if_pos (nI_le (Nat.le_refl nb) (by omega)), eS, nx_add]
            rfl
          · by_cases hcm : c < 10 * m + nb
            · exact p2 c hcm hs
            · rw [hfalse c (by omega) (Or.inr (Or.inl (by omega)))] at hs
              cases hs
      obtain ⟨u, u1, u2⟩ := hinner
      exact ⟨u, u1, u2⟩
  · rintro s ⟨S1, Fit1, rfl, k1, k2, k3⟩
    have e99 : cnN (so M B NP NK NH W nb nm nt) 99 = cnN (so M B NP NK NH W nb nm nt) (10 * nm) := cnN_skip _ (by omega) (fun c c1 c2 => hfalse c (by omega) (Or.inl (by omega)))
    have e100 : cnN (so M B NP NK NH W nb nm nt) 100 = cnN (so M B NP NK NH W nb nm nt) 99 + (if so M B NP NK NH W nb nm nt 99 = true then 1 else 0) := rfl
    have eso : so M B NP NK NH W nb nm nt 99 = soN M B NP NK NH (W 6) nm W nt := by
      unfold so csO isC
      rw [if_pos rfl, decide_eq_true rfl, Bool.true_or, Bool.true_and]
    have hk := c_keep (Fit := Fit1) (code := 99) hn k1 (show cnN (so M B NP NK NH W nb nm nt) (10 * nm) < 31 by omega)
    rw [← eso, ← e99, ← e100] at hk
    refine ⟨S1, _, oLp_out (t := (nI (cnN (so M B NP NK NH W nb nm nt) 100), S1, nI (cnN (so M B NP NK NH W nb nm nt) 100), if so M B NP NK NH W nb nm nt 99 = true then upd Fit1 (cnN (so M B NP NK NH W nb nm nt) 99) (nI 99) else Fit1)) ?_, k1, fun c hc hs => ?_, ?_⟩
    · unfold f_Clues_search_L14
      dsimp only
      rw [y_marbles, bind_some', c2, if_pos (nI_le (Nat.le_refl nm) (by omega)), ← e99, show f_Clues_keepIfSo S1 Us (nI (cnN (so M B NP NK NH W nb nm nt) 99)) UP UK UH Fit1 99 = _ from hk]
      rfl
    · by_cases hce : c = 99
      · subst hce
        rw [if_pos hs]
        exact upd_at
      · have hcm : c < 10 * nm := by
          rcases Nat.lt_or_ge c (10 * nm) with q | q
          · exact q
          · rw [hfalse c hce (Or.inl (by omega))] at hs
            cases hs
        have hold := k2 c hcm hs
        by_cases hz : so M B NP NK NH W nb nm nt 99 = true
        · rw [if_pos hz, upd_ne]
          · exact hold
          · have h1 : cnN (so M B NP NK NH W nb nm nt) (c + 1) = cnN (so M B NP NK NH W nb nm nt) c + (if so M B NP NK NH W nb nm nt c = true then 1 else 0) := rfl
            rw [if_pos hs] at h1
            have h2 := cnN_mono (q := so M B NP NK NH W nb nm nt) (a := c + 1) 99 (by omega)
            omega
        · rw [if_neg hz]
          exact hold
    · rw [e100, e99]
      split <;> omega
theorem m_whoL {M B UP UK UH NP NK NH W : Nat → Int32} {Us Mn v : Int32} {nb nm nt : Nat} (h5 : nb ≤ 5) (h6 : nm ≤ 6) (hW : owA W nb nm) (hM : maA M nm) (h : ntA Us Mn UP UK UH NP NK NH nt) {n : Nat} (hn : n ≤ 100) (hno : ∀ c, c < n → so M B NP NK NH W nb nm nt c = true → ¬ nI (cnN (so M B NP NK NH W nb nm nt) c) = v) : oLp (f_M_who_L18 (nI nb) (nI nm) Mn B M NP NK NH v) (0, 0, W) = oLp (f_M_who_L18 (nI nb) (nI nm) Mn B M NP NK NH v) (nI (cnN (so M B NP NK NH W nb nm nt) n), nI n, W) := by
  refine oLp_run (fun c => (nI (cnN (so M B NP NK NH W nb nm nt) c), nI c, W)) (i := 0) (n := n) (by omega) (fun c _ hc => ?_)
  have estep : cnN (so M B NP NK NH W nb nm nt) (c + 1) = cnN (so M B NP NK NH W nb nm nt) c + (if so M B NP NK NH W nb nm nt c = true then 1 else 0) := rfl
  unfold f_M_who_L18 f_M_who_J42
  dsimp only
  rw [if_neg (show ¬ (99 : Int32) < nI c from fun q => by have := (nx_Llt (by decide) (by omega)).mp q; have : 99 < c := this; omega), m_isSo h5 h6 hW hM h (show c < 100 by omega), bind_some', estep, nx_add]
  dsimp only
  by_cases hs : so M B NP NK NH W nb nm nt c = true
  · rw [if_pos hs, if_neg d10, if_neg (hno c hc hs), if_pos hs, nx_add]
  · rw [if_neg hs, if_pos rfl, if_neg hs]
    rfl
theorem nn_of {x : Int32} (h : ¬ x < 0) : ∃ n : Nat, n < 2 ^ 31 ∧ x = nI n := by
  have z : (2147483647 : Int32).toInt = 2147483647 := by decide
  obtain ⟨k, hk, e⟩ := nI_of2 (x := x) (n := 2147483647) z h (by
    rw [Int32.le_iff_toInt_le, z]
    have := x.toInt_lt
    omega)
  exact ⟨k, by omega, e⟩
theorem q_who {Y C R B M F O W : Nat → Int32} {mb mm mf : Int32} {nb nm nf : Nat} {As Ac Mh : Int32} {Ad Al Kc Kv Kl Kt Kf Ku : Nat → Int32} {w : Option ((Nat → Int32) → Int32)} {UP UK UH NP NK NH S Fit : Nat → Int32} {Us Mn Uf p0 : Int32} {nt : Nat} (x : cx Y C R B M F O W mb mm mf nb nm nf As Ac Mh Ad Al Kc Kv Kl Kt Kf Ku w) (hn : ntA Us Mn UP UK UH NP NK NH nt) : ∃ v u, f_Main_who Y C (nI nm) (W 6) O S Us Uf UP UK UH Fit p0 = some (v, u) ∧ f_M_who mb mm Mn B M W NP NK NH p0 = some (v, W) := by
  have h := x.1
  have hY := h
  obtain ⟨⟨h5, h6, h6'⟩, ⟨c1, c2, c3⟩, ⟨e1, e2, e3⟩, hr, hbo, hma, hfa, rb, rm, rf, r0, r1, r2⟩ := h
  subst e1 e2
  have hW := x.2.2.1
  have hM := yA_maA hY
  unfold f_Main_who f_M_who
  rw [y_stands c2 (by omega), bind_some']
  by_cases hz : nm = 0
  · rw [if_pos hz, if_pos ((stands_m h6).mpr hz)]
    exact ⟨_, _, rfl, rfl⟩
  · rw [if_neg hz, if_neg d10, if_neg (fun q => hz ((stands_m h6).mp q))]
    obtain ⟨S', Fit', k1, k2, k3, k4⟩ := c_search (S := S) (Fit := Fit) (Uf := Uf) hY x.2.1 hW hn
    rw [k1, bind_some']
    dsimp only
    have hlast : ∀ s, f_M_who_L18 (nI nb) (nI nm) Mn B M NP NK NH p0 (s, nI 100, W) = some (.inr (if p0 = -1 then s else -1, W)) := by
      intro s
      unfold f_M_who_L18
      dsimp only
      rw [if_pos (by decide)]
      split <;> rfl
    by_cases hm1 : p0 = -1
    · subst hm1
      rw [if_pos rfl, if_pos (by decide), m_whoL h5 h6 hW hM hn (Nat.le_refl 100) (fun c hc hs q => absurd q (m1_ne (by have := cnN_bd (q := so M B NP NK NH W nb nm nt) c; omega))), oLp_out (hlast _)]
      exact ⟨_, _, rfl, rfl⟩
    · rw [if_neg hm1]
      unfold f_Clues_fittingAt
      by_cases h0 : p0 < 0
      · have hlt : ¬ (-1 : Int32) ≤ p0 := by
          intro q
          rw [Int32.le_iff_toInt_le] at q
          rw [Int32.lt_iff_toInt_lt] at h0
          have z1 : (-1 : Int32).toInt = -1 := (by decide)
          have z2 : (0 : Int32).toInt = 0 := (by decide)
          apply hm1
          apply Int32.toInt_inj.mp
          omega
        rw [if_pos h0, bind_some', if_neg hlt]
        exact ⟨_, _, rfl, rfl⟩
      · have hle : (-1 : Int32) ≤ p0 := by
          rw [Int32.le_iff_toInt_le]
          have h0' := i_nlt h0
          rw [Int32.le_iff_toInt_le] at h0'
          have z1 : (-1 : Int32).toInt = -1 := (by decide)
          have z2 : (0 : Int32).toInt = 0 := (by decide)
          omega
        rw [if_neg h0, if_pos hle]
        obtain ⟨ii, hii, eii⟩ := nn_of h0
        subst eii
        by_cases hge : cnN (so M B NP NK NH W nb nm nt) 100 ≤ ii
        · rw [if_pos (nI_le hge hii), bind_some', m_whoL h5 h6 hW hM hn (Nat.le_refl 100) (fun c hc hs q => ?_), oLp_out (hlast _), if_neg hm1]
          · exact ⟨_, _, rfl, rfl⟩
          · have h1 : cnN (so M B NP NK NH W nb nm nt) (c + 1) = cnN (so M B NP NK NH W nb nm nt) c + (if so M B NP NK NH W nb nm nt c = true then 1 else 0) := rfl
            rw [if_pos hs] at h1
            have h2 := cnN_mono (q := so M B NP NK NH W nb nm nt) (a := c + 1) 100 (by omega)
            have := nI_inj (by omega) hii q
            omega
        · obtain ⟨c, hc, hs, ec⟩ := cnN_at 100 (Nat.lt_of_not_le hge)
          have hno : ∀ c', c' < c → so M B NP NK NH W nb nm nt c' = true → ¬ nI (cnN (so M B NP NK NH W nb nm nt) c') = nI ii := by
            intro c' hc' hs' q
            have h1 : cnN (so M B NP NK NH W nb nm nt) (c' + 1) = cnN (so M B NP NK NH W nb nm nt) c' + (if so M B NP NK NH W nb nm nt c' = true then 1 else 0) := rfl
            rw [if_pos hs'] at h1
            have h2 := cnN_mono (q := so M B NP NK NH W nb nm nt) (a := c' + 1) c (by omega)
            have := nI_inj (by omega) (by omega) q
            omega
          have hout : f_M_who_L18 (nI nb) (nI nm) Mn B M NP NK NH (nI ii) (nI (cnN (so M B NP NK NH W nb nm nt) c), nI c, W) = some (.inr (nI c, W)) := by
            unfold f_M_who_L18
            dsimp only
            rw [if_neg (show ¬ (99 : Int32) < nI c from fun q => by have := (nx_Llt (by decide) (by omega)).mp q; have : 99 < c := this; omega), m_isSo h5 h6 hW hM hn hc, bind_some']
            dsimp only
            rw [if_pos hs, if_neg d10, if_pos (by rw [ec])]
          rw [if_neg (nI_ge (Nat.lt_of_not_le hge) (by omega)), oI_nI (j := ii) (n := 31) (by omega) (by decide), nI_clamp (n := ii) hii, bind_some', m_whoL (n := c) h5 h6 hW hM hn (by omega) hno, oLp_out hout]
          have k3c := k3 c hc hs
          rw [ec] at k3c
          exact ⟨_, _, by rw [k3c], rfl⟩
