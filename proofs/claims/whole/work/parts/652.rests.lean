/-! rests -/
def fmx (g : Nat → Int32) (b : Int32) : Nat → Int32
  | 0 => b
  | n + 1 => jmax (fmx g b n) (g (n + 1))
theorem i_le_refl (a : Int32) : a ≤ a := by rw [Int32.le_iff_toInt_le]; omega
theorem i_le_trans {a b c : Int32} (h1 : a ≤ b) (h2 : b ≤ c) : a ≤ c := by
  rw [Int32.le_iff_toInt_le] at *
  omega
theorem i_le_asym {a b : Int32} (h1 : a ≤ b) (h2 : b ≤ a) : a = b := by
  rw [Int32.le_iff_toInt_le] at *
  apply Int32.toInt_inj.mp
  omega
theorem jmax_l (a b : Int32) : a ≤ jmax a b ∧ b ≤ jmax a b ∧ (jmax a b = a ∨ jmax a b = b) := by
  unfold jmax
  by_cases h : a < b
  · rw [if_pos h]
    refine ⟨?_, i_le_refl _, Or.inr rfl⟩
    rw [Int32.lt_iff_toInt_lt] at h
    rw [Int32.le_iff_toInt_le]
    omega
  · rw [if_neg h]
    exact ⟨i_le_refl _, i_nlt h, Or.inl rfl⟩
theorem fmx_ge {g : Nat → Int32} {b : Int32} : ∀ n, b ≤ fmx g b n ∧ (∀ p, 1 ≤ p → p ≤ n → g p ≤ fmx g b n) ∧ (fmx g b n = b ∨ ∃ p, 1 ≤ p ∧ p ≤ n ∧ fmx g b n = g p) := by
  intro n
  induction n with
  | zero => exact ⟨i_le_refl _, fun p h1 h2 => absurd h1 (by omega), Or.inl rfl⟩
  | succ n ih =>
    obtain ⟨a1, a2, a3⟩ := ih
    obtain ⟨m1, m2, m3⟩ := jmax_l (fmx g b n) (g (n + 1))
    refine ⟨i_le_trans a1 m1, fun p h1 h2 => ?_, ?_⟩
    · by_cases e : p = n + 1
      · subst e
        exact m2
      · exact i_le_trans (a2 p h1 (by omega)) m1
    · show jmax (fmx g b n) (g (n + 1)) = b ∨ _
      rcases m3 with e | e
      · rcases a3 with q | ⟨p, q1, q2, q3⟩
        · exact Or.inl (e.trans q)
        · exact Or.inr ⟨p, q1, (by omega), e.trans q3⟩
      · exact Or.inr ⟨n + 1, (by omega), (by omega), e⟩
theorem fmx_iff {g : Nat → Int32} {b : Int32} {n x : Nat} (h1 : 1 ≤ x) (h2 : x ≤ n) (hb : ∀ p, b ≤ g p) : g x = fmx g b n ↔ ∀ p, 1 ≤ p → p ≤ n → g p ≤ g x := by
  obtain ⟨a1, a2, a3⟩ := fmx_ge (g := g) (b := b) n
  constructor
  · intro e p p1 p2
    rw [e]
    exact a2 p p1 p2
  · intro h
    refine i_le_asym (a2 x h1 h2) ?_
    rcases a3 with e | ⟨p, p1, p2, e⟩
    · rw [e]
      exact hb x
    · rw [e]
      exact h p p1 p2
theorem neg9 : ∀ v v' : Fin 10, -nI v.val ≤ nI v'.val ∧ -nI v.val ≤ 0 := by decide +kernel
theorem gn_ge {R : Nat → Int32} {a b sa sb : Int32} (ha : ∃ v : Nat, v ≤ 9 ∧ sa = nI v) (hb : ∃ v : Nat, v ≤ 9 ∧ sb = nI v) : -sa ≤ gn R a b sa sb := by
  obtain ⟨v, hv, rfl⟩ := ha
  obtain ⟨v', hv', rfl⟩ := hb
  have h1 := neg9 ⟨v, (by omega)⟩ ⟨v', (by omega)⟩
  unfold gn
  split
  · exact h1.1
  · split
    · exact i_le_refl _
    · split
      · exact h1.2
      · exact i_le_refl _
theorem c_answers {Y C R B M F O W : Nat → Int32} {mb mm mf : Int32} {nb nm nf : Nat} {As Ac Mh : Int32} {Ad Al Kc Kv Kl Kt Kf Ku : Nat → Int32} {w : Option ((Nat → Int32) → Int32)} {m o b b' : Nat} {s L FC SC FB SB : Nat → Int32} (x : cx Y C R B M F O W mb mm mf nb nm nf As Ac Mh Ad Al Kc Kv Kl Kt Kf Ku w) (hm : m < nm) (ho : o < nm) (hb : b < nb) (hb' : b' < nb) (wm : W m = nI b) (wo' : W o = nI b') : ∃ st' L' FC' SC' FB' SB', f_Lane_findBestAnswers As Ac Ad Al s Y (nI nm) (W 6) (W 9) O L FC SC FB SB (nI m) (nI o) = some (st', L', FC', SC', FB', SB') ∧ ∀ p, 1 ≤ p → p ≤ 9 → FC' p = cel w B M W nm b m (nI p) ∧ SC' p = cel w B M W nm b' o (nI p) ∧ FB' p = fmx (fun q => gn R (cel w B M W nm b m (nI q)) (cel w B M W nm b' o (nI p)) (M (3 * m + 2)) (M (3 * o + 2))) (-M (3 * m + 2)) 9 ∧ SB' p = fmx (fun q => gn R (cel w B M W nm b' o (nI q)) (cel w B M W nm b m (nI p)) (M (3 * o + 2)) (M (3 * m + 2))) (-M (3 * o + 2)) 9 := by
  have h := x.1
  have hY := h
  obtain ⟨⟨h5, h6, h6'⟩, ⟨c1, c2, c3⟩, ⟨e1, e2, e3⟩, hr, hbo, hma, hfa, rb, rm, rf, r0, r1, r2⟩ := h
  have om : O m = nI b := (x.2.1 m hm).trans wm
  have oo : O o = nI b' := (x.2.1 o ho).trans wo'
  unfold f_Lane_findBestAnswers
  rw [y_size (by omega), bind_some', y_size (by omega), bind_some', hma m 2 hm (by omega), hma o 2 ho (by omega)]
  generalize hsm : M (3 * m + 2) = sm
  generalize hso : M (3 * o + 2) = so'
  generalize hc1 : (fun p => cel w B M W nm b m (nI p)) = k1
  generalize hc2 : (fun p => cel w B M W nm b' o (nI p)) = k2
  have e1' : ∀ p, cel w B M W nm b m (nI p) = k1 p := fun p => by rw [← hc1]
  have e2' : ∀ p, cel w B M W nm b' o (nI p) = k2 p := fun p => by rw [← hc2]
  simp only [e1', e2']
  refine qlp1 (fun j (t : Int32 × (Nat → Int32) × (Nat → Int32) × (Nat → Int32) × (Nat → Int32) × (Nat → Int32) × (Nat → Int32)) => ∃ (st L FC SC FB SB : Nat → Int32), t = (nI (j + 1), st, L, FC, SC, FB, SB) ∧ ∀ p, 1 ≤ p → p ≤ j → FC p = k1 p ∧ SC p = k2 p ∧ FB p = -sm ∧ SB p = -so') (fun r => ∃ (st' L' FC' SC' FB' SB' : Nat → Int32), r = some (st', L', FC', SC', FB', SB') ∧ ∀ p, 1 ≤ p → p ≤ 9 → FC' p = k1 p ∧ SC' p = k2 p ∧ FB' p = fmx (fun q => gn R (k1 q) (k2 p) sm so') (-sm) 9 ∧ SB' p = fmx (fun q => gn R (k2 q) (k1 p) so' sm) (-so') 9) (n := 9) ?_ ?_ (j := 0) (by omega) ⟨s, L, FC, SC, FB, SB, rfl, fun p h1 h2 => absurd h1 (by omega)⟩
  · rintro j t hj ⟨st, L1, FC1, SC1, FB1, SB1, rfl, hp⟩
    left
    obtain ⟨s1, hs1⟩ := cx_flick (s := st) (L := L1) x (mil_pw (show j + 1 ≤ 9 by omega)) hb hm
    obtain ⟨s2, hs2⟩ := cx_flick (s := s1.1) (L := s1.2) x (mil_pw (show j + 1 ≤ 9 by omega)) hb' ho
    refine ⟨(nI (j + 2), s2.1, s2.2, upd FC1 (j + 1) (k1 (j + 1)), upd SC1 (j + 1) (k2 (j + 1)), upd FB1 (j + 1) (-sm), upd SB1 (j + 1) (-so')), ?_, _, _, _, _, _, _, rfl, fun p p1 p2 => ?_⟩
    · unfold f_Lane_findBestAnswers_L22
      dsimp only
      rw [if_neg (show ¬ (9 : Int32) < nI (j + 1) from fun q => by have := (nx_Llt (by decide) (by omega)).mp q; have : 9 < j + 1 := this; omega), n_ownerOf hm h6, bind_some', om, hs1, bind_some', oI_nI (j := j + 1) (n := 10) (by omega) (by decide), nI_clamp (n := j + 1) (by omega)]
      simp only [oL]
      rw [n_ownerOf ho h6, bind_some', oo, hs2, bind_some', oI_nI (j := j + 1) (n := 10) (by omega) (by decide), oI_nI (j := j + 1) (n := 10) (by omega) (by decide), oI_nI (j := j + 1) (n := 10) (by omega) (by decide), nx_add, e1', e2']
    · by_cases e : p = j + 1
      · subst e
        rw [upd_at, upd_at, upd_at, upd_at]
        exact ⟨rfl, rfl, rfl, rfl⟩
      · rw [upd_ne e, upd_ne e, upd_ne e, upd_ne e]
        exact hp p p1 (by omega)
  · rintro t ⟨st, L1, FC1, SC1, FB1, SB1, rfl, hp⟩
    have e22 : f_Lane_findBestAnswers_L22 As Ac Ad Al Y (nI nm) (W 6) (W 9) O (nI m) (nI o) sm so' (nI (9 + 1), st, L1, FC1, SC1, FB1, SB1) = (oLp (f_Lane_findBestAnswers_L101 st Y L1 FC1 SC1 sm so') (1, FB1, SB1)).map .inr := by
      unfold f_Lane_findBestAnswers_L22
      dsimp only
      rw [if_pos (by decide)]
    rw [oLp_map e22]
    refine qlp1 (fun j (t : Int32 × (Nat → Int32) × (Nat → Int32)) => ∃ (FB SB : Nat → Int32), t = (nI (j + 1), FB, SB) ∧ ∀ p, 1 ≤ p → p ≤ 9 → FB p = fmx (fun q => gn R (k1 q) (k2 p) sm so') (-sm) j ∧ SB p = if p ≤ j then fmx (fun q => gn R (k2 q) (k1 p) so' sm) (-so') 9 else -so') (fun r => ∃ (st' L' FC' SC' FB' SB' : Nat → Int32), r = some (st', L', FC', SC', FB', SB') ∧ ∀ p, 1 ≤ p → p ≤ 9 → FC' p = k1 p ∧ SC' p = k2 p ∧ FB' p = fmx (fun q => gn R (k1 q) (k2 p) sm so') (-sm) 9 ∧ SB' p = fmx (fun q => gn R (k2 q) (k1 p) so' sm) (-so') 9) (n := 9) ?_ ?_ (j := 0) (by omega) ⟨FB1, SB1, rfl, fun p p1 p2 => ⟨(hp p p1 p2).2.2.1, by rw [if_neg (by omega)]; exact (hp p p1 p2).2.2.2⟩⟩
    · rintro j t hj ⟨FB2, SB2, rfl, hq⟩
      left
      have inner : ∃ FB3 SB3, oLp (f_Lane_findBestAnswers_L111 Y FC1 SC1 sm so' (nI (j + 1))) (1, FB2, SB2) = some (.inl (nI (j + 2), FB3, SB3)) ∧ ∀ p, 1 ≤ p → p ≤ 9 → FB3 p = fmx (fun q => gn R (k1 q) (k2 p) sm so') (-sm) (j + 1) ∧ SB3 p = if p ≤ j + 1 then fmx (fun q => gn R (k2 q) (k1 p) so' sm) (-so') 9 else -so' := by
        refine qlp1 (fun y (t : Int32 × (Nat → Int32) × (Nat → Int32)) => ∃ (FB SB : Nat → Int32), t = (nI (y + 1), FB, SB) ∧ ∀ p, 1 ≤ p → p ≤ 9 → FB p = fmx (fun q => gn R (k1 q) (k2 p) sm so') (-sm) (if p ≤ y then j + 1 else j) ∧ SB p = if p ≤ j then fmx (fun q => gn R (k2 q) (k1 p) so' sm) (-so') 9 else if p = j + 1 then fmx (fun q => gn R (k2 q) (k1 p) so' sm) (-so') y else -so') (fun (r : Option ((Int32 × (Nat → Int32) × (Nat → Int32)) ⊕ ((Nat → Int32) × (Nat → Int32) × (Nat → Int32) × (Nat → Int32) × (Nat → Int32) × (Nat → Int32)))) => ∃ (FB3 SB3 : Nat → Int32), r = some (.inl (nI (j + 2), FB3, SB3)) ∧ ∀ p, 1 ≤ p → p ≤ 9 → FB3 p = fmx (fun q => gn R (k1 q) (k2 p) sm so') (-sm) (j + 1) ∧ SB3 p = if p ≤ j + 1 then fmx (fun q => gn R (k2 q) (k1 p) so' sm) (-so') 9 else -so') (n := 9) ?_ ?_ (j := 0) (by omega) ⟨FB2, SB2, rfl, fun p p1 p2 => ⟨by rw [if_neg (by omega)]; exact (hq p p1 p2).1, ?_⟩⟩
        · rintro y t hy ⟨FB3, SB3, rfl, hr⟩
          left
          have hx1 := hp (j + 1) (by omega) (by omega)
          have hy1 := hp (y + 1) (by omega) (by omega)
          refine ⟨(nI (y + 2), upd FB3 (y + 1) (jmax (FB3 (y + 1)) (gn R (k1 (j + 1)) (k2 (y + 1)) sm so')), upd SB3 (j + 1) (jmax (SB3 (j + 1)) (gn R (k2 (y + 1)) (k1 (j + 1)) so' sm))), ?_, _, _, rfl, fun p p1 p2 => ⟨?_, ?_⟩⟩
          · unfold f_Lane_findBestAnswers_L111
            dsimp only
            rw [if_neg (show ¬ (9 : Int32) < nI (y + 1) from fun q => by have := (nx_Llt (by decide) (by omega)).mp q; have : 9 < y + 1 := this; omega), nI_clamp (n := j + 1) (by omega), nI_clamp (n := y + 1) (by omega), hx1.1, hy1.2.1, l_gain x, bind_some', l_gain x, bind_some', nx_add]
            simp only [oL, oI_nI (show j + 1 < 10 by omega) (by decide), oI_nI (show y + 1 < 10 by omega) (by decide)]
          · by_cases e : p = y + 1
            · subst e
              rw [upd_at, if_pos (by omega), (hr (y + 1) (by omega) (by omega)).1, if_neg (by omega)]
              rfl
            · rw [upd_ne e, (hr p p1 p2).1]
              by_cases e2 : p ≤ y
              · rw [if_pos e2, if_pos (by omega)]
              · rw [if_neg e2, if_neg (by omega)]
          · by_cases e : p = j + 1
            · subst e
              rw [upd_at, (hr (j + 1) (by omega) (by omega)).2, if_neg (by omega), if_pos rfl, if_neg (by omega), if_pos rfl]
              rfl
            · rw [upd_ne e, (hr p p1 p2).2]
              by_cases e2 : p ≤ j
              · rw [if_pos e2, if_pos e2]
              · rw [if_neg e2, if_neg e2, if_neg e, if_neg e]
        · rintro t ⟨FB3, SB3, rfl, hr⟩
          refine ⟨FB3, SB3, oLp_out ?_, fun p p1 p2 => ⟨?_, ?_⟩⟩
          · unfold f_Lane_findBestAnswers_L111
            dsimp only
            rw [if_pos (by decide), nx_add]
            rfl
          · rw [(hr p p1 p2).1, if_pos p2]
          · rw [(hr p p1 p2).2]
            by_cases e2 : p ≤ j
            · rw [if_pos e2, if_pos (by omega)]
            · rw [if_neg e2]
              by_cases e3 : p = j + 1
              · rw [if_pos e3, if_pos (by omega)]
              · rw [if_neg e3, if_neg (by omega)]
        · rw [(hq p p1 p2).2]
          by_cases e2 : p ≤ j
          · rw [if_pos e2, if_pos e2]
          · rw [if_neg e2, if_neg e2]
            split <;> rfl
      obtain ⟨FB3, SB3, i1, i2⟩ := inner
      refine ⟨_, ?_, FB3, SB3, rfl, i2⟩
      unfold f_Lane_findBestAnswers_L101
      dsimp only
      rw [if_neg (show ¬ (9 : Int32) < nI (j + 1) from fun q => by have := (nx_Llt (by decide) (by omega)).mp q; have : 9 < j + 1 := this; omega)]
      exact i1
    · rintro t ⟨FB2, SB2, rfl, hq⟩
      refine ⟨st, L1, FC1, SC1, FB2, SB2, oLp_out ?_, fun p p1 p2 => ⟨(hp p p1 p2).1, (hp p p1 p2).2.1, (hq p p1 p2).1, ?_⟩⟩
      · unfold f_Lane_findBestAnswers_L101
        dsimp only
        rw [if_pos (by decide)]
      · rw [(hq p p1 p2).2, if_pos p2]
