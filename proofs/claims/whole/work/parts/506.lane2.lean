theorem d10 : ¬ (1 : Int32) = 0 := by decide
theorem d20 : ¬ (2 : Int32) = 0 := by decide
theorem dm0 : ¬ (-1 : Int32) = 0 := by decide
/-! all that the queries stand on -/
def cx (Y C R B M F O W : Nat → Int32) (mb mm mf : Int32) (nb nm nf : Nat) (As Ac Mh : Int32) (Ad Al Kc Kv Kl Kt Kf Ku : Nat → Int32) (w : Option ((Nat → Int32) → Int32)) : Prop :=
  yA Y C mb mm mf R B M F nb nm nf ∧ (∀ m, m < nm → O m = W m) ∧ owA W nb nm ∧ (∃ c : Nat, c < 64 ∧ W 6 = nI c) ∧ (∃ c : Nat, c < 64 ∧ W 7 = nI c) ∧ (∃ s : Nat, s ≤ 999 ∧ W 8 = nI s) ∧ (∃ d : Nat, d ≤ 9999 ∧ W 9 = nI d) ∧ lwA As Ac Ad Al Mh Kc Kv Kl Kt Kf Ku w
def drn (R : Nat → Int32) (c : Int32) : Int32 := if c < R 0 + R 1 then 0 else 1
def dst (R : Nat → Int32) (c : Int32) : Int32 := jabs (c - R 0)
def wnr (R : Nat → Int32) (a b : Int32) : Int32 := if drn R a = 0 then (if drn R b = 0 then (if dst R a = dst R b then 0 else if dst R b ≤ dst R a then 2 else 1) else 0) else 0
def gn (R : Nat → Int32) (a b sa sb : Int32) : Int32 := if wnr R a b = 1 then sb else if wnr R a b = 2 then -sa else if drn R a = 0 then 0 else -sa
theorem m_isDrain {R : Nat → Int32} {c : Int32} : f_M_isDrain R c = some (drn R c) := by
  unfold f_M_isDrain drn
  rw [nx_oI (by decide) (by decide), nx_oI (by decide) (by decide)]
  show (if c < R 0 + R 1 then _ else _) = _
  split <;> rfl
theorem m_offHole {R : Nat → Int32} {c : Int32} : f_M_offHole R c = some (dst R c) := rfl
theorem m_winner {R : Nat → Int32} {a b : Int32} : f_M_winner R a b = some (wnr R a b) := by
  unfold f_M_winner wnr
  simp only [m_isDrain, m_offHole, bind_some']
  split
  · split
    · split
      · rfl
      · split <;> rfl
    · rfl
  · rfl
theorem l_isDrain {Y C R B M F O W : Nat → Int32} {mb mm mf : Int32} {nb nm nf : Nat} {As Ac Mh : Int32} {Ad Al Kc Kv Kl Kt Kf Ku : Nat → Int32} {w : Option ((Nat → Int32) → Int32)} {c : Int32} (x : cx Y C R B M F O W mb mm mf nb nm nf As Ac Mh Ad Al Kc Kv Kl Kt Kf Ku w) : f_Lane_isDrain Y c = some (drn R c) := by
  obtain ⟨h, hO, hW, hc, hsw, hsv, hd, hw⟩ := x
  obtain ⟨⟨h5, h6, h6'⟩, ⟨c1, c2, c3⟩, ⟨e1, e2, e3⟩, hr, hbo, hma, hfa, rb, rm, rf, r0, r1, r2⟩ := h
  unfold f_Lane_isDrain drn
  simp only [y_hole, y_behind, bind_some']
  rw [hr 0 (by omega), hr 1 (by omega)]
  split <;> rfl
theorem l_distance {Y C R B M F O W : Nat → Int32} {mb mm mf : Int32} {nb nm nf : Nat} {As Ac Mh : Int32} {Ad Al Kc Kv Kl Kt Kf Ku : Nat → Int32} {w : Option ((Nat → Int32) → Int32)} {c : Int32} (x : cx Y C R B M F O W mb mm mf nb nm nf As Ac Mh Ad Al Kc Kv Kl Kt Kf Ku w) : f_Lane_distance Y c = some (dst R c) := by
  obtain ⟨h, hO, hW, hc, hsw, hsv, hd, hw⟩ := x
  obtain ⟨⟨h5, h6, h6'⟩, ⟨c1, c2, c3⟩, ⟨e1, e2, e3⟩, hr, hbo, hma, hfa, rb, rm, rf, r0, r1, r2⟩ := h
  unfold f_Lane_distance dst
  simp only [y_hole, bind_some']
  rw [hr 0 (by omega)]
theorem l_nearerOf {Y C R B M F O W : Nat → Int32} {mb mm mf : Int32} {nb nm nf : Nat} {As Ac Mh : Int32} {Ad Al Kc Kv Kl Kt Kf Ku : Nat → Int32} {w : Option ((Nat → Int32) → Int32)} {a b : Int32} (x : cx Y C R B M F O W mb mm mf nb nm nf As Ac Mh Ad Al Kc Kv Kl Kt Kf Ku w) : f_Lane_nearerOf Y a b = some (wnr R a b) := by
  unfold f_Lane_nearerOf wnr
  simp only [l_isDrain x, l_distance x, bind_some']
  split
  · split
    · split
      · rfl
      · split <;> rfl
    · rfl
  · rfl
theorem l_gain {Y C R B M F O W : Nat → Int32} {mb mm mf : Int32} {nb nm nf : Nat} {As Ac Mh : Int32} {Ad Al Kc Kv Kl Kt Kf Ku : Nat → Int32} {w : Option ((Nat → Int32) → Int32)} {a b sa sb : Int32} (x : cx Y C R B M F O W mb mm mf nb nm nf As Ac Mh Ad Al Kc Kv Kl Kt Kf Ku w) : f_Lane_gain Y a b sa sb = some (gn R a b sa sb) := by
  unfold f_Lane_gain gn
  simp only [l_isDrain x, l_nearerOf x, bind_some']
  split
  · rfl
  · split
    · rfl
    · split <;> rfl
theorem cx_flick {Y C R B M F O W : Nat → Int32} {mb mm mf : Int32} {nb nm nf : Nat} {As Ac Mh : Int32} {Ad Al Kc Kv Kl Kt Kf Ku : Nat → Int32} {w : Option ((Nat → Int32) → Int32)} {b m : Nat} {p : Int32} {s L : Nat → Int32} (x : cx Y C R B M F O W mb mm mf nb nm nf As Ac Mh Ad Al Kc Kv Kl Kt Kf Ku w) (hp : mil p) (hb : b < nb) (hm : m < nm) : ∃ s', f_Lane_flick As Ac Ad Al s Y (nI nm) (W 6) (W 9) O L (nI b) (nI m) p = some (cel w B M W nm b m p, s') := by
  obtain ⟨h, hO, hW, hc, hsw, hsv, hd, hw⟩ := x
  exact l_flick h hO hd hw hp hb hm
theorem cx_lands {Y C R B M F O W : Nat → Int32} {mb mm mf : Int32} {nb nm nf : Nat} {As Ac Mh : Int32} {Ad Al Kc Kv Kl Kt Kf Ku : Nat → Int32} {w : Option ((Nat → Int32) → Int32)} {b m : Nat} {p : Int32} {s L : Nat → Int32} (x : cx Y C R B M F O W mb mm mf nb nm nf As Ac Mh Ad Al Kc Kv Kl Kt Kf Ku w) (hp : mil p) (hb : b < nb) (hm : m < nm) : ∃ s', f_M_landsAt (nI nm) Mh Kc Kv Kl Kt Kf Ku L s B M W (nI b) (nI m) p = some (cel w B M W nm b m p, s') := by
  obtain ⟨h, hO, hW, hc, hsw, hsv, hd, hw⟩ := x
  exact m_landsAt h hd hw hp hb hm
theorem cx_cell {Y C R B M F O W : Nat → Int32} {mb mm mf : Int32} {nb nm nf : Nat} {As Ac Mh : Int32} {Ad Al Kc Kv Kl Kt Kf Ku : Nat → Int32} {w : Option ((Nat → Int32) → Int32)} {b m : Nat} {p : Int32} {s L : Nat → Int32} (x : cx Y C R B M F O W mb mm mf nb nm nf As Ac Mh Ad Al Kc Kv Kl Kt Kf Ku w) (hp : mil p) (hb : b < nb) (hm : m < nm) (ho : W m = nI b) : ∃ s', f_M_cellOf (nI nm) Mh Kc Kv Kl Kt Kf Ku L s B M W (nI m) p = some (cel w B M W nm b m p, s') := by
  have h6 : nm ≤ 6 := x.1.1.2.1
  obtain ⟨s', hs'⟩ := cx_lands (s := s) (L := L) x hp hb hm
  unfold f_M_cellOf
  rw [nx_zadd, oI_nI (by omega) (by decide), nI_clamp (by omega), ho, hs']
  exact ⟨_, rfl⟩
theorem cx_game {Y C R B M F O W : Nat → Int32} {mb mm mf : Int32} {nb nm nf : Nat} {As Ac Mh : Int32} {Ad Al Kc Kv Kl Kt Kf Ku : Nat → Int32} {w : Option ((Nat → Int32) → Int32)} {b m b' o : Nat} {p q : Int32} {s L : Nat → Int32} (x : cx Y C R B M F O W mb mm mf nb nm nf As Ac Mh Ad Al Kc Kv Kl Kt Kf Ku w) (hp : mil p) (hq : mil q) (hb : b < nb) (hm : m < nm) (ho : W m = nI b) (hb' : b' < nb) (hm' : o < nm) (ho' : W o = nI b') : ∃ s', f_M_gameOf (nI nm) Mh Kc Kv Kl Kt Kf Ku L s R B M W (nI m) p (nI o) q = some (gn R (cel w B M W nm b m p) (cel w B M W nm b' o q) (M (3 * m + 2)) (M (3 * o + 2)), s') := by
  have h6 : nm ≤ 6 := x.1.1.2.1
  obtain ⟨s1, hs1⟩ := cx_cell (s := s) (L := L) x hp hb hm ho
  obtain ⟨s2, hs2⟩ := cx_cell (s := s1.2) (L := s1.1) x hq hb' hm' ho'
  unfold f_M_gameOf f_M_gameOf_J38
  simp only [hs1, hs2, bind_some', m_winner, m_isDrain, m_of2 (show m < 6 by omega), m_of2 (show o < 6 by omega)]
  unfold gn
  by_cases hz : drn R (cel w B M W nm b m p) = 0
  · rw [if_pos hz]
    by_cases h2 : wnr R (cel w B M W nm b m p) (cel w B M W nm b' o q) = 2
    · rw [if_pos h2, if_neg (by rw [h2]; decide), if_pos h2]
      exact ⟨_, rfl⟩
    · rw [if_neg h2]
      by_cases h1 : wnr R (cel w B M W nm b m p) (cel w B M W nm b' o q) = 1
      · rw [if_pos h1, if_pos h1]
        exact ⟨_, rfl⟩
      · rw [if_neg h1, if_neg h1, if_neg h2, if_pos hz]
        exact ⟨_, rfl⟩
  · have hw0 : wnr R (cel w B M W nm b m p) (cel w B M W nm b' o q) = 0 := by
      unfold wnr
      rw [if_neg hz]
    rw [if_neg hz, hw0, if_neg (by decide), if_neg (by decide), if_neg hz]
    exact ⟨_, rfl⟩
/-! powers -/
def pw (p : Int32) : Int32 := if p < 1 then 0 else if 9 < p then 0 else 1
theorem l_isPower {p : Int32} : f_Lane_isPower p = some (pw p) := by
  unfold f_Lane_isPower pw
  split
  · rfl
  · split <;> rfl
theorem m_isPower {p : Int32} : f_M_isPower p = some (pw p) := by
  unfold f_M_isPower f_M_in pw
  by_cases h1 : p < 1
  · rw [if_pos h1, bind_some', oZ0, if_pos h1]
  · rw [if_neg h1, if_neg h1]
    by_cases h2 : 9 < p
    · rw [if_pos h2, bind_some', oZ0, if_pos h2]
    · rw [if_neg h2, bind_some', oZ1, if_neg h2]
theorem pw_cases (p : Int32) : pw p = 0 ∨ (pw p = 1 ∧ ∃ n : Nat, 1 ≤ n ∧ n ≤ 9 ∧ p = nI n) := by
  unfold pw
  by_cases h1 : p < 1
  · rw [if_pos h1]
    exact Or.inl rfl
  · rw [if_neg h1]
    by_cases h2 : 9 < p
    · rw [if_pos h2]
      exact Or.inl rfl
    · rw [if_neg h2]
      refine Or.inr ⟨rfl, ?_⟩
      have h3 : ¬ p < 0 := fun q => h1 (by rw [Int32.lt_iff_toInt_lt] at q ⊢; have : (0 : Int32).toInt = 0 := by decide
                                           have : (1 : Int32).toInt = 1 := by decide
                                           omega)
      obtain ⟨k, hk, e⟩ := nI_of2 (M := 9) (n := 9) (by decide) h3 (i_nlt h2)
      refine ⟨k, ?_, hk, e⟩
      rcases Nat.eq_zero_or_pos k with z | z
      · subst z
        exact absurd (by rw [e]; decide) h1
      · exact z
theorem pw_nI {n : Nat} (h1 : 1 ≤ n) (h9 : n ≤ 9) : pw (nI n) = 1 := by
  unfold pw
  rw [if_neg, if_neg]
  · intro q
    have := (nx_Llt (by decide) (by omega)).mp q
    omega
  · intro q
    have := (nx_ltL (by omega) (by decide)).mp q
    omega
/-! why there can be no game -/
def whN (W : Nat → Int32) (nm : Nat) (p q : Int32) : Int32 := if inB p nm = 0 then 0 else if inB q nm = 0 then 0 else if p = q then 1 else if fre (W p.toNatClampNeg) (hs (W 7) p) = 0 then 2 else if fre (W q.toNatClampNeg) (hs (W 7) q) = 0 then 2 else if W p.toNatClampNeg = W q.toNatClampNeg then 2 else -1
def whP (W : Nat → Int32) (nm : Nat) (p a q b : Int32) : Int32 := if whN W nm p q = 0 then 0 else if pw a = 0 then 1 else if pw b = 0 then 1 else whN W nm p q
theorem m_whyNot {W : Nat → Int32} {nm : Nat} {p q : Int32} (h6 : nm ≤ 6) : f_M_whyNot (nI nm) W p q = some (whN W nm p q) := by
  unfold f_M_whyNot whN
  rw [m_isMarble (by omega), bind_some']
  rcases inB_cases p (n := nm) (by omega) with ⟨e, _⟩ | ⟨m, hm, rfl, e⟩
  · rw [e, if_pos rfl, if_pos rfl]
  · rw [e, if_neg d10, if_neg d10, m_isMarble (by omega), bind_some']
    rcases inB_cases q (n := nm) (by omega) with ⟨e, _⟩ | ⟨o, ho, rfl, e⟩
    · rw [e, if_pos rfl, if_pos rfl]
    · rw [e, if_neg d10, if_neg d10, nx_zadd, nx_zadd, nI_clamp (by omega), nI_clamp (by omega), m_isLoose (by omega), bind_some', m_isLoose (by omega), bind_some', oI_nI (by omega) (by decide), oI_nI (by omega) (by decide)]
      split
      · rfl
      · split
        · rfl
        · split
          · rfl
          · split <;> rfl
theorem m_whyNotPlay {W : Nat → Int32} {nm : Nat} {p q a b : Int32} (h6 : nm ≤ 6) : f_M_whyNotPlay (nI nm) W p a q b = some (whP W nm p a q b) := by
  unfold f_M_whyNotPlay whP
  rw [m_whyNot h6, bind_some']
  simp only [m_isPower, bind_some']
  split
  · rfl
  · split
    · rfl
    · split <;> rfl
theorem l_refusal {Y C R B M F O W : Nat → Int32} {mb mm mf : Int32} {nb nm nf : Nat} {As Ac Mh : Int32} {Ad Al Kc Kv Kl Kt Kf Ku : Nat → Int32} {w : Option ((Nat → Int32) → Int32)} {p q a b : Int32} (x : cx Y C R B M F O W mb mm mf nb nm nf As Ac Mh Ad Al Kc Kv Kl Kt Kf Ku w) : f_Lane_refusalOf C (nI nm) (W 7) O p a q b = some (whP W nm p a q b) := by
  obtain ⟨h, hO, hW, hc, hsw, hsv, hd, hw⟩ := x
  obtain ⟨⟨h5, h6, h6'⟩, ⟨c1, c2, c3⟩, ⟨e1, e2, e3⟩, hr, hbo, hma, hfa, rb, rm, rf, r0, r1, r2⟩ := h
  unfold f_Lane_refusalOf whP whN
  simp only [y_hasMarble c2, l_isPower, bind_some', f_Lane_refusalOf_J91, f_Lane_refusalOf_J92]
  rcases inB_cases p (n := nm) (by omega) with ⟨e, _⟩ | ⟨m, hm, rfl, e⟩
  · rw [e]
    rfl
  · rw [e, if_neg d10, if_neg d10]
    rcases inB_cases q (n := nm) (by omega) with ⟨e, _⟩ | ⟨o, ho, rfl, e⟩
    · rw [e]
      rfl
    · rw [e, if_neg d10, if_neg d10, n_isFree hm h6, bind_some', n_isFree ho h6, bind_some', n_ownerOf hm h6, bind_some', n_ownerOf ho h6, bind_some', nI_clamp (by omega), nI_clamp (by omega), hO m hm, hO o ho]
      have q1 : ¬ (1 : Int32) = 0 := (by decide)
      have q2 : ¬ (2 : Int32) = 0 := (by decide)
      have q3 : ¬ (-1 : Int32) = 0 := (by decide)
      by_cases z1 : m = o
      · subst z1
        by_cases z2 : pw a = 0 <;> by_cases z3 : pw b = 0 <;> simp [z2, z3, q1]
      · have z1' : ¬ nI m = nI o := fun e => z1 (nI_inj (by omega) (by omega) e)
        by_cases z2 : pw a = 0 <;> by_cases z3 : pw b = 0 <;> by_cases z4 : fre (W m) (hs (W 7) (nI m)) = 0 <;> by_cases z5 : fre (W o) (hs (W 7) (nI o)) = 0 <;> by_cases z6 : W m = W o <;> simp [z1', z2, z3, z4, z5, z6, q1, q2, q3]
theorem whN_m1 {W : Nat → Int32} {nb nm : Nat} {p q : Int32} (h6 : nm ≤ 6) (hW : owA W nb nm) (h : whN W nm p q = -1) : ∃ m o b b' : Nat, m < nm ∧ o < nm ∧ m ≠ o ∧ p = nI m ∧ q = nI o ∧ b < nb ∧ b' < nb ∧ b ≠ b' ∧ W m = nI b ∧ W o = nI b' := by
  unfold whN at h
  rcases inB_cases p (n := nm) (by omega) with ⟨e, _⟩ | ⟨m, hm, rfl, e⟩
  · rw [e, if_pos rfl] at h
    exact absurd h (by decide)
  · rw [e, if_neg d10] at h
    rcases inB_cases q (n := nm) (by omega) with ⟨e, _⟩ | ⟨o, ho, rfl, e⟩
    · rw [e, if_pos rfl] at h
      exact absurd h (by decide)
    · rw [e, if_neg d10, nI_clamp (by omega), nI_clamp (by omega)] at h
      by_cases z1 : nI m = nI o
      · rw [if_pos z1] at h
        exact absurd h (by decide)
      · rw [if_neg z1] at h
        by_cases z4 : fre (W m) (hs (W 7) (nI m)) = 0
        · rw [if_pos z4] at h
          exact absurd h (by decide)
        · rw [if_neg z4] at h
          by_cases z5 : fre (W o) (hs (W 7) (nI o)) = 0
          · rw [if_pos z5] at h
            exact absurd h (by decide)
          · rw [if_neg z5] at h
            by_cases z6 : W m = W o
            · rw [if_pos z6] at h
              exact absurd h (by decide)
            · rcases hW m hm with y1 | ⟨b, hb, y1⟩
              · exact absurd (by unfold fre; rw [if_pos y1]) z4
              · rcases hW o ho with y2 | ⟨b', hb', y2⟩
                · exact absurd (by unfold fre; rw [if_pos y2]) z5
                · exact ⟨m, o, b, b', hm, ho, fun e => z1 (by rw [e]), rfl, rfl, hb, hb', fun e => z6 (by rw [y1, y2, e]), y1, y2⟩
theorem whP_m1 {W : Nat → Int32} {nm : Nat} {p q a b : Int32} (h : whP W nm p a q b = -1) : whN W nm p q = -1 ∧ (∃ n : Nat, 1 ≤ n ∧ n ≤ 9 ∧ a = nI n) ∧ ∃ n : Nat, 1 ≤ n ∧ n ≤ 9 ∧ b = nI n := by
  unfold whP at h
  by_cases z : whN W nm p q = 0
  · rw [if_pos z] at h
    exact absurd h (by decide)
  · rw [if_neg z] at h
    rcases pw_cases a with e | ⟨e, h1⟩
    · rw [if_pos e] at h
      exact absurd h (by decide)
    · rw [if_neg (by rw [e]; decide)] at h
      rcases pw_cases b with e | ⟨e, h2⟩
      · rw [if_pos e] at h
        exact absurd h (by decide)
      · rw [if_neg (by rw [e]; decide)] at h
        exact ⟨h, h1, h2⟩
theorem whP_11 {W : Nat → Int32} {nm : Nat} {p q : Int32} : whP W nm p 1 q 1 = whN W nm p q := by
  unfold whP
  have h : ¬ pw 1 = 0 := (by decide)
  by_cases z : whN W nm p q = 0
  · rw [if_pos z, z]
  · rw [if_neg z, if_neg h, if_neg h]
