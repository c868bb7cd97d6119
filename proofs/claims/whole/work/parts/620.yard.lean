/-! a yard's texts: numbers, items -/
theorem p_num2 {t a : Nat} {T X : Nat → Int32} (h : tpA t T X) (ha : a ≤ t) (hd : dg (ch X t (lk X t a)) = 1) : ∃ v a' : Nat, v ≤ 99 ∧ lk X t a < a' ∧ a' ≤ t ∧ ((f_Tape_number (nI t) (nI a) T 2 = some (nI v, nI a') ∧ ∀ lo hi, f_M_number (nI t) (nI a) (-1) X lo hi = (f_M_in (nI v) lo hi).bind fun r => if r = 0 then some (nI v, nI (a' - 1), nI (a' - 1)) else some (nI v, nI a', -1)) ∨ (f_Tape_number (nI t) (nI a) T 2 = some (-1, nI a') ∧ ∀ lo hi, f_M_number (nI t) (nI a) (-1) X lo hi = some (nI v, nI a', nI a'))) := by
  have h240 := h.1
  have hle : lk X t a ≤ t := lk_le ha
  obtain ⟨hlt, b0, p1, p2, p3, p4⟩ := dg_ch h hd
  unfold f_Tape_number f_M_number
  rw [c_sign h ha, m_look h240 ha]
  simp only [bind_some']
  rw [c_isAtDigit h (by omega), bind_some', hd, if_neg d10]
  generalize lk X t a = x at hd hle hlt p3 p4 ⊢
  have mpre : ∀ lo hi, ((f_M_isDigit (ch X t x)).bind fun a_2 => if a_2 = 0 then ((f_M_bad (nI x) (-1)).bind fun a_17 => some (lo, nI x, a_17)) else ((f_M_here (nI t) (nI x) X).bind fun a_3 => oL (a_3 - 48) fun v3_4 => oL (nI x + 1) fun m_at_5 => (f_M_here (nI t) m_at_5 X).bind fun a_6 => (f_M_isDigit a_6).bind fun a_7 => if a_7 = 0 then (f_M_number_J67 (nI t) m_at_5 (-1) X lo hi v3_4) else ((f_M_here (nI t) m_at_5 X).bind fun a_14 => oL (((10 * v3_4) + a_14) - 48) fun v3_15 => oL (m_at_5 + 1) fun m_at_16 => f_M_number_J67 (nI t) m_at_16 (-1) X lo hi v3_15))) = if dg (ch X t (x + 1)) = 0 then f_M_number_J67 (nI t) (nI (x + 1)) (-1) X lo hi (nI (b0 - 48)) else f_M_number_J67 (nI t) (nI (x + 2)) (-1) X lo hi (((10 * nI (b0 - 48)) + ch X t (x + 1)) - 48) := by
    intro lo hi
    have e48 : nI b0 - 48 = nI (b0 - 48) := by rw [show (48 : Int32) = nI 48 from rfl, nx_subN p1]
    rw [m_isDigit, bind_some', hd, if_neg d10, m_here h240 (by omega), bind_some', p3, e48]
    simp only [oL, nx_add]
    rw [m_here h240 (by omega), bind_some', m_isDigit, bind_some', bind_some']
  have c0 : oLp (f_Tape_number_L18 (nI t) T 2) (0, 0, nI x) = oLp (f_Tape_number_L18 (nI t) T 2) (nI (b0 - 48), nI 1, nI (x + 1)) := by
    refine oLp_go ?_
    unfold f_Tape_number_L18
    dsimp only
    rw [if_neg (by decide)]
    rw [c_isAtDigit h (by omega), bind_some', hd, if_neg d10, oI_nI (j := x) (n := 240) (by omega) (by decide), nI_clamp (n := x) (by omega), p4]
    simp only [oL, nx_add]
    rw [show (0 : Int32) = nI 0 from rfl, dgv p1]
    rw [Nat.zero_mul, Nat.zero_add]
    rfl
  have j67 : ∀ (y v : Nat) (lo hi : Int32), 1 ≤ y → y ≤ t → dg (ch X t y) = 0 → f_M_number_J67 (nI t) (nI y) (-1) X lo hi (nI v) = (f_M_in (nI v) lo hi).bind fun r => if r = 0 then some (nI v, nI (y - 1), nI (y - 1)) else some (nI v, nI y, -1) := by
    intro y v lo hi hy1 hy hz
    unfold f_M_number_J67
    rw [m_here h240 (by omega), bind_some', m_isDigit, bind_some', hz, if_pos rfl]
    have e1 : nI y - 1 = nI (y - 1) := nx_sub hy1
    simp only [oL, e1, m_bad, bind_some']
  rcases dg_01 (ch X t (x + 1)) with z | z
  · refine ⟨b0 - 48, x + 1, (by omega), (by omega), (by omega), Or.inl ⟨?_, fun lo hi => ?_⟩⟩
    · rw [c0]
      refine oLp_out ?_
      unfold f_Tape_number_L18
      dsimp only
      rw [if_neg (by decide)]
      rw [c_isAtDigit h (by omega), bind_some', z, if_pos rfl]
      unfold f_Tape_number_J64
      rw [c_isAtDigit h (by omega), bind_some', z, if_pos rfl]
      rfl
    · rw [mpre, z, if_pos rfl, j67 (x + 1) (b0 - 48) lo hi (by omega) (by omega) z]
  · obtain ⟨hlt1, b1, q1, q2, q3, q4⟩ := dg_ch h z
    have c1 : oLp (f_Tape_number_L18 (nI t) T 2) (nI (b0 - 48), nI 1, nI (x + 1)) = f_Tape_number_J64 (nI t) (nI (x + 2)) T (nI ((b0 - 48) * 10 + (b1 - 48))) := by
      rw [oLp_go (s' := (nI ((b0 - 48) * 10 + (b1 - 48)), nI 2, nI (x + 2)))]
      · refine oLp_map ?_
        unfold f_Tape_number_L18
        dsimp only
        rw [if_pos (by decide)]
      · unfold f_Tape_number_L18
        dsimp only
        rw [if_neg (by decide)]
        rw [c_isAtDigit h (by omega), bind_some', z, if_neg d10, oI_nI (j := x + 1) (n := 240) (by omega) (by decide), nI_clamp (n := x + 1) (by omega), q4]
        simp only [oL, nx_add, dgv q1]
    rcases dg_01 (ch X t (x + 2)) with z2 | z2
    · refine ⟨(b0 - 48) * 10 + (b1 - 48), x + 2, (by omega), (by omega), (by omega), Or.inl ⟨?_, fun lo hi => ?_⟩⟩
      · rw [c0, c1]
        unfold f_Tape_number_J64
        rw [c_isAtDigit h (by omega), bind_some', z2, if_pos rfl]
      · rw [mpre, z, if_neg d10, q3, dgv' q1, j67 (x + 2) _ lo hi (by omega) (by omega) z2]
    · refine ⟨(b0 - 48) * 10 + (b1 - 48), x + 2, (by omega), (by omega), (by omega), Or.inr ⟨?_, fun lo hi => ?_⟩⟩
      · rw [c0, c1]
        unfold f_Tape_number_J64
        rw [c_isAtDigit h (by omega), bind_some', z2, if_neg d10]
      · rw [mpre, z, if_neg d10, q3, dgv' q1]
        unfold f_M_number_J67
        rw [m_here h240 (by omega), bind_some', m_isDigit, bind_some', z2, if_neg d10, m_bad, bind_some']
/-! one value -/
theorem p_value {t a s k i r lo hi : Nat} {T X D Dc : Nat → Int32} (h : tpA t T X) (ha : a ≤ t) (hs : s < 4) (hk : k < 3) (hDc : Dc s = nI (i + 1)) (hr : tab1.getD s 0 = nI r) (hb : (r + i) * 3 + k < 54) (h4 : tab4.getD (s * 3 + k) 0 = nI lo) (h5 : tab5.getD (s * 3 + k) 0 = nI hi) (hlo : lo ≤ 99) (hhi : hi ≤ 99) : (∃ v a' : Nat, v ≤ hi ∧ lk X t a < a' ∧ a' ≤ t ∧ f_YardR_readValue (nI t) (nI a) T D Dc (nI s) (nI k) = some (1, nI a', upd D ((r + i) * 3 + k) (nI v)) ∧ f_M_number (nI t) (nI a) (-1) X (nI lo) (nI hi) = some (nI v, nI a', -1)) ∨ ∃ (p : Nat) (v : Int32), p ≤ t ∧ f_YardR_readValue (nI t) (nI a) T D Dc (nI s) (nI k) = some (0, nI p, D) ∧ f_M_number (nI t) (nI a) (-1) X (nI lo) (nI hi) = some (v, nI p, nI p) := by
  have h240 := h.1
  have hle : lk X t a ≤ t := lk_le ha
  have t4 : tab4.length = 12 := by decide
  have t5 : tab5.length = 12 := by decide
  have t1 : tab1.length = 4 := by decide
  unfold f_YardR_readValue
  rcases dg_01 (ch X t (lk X t a)) with z | z
  · right
    refine ⟨lk X t a, nI lo, hle, ?_, ?_⟩
    · rw [c_noNumber h ha z, bind_some']
      rfl
    · unfold f_M_number
      rw [m_look h240 ha, bind_some']
      dsimp only
      rw [m_isDigit, bind_some', z, if_pos rfl, m_bad, bind_some']
  · obtain ⟨v, a', v1, v2, v3, hh⟩ := p_num2 h ha z
    rcases hh with ⟨e1, e2⟩ | ⟨e1, e2⟩
    · rw [e1, bind_some']
      dsimp only
      rw [if_neg (m1_ne (by omega)), nx_mul, nI_add, t4, t5, oI_nI (j := s * 3 + k) (n := 12) (by omega) (by decide), nI_clamp (n := s * 3 + k) (by omega), h4, h5, e2]
      unfold f_M_in
      have hJ : f_YardR_readValue_J42 (nI a') D = some (0, nI (a' - 1), D) := by
        unfold f_YardR_readValue_J42 f_Tape_stepBack
        have e3 : nI a' - 1 = nI (a' - 1) := nx_sub (by show 1 ≤ a'; omega)
        simp only [oL, bind_some', e3]
      by_cases c1 : nI v < nI lo
      · right
        rw [if_pos c1, if_pos c1, bind_some', if_pos rfl]
        exact ⟨a' - 1, nI v, (by omega), hJ, rfl⟩
      · rw [if_neg c1, if_neg c1]
        by_cases c2 : nI v ≤ nI hi
        · left
          rw [if_neg (fun q => i_le_lt.mpr q c2), bind_some', if_neg d10, oI_nI (j := s * 3 + k) (n := 12) (by omega) (by decide), if_pos c2]
          refine ⟨v, a', (nx_le (by omega) (by omega)).mp c2, v2, v3, ?_, rfl⟩
          unfold f_Yard_tellLatest_C4
          have e3 : nI (r + (i + 1)) - 1 = nI (r + i) := by rw [show r + (i + 1) = r + i + 1 from rfl, nx_pre1]
          rw [oI_nI (j := s) (n := 4) hs (by decide), nI_clamp (n := s) (by omega), hDc, hr, if_neg (show ¬ nI (i + 1) ≤ 0 from fun q => by have := (nx_leL (by omega) (by decide)).mp q; have : i + 1 ≤ 0 := this; omega), t1, oI_nI (j := s) (n := 4) hs (by decide), oI_nI (j := s) (n := 4) hs (by decide), nI_add, e3, nx_mul, nI_add, oI_nI (j := (r + i) * 3 + k) (n := 54) hb (by decide), nI_clamp (n := (r + i) * 3 + k) (by omega)]
          rfl
        · right
          rw [if_pos (i_nle c2), bind_some', if_pos rfl, oI_nI (j := s * 3 + k) (n := 12) (by omega) (by decide), if_neg c2]
          exact ⟨a' - 1, nI v, (by omega), hJ, rfl⟩
    · right
      rw [e1, e2, bind_some']
      exact ⟨a', nI v, v3, rfl, rfl⟩
/-! items' letters -/
def itm (s : Nat) (c : Int32) : Int32 := if tab3.getD (s * 3) 0 = c then 0 else if tab3.getD (s * 3 + 1) 0 = c then 1 else if tab3.getD (s * 3 + 2) 0 = c then 2 else -1
theorem c_itemOf {s : Nat} {c : Int32} (hs : s < 4) : f_YardR_itemOf (nI s) c = some (itm s c) := by
  have t3 : tab3.length = 12 := by decide
  have go : ∀ j, j < 3 → f_YardR_itemOf_L2 (nI s) c (nI j) = if tab3.getD (s * 3 + j) 0 = c then some (.inr (nI j)) else some (.inl (nI (j + 1))) := by
    intro j hj
    unfold f_YardR_itemOf_L2
    rw [if_neg (show ¬ (3 : Int32) ≤ nI j from nI_ge hj (by decide)), nx_mul, nI_add, t3, oI_nI (j := s * 3 + j) (n := 12) (by omega) (by decide), nI_clamp (n := s * 3 + j) (by omega), nx_add]
  unfold f_YardR_itemOf itm
  show oLp (f_YardR_itemOf_L2 (nI s) c) (nI 0) = _
  have g0 := go 0 (by omega)
  have g1 := go 1 (by omega)
  have g2 := go 2 (by omega)
  by_cases h0 : tab3.getD (s * 3) 0 = c
  · rw [if_pos h0]
    rw [if_pos (show tab3.getD (s * 3 + 0) 0 = c from h0)] at g0
    exact oLp_out g0
  · rw [if_neg h0]
    rw [if_neg (show ¬ tab3.getD (s * 3 + 0) 0 = c from h0)] at g0
    rw [oLp_go g0]
    by_cases h1 : tab3.getD (s * 3 + 1) 0 = c
    · rw [if_pos h1]
      rw [if_pos h1] at g1
      exact oLp_out g1
    · rw [if_neg h1]
      rw [if_neg h1] at g1
      rw [oLp_go g1]
      by_cases h2 : tab3.getD (s * 3 + 2) 0 = c
      · rw [if_pos h2]
        rw [if_pos h2] at g2
        exact oLp_out g2
      · rw [if_neg h2]
        rw [if_neg h2] at g2
        rw [oLp_go g2]
        refine oLp_out ?_
        unfold f_YardR_itemOf_L2
        rw [if_pos (by decide)]
theorem itm_fin : ∀ (s : Fin 4) (b : Fin 256), 1 ≤ b.val → (itm s.val (nI b.val) = -1 ∨ itm s.val (nI b.val) = 0 ∨ itm s.val (nI b.val) = 1 ∨ (itm s.val (nI b.val) = 2 ∧ s.val ≠ 1)) ∧ f_M_itemOf (tab0.getD s.val 0) (nI b.val) = some (itm s.val (nI b.val)) := by decide +kernel
def pc (q : Nat) : Nat := q % 2 + q / 2 % 2 + q / 4
theorem pc_fin : ∀ (q : Fin 8) (k : Fin 3), (hs (nI q.val) (nI k.val) = 0 → ∃ q' : Fin 8, (nI q.val ||| (1 <<< (nI k.val &&& 31))) = nI q'.val ∧ pc q'.val = pc q.val + 1) ∧ (pc q.val = 3 → ¬ hs (nI q.val) (nI k.val) = 0) := by decide +kernel
/-! usual values -/
def fl (A : Nat → Int32) (b s : Nat) : Nat → (Nat → Int32)
  | 0 => A
  | j + 1 => upd (fl A b s j) (b + j) (tab6.getD (s * 3 + j) 0)
theorem fl_out {A : Nat → Int32} {b s : Nat} {j : Nat} : ∀ n, (j < b ∨ b + n ≤ j) → fl A b s n j = A j := by
  intro n
  induction n with
  | zero => intro _; rfl
  | succ n ih =>
    intro h
    unfold fl
    rw [upd_ne (by omega)]
    exact ih (by omega)
theorem fl_in {A : Nat → Int32} {b s : Nat} {j : Nat} : ∀ n, j < n → fl A b s n (b + j) = tab6.getD (s * 3 + j) 0 := by
  intro n
  induction n with
  | zero => intro h; omega
  | succ n ih =>
    intro h
    unfold fl
    by_cases e : j = n
    · subst e
      exact upd_at
    · rw [upd_ne (by omega)]
      exact ih (by omega)
theorem c_fillUsual {D : Nat → Int32} {s i r : Nat} (hs : s < 4) (hr : tab1.getD s 0 = nI r) (hb : (r + i) * 3 + 3 ≤ 54) : f_Yard_fillUsual_C4 D (nI s) (nI i) = some (fl D ((r + i) * 3) s 3) := by
  have t1 : tab1.length = 4 := by decide
  have t6 : tab6.length = 12 := by decide
  unfold f_Yard_fillUsual_C4
  refine oLp_for (fun j => (nI j, fl D ((r + i) * 3) s j)) (i := 0) (n := 3) (by omega) (fun j _ hj => ?_) ?_
  · unfold f_Yard_fillUsual_C4_L2
    dsimp only
    rw [if_neg (show ¬ (3 : Int32) ≤ nI j from nI_ge hj (by decide)), t1, t6, oI_nI (j := s) (n := 4) hs (by decide), nI_clamp (n := s) (by omega), hr, nx_mul, nI_add, nI_add, nx_mul, nI_add, oI_nI (j := s * 3 + j) (n := 12) (by omega) (by decide), oI_nI (j := (r + i) * 3 + j) (n := 54) (by omega) (by decide), nI_clamp (n := (r + i) * 3 + j) (by omega), nI_clamp (n := s * 3 + j) (by omega)]
    simp only [oL, nx_add]
    rfl
  · rfl
