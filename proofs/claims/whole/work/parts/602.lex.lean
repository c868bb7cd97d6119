/-! signs of the tape -/
def tpA (t : Nat) (T X : Nat → Int32) : Prop := t ≤ 240 ∧ ∀ j, j < t → T j = X j ∧ ∃ b : Nat, 1 ≤ b ∧ b ≤ 255 ∧ X j = nI b
def lkF (X : Nat → Int32) (t : Nat) : Nat → Nat → Nat
  | 0, a => a
  | n + 1, a => if a < t then (if X a = 32 then lkF X t n (a + 1) else a) else a
def lk (X : Nat → Int32) (t a : Nat) : Nat := lkF X t (t - a) a
def ch (X : Nat → Int32) (t a : Nat) : Int32 := if a < t then X a else -1
theorem lkF_bd {X : Nat → Int32} {t : Nat} : ∀ n a, a ≤ t → a ≤ lkF X t n a ∧ lkF X t n a ≤ t := by
  intro n
  induction n with
  | zero => intro a h; exact ⟨Nat.le_refl _, h⟩
  | succ n ih =>
    intro a h
    unfold lkF
    by_cases h1 : a < t
    · rw [if_pos h1]
      by_cases h2 : X a = 32
      · rw [if_pos h2]
        have := ih (a + 1) (by omega)
        omega
      · rw [if_neg h2]
        omega
    · rw [if_neg h1]
      omega
theorem lk_ge {X : Nat → Int32} {t a : Nat} (h : a ≤ t) : a ≤ lk X t a := (lkF_bd _ a h).1
theorem lk_le {X : Nat → Int32} {t a : Nat} (h : a ≤ t) : lk X t a ≤ t := (lkF_bd _ a h).2
theorem lkF_stop {X : Nat → Int32} {t : Nat} : ∀ n a, a + n = t → lkF X t n a < t → ¬ X (lkF X t n a) = 32 := by
  intro n
  induction n with
  | zero => intro a h q; unfold lkF at q; omega
  | succ n ih =>
    intro a h
    unfold lkF
    by_cases h1 : a < t
    · rw [if_pos h1]
      by_cases h2 : X a = 32
      · rw [if_pos h2]
        exact ih (a + 1) (by omega)
      · rw [if_neg h2]
        exact fun _ => h2
    · omega
theorem lk_stop {X : Nat → Int32} {t a : Nat} (h : a ≤ t) (h2 : lk X t a < t) : ¬ X (lk X t a) = 32 := lkF_stop _ a (by omega) h2
theorem lk_at {X : Nat → Int32} {t a : Nat} (h : a < t → ¬ X a = 32) : lk X t a = a := by
  unfold lk
  cases t - a with
  | zero => rfl
  | succ n =>
    unfold lkF
    by_cases h1 : a < t
    · rw [if_pos h1, if_neg (h h1)]
    · rw [if_neg h1]
theorem lk_lk {X : Nat → Int32} {t a : Nat} (h : a ≤ t) : lk X t (lk X t a) = lk X t a := lk_at (lk_stop h)
theorem c_sign {t a : Nat} {T X : Nat → Int32} (h : tpA t T X) (ha : a ≤ t) : f_Tape_sign (nI t) (nI a) T = some (ch X t (lk X t a), nI (lk X t a)) := by
  have h240 := h.1
  have key : ∀ n a, a + n = t → oLp (f_Tape_sign_L0 (nI t) T) (nI a) = some (ch X t (lkF X t n a), nI (lkF X t n a)) := by
    intro n
    induction n with
    | zero =>
      intro a e
      have e : a = t := e
      subst e
      refine oLp_out ?_
      unfold f_Tape_sign_L0 f_Tape_sign_J38 lkF ch
      rw [if_pos (nI_le (Nat.le_refl a) (by omega)), if_neg (Nat.lt_irrefl a), if_pos (nI_le (Nat.le_refl a) (by omega))]
      rfl
    | succ n ih =>
      intro a e
      have hlt : a < t := (by omega)
      unfold lkF
      rw [if_pos hlt]
      by_cases hz : X a = 32
      · rw [if_pos hz, ← ih (a + 1) (by omega)]
        refine oLp_go ?_
        unfold f_Tape_sign_L0
        rw [if_neg (nI_ge hlt (by omega)), oI_nI (j := a) (n := 240) (by omega) (by decide), nI_clamp (n := a) (by omega), (h.2 a hlt).1, if_pos hz]
        simp only [oL, nx_add]
      · rw [if_neg hz]
        refine oLp_out ?_
        unfold f_Tape_sign_L0 f_Tape_sign_J38 ch
        rw [if_neg (nI_ge hlt (by omega)), oI_nI (j := a) (n := 240) (by omega) (by decide), nI_clamp (n := a) (by omega), (h.2 a hlt).1, if_neg hz, oI_nI (j := a) (n := 240) (by omega) (by decide), if_pos hlt, if_neg (nI_ge hlt (by omega))]
        rfl
  exact key (t - a) a (by omega)
theorem m_here {t a : Nat} {X : Nat → Int32} (ht : t ≤ 240) (ha : a < 2 ^ 31) : f_M_here (nI t) (nI a) X = some (ch X t a) := by
  unfold f_M_here ch
  by_cases h : a < t
  · rw [if_neg (nI_ge h (by omega)), oI_nI (j := a) (n := 240) (by omega) (by decide), nI_clamp (n := a) (by omega), if_pos h]
  · rw [if_pos (nI_le (by omega) (by omega)), if_neg h]
theorem m_look {t a : Nat} {X : Nat → Int32} (ht : t ≤ 240) (ha : a ≤ t) : f_M_look (nI t) (nI a) X = some (ch X t (lk X t a), nI (lk X t a)) := by
  have key : ∀ n a, a + n = t → oLp (f_M_look_L0 (nI t) X) (nI a) = some (ch X t (lkF X t n a), nI (lkF X t n a)) := by
    intro n
    induction n with
    | zero =>
      intro a e
      have e : a = t := e
      subst e
      refine oLp_out ?_
      unfold f_M_look_L0 lkF
      rw [m_here ht (by omega), bind_some']
      unfold ch
      rw [if_neg (Nat.lt_irrefl a), if_neg (by decide)]
      rfl
    | succ n ih =>
      intro a e
      have hlt : a < t := (by omega)
      unfold lkF
      rw [if_pos hlt]
      by_cases hz : X a = 32
      · rw [if_pos hz, ← ih (a + 1) (by omega)]
        refine oLp_go ?_
        unfold f_M_look_L0
        rw [m_here ht (by omega), bind_some']
        unfold ch
        rw [if_pos hlt, if_pos hz]
        simp only [oL, nx_add]
      · rw [if_neg hz]
        refine oLp_out ?_
        unfold f_M_look_L0
        rw [m_here ht (by omega), bind_some']
        unfold ch
        rw [if_pos hlt, if_neg hz]
        rfl
  exact key (t - a) a (by omega)
theorem c_takes {t a : Nat} {T X : Nat → Int32} {c : Int32} (h : tpA t T X) (ha : a ≤ t) : f_Tape_takes (nI t) (nI a) T c = some (if ch X t (lk X t a) = c then (1, nI (lk X t a + 1)) else (0, nI (lk X t a))) := by
  unfold f_Tape_takes
  rw [c_sign h ha, bind_some']
  dsimp only
  by_cases hc : ch X t (lk X t a) = c
  · rw [if_pos hc, if_pos hc]
    simp only [oL, nx_add]
  · rw [if_neg hc, if_neg hc]
theorem ch_lt {X : Nat → Int32} {t a : Nat} {c : Int32} (h : ch X t a = c) (hc : ¬ c = -1) : a < t ∧ X a = c := by
  unfold ch at h
  by_cases h1 : a < t
  · rw [if_pos h1] at h
    exact ⟨h1, h⟩
  · rw [if_neg h1] at h
    exact absurd h.symm hc
theorem ch_byte {X T : Nat → Int32} {t a : Nat} (h : tpA t T X) : (ch X t a = -1 ∧ t ≤ a) ∨ (a < t ∧ ∃ b : Nat, 1 ≤ b ∧ b ≤ 255 ∧ ch X t a = nI b) := by
  unfold ch
  by_cases h1 : a < t
  · rw [if_pos h1]
    exact Or.inr ⟨h1, (h.2 a h1).2⟩
  · rw [if_neg h1]
    exact Or.inl ⟨rfl, (by omega)⟩
/-! digits -/
def dg (c : Int32) : Int32 := if c < 48 then 0 else if 57 < c then 0 else 1
theorem m_isDigit {c : Int32} : f_M_isDigit c = some (dg c) := by
  unfold f_M_isDigit dg
  split
  · rfl
  · split <;> rfl
theorem dg_m1 : dg (-1) = 0 := by decide
theorem c_isAtDigit {t a : Nat} {T X : Nat → Int32} (h : tpA t T X) (ha : a < 2 ^ 31) : f_Tape_isAtDigit (nI t) (nI a) T = some (dg (ch X t a)) := by
  have h240 := h.1
  unfold f_Tape_isAtDigit ch
  by_cases h1 : a < t
  · rw [if_neg (nI_ge h1 (by omega)), oI_nI (j := a) (n := 240) (by omega) (by decide), nI_clamp (n := a) (by omega), (h.2 a h1).1, oI_nI (j := a) (n := 240) (by omega) (by decide), if_pos h1]
    unfold dg
    split
    · rfl
    · split <;> rfl
  · rw [if_pos (nI_le (by omega) (by omega)), if_neg h1, dg_m1]
theorem dg_01 (c : Int32) : dg c = 0 ∨ dg c = 1 := by
  unfold dg
  split
  · exact Or.inl rfl
  · split
    · exact Or.inl rfl
    · exact Or.inr rfl
theorem dg_1 {c : Int32} (h : dg c = 1) : ∃ b : Nat, 48 ≤ b ∧ b ≤ 57 ∧ c = nI b := by
  unfold dg at h
  have h48 : (48 : Int32).toInt = 48 := (by decide)
  have h57 : (57 : Int32).toInt = 57 := (by decide)
  by_cases h1 : c < 48
  · rw [if_pos h1] at h
    exact absurd h (by decide)
  · rw [if_neg h1] at h
    by_cases h2 : 57 < c
    · rw [if_pos h2] at h
      exact absurd h (by decide)
    · have h0 : ¬ c < 0 := fun q => h1 (by rw [Int32.lt_iff_toInt_lt] at q ⊢; have : (0 : Int32).toInt = 0 := by decide
                                           omega)
      obtain ⟨k, hk, e⟩ := nI_of2 (M := 57) (n := 57) (by decide) h0 (i_nlt h2)
      refine ⟨k, ?_, hk, e⟩
      rcases Nat.lt_or_ge k 48 with z | z
      · exact absurd (by rw [e]; exact nI_lt z (by decide)) h1
      · exact z
theorem dg_ch {T X : Nat → Int32} {t a : Nat} (h : tpA t T X) (hd : dg (ch X t a) = 1) : a < t ∧ ∃ b : Nat, 48 ≤ b ∧ b ≤ 57 ∧ ch X t a = nI b ∧ T a = nI b := by
  obtain ⟨b, h1, h2, e⟩ := dg_1 hd
  obtain ⟨q1, q2⟩ := ch_lt e (m1_ne (by omega))
  exact ⟨q1, b, h1, h2, e, by rw [(h.2 a q1).1, q2]⟩
theorem dgv {v b : Nat} (h1 : 48 ≤ b) : nI v * 10 + nI b - 48 = nI (v * 10 + (b - 48)) := by
  rw [nx_mul, nI_add, show (48 : Int32) = nI 48 from rfl, nx_subN (by omega)]
  congr 1
  show v * 10 + b - 48 = _
  omega
theorem dgv' {v b : Nat} (h1 : 48 ≤ b) : 10 * nI v + nI b - 48 = nI (v * 10 + (b - 48)) := by
  rw [nx_mull, nI_add, show (48 : Int32) = nI 48 from rfl, nx_subN (by omega)]
  congr 1
  show 10 * v + b - 48 = _
  omega
/-! a number of at most four digits -/
def nQ (t x : Nat) (r : Option (Int32 × Int32)) (r' : Option (Int32 × Int32 × Int32)) : Prop := ∃ v a' : Nat, v < 10000 ∧ x < a' ∧ a' ≤ t ∧ ((r = some (nI v, nI a') ∧ r' = some (nI v, nI a', -1)) ∨ (r = some (-1, nI a') ∧ r' = some (nI v, nI a', nI a')))
theorem p_number {t a : Nat} {T X : Nat → Int32} (h : tpA t T X) (ha : a ≤ t) (hd : dg (ch X t (lk X t a)) = 1) : nQ t (lk X t a) (f_Tape_number (nI t) (nI a) T 4) (f_M_plainNumber (nI t) (nI (lk X t a)) (-1) X) := by
  have h240 := h.1
  have hle : lk X t a ≤ t := lk_le ha
  have hlt := (dg_ch h hd).1
  unfold f_Tape_number f_M_plainNumber
  rw [c_sign h ha, bind_some']
  dsimp only
  rw [c_isAtDigit h (by omega), bind_some', hd, if_neg d10]
  generalize lk X t a = x at hd hle hlt ⊢
  have fin : ∀ (j v : Nat), 1 ≤ j → v < 10000 → x + j ≤ t → nQ t x (f_Tape_number_J64 (nI t) (nI (x + j)) T (nI v)) (f_M_plainNumber_J48 (nI t) (nI (x + j)) (-1) X (nI v)) := by
    intro j v hj hv hx
    unfold f_Tape_number_J64 f_M_plainNumber_J48
    rw [c_isAtDigit h (by omega), bind_some', m_here h240 (by omega), bind_some', m_isDigit, bind_some']
    refine ⟨v, x + j, hv, (by omega), hx, ?_⟩
    rcases dg_01 (ch X t (x + j)) with z | z
    · rw [z]
      exact Or.inl ⟨rfl, rfl⟩
    · rw [z]
      exact Or.inr ⟨rfl, rfl⟩
  refine qlp2 (fun j (s s' : Int32 × Int32 × Int32) => ∃ v : Nat, v < 10 ^ j ∧ s = (nI v, nI j, nI (x + j)) ∧ s' = (nI v, nI j, nI (x + j)) ∧ x + j ≤ t ∧ j ≤ 4) (nQ t x) (n := 4) ?_ ?_ (j := 0) (by omega) ⟨0, (by decide), rfl, rfl, hle, (by omega)⟩
  · rintro j s s' hj ⟨v, hv, rfl, rfl, hx, _⟩
    have hp : 10 ^ j < 10000 := by
      rcases (show j = 0 ∨ j = 1 ∨ j = 2 ∨ j = 3 by omega) with rfl | rfl | rfl | rfl <;> decide
    rcases dg_01 (ch X t (x + j)) with z | z
    · right
      have hj1 : 1 ≤ j := by
        rcases Nat.eq_zero_or_pos j with e | e
        · subst e
          rw [Nat.add_zero, hd] at z
          exact absurd z (by decide)
        · exact e
      have e1 : oLp (f_Tape_number_L18 (nI t) T 4) (nI v, nI j, nI (x + j)) = f_Tape_number_J64 (nI t) (nI (x + j)) T (nI v) := by
        refine oLp_map ?_
        unfold f_Tape_number_L18
        rw [if_neg (show ¬ (4 : Int32) ≤ nI j from nI_ge hj (by decide))]
        dsimp only
        rw [c_isAtDigit h (by omega), bind_some', z, if_pos rfl]
      have e2 : oLp (f_M_plainNumber_L4 (nI t) (-1) X) (nI v, nI j, nI (x + j)) = f_M_plainNumber_J48 (nI t) (nI (x + j)) (-1) X (nI v) := by
        refine oLp_map ?_
        unfold f_M_plainNumber_L4
        rw [if_neg (show ¬ (4 : Int32) ≤ nI j from nI_ge hj (by decide))]
        dsimp only
        rw [m_here h240 (by omega), bind_some', m_isDigit, bind_some', z, if_pos rfl]
      rw [e1, e2]
      exact fin j v hj1 (by omega) hx
    · left
      obtain ⟨q1, b, b1, b2, e1, e2⟩ := dg_ch h z
      refine ⟨(nI (v * 10 + (b - 48)), nI (j + 1), nI (x + (j + 1))), (nI (v * 10 + (b - 48)), nI (j + 1), nI (x + (j + 1))), ?_, ?_, v * 10 + (b - 48), ?_, rfl, rfl, (by omega), (by omega)⟩
      · unfold f_Tape_number_L18
        rw [if_neg (show ¬ (4 : Int32) ≤ nI j from nI_ge hj (by decide))]
        dsimp only
        rw [c_isAtDigit h (by omega), bind_some', z, if_neg d10, oI_nI (j := x + j) (n := 240) (by omega) (by decide), nI_clamp (n := x + j) (by omega), e2]
        simp only [oL, nx_add, dgv b1]
        rfl
      · unfold f_M_plainNumber_L4
        rw [if_neg (show ¬ (4 : Int32) ≤ nI j from nI_ge hj (by decide))]
        dsimp only
        rw [m_here h240 (by omega), bind_some', m_isDigit, bind_some', z, if_neg d10, bind_some', e1]
        simp only [oL, nx_add, dgv' b1]
        rfl
      · rw [Nat.pow_succ]
        omega
  · rintro s s' ⟨v, hv, rfl, rfl, hx, _⟩
    have e1 : oLp (f_Tape_number_L18 (nI t) T 4) (nI v, nI 4, nI (x + 4)) = f_Tape_number_J64 (nI t) (nI (x + 4)) T (nI v) := by
      refine oLp_map ?_
      unfold f_Tape_number_L18
      rw [if_pos (show (4 : Int32) ≤ nI 4 from by decide)]
    have e2 : oLp (f_M_plainNumber_L4 (nI t) (-1) X) (nI v, nI 4, nI (x + 4)) = f_M_plainNumber_J48 (nI t) (nI (x + 4)) (-1) X (nI v) := by
      refine oLp_map ?_
      unfold f_M_plainNumber_L4
      rw [if_pos (show (4 : Int32) ≤ nI 4 from by decide)]
    rw [e1, e2]
    exact fin 4 v (by omega) (by omega) hx
theorem c_noNumber {t a : Nat} {T X : Nat → Int32} {k : Int32} (h : tpA t T X) (ha : a ≤ t) (hd : dg (ch X t (lk X t a)) = 0) : f_Tape_number (nI t) (nI a) T k = some (-1, nI (lk X t a)) := by
  have h240 := h.1
  have hle : lk X t a ≤ t := lk_le ha
  unfold f_Tape_number
  rw [c_sign h ha, bind_some']
  dsimp only
  rw [c_isAtDigit h (by omega), bind_some', hd, if_pos rfl]
/-! letters of a law -/
def ltr (c : Int32) : Int32 := if c = 112 then 0 else if c = 107 then 1 else if c = 115 then 2 else if c = 99 then 3 else if c = 104 then 4 else if c = 100 then 5 else -1
theorem m_letterOf {c : Int32} : f_M_letterOf c = some (ltr c) := by
  unfold f_M_letterOf ltr
  repeat' split
  all_goals rfl
theorem ltr_cases (c : Int32) : (ltr c = -1 ∧ ¬ c = 112 ∧ ¬ c = 107 ∧ ¬ c = 115 ∧ ¬ c = 99 ∧ ¬ c = 104 ∧ ¬ c = 100) ∨ ∃ i : Nat, i < 6 ∧ ltr c = nI i ∧ tab7.getD i 0 = c ∧ ∀ j, j < i → ¬ tab7.getD j 0 = c := by
  unfold ltr
  by_cases h0 : c = 112
  · rw [if_pos h0, h0]
    exact Or.inr ⟨0, (by decide), rfl, by decide, (by decide)⟩
  · rw [if_neg h0]
    by_cases h1 : c = 107
    · rw [if_pos h1, h1]
      exact Or.inr ⟨1, (by decide), rfl, by decide, (by decide)⟩
    · rw [if_neg h1]
      by_cases h2 : c = 115
      · rw [if_pos h2, h2]
        exact Or.inr ⟨2, (by decide), rfl, by decide, (by decide)⟩
      · rw [if_neg h2]
        by_cases h3 : c = 99
        · rw [if_pos h3, h3]
          exact Or.inr ⟨3, (by decide), rfl, by decide, (by decide)⟩
        · rw [if_neg h3]
          by_cases h4 : c = 104
          · rw [if_pos h4, h4]
            exact Or.inr ⟨4, (by decide), rfl, by decide, (by decide)⟩
          · rw [if_neg h4]
            by_cases h5 : c = 100
            · rw [if_pos h5, h5]
              exact Or.inr ⟨5, (by decide), rfl, by decide, (by decide)⟩
            · rw [if_neg h5]
              exact Or.inl ⟨rfl, h0, h1, h2, h3, h4, h5⟩
theorem tab7_len : tab7.length = 6 := by decide
theorem c_letter {t a : Nat} {T : Nat → Int32} {Gl : Int32} {G : Nat → Int32} {c : Int32} {i : Nat} (hi : i < 6) (hc : tab7.getD i 0 = c) (hn : ∀ j, j < i → ¬ tab7.getD j 0 = c) : oLp (f_LawR_readAtom_L59 (nI t) (nI a) T Gl G c) 0 = (f_LawR_emit Gl G (nI (10000 + i))).bind fun r => some (1, nI (a + 1), r.1, r.2) := by
  refine oLp_forM (fun j => nI j) (i := 0) (n := i) (by omega) (fun j _ hj => ?_) ?_
  · unfold f_LawR_readAtom_L59
    rw [if_neg (show ¬ (6 : Int32) ≤ nI j from nI_ge (b := 6) (by omega) (by decide)), tab7_len, oI_nI (j := j) (n := 6) (by omega) (by decide), nI_clamp (n := j) (by omega), if_neg (hn j hj), nx_add]
  · unfold f_LawR_readAtom_L59
    rw [if_neg (show ¬ (6 : Int32) ≤ nI i from nI_ge (b := 6) (by omega) (by decide)), tab7_len, oI_nI (j := i) (n := 6) (by omega) (by decide), nI_clamp (n := i) (by omega), if_pos hc]
    unfold f_Tape_step
    simp only [oL, bind_some', nx_add, nx_addl]
theorem c_noLetter {t a : Nat} {T : Nat → Int32} {Gl : Int32} {G : Nat → Int32} {c : Int32} (hn : ¬ c = 112 ∧ ¬ c = 107 ∧ ¬ c = 115 ∧ ¬ c = 99 ∧ ¬ c = 104 ∧ ¬ c = 100) : oLp (f_LawR_readAtom_L59 (nI t) (nI a) T Gl G c) 0 = (f_Tape_number (nI t) (nI a) T 4).bind fun a_2 => if a_2.1 = (-1) then (some (0, a_2.2, Gl, G)) else ((f_LawR_emit Gl G a_2.1).bind fun a_3 => some (1, a_2.2, a_3.1, a_3.2)) := by
  obtain ⟨h0, h1, h2, h3, h4, h5⟩ := hn
  have hall : ∀ j, j < 6 → ¬ tab7.getD j 0 = c := by
    intro j hj
    rcases (show j = 0 ∨ j = 1 ∨ j = 2 ∨ j = 3 ∨ j = 4 ∨ j = 5 by omega) with rfl | rfl | rfl | rfl | rfl | rfl
    · exact fun e => h0 e.symm
    · exact fun e => h1 e.symm
    · exact fun e => h2 e.symm
    · exact fun e => h3 e.symm
    · exact fun e => h4 e.symm
    · exact fun e => h5 e.symm
  refine oLp_forM (fun j => nI j) (i := 0) (n := 6) (by omega) (fun j _ hj => ?_) ?_
  · unfold f_LawR_readAtom_L59
    rw [if_neg (show ¬ (6 : Int32) ≤ nI j from nI_ge (b := 6) (by omega) (by decide)), tab7_len, oI_nI (j := j) (n := 6) (by omega) (by decide), nI_clamp (n := j) (by omega), if_neg (hall j hj), nx_add]
  · unfold f_LawR_readAtom_L59
    rw [if_pos (show (6 : Int32) ≤ nI 6 from by decide)]
theorem ch_kinds : ∀ b : Fin 256, (dg (nI b.val) = 1 → ¬ nI b.val = 91 ∧ ltr (nI b.val) = -1) ∧ (¬ ltr (nI b.val) = -1 → ¬ nI b.val = 91) := by decide +kernel
theorem ch_kind {T X : Nat → Int32} {t a : Nat} (h : tpA t T X) : (dg (ch X t a) = 1 → ¬ ch X t a = 91 ∧ ltr (ch X t a) = -1) ∧ (¬ ltr (ch X t a) = -1 → ¬ ch X t a = 91) := by
  rcases ch_byte (a := a) h with ⟨e, _⟩ | ⟨_, b, b1, b2, e⟩
  · rw [e]
    decide
  · rw [e]
    exact ch_kinds ⟨b, (by omega)⟩
