/-! who gave one away -/
def csO (W : Nat → Int32) (code : Nat) : Nat → Int32 := if code = 99 then W else upd W (code / 10) (nI (code % 10))
def isC (W : Nat → Int32) (nb nm code : Nat) : Bool := decide (code = 99) || (decide (code / 10 < nm) && (decide (code % 10 < nb) && (decide (¬ W (code / 10) = -1) && decide (¬ W (code / 10) = nI (code % 10)))))
def soN (M B NP NK NH : Nat → Int32) (c : Int32) (nm : Nat) (V : Nat → Int32) : Nat → Bool
  | 0 => true
  | k + 1 => soN M B NP NK NH c nm V k && decide ((if wth M B V c nm (NP k) = NK k then (1 : Int32) else 0) = NH k)
def so (M B NP NK NH W : Nat → Int32) (nb nm nt code : Nat) : Bool := isC W nb nm code && soN M B NP NK NH (W 6) nm (csO W code) nt
/-- the notes, both sides -/
def ntA (Us Mn : Int32) (UP UK UH NP NK NH : Nat → Int32) (nt : Nat) : Prop := nt ≤ 10 ∧ Us = nI nt ∧ Mn = nI nt ∧ ∀ k, k < nt → UP k = NP k ∧ UK k = NK k ∧ UH k = NH k ∧ (∃ p : Nat, p < 10 ∧ NP k = nI p) ∧ b01 (NH k)
theorem b01_bool (b : Bool) : (if b = true then (1 : Int32) else 0) = 0 ↔ b = false := by cases b <;> decide
theorem c_areAllSo {M B UP UK UH NP NK NH S V : Nat → Int32} {Us Mn c : Int32} {nt nm : Nat} (h : ntA Us Mn UP UK UH NP NK NH nt) (hS : skA S M B V c nm) : f_Clues_areAllSo S Us UP UK UH = some (if soN M B NP NK NH c nm V nt = true then 1 else 0) := by
  obtain ⟨h10, rfl, rfl, hn⟩ := h
  unfold f_Clues_areAllSo
  refine qlp1 (fun j (s : Int32) => s = nI j ∧ soN M B NP NK NH c nm V j = true) (fun r => r = some (if soN M B NP NK NH c nm V nt = true then 1 else 0)) (n := nt) ?_ ?_ (j := 0) (by omega) ⟨rfl, rfl⟩
  · rintro j s hj ⟨rfl, hall⟩
    obtain ⟨n1, n2, n3, ⟨p, hp, ep⟩, n5⟩ := hn j hj
    have eb : f_Clues_areAllSo_L2 S (nI nt) UP UK UH (nI j) = if (if wth M B V c nm (NP j) = NK j then (1 : Int32) else 0) = NH j then some (.inl (nI (j + 1))) else some (.inr 0) := by
      unfold f_Clues_areAllSo_L2 f_Clues_areAllSo_J37
      rw [if_neg (nI_ge hj (by omega)), oI_nI (j := j) (n := 10) (by omega) (by decide), nI_clamp (n := j) (by omega), n1, n2, n3, ep, s_strongest hp hS, bind_some', oI_nI (j := j) (n := 10) (by omega) (by decide), oI_nI (j := j) (n := 10) (by omega) (by decide), oI_nI (j := j) (n := 10) (by omega) (by decide), nx_add]
      split <;> rfl
    by_cases e : (if wth M B V c nm (NP j) = NK j then (1 : Int32) else 0) = NH j
    · rw [if_pos e] at eb
      refine Or.inl ⟨_, eb, rfl, ?_⟩
      unfold soN
      rw [hall, decide_eq_true e]
      rfl
    · rw [if_neg e] at eb
      right
      rw [oLp_out eb, if_neg]
      have key : ∀ d, soN M B NP NK NH c nm V (j + 1 + d) = false := by
        intro d
        induction d with
        | zero =>
          show (soN M B NP NK NH c nm V j && decide _) = false
          rw [decide_eq_false e, Bool.and_false]
        | succ d ih =>
          show (soN M B NP NK NH c nm V (j + 1 + d) && decide _) = false
          rw [ih, Bool.false_and]
      rw [show nt = j + 1 + (nt - (j + 1)) by omega, key]
      decide
  · rintro s ⟨rfl, hall⟩
    refine oLp_out ?_
    unfold f_Clues_areAllSo_L2
    rw [if_pos (nI_le (Nat.le_refl nt) (by omega)), hall]
    rfl
theorem code_div : ∀ c : Fin 100, nI c.val / 10 = nI (c.val / 10) ∧ nI c.val - nI c.val / 10 * 10 = nI (c.val % 10) := by decide +kernel
theorem owA_cs {W : Nat → Int32} {nb nm code : Nat} (hW : owA W nb nm) (h : isC W nb nm code = true) : owA (csO W code) nb nm := by
  unfold csO
  by_cases e : code = 99
  · rw [if_pos e]
    exact hW
  · rw [if_neg e]
    unfold isC at h
    rw [decide_eq_false e, Bool.false_or, Bool.and_eq_true, Bool.and_eq_true] at h
    exact owA_upd hW (of_decide_eq_true h.2.1)
theorem isC_of {W : Nat → Int32} {nb nm code : Nat} (e : ¬ code = 99) (h : isC W nb nm code = true) : code / 10 < nm ∧ code % 10 < nb ∧ ¬ W (code / 10) = -1 ∧ ¬ W (code / 10) = nI (code % 10) := by
  unfold isC at h
  rw [decide_eq_false e, Bool.false_or, Bool.and_eq_true, Bool.and_eq_true, Bool.and_eq_true] at h
  exact ⟨of_decide_eq_true h.1, of_decide_eq_true h.2.1, of_decide_eq_true h.2.2.1, of_decide_eq_true h.2.2.2⟩
theorem m_isCase {W : Nat → Int32} {nb nm code : Nat} (h5 : nb ≤ 5) (h6 : nm ≤ 6) (hc : code < 100) : f_M_isCase (nI nb) (nI nm) W (nI code) = some (if isC W nb nm code = true then 1 else 0) := by
  obtain ⟨d1, d2⟩ := code_div ⟨code, hc⟩
  unfold f_M_isCase isC
  simp only [oL]
  dsimp only at d1 d2
  rw [d2, d1]
  by_cases e : code = 99
  · subst e
    rfl
  · rw [if_neg (show ¬ nI code = 99 from nx_neL (b := 99) e (by omega) (by decide)), decide_eq_false e, Bool.false_or, m_isMarble (by omega), bind_some', m_isBoy (by omega), bind_some']
    by_cases z1 : code / 10 < nm
    · have i1 : inB (nI (code / 10)) nm = 1 := by
        unfold inB
        rw [if_neg (nI_lt0 (by omega)), if_neg (nI_ge z1 (by omega))]
      rw [i1, if_neg d10, decide_eq_true z1, Bool.true_and]
      by_cases z2 : code % 10 < nb
      · have i2 : inB (nI (code % 10)) nb = 1 := by
          unfold inB
          rw [if_neg (nI_lt0 (by omega)), if_neg (nI_ge z2 (by omega))]
        rw [i2, if_neg d10, decide_eq_true z2, Bool.true_and, nx_zadd, oI_nI (j := code / 10) (n := 131) (by omega) (by decide), nI_clamp (n := code / 10) (by omega), oI_nI (j := code / 10) (n := 131) (by omega) (by decide)]
        by_cases z3 : W (code / 10) = -1
        · rw [if_pos z3]
          simp [z3]
        · rw [if_neg z3]
          by_cases z4 : W (code / 10) = nI (code % 10)
          · rw [if_pos z4]
            simp [z4]
          · rw [if_neg z4]
            simp [z3, z4]
      · have i2 : inB (nI (code % 10)) nb = 0 := by
          unfold inB
          rw [if_neg (nI_lt0 (by omega)), if_pos (nI_le (by omega) (by omega))]
        rw [i2, if_pos rfl, decide_eq_false z2]
        rfl
    · have i1 : inB (nI (code / 10)) nm = 0 := by
        unfold inB
        rw [if_neg (nI_lt0 (by omega)), if_pos (nI_le (by omega) (by omega))]
      rw [i1, if_pos rfl, decide_eq_false z1]
      rfl
theorem m_layCase {W : Nat → Int32} {nb nm code : Nat} (h6 : nm ≤ 6) (hc : code < 100) (h : isC W nb nm code = true) : ∃ was, f_M_layCase W (nI code) = some (was, csO W code) ∧ f_M_takeCase (csO W code) (nI code) was = some W := by
  obtain ⟨d1, d2⟩ := code_div ⟨code, hc⟩
  dsimp only at d1 d2
  unfold f_M_layCase f_M_takeCase csO
  by_cases e : code = 99
  · subst e
    exact ⟨-1, rfl, rfl⟩
  · obtain ⟨q1, q2, q3, q4⟩ := isC_of e h
    rw [if_neg (show ¬ nI code = 99 from nx_neL (b := 99) e (by omega) (by decide)), d2, d1, nx_zadd, if_neg e, oI_nI (j := code / 10) (n := 131) (by omega) (by decide), nI_clamp (n := code / 10) (by omega)]
    simp only [oL]
    rw [oI_nI (j := code / 10) (n := 131) (by omega) (by decide)]
    refine ⟨W (code / 10), rfl, ?_⟩
    rw [if_neg (show ¬ nI code = 99 from nx_neL (b := 99) e (by omega) (by decide)), oI_nI (j := code / 10) (n := 131) (by omega) (by decide), upd_upd, upd_id rfl]
theorem csO_6 {W : Nat → Int32} {nb nm code : Nat} (h6 : nm ≤ 6) (h : isC W nb nm code = true) : csO W code 6 = W 6 := by
  unfold csO
  by_cases e : code = 99
  · rw [if_pos e]
  · rw [if_neg e]
    obtain ⟨q1, _⟩ := isC_of e h
    exact upd_ne (by omega)
theorem m_isSo {M B UP UK UH NP NK NH W : Nat → Int32} {Us Mn : Int32} {nb nm nt code : Nat} (h5 : nb ≤ 5) (h6 : nm ≤ 6) (hW : owA W nb nm) (hM : maA M nm) (h : ntA Us Mn UP UK UH NP NK NH nt) (hc : code < 100) : f_M_isSo (nI nb) (nI nm) Mn B M W NP NK NH (nI code) = some (if so M B NP NK NH W nb nm nt code = true then 1 else 0, W) := by
  obtain ⟨h10, rfl, rfl, hn⟩ := h
  unfold f_M_isSo so
  rw [m_isCase h5 h6 hc, bind_some']
  by_cases hC : isC W nb nm code = true
  · obtain ⟨was, l1, l2⟩ := m_layCase h6 hc hC
    rw [hC, if_pos rfl, if_neg d10, l1, bind_some', Bool.true_and]
    dsimp only
    have hV := owA_cs hW hC
    have h6' := csO_6 h6 hC
    generalize csO W code = V at l2 hV h6' ⊢
    have fin : ∀ (b : Bool) (j : Nat), (nt ≤ j ∨ b = false) → j ≤ nt → oLp (f_M_isSo_L21 (nI nm) (nI nt) B M V NP NK NH (nI code) was) (if b = true then 1 else 0, nI j) = some (if b = true then 1 else 0, W) := by
      intro b j hbj hj
      refine oLp_out ?_
      unfold f_M_isSo_L21 f_M_isSo_J82
      dsimp only
      rw [l2, bind_some']
      have hoz : ∀ (E : Option (Int32 × (Nat → Int32))), oZ (if b = true then 1 else 0) E = E := by
        intro E
        cases b
        · exact oZ0
        · exact oZ1
      rw [hoz]
      rcases hbj with q | q
      · rw [if_pos (nI_le q (by omega))]
        rfl
      · subst q
        by_cases z : nI nt ≤ nI j
        · rw [if_pos z]
          rfl
        · rw [if_neg z]
          rfl
    refine qlp1 (fun j (s : Int32 × Int32) => s = (1, nI j) ∧ soN M B NP NK NH (W 6) nm V j = true) (fun r => r = some (if soN M B NP NK NH (W 6) nm V nt = true then 1 else 0, W)) (n := nt) ?_ ?_ (j := 0) (by omega) ⟨rfl, rfl⟩
    · rintro j s hj ⟨rfl, hall⟩
      have eb : f_M_isSo_L21 (nI nm) (nI nt) B M V NP NK NH (nI code) was (1, nI j) = some (.inl (if decide ((if wth M B V (W 6) nm (NP j) = NK j then (1 : Int32) else 0) = NH j) = true then 1 else 0, nI (j + 1))) := by
        unfold f_M_isSo_L21 f_M_isSo_J60 f_M_isSo_J75
        dsimp only
        rw [if_neg (nI_ge hj (by omega)), if_neg d10, oI_nI (j := j) (n := 10) (by omega) (by decide), nI_clamp (n := j) (by omega), m_weatherOf h6 h5 hV hM, bind_some', oI_nI (j := j) (n := 10) (by omega) (by decide), oI_nI (j := j) (n := 10) (by omega) (by decide), oI_nI (j := j) (n := 10) (by omega) (by decide), nx_add, h6']
        by_cases z : wth M B V (W 6) nm (NP j) = NK j
        · rw [if_pos z, if_pos z]
          by_cases z2 : (1 : Int32) = NH j
          · rw [if_pos z2, decide_eq_true z2]
            rfl
          · rw [if_neg z2, decide_eq_false z2]
            rfl
        · rw [if_neg z, if_neg z]
          by_cases z2 : (0 : Int32) = NH j
          · rw [if_pos z2, decide_eq_true z2]
            rfl
          · rw [if_neg z2, decide_eq_false z2]
            rfl
      by_cases e : (if wth M B V (W 6) nm (NP j) = NK j then (1 : Int32) else 0) = NH j
      · rw [decide_eq_true e] at eb
        refine Or.inl ⟨_, eb, rfl, ?_⟩
        unfold soN
        rw [hall, decide_eq_true e]
        rfl
      · rw [decide_eq_false e] at eb
        right
        rw [oLp_go eb, fin false (j + 1) (Or.inr rfl) (by omega)]
        have key : ∀ d, soN M B NP NK NH (W 6) nm V (j + 1 + d) = false := by
          intro d
          induction d with
          | zero =>
            show (soN M B NP NK NH (W 6) nm V j && decide _) = false
            rw [decide_eq_false e, Bool.and_false]
          | succ d ih =>
            show (soN M B NP NK NH (W 6) nm V (j + 1 + d) && decide _) = false
            rw [ih, Bool.false_and]
        rw [show nt = j + 1 + (nt - (j + 1)) by omega, key]
    · rintro s ⟨rfl, hall⟩
      rw [hall]
      exact fin true nt (Or.inl (Nat.le_refl _)) (Nat.le_refl _)
  · rw [if_neg hC, if_pos rfl]
    simp at hC
    rw [hC, Bool.false_and]
    rfl
