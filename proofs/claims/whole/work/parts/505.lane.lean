/-! contents, payments, cells -/
theorem m_isContent {nb nm f : Nat} {M B F W : Nat → Int32} (hn : nm ≤ 6) (hb : nb ≤ 5) (hW : owA W nb nm) (hM : maA M nm) (hf : f < 6) : f_M_isContent (nI nm) B M F W (nI f) = some (if wth M B W (W 6) nm (F (3 * f)) = F (3 * f + 1) then 1 else 0) := by
  unfold f_M_isContent
  rw [m_ofF0 hf, bind_some', m_weatherOf hn hb hW hM, bind_some', m_ofF1 hf, bind_some']
  split <;> rfl
def cnt (M B F O : Nat → Int32) (c : Int32) (nm nf : Nat) : Int32 := bB (fun f => decide (wth M B O c nm (F (3 * f)) = F (3 * f + 1))) nf
theorem m_contents {nb nm nf : Nat} {M B F W : Nat → Int32} (hn : nm ≤ 6) (hb : nb ≤ 5) (hf : nf ≤ 6) (hW : owA W nb nm) (hM : maA M nm) : f_M_contents (nI nm) (nI nf) B M F W = some (cnt M B F W (W 6) nm nf) := by
  unfold f_M_contents cnt
  refine oLp_for (fun j => (bB (fun f => decide (wth M B W (W 6) nm (F (3 * f)) = F (3 * f + 1))) j, nI j)) (i := 0) (n := nf) (by omega) (fun j _ hj => ?_) ?_
  · unfold f_M_contents_L4
    dsimp only
    rw [if_neg (nI_ge hj (by omega)), m_isContent hn hb hW hM (by omega), bind_some']
    unfold f_M_contents_J28 oL
    rw [nx_add]
    simp only [bB]
    by_cases h : wth M B W (W 6) nm (F (3 * j)) = F (3 * j + 1)
    · rw [if_pos h, if_neg (by decide)]
      simp only [h, decide_true, if_true]
    · rw [if_neg h, if_pos rfl]
      simp only [h, decide_false]
      rfl
  · unfold f_M_contents_L4
    dsimp only
    rw [if_pos (nI_le (Nat.le_refl nf) (by omega))]
theorem s_contentBits {Y C R B M F O : Nat → Int32} {mb mm mf c : Int32} {nb nm nf : Nat} {S : Nat → Int32} (h : yA Y C mb mm mf R B M F nb nm nf) (hS : skA S M B O c nm) : f_Sky_contentBits Y C S = some (cnt M B F O c nm nf) := by
  obtain ⟨⟨h5, h6, h6'⟩, ⟨c1, c2, c3⟩, ⟨e1, e2, e3⟩, hr, hbo, hma, hfa, rb, rm, rf, r0, r1, r2⟩ := h
  unfold f_Sky_contentBits cnt
  refine oLp_for (fun j => (bB (fun f => decide (wth M B O c nm (F (3 * f)) = F (3 * f + 1))) j, nI j)) (i := 0) (n := nf) (by omega) (fun j _ hj => ?_) ?_
  · unfold f_Sky_contentBits_L4
    dsimp only
    obtain ⟨p, hp, ep⟩ := (rf j hj).1
    rw [y_farms, bind_some', c3, if_neg (nI_ge hj (by omega)), y_farmPlace (by omega), bind_some', show Y ((12 + j) * 3) = F (3 * j) from hfa j 0 hj (by omega), ep, s_strongest (by omega) hS, bind_some', y_wanted (by omega), bind_some', hfa j 1 hj (by omega), ← ep]
    unfold f_Sky_contentBits_J46 oL
    rw [nx_add]
    simp only [bB]
    by_cases h : wth M B O c nm (F (3 * j)) = F (3 * j + 1)
    · rw [if_pos h]
      simp only [h, decide_true, if_true]
    · rw [if_neg h]
      simp only [h, decide_false]
      rfl
  · unfold f_Sky_contentBits_L4
    dsimp only
    rw [y_farms, bind_some', c3, if_pos (nI_le (Nat.le_refl nf) (by omega))]
theorem s_contentNow {Y C R B M F O W : Nat → Int32} {mb mm mf c : Int32} {nb nm nf : Nat} {S : Nat → Int32} (h : yA Y C mb mm mf R B M F nb nm nf) (hO : ∀ m, m < nm → O m = W m) (hW : owA W nb nm) : ∃ S', f_Main_contentNow Y C (nI nm) c O S = some (cnt M B F W c nm nf, S') := by
  obtain ⟨S', h1, h2⟩ := s_measure (c := c) (S := S) h hO hW
  refine ⟨S', ?_⟩
  unfold f_Main_contentNow
  rw [h1, bind_some', s_contentBits h h2, bind_some']
def pyS (F : Nat → Int32) (set : Int32) : Nat → Int32
  | 0 => 0
  | n + 1 => pyS F set n + (if hs set (nI n) = 0 then 0 else F (3 * n + 2))
theorem m_payOf {nf : Nat} {F : Nat → Int32} {v : Int32} (hf : nf ≤ 6) : f_M_payOf (nI nf) F v = some (pyS F v nf) := by
  unfold f_M_payOf
  refine oLp_for (fun j => (pyS F v j, nI j)) (i := 0) (n := nf) (by omega) (fun j _ hj => ?_) ?_
  · unfold f_M_payOf_L4
    dsimp only
    rw [if_neg (nI_ge hj (by omega)), m_has, bind_some', m_ofF2 (by omega), bind_some']
    unfold f_M_payOf_J31 oL
    rw [nx_add]
    simp only [pyS]
    split <;> rfl
  · unfold f_M_payOf_L4
    dsimp only
    rw [if_pos (nI_le (Nat.le_refl nf) (by omega))]
theorem y_paymentOf {Y C R B M F : Nat → Int32} {mb mm mf v : Int32} {nb nm nf : Nat} (h : yA Y C mb mm mf R B M F nb nm nf) : f_Yard_paymentOf Y C v = some (pyS F v nf) := by
  obtain ⟨⟨h5, h6, h6'⟩, ⟨c1, c2, c3⟩, ⟨e1, e2, e3⟩, hr, hbo, hma, hfa, rb, rm, rf, r0, r1, r2⟩ := h
  unfold f_Yard_paymentOf
  refine oLp_for (fun j => (pyS F v j, nI j)) (i := 0) (n := nf) (by omega) (fun j _ hj => ?_) ?_
  · unfold f_Yard_paymentOf_L4
    dsimp only
    rw [y_farms, bind_some', c3, if_neg (nI_ge hj (by omega)), y_payment (by omega), bind_some', hfa j 2 hj (by omega)]
    unfold oL
    rw [nx_add]
    simp only [pyS]
    show some (Sum.inl (pyS F v j + hs v (nI j) * F (3 * j + 2), _)) = _
    rcases hs_01 v (nI j) with z | z
    · rw [z, if_pos rfl, Int32.zero_mul]
    · rw [z, if_neg (by decide), Int32.one_mul]
  · unfold f_Yard_paymentOf_L4
    dsimp only
    rw [y_farms, bind_some', c3, if_pos (nI_le (Nat.le_refl nf) (by omega))]
/-! the count of bits -/
noncomputable def bc (x : Int32) : Int32 := (f_J_bitCount x).getD 0
theorem j_bitCount (x : Int32) : f_J_bitCount x = some (bc x) := rfl
theorem and63 (x : Int32) : ∃ n : Nat, n ≤ 63 ∧ x &&& 63 = nI n := by
  obtain ⟨k, hk, rfl⟩ := wb_of32 x
  refine ⟨k % 64, by omega, ?_⟩
  rw [show (63 : Int32) = nI 63 from rfl, nx_and]
  congr 1
  exact Nat.and_two_pow_sub_one_eq_mod k 6
theorem bc_63 (x : Int32) : ∃ n : Nat, n ≤ 63 ∧ bc x = nI n := and63 _
/-! the lane -/
def lts (a b c d e f : Int32) : Nat → Int32
  | 0 => a
  | 1 => b
  | 2 => c
  | 3 => d
  | 4 => e
  | _ + 5 => f
def mil (x : Int32) : Prop := -1000000 ≤ x.toInt ∧ x.toInt ≤ 1000000
theorem mil_nI {n : Nat} (h : n ≤ 1000000) : mil (nI n) := by
  unfold mil
  rw [nI_toInt (by omega)]
  omega
/-- what the lane needs of the laws -/
def lwA (A_size A_chosen : Int32) (A_codes A_lengths : Nat → Int32) (m_holding : Int32) (m_code m_value m_clauses m_testFrom m_sumFrom m_sumTo : Nat → Int32) (w : Option ((Nat → Int32) → Int32)) : Prop :=
  match w with
  | none => f_Laws_anyHolds A_size A_chosen = some 0 ∧ m_holding = -1
  | some wf => f_Laws_anyHolds A_size A_chosen = some 1 ∧ ¬ m_holding = -1 ∧ ∀ (K L s t : Nat → Int32), (∀ j, j < 6 → mil (K j)) → (∀ j, j < 6 → L j = K j) → (∃ s', f_Laws_worth_C31 A_size A_chosen A_codes A_lengths s L = some (wf K, s')) ∧ ∃ t', f_M_worthOf m_code m_value m_clauses m_testFrom m_sumFrom m_sumTo L t m_holding = some (wf K, t')
noncomputable def cel (w : Option ((Nat → Int32) → Int32)) (B M W : Nat → Int32) (nm b m : Nat) (p : Int32) : Int32 :=
  jmax 0 (jmin 60 (match w with
    | none => ((2 * p) + (B (2 * b) / 2)) - (M (3 * m + 2) / 3)
    | some wf => wf (lts p (B (2 * b)) (M (3 * m + 2)) (hs (W 6) (nI m)) (bc (bB (fun j => decide (W j = nI b)) nm)) (W 9))))
theorem six {P : Nat → Prop} (h0 : P 0) (h1 : P 1) (h2 : P 2) (h3 : P 3) (h4 : P 4) (h5 : P 5) : ∀ j, j < 6 → P j := by
  intro j hj
  rcases (show j = 0 ∨ j = 1 ∨ j = 2 ∨ j = 3 ∨ j = 4 ∨ j = 5 by omega) with rfl | rfl | rfl | rfl | rfl | rfl
  · exact h0
  · exact h1
  · exact h2
  · exact h3
  · exact h4
  · exact h5
theorem lts_mil {W : Nat → Int32} {p B2 M2 x : Int32} {m : Nat} (hp : mil p) (hB : ∃ v : Nat, v ≤ 9 ∧ B2 = nI v) (hM : ∃ v : Nat, v ≤ 9 ∧ M2 = nI v) (hd : ∃ d : Nat, d ≤ 9999 ∧ W 9 = nI d) : ∀ j, j < 6 → mil (lts p B2 M2 (hs (W 6) (nI m)) (bc x) (W 9) j) := by
  obtain ⟨a, ha, rfl⟩ := hB
  obtain ⟨b, hb, rfl⟩ := hM
  obtain ⟨d, hd, e⟩ := hd
  obtain ⟨n, hn, e2⟩ := bc_63 x
  rw [e2, e]
  refine six hp (mil_nI (by omega)) (mil_nI (by omega)) ?_ (mil_nI (by omega)) (mil_nI (by omega))
  show mil (hs (W 6) (nI m))
  rcases hs_01 (W 6) (nI m) with z | z
  · rw [z]; exact mil_nI (n := 0) (by omega)
  · rw [z]; exact mil_nI (n := 1) (by omega)
theorem l_flick {Y C R B M F O W : Nat → Int32} {mb mm mf : Int32} {nb nm nf b m : Nat} {p As Ac Mh : Int32} {Ad Al Kc Kv Kl Kt Kf Ku s L : Nat → Int32} {w : Option ((Nat → Int32) → Int32)} (h : yA Y C mb mm mf R B M F nb nm nf) (hO : ∀ m, m < nm → O m = W m) (hd : ∃ d : Nat, d ≤ 9999 ∧ W 9 = nI d) (hw : lwA As Ac Ad Al Mh Kc Kv Kl Kt Kf Ku w) (hp : mil p) (hb : b < nb) (hm : m < nm) : ∃ s', f_Lane_flick As Ac Ad Al s Y (nI nm) (W 6) (W 9) O L (nI b) (nI m) p = some (cel w B M W nm b m p, s') := by
  obtain ⟨⟨h5, h6, h6'⟩, ⟨c1, c2, c3⟩, ⟨e1, e2, e3⟩, hr, hbo, hma, hfa, rb, rm, rf, r0, r1, r2⟩ := h
  unfold f_Lane_flick
  rw [y_skill (by omega), bind_some', y_size (by omega), bind_some', show Y ((1 + b) * 3) = B (2 * b) from hbo b 0 hb (by omega), hma m 2 hm (by omega)]
  cases w with
  | none =>
    obtain ⟨w1, w2⟩ := hw
    simp only [oL, w1, bind_some', if_true]
    exact ⟨_, rfl⟩
  | some wf =>
    obtain ⟨w1, w2, w3⟩ := hw
    simp only [oL, w1, bind_some', n_isChipped]
    rw [if_neg (by decide)]
    have hz : ∀ x, hs (W 6) (nI m) = x → ∃ s', f_Lane_flick_J93 As Ac Ad Al s (nI nm) (W 9) O (upd (upd (upd L (0 : Int32).toNatClampNeg p) (1 : Int32).toNatClampNeg (B (2 * b))) (2 : Int32).toNatClampNeg (M (3 * m + 2))) (nI b) 3 x = some (cel (some wf) B M W nm b m p, s') := by
      intro x hx
      unfold f_Lane_flick_J93
      rw [n_handOf h6 hO]
      simp (disch := decide) only [oL, bind_some', j_bitCount, nx_oI]
      obtain ⟨s', hs'⟩ := (w3 (lts p (B (2 * b)) (M (3 * m + 2)) (hs (W 6) (nI m)) (bc (bB (fun j => decide (W j = nI b)) nm)) (W 9)) (upd (upd (upd (upd (upd (upd L (0 : Int32).toNatClampNeg p) (1 : Int32).toNatClampNeg (B (2 * b))) (2 : Int32).toNatClampNeg (M (3 * m + 2))) (3 : Int32).toNatClampNeg x) (4 : Int32).toNatClampNeg (bc (bB (fun j => decide (W j = nI b)) nm))) (5 : Int32).toNatClampNeg (W 9)) s s (lts_mil hp (rb b hb).1 (rm m hm).2.2 hd) (six rfl rfl rfl hx.symm rfl rfl)).1
      rw [hs', bind_some']
      exact ⟨_, rfl⟩
    rw [nx_oI (by decide) (by decide), nx_oI (by decide) (by decide), nx_oI (by decide) (by decide)]
    rcases hs_01 (W 6) (nI m) with z | z
    · rw [if_pos z]
      exact hz 0 z
    · rw [if_neg (by rw [z]; decide)]
      exact hz 1 z
theorem m_landsAt {Y C R B M F W : Nat → Int32} {mb mm mf : Int32} {nb nm nf b m : Nat} {p As Ac Mh : Int32} {Ad Al Kc Kv Kl Kt Kf Ku s L : Nat → Int32} {w : Option ((Nat → Int32) → Int32)} (h : yA Y C mb mm mf R B M F nb nm nf) (hd : ∃ d : Nat, d ≤ 9999 ∧ W 9 = nI d) (hw : lwA As Ac Ad Al Mh Kc Kv Kl Kt Kf Ku w) (hp : mil p) (hb : b < nb) (hm : m < nm) : ∃ s', f_M_landsAt (nI nm) Mh Kc Kv Kl Kt Kf Ku L s B M W (nI b) (nI m) p = some (cel w B M W nm b m p, s') := by
  obtain ⟨⟨h5, h6, h6'⟩, ⟨c1, c2, c3⟩, ⟨e1, e2, e3⟩, hr, hbo, hma, hfa, rb, rm, rf, r0, r1, r2⟩ := h
  unfold f_M_landsAt
  rw [nx_mull, Int32.add_zero, oI_nI (by omega) (by decide), m_of2 (by omega), bind_some', nI_clamp (by omega)]
  cases w with
  | none =>
    obtain ⟨w1, w2⟩ := hw
    simp only [oL, w2]
    rw [if_pos trivial]
    exact ⟨_, rfl⟩
  | some wf =>
    obtain ⟨w1, w2, w3⟩ := hw
    simp only [oL]
    rw [if_neg w2, m_handsOf h6, oI_nI (by omega) (by decide)]
    obtain ⟨s', hs'⟩ := (w3 (lts p (B (2 * b)) (M (3 * m + 2)) (hs (W 6) (nI m)) (bc (bB (fun j => decide (W j = nI b)) nm)) (W 9)) (upd (upd (upd (upd (upd (upd L (0 : Int32).toNatClampNeg p) (1 : Int32).toNatClampNeg (B (2 * b))) (2 : Int32).toNatClampNeg (M (3 * m + 2))) (3 : Int32).toNatClampNeg (hs (W 6) (nI m))) (4 : Int32).toNatClampNeg (bc (bB (fun j => decide (W j = nI b)) nm))) (5 : Int32).toNatClampNeg (W 9)) s s (lts_mil hp (rb b hb).1 (rm m hm).2.2 hd) (six rfl rfl rfl rfl rfl rfl)).2
    simp only [nx_oI (show 0 < 6 by decide) (by decide), nx_oI (show 1 < 6 by decide) (by decide), nx_oI (show 2 < 6 by decide) (by decide), nx_oI (show 3 < 6 by decide) (by decide), nx_oI (show 4 < 6 by decide) (by decide), nx_oI (show 5 < 6 by decide) (by decide), nx_oI (show 6 < 131 by decide) (by decide), nx_oI (show 9 < 131 by decide) (by decide), bind_some', j_bitCount]
    show ∃ s', (f_M_worthOf _ _ _ _ _ _ _ _ _).bind _ = some (_, s')
    erw [hs']
    exact ⟨_, rfl⟩
