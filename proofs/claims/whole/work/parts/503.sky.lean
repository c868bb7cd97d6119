/-! bits, hands, strengths, weather -/
def bB (q : Nat → Bool) : Nat → Int32
  | 0 => 0
  | n + 1 => bB q n ||| (if q n = true then 1 <<< (nI n &&& 31) else 0)
theorem bB_congr {q q' : Nat → Bool} {n : Nat} (h : ∀ j, j < n → q j = q' j) : bB q n = bB q' n := by
  induction n with
  | zero => rfl
  | succ n ih =>
    unfold bB
    rw [ih (fun j hj => h j (by omega)), h n (by omega)]
theorem bB_bt {q : Nat → Bool} {n : Nat} (hn : n ≤ 31) {i : Nat} (hi : i < 32) : bt (bB q n) i = (decide (i < n) && q i) := by
  have h1 : ∀ i, i < 32 → bt 1 i = decide (i = 0) := by decide +kernel
  induction n with
  | zero =>
    show bt 0 i = _
    rw [b_0]
    simp
  | succ n ih =>
    unfold bB
    rw [b_or, ih (by omega)]
    by_cases hq : q n = true
    · rw [if_pos hq, b_shl n (by omega) 1 hi, h1 (i - n) (by omega)]
      by_cases e : i = n
      · subst e
        simp [hq]
      · by_cases e2 : i < n
        · simp [e2, show i < n + 1 by omega, show ¬ n ≤ i by omega]
        · simp [e2, show ¬ i < n + 1 by omega, show ¬ i - n = 0 by omega]
    · rw [if_neg hq, b_0]
      by_cases e : i = n
      · subst e
        simp at hq
        simp [hq]
      · by_cases e2 : i < n
        · simp [e2, show i < n + 1 by omega]
        · simp [e2, show ¬ i < n + 1 by omega]
theorem n_handOf {n : Nat} {O W : Nat → Int32} {b : Int32} (hn : n ≤ 6) (hO : ∀ m, m < n → O m = W m) : f_Now_handOf (nI n) O b = some (bB (fun m => decide (W m = b)) n) := by
  unfold f_Now_handOf
  refine oLp_for (fun j => (bB (fun m => decide (W m = b)) j, nI j)) (i := 0) (n := n) (by omega) (fun j _ hj => ?_) ?_
  · unfold f_Now_handOf_L4
    dsimp only
    rw [if_neg (nI_ge hj (by omega)), oI_nI (by omega) (by decide), nI_clamp (by omega), hO j hj]
    by_cases h : W j = b
    · rw [if_pos h]
      unfold f_Now_handOf_J30 oL
      rw [nx_add]
      simp only [bB, h, decide_true, if_true]
    · rw [if_neg h]
      unfold f_Now_handOf_J30 oL
      rw [nx_add]
      simp only [bB, h, decide_false]
      rfl
  · unfold f_Now_handOf_L4
    dsimp only
    rw [if_pos (nI_le (Nat.le_refl n) (by omega))]
theorem m_handsOf {n : Nat} {W : Nat → Int32} {b : Int32} (hn : n ≤ 6) : f_M_handsOf (nI n) W b = some (bB (fun m => decide (W m = b)) n) := by
  unfold f_M_handsOf
  refine oLp_for (fun j => (bB (fun m => decide (W m = b)) j, nI j)) (i := 0) (n := n) (by omega) (fun j _ hj => ?_) ?_
  · unfold f_M_handsOf_L4
    dsimp only
    rw [if_neg (nI_ge hj (by omega)), nx_zadd, oI_nI (by omega) (by decide), nI_clamp (by omega)]
    by_cases h : W j = b
    · rw [if_pos h]
      unfold f_M_handsOf_J32 oL
      rw [nx_add]
      simp only [bB, h, decide_true, if_true]
    · rw [if_neg h]
      unfold f_M_handsOf_J32 oL
      rw [nx_add]
      simp only [bB, h, decide_false]
      rfl
  · unfold f_M_handsOf_L4
    dsimp only
    rw [if_pos (nI_le (Nat.le_refl n) (by omega))]
theorem m_drained {n : Nat} {W : Nat → Int32} (hn : n ≤ 6) : f_M_drained (nI n) W = some (bB (fun m => decide (W m = -1)) n) := by
  unfold f_M_drained
  refine oLp_for (fun j => (bB (fun m => decide (W m = -1)) j, nI j)) (i := 0) (n := n) (by omega) (fun j _ hj => ?_) ?_
  · unfold f_M_drained_L4
    dsimp only
    rw [if_neg (nI_ge hj (by omega)), nx_zadd, oI_nI (by omega) (by decide), nI_clamp (by omega)]
    by_cases h : W j = -1
    · rw [if_pos h]
      unfold f_M_drained_J32 oL
      rw [nx_add]
      simp only [bB, h, decide_true, if_true]
    · rw [if_neg h]
      unfold f_M_drained_J32 oL
      rw [nx_add]
      simp only [bB, h, decide_false]
      rfl
  · unfold f_M_drained_L4
    dsimp only
    rw [if_pos (nI_le (Nat.le_refl n) (by omega))]
theorem n_drainedBits {n : Nat} {O W : Nat → Int32} (hn : n ≤ 6) (hO : ∀ m, m < n → O m = W m) : f_Now_drainedBits (nI n) O = some (bB (fun m => decide (W m = -1)) n) := by
  unfold f_Now_drainedBits
  rw [n_handOf hn hO]
  rfl
/-! strengths -/
def owA (O : Nat → Int32) (nb nm : Nat) : Prop := ∀ m, m < nm → O m = -1 ∨ ∃ b : Nat, b < nb ∧ O m = nI b
def maA (M : Nat → Int32) (nm : Nat) : Prop := ∀ m, m < nm → (∃ v : Nat, v ≤ 5 ∧ M (3 * m + 1) = nI v) ∧ ∃ v : Nat, v ≤ 9 ∧ M (3 * m + 2) = nI v
def boA (B : Nat → Int32) (nb : Nat) : Prop := ∀ b, b < nb → ∃ v : Nat, v ≤ 9 ∧ B (2 * b + 1) = nI v
def faA (F : Nat → Int32) (nf : Nat) : Prop := ∀ f, f < nf → (∃ v : Nat, v ≤ 9 ∧ F (3 * f) = nI v) ∧ (∃ v : Nat, v ≤ 5 ∧ F (3 * f + 1) = nI v) ∧ ∃ v : Nat, v ≤ 9 ∧ F (3 * f + 2) = nI v
def stC (M B O : Nat → Int32) (c p k : Int32) (m : Nat) : Int32 :=
  if O m = -1 then 0 else if M (3 * m + 1) = k then (if B (2 * (O m).toNatClampNeg + 1) = p then wo (M (3 * m + 2)) (hs c (nI m)) else 0) else 0
def stS (M B O : Nat → Int32) (c p k : Int32) : Nat → Int32
  | 0 => 0
  | m + 1 => stS M B O c p k m + stC M B O c p k m
theorem stS_congr {M B O O' : Nat → Int32} {c p k : Int32} {n : Nat} (h : ∀ m, m < n → O m = O' m) : stS M B O c p k n = stS M B O' c p k n := by
  induction n with
  | zero => rfl
  | succ n ih =>
    unfold stS stC
    rw [ih (fun m hm => h m (by omega)), h n (by omega)]
theorem m_strengthOf {nb nm : Nat} {M B W : Nat → Int32} {p k : Int32} (hn : nm ≤ 6) (hb : nb ≤ 5) (hW : owA W nb nm) (hM : maA M nm) : f_M_strengthOf (nI nm) B M W p k = some (stS M B W (W 6) p k nm) := by
  unfold f_M_strengthOf
  refine oLp_for (fun j => (stS M B W (W 6) p k j, nI j)) (i := 0) (n := nm) (by omega) (fun j _ hj => ?_) ?_
  · unfold f_M_strengthOf_L5
    dsimp only
    obtain ⟨⟨kd, hk5, hk⟩, v, hv9, hv⟩ := hM j hj
    rw [if_neg (nI_ge hj (by omega)), nx_zadd, oI_nI (by omega) (by decide), nI_clamp (by omega), m_of1 (by omega), m_worthNow (by omega) hv hv9]
    unfold oL
    dsimp only
    show _ = some (Sum.inl (stS M B W (W 6) p k j + stC M B W (W 6) p k j, _))
    unfold stC
    rcases hW j hj with h | ⟨b, hb2, h⟩
    · rw [if_pos h, if_pos h]
      unfold f_M_strengthOf_J67 f_M_strengthOf_J68 oL
      rw [nx_add]
    · have hne : ¬ W j = -1 := by rw [h]; exact m1_ne (by omega)
      rw [if_neg hne, if_neg hne, bind_some', h, nx_mull, nx_add, oI_nI (by omega) (by decide), nI_clamp (by omega), nI_clamp (by omega), bind_some']
      by_cases hk2 : M (3 * j + 1) = k
      · rw [if_pos hk2, if_pos hk2]
        by_cases hp : B (2 * b + 1) = p
        · rw [if_pos hp, if_pos hp]
          unfold f_M_strengthOf_J68 oL
          rw [nx_add]
        · rw [if_neg hp, if_neg hp]
          unfold f_M_strengthOf_J67 f_M_strengthOf_J68 oL
          rw [nx_add]
      · rw [if_neg hk2, if_neg hk2]
        unfold f_M_strengthOf_J67 f_M_strengthOf_J68 oL
        rw [nx_add]
  · unfold f_M_strengthOf_L5
    dsimp only
    rw [if_pos (nI_le (Nat.le_refl nm) (by omega))]
def wS (f : Nat → Int32) : Nat → Int32 × Int32
  | 0 => (-1, 0)
  | k + 1 => if f k ≤ (wS f k).2 then wS f k else (nI k, f k)
theorem wS_s (f : Nat → Int32) (k : Nat) : wS f (k + 1) = if f k ≤ (wS f k).2 then wS f k else (nI k, f k) := rfl
theorem wS_congr {f g : Nat → Int32} {n : Nat} (h : ∀ k, k < n → f k = g k) : wS f n = wS g n := by
  induction n with
  | zero => rfl
  | succ n ih =>
    unfold wS
    rw [ih (fun m hm => h m (by omega)), h n (by omega)]
/-- the weather at a place -/
def wth (M B O : Nat → Int32) (c : Int32) (nm : Nat) (p : Int32) : Int32 := (wS (fun k => stS M B O c p (nI k) nm) 6).1
theorem wth_congr {M B O O' : Nat → Int32} {c p : Int32} {n : Nat} (h : ∀ m, m < n → O m = O' m) : wth M B O c n p = wth M B O' c n p := by
  unfold wth
  rw [wS_congr (fun k _ => stS_congr h)]
theorem m_weatherOf {nb nm : Nat} {M B W : Nat → Int32} {p : Int32} (hn : nm ≤ 6) (hb : nb ≤ 5) (hW : owA W nb nm) (hM : maA M nm) : f_M_weatherOf (nI nm) B M W p = some (wth M B W (W 6) nm p) := by
  unfold f_M_weatherOf
  refine oLp_for (fun j => ((wS (fun k => stS M B W (W 6) p (nI k) nm) j).1, (wS (fun k => stS M B W (W 6) p (nI k) nm) j).2, nI j)) (i := 0) (n := 6) (by omega) (fun j _ hj => ?_) ?_
  · unfold f_M_weatherOf_L7
    dsimp only
    rw [if_neg (show ¬ (6 : Int32) ≤ nI j from nI_ge hj (by decide)), m_strengthOf hn hb hW hM, bind_some']
    unfold f_M_weatherOf_J35 oL
    rw [nx_add]
    rw [wS_s]
    by_cases h : stS M B W (W 6) p (nI j) nm ≤ (wS (fun k => stS M B W (W 6) p (nI k) nm) j).2
    · rw [if_pos h, if_pos h]
      have : jmax (wS (fun k => stS M B W (W 6) p (nI k) nm) j).2 (stS M B W (W 6) p (nI j) nm) = (wS (fun k => stS M B W (W 6) p (nI k) nm) j).2 := by
        unfold jmax
        rw [if_neg]
        intro q
        exact i_le_lt.mpr q h
      rw [this]
    · rw [if_neg h, if_neg h]
      have : jmax (wS (fun k => stS M B W (W 6) p (nI k) nm) j).2 (stS M B W (W 6) p (nI j) nm) = stS M B W (W 6) p (nI j) nm := by
        unfold jmax
        rw [if_pos (i_nle h)]
      rw [this]
  · unfold f_M_weatherOf_L7
    dsimp only
    rw [if_pos (show (6 : Int32) ≤ nI 6 from nI_le (Nat.le_refl 6) (by decide))]
    rfl
/-- the strengths as an array -/
def skA (S : Nat → Int32) (M B O : Nat → Int32) (c : Int32) (nm : Nat) : Prop := ∀ p k : Nat, p < 10 → k < 6 → S (p * 6 + k) = stS M B O c (nI p) (nI k) nm
theorem s_strongest {S M B O : Nat → Int32} {c : Int32} {nm p : Nat} (hp : p < 10) (hS : skA S M B O c nm) : f_Sky_strongestKind S (nI p) = some (wth M B O c nm (nI p)) := by
  unfold f_Sky_strongestKind
  refine oLp_for (fun j => ((wS (fun k => stS M B O c (nI p) (nI k) nm) j).1, (wS (fun k => stS M B O c (nI p) (nI k) nm) j).2, nI j)) (i := 0) (n := 6) (by omega) (fun j _ hj => ?_) ?_
  · unfold f_Sky_strongestKind_L7
    dsimp only
    have e : f_Sky_strengthOf S (nI p) (nI j) = some (stS M B O c (nI p) (nI j) nm) := by
      unfold f_Sky_strengthOf
      rw [nx_mul, nI_add, oI_nI (by omega) (by decide), nI_clamp (by omega), hS p j hp hj]
    rw [if_neg (show ¬ (6 : Int32) ≤ nI j from nI_ge hj (by decide)), e, bind_some', bind_some']
    unfold f_Sky_strongestKind_J36
    rw [nx_add]
    rw [wS_s]
    split <;> rfl
  · unfold f_Sky_strongestKind_L7
    dsimp only
    rw [if_pos (show (6 : Int32) ≤ nI 6 from nI_le (Nat.le_refl 6) (by decide))]
    rfl
