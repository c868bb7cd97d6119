/-! end -/
theorem p_end {T_length m_size p0 : Int32} {T_bytes m_tape : Nat → Int32} (h : rTape T_length T_bytes m_size m_tape) : ∃ (r1 r2 : Int32 × Int32), f_Main_end T_length p0 = some r1 ∧ f_M_end m_size p0 = some r2 ∧ r1.1 = r2.1 ∧ rTape r1.2 T_bytes r2.2 m_tape := by
  obtain ⟨t, ht, hl, hs, hj⟩ := h
  unfold f_Main_end f_M_end
  by_cases h0 : p0 < 0
  · rw [if_pos h0, if_pos h0]
    exact ⟨_, _, rfl, rfl, rfl, t, ht, hl, hs, hj⟩
  · rw [if_neg h0, if_neg h0]
    simp only [f_Tape_size, f_Tape_cutTo, bind_some']
    rw [hl, hs]
    by_cases h1 : p0 ≤ nI t
    · rw [if_pos h1]
      obtain ⟨k, hk, rfl⟩ := nI_of2 (nI_toInt (by omega)) h0 h1
      exact ⟨_, _, rfl, rfl, rfl, k, by omega, rfl, rfl, fun j hjk => hj j (by omega)⟩
    · rw [if_neg h1]
      exact ⟨_, _, rfl, rfl, rfl, t, ht, rfl, rfl, hj⟩

/-! feed -/
def wrd (a b c d e : Int32) (k : Nat) : Int32 := if k < 4 then a else if k < 8 then b else if k < 12 then c else if k < 16 then d else e
def fby (a b c d e : Int32) (k : Nat) : Int32 := byt (wrd a b c d e k) (k % 4)
theorem m_byteOf {a b c d e : Int32} {k : Nat} (h : k < 20) : f_M_byteOf a b c d e (nI k) = some (fby a b c d e k) := by
  have key : ∀ k : Nat, k < 20 → f_M_byteOf a b c d e (nI k) = some (fby a b c d e k) := by
    intro k hk
    rcases (show k = 0 ∨ k = 1 ∨ k = 2 ∨ k = 3 ∨ k = 4 ∨ k = 5 ∨ k = 6 ∨ k = 7 ∨ k = 8 ∨ k = 9 ∨ k = 10 ∨ k = 11 ∨ k = 12 ∨ k = 13 ∨ k = 14 ∨ k = 15 ∨ k = 16 ∨ k = 17 ∨ k = 18 ∨ k = 19 by omega) with rfl | rfl | rfl | rfl | rfl | rfl | rfl | rfl | rfl | rfl | rfl | rfl | rfl | rfl | rfl | rfl | rfl | rfl | rfl | rfl <;> rfl
  exact key k h
theorem ub_byt (w : Int32) {i : Nat} (h : i < 4) : ((w.toUInt32 >>> ((nI (24 - 8 * i)).toUInt32 &&& Int32.toUInt32 31)).toInt32) &&& 255 = byt w i := by
  unfold byt
  refine b_ext (fun k hk => ?_)
  rw [b_and, b_and, b_ushr (24 - 8 * i) (by omega) w k, b_sshr (24 - 8 * i) (by omega) w hk, b_255]
  by_cases h8 : k < 8
  · rw [if_pos (by omega)]
  · simp [h8]
def cN (g : Nat → Int32) : Nat → Nat
  | 0 => 0
  | k + 1 => if g k = 0 then cN g k else cN g k + 1
def tN2 (g : Nat → Int32) (t : Nat) (f : Nat → Int32) : Nat → (Nat → Int32)
  | 0 => f
  | k + 1 => if g k = 0 then tN2 g t f k else upd (tN2 g t f k) (t + cN g k) (g k)
theorem cN_le (g : Nat → Int32) : ∀ k, cN g k ≤ k
  | 0 => Nat.le_refl _
  | k + 1 => by
    unfold cN
    have := cN_le g k
    split <;> omega
theorem cN_mono (g : Nat → Int32) {a b : Nat} (h : a ≤ b) : cN g a ≤ cN g b := by
  induction b with
  | zero => rw [Nat.le_zero.mp h]; exact Nat.le_refl _
  | succ b ih =>
    rcases Nat.lt_or_eq_of_le h with h1 | h1
    · have := ih (Nat.le_of_lt_succ h1)
      have e : cN g (b + 1) = if g b = 0 then cN g b else cN g b + 1 := rfl
      rw [e]
      split <;> omega
    · rw [h1]; exact Nat.le_refl _
theorem c_bytesIn {g : Nat → Int32} {q : Nat} {w : Int32} (hg : ∀ i, i < 4 → g (4 * q + i) = byt w i) : ∃ n : Nat, f_Tape_bytesIn w = some (nI n) ∧ cN g (4 * q + 4) = cN g (4 * q) + n := by
  refine ⟨cN (fun i => byt w i) 4, ?_, ?_⟩
  · unfold f_Tape_bytesIn
    refine oLp_for (fun i => (nI (cN (fun i => byt w i) i), if i = 4 then -8 else nI (24 - 8 * i))) (i := 0) (n := 4) (by omega) (fun j _ hj => ?_) ?_
    · have hb := ub_byt w hj
      have hs : (if j = 4 then (-8 : Int32) else nI (24 - 8 * j)) = nI (24 - 8 * j) := if_neg (by omega)
      have hn : nI (24 - 8 * j) + (-8) = (if j + 1 = 4 then (-8 : Int32) else nI (24 - 8 * (j + 1))) := by
        rcases (show j = 0 ∨ j = 1 ∨ j = 2 ∨ j = 3 by omega) with rfl | rfl | rfl | rfl <;> decide
      simp only [f_Tape_bytesIn_L5, hs, hb, f_Tape_bytesIn_J25, oL, hn]
      rw [if_neg (nI_lt0 (by omega))]
      show _ = some (Sum.inl (nI (if byt w j = 0 then _ else _), _))
      by_cases hz : byt w j = 0
      · rw [if_pos hz, if_pos hz]
        show some (Sum.inl (nI _ + nI 0, _)) = _
        rw [nI_add, Nat.add_zero]
      · rw [if_neg hz, if_neg hz]
        show some (Sum.inl (nI _ + nI 1, _)) = _
        rw [nI_add]
    · rfl
  · have h : ∀ i, i ≤ 4 → cN g (4 * q + i) = cN g (4 * q) + cN (fun i => byt w i) i := by
      intro i
      induction i with
      | zero => intro _; rfl
      | succ i ih =>
        intro hi
        have e := ih (by omega)
        show (if g (4 * q + i) = 0 then cN g (4 * q + i) else cN g (4 * q + i) + 1) = _ + (if byt w i = 0 then cN (fun i => byt w i) i else cN (fun i => byt w i) i + 1)
        rw [hg i (by omega), e]
        split <;> omega
    exact h 4 (Nat.le_refl _)
theorem c_append {g : Nat → Int32} {q t : Nat} {f : Nat → Int32} {w : Int32} (hg : ∀ i, i < 4 → g (4 * q + i) = byt w i) (ht : t + cN g (4 * q + 4) ≤ 240) : f_Tape_append (nI (t + cN g (4 * q))) (tN2 g t f (4 * q)) w = some (nI (t + cN g (4 * q + 4)), tN2 g t f (4 * q + 4)) := by
  unfold f_Tape_append
  refine oLp_for (fun i => (if i = 4 then -8 else nI (24 - 8 * i), nI (t + cN g (4 * q + i)), tN2 g t f (4 * q + i))) (i := 0) (n := 4) (by omega) (fun j _ hj => ?_) ?_
  · have hb := ub_byt w hj
    have hs : (if j = 4 then (-8 : Int32) else nI (24 - 8 * j)) = nI (24 - 8 * j) := if_neg (by omega)
    have hn : nI (24 - 8 * j) + (-8) = (if j + 1 = 4 then (-8 : Int32) else nI (24 - 8 * (j + 1))) := by
      rcases (show j = 0 ∨ j = 1 ∨ j = 2 ∨ j = 3 by omega) with rfl | rfl | rfl | rfl <;> decide
    have hm := cN_mono g (show 4 * q + (j + 1) ≤ 4 * q + 4 by omega)
    simp only [f_Tape_append_L3, hs, hb, f_Tape_append_J49, oL, hn]
    rw [if_neg (nI_lt0 (by omega))]
    show _ = some (Sum.inl (_, nI (t + (if g (4 * q + j) = 0 then cN g (4 * q + j) else cN g (4 * q + j) + 1)), (if g (4 * q + j) = 0 then tN2 g t f (4 * q + j) else upd (tN2 g t f (4 * q + j)) (t + cN g (4 * q + j)) (g (4 * q + j)))))
    have hm2 : cN g (4 * q + (j + 1)) = if g (4 * q + j) = 0 then cN g (4 * q + j) else cN g (4 * q + j) + 1 := rfl
    rw [hg j hj] at hm2 ⊢
    by_cases hz : byt w j = 0
    · rw [if_pos hz, if_pos hz, if_pos hz]
    · rw [if_neg hz] at hm2
      rw [if_neg hz, if_neg hz, if_neg hz]
      have hlt : t + cN g (4 * q + j) < 240 := by omega
      rw [if_neg (show ¬ (240 : Int32) ≤ nI (t + cN g (4 * q + j)) from nI_ge hlt (by decide)), oI_nI hlt (by decide), nI_clamp (by omega)]
      rw [nx_add]
      rfl
  · rfl
