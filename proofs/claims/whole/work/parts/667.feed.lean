/-! feeding the tape -/
theorem byt_rng (w : Int32) (i : Nat) : ∃ b : Nat, b ≤ 255 ∧ byt w i = nI b := by
  unfold byt
  have h : ∀ x : Int32, ∃ n : Nat, x = nI n := fun x => ⟨x.toBitVec.toNat, Int32.toBitVec_inj.mp (by show _ = BitVec.ofNat 32 _; simp)⟩
  obtain ⟨n, e⟩ := h (w >>> (nI (24 - 8 * i) &&& 31))
  rw [e, show (255 : Int32) = nI 255 from rfl, nx_and]
  exact ⟨n &&& 255, Nat.and_le_right, rfl⟩
theorem fby_rng (a b c d e : Int32) (k : Nat) : ∃ v : Nat, v ≤ 255 ∧ fby a b c d e k = nI v := byt_rng _ _
theorem cN_s (g : Nat → Int32) (k : Nat) : cN g (k + 1) = if g k = 0 then cN g k else cN g k + 1 := rfl
theorem tN_s (g : Nat → Int32) (t : Nat) (f : Nat → Int32) (k : Nat) : tN2 g t f (k + 1) = if g k = 0 then tN2 g t f k else upd (tN2 g t f k) (t + cN g k) (g k) := rfl
theorem tN_ok {g T X : Nat → Int32} {t : Nat} (hg : ∀ k, ∃ v : Nat, v ≤ 255 ∧ g k = nI v) (h : ∀ j, j < t → T j = X j ∧ ∃ b : Nat, 1 ≤ b ∧ b ≤ 255 ∧ X j = nI b) : ∀ k j, j < t + cN g k → tN2 g t T k j = tN2 g t X k j ∧ ∃ b : Nat, 1 ≤ b ∧ b ≤ 255 ∧ tN2 g t X k j = nI b := by
  intro k
  induction k with
  | zero => exact h
  | succ k ih =>
    intro j hj
    rw [cN_s] at hj
    rw [tN_s, tN_s]
    by_cases z : g k = 0
    · rw [if_pos z] at hj ⊢
      rw [if_pos z]
      exact ih j hj
    · rw [if_neg z] at hj ⊢
      rw [if_neg z]
      by_cases e : j = t + cN g k
      · rw [e, upd_at, upd_at]
        obtain ⟨v, hv, ev⟩ := hg k
        refine ⟨rfl, v, ?_, hv, ev⟩
        rcases Nat.eq_zero_or_pos v with q | q
        · subst q
          exact absurd ev z
        · exact q
      · rw [upd_ne e, upd_ne e]
        exact ih j (by omega)
theorem m_feed1 {a b c d e : Int32} {X : Nat → Int32} {t : Nat} (h : t + cN (fby a b c d e) 20 ≤ 240) : oLp (f_M_feed_L62 a b c d e) (0, nI t, X) = some (nI (t + cN (fby a b c d e) 20), nI (t + cN (fby a b c d e) 20), tN2 (fby a b c d e) t X 20) := by
  refine oLp_for (fun k => (nI k, nI (t + cN (fby a b c d e) k), tN2 (fby a b c d e) t X k)) (i := 0) (n := 20) (by omega) (fun k _ hk => ?_) ?_
  · unfold f_M_feed_L62 f_M_feed_J109
    dsimp only
    have hle := cN_mono (fby a b c d e) (show k + 1 ≤ 20 from hk)
    rw [if_neg (show ¬ (20 : Int32) ≤ nI k from nI_ge (b := 20) hk (by decide)), m_byteOf hk, bind_some', cN_s, tN_s]
    by_cases z : fby a b c d e k = 0
    · rw [if_pos z, if_pos z, if_pos z, nx_add]
    · rw [cN_s, if_neg z] at hle
      rw [if_neg z, if_neg z, if_neg z, oI_nI (j := t + cN (fby a b c d e) k) (n := 240) (by omega) (by decide), nI_clamp (n := t + cN (fby a b c d e) k) (by omega), oL_eq, oL_eq, nx_add, nx_add]
      rfl
  · unfold f_M_feed_L62
    dsimp only
    rw [if_pos (show (20 : Int32) ≤ nI 20 from by decide)]
theorem m_feed {a b c d e : Int32} {X : Nat → Int32} {t : Nat} (ht : t ≤ 240) : f_M_feed (nI t) X a b c d e = if t + cN (fby a b c d e) 20 ≤ 240 then some (nI (t + cN (fby a b c d e) 20), nI (t + cN (fby a b c d e) 20), tN2 (fby a b c d e) t X 20) else some (-1, nI t, X) := by
  unfold f_M_feed
  refine oLp_forM (fun k => (nI (cN (fby a b c d e) k), nI k)) (i := 0) (n := 20) (by omega) (fun k _ hk => ?_) ?_
  · unfold f_M_feed_L6 f_M_feed_J35
    dsimp only
    rw [if_neg (show ¬ (20 : Int32) ≤ nI k from nI_ge (b := 20) hk (by decide)), m_byteOf hk, bind_some', cN_s]
    by_cases z : fby a b c d e k = 0
    · rw [if_pos z, if_pos z, oL_eq, Int32.add_zero, nx_add]
    · rw [if_neg z, if_neg z, oL_eq, nx_add, nx_add]
  · unfold f_M_feed_L6
    dsimp only
    have hle := cN_le (fby a b c d e) 20
    rw [if_pos (show (20 : Int32) ≤ nI 20 from by decide), nI_add]
    by_cases z : t + cN (fby a b c d e) 20 ≤ 240
    · rw [if_pos ((nx_leL (by omega) (by decide)).mpr z), if_pos z, m_feed1 z]
    · rw [if_neg (fun q => z ((nx_leL (by omega) (by decide)).mp q)), if_neg z]
theorem c_feed {a b c d e : Int32} {T : Nat → Int32} {t : Nat} (ht : t ≤ 240) : f_Main_feed (nI t) T a b c d e = if t + cN (fby a b c d e) 20 ≤ 240 then some (nI (t + cN (fby a b c d e) 20), nI (t + cN (fby a b c d e) 20), tN2 (fby a b c d e) t T 20) else some (-1, nI t, T) := by
  have g0 : ∀ i, i < 4 → fby a b c d e (4 * 0 + i) = byt a i := by
    intro i hi
    rcases (show i = 0 ∨ i = 1 ∨ i = 2 ∨ i = 3 by omega) with rfl | rfl | rfl | rfl <;> rfl
  have g1 : ∀ i, i < 4 → fby a b c d e (4 * 1 + i) = byt b i := by
    intro i hi
    rcases (show i = 0 ∨ i = 1 ∨ i = 2 ∨ i = 3 by omega) with rfl | rfl | rfl | rfl <;> rfl
  have g2 : ∀ i, i < 4 → fby a b c d e (4 * 2 + i) = byt c i := by
    intro i hi
    rcases (show i = 0 ∨ i = 1 ∨ i = 2 ∨ i = 3 by omega) with rfl | rfl | rfl | rfl <;> rfl
  have g3 : ∀ i, i < 4 → fby a b c d e (4 * 3 + i) = byt d i := by
    intro i hi
    rcases (show i = 0 ∨ i = 1 ∨ i = 2 ∨ i = 3 by omega) with rfl | rfl | rfl | rfl <;> rfl
  have g4 : ∀ i, i < 4 → fby a b c d e (4 * 4 + i) = byt e i := by
    intro i hi
    rcases (show i = 0 ∨ i = 1 ∨ i = 2 ∨ i = 3 by omega) with rfl | rfl | rfl | rfl <;> rfl
  generalize hg : fby a b c d e = g at *
  obtain ⟨n0, e0, k0⟩ := c_bytesIn g0
  obtain ⟨n1, e1, k1⟩ := c_bytesIn g1
  obtain ⟨n2, e2, k2⟩ := c_bytesIn g2
  obtain ⟨n3, e3, k3⟩ := c_bytesIn g3
  obtain ⟨n4, e4, k4⟩ := c_bytesIn g4
  have k0 : cN g 4 = 0 + n0 := k0
  have k1 : cN g 8 = cN g 4 + n1 := k1
  have k2 : cN g 12 = cN g 8 + n2 := k2
  have k3 : cN g 16 = cN g 12 + n3 := k3
  have k4 : cN g 20 = cN g 16 + n4 := k4
  have hle := cN_le g 20
  unfold f_Main_feed f_Tape_size
  rw [e0, bind_some', e1, bind_some', e2, bind_some', e3, bind_some', e4, bind_some', oL_eq, bind_some', nI_add, nI_add, nI_add, nI_add, nI_add, show n0 + n1 + n2 + n3 + n4 = cN g 20 by omega]
  by_cases z : t + cN g 20 ≤ 240
  · have a0 : f_Tape_append (nI t) T a = some (nI (t + cN g 4), tN2 g t T 4) := c_append (q := 0) (t := t) (f := T) g0 (show t + cN g 4 ≤ 240 by omega)
    have a1 : f_Tape_append (nI (t + cN g 4)) (tN2 g t T 4) b = some (nI (t + cN g 8), tN2 g t T 8) := c_append (q := 1) (t := t) (f := T) g1 (show t + cN g 8 ≤ 240 by omega)
    have a2 : f_Tape_append (nI (t + cN g 8)) (tN2 g t T 8) c = some (nI (t + cN g 12), tN2 g t T 12) := c_append (q := 2) (t := t) (f := T) g2 (show t + cN g 12 ≤ 240 by omega)
    have a3 : f_Tape_append (nI (t + cN g 12)) (tN2 g t T 12) d = some (nI (t + cN g 16), tN2 g t T 16) := c_append (q := 3) (t := t) (f := T) g3 (show t + cN g 16 ≤ 240 by omega)
    have a4 : f_Tape_append (nI (t + cN g 16)) (tN2 g t T 16) e = some (nI (t + cN g 20), tN2 g t T 20) := c_append (q := 4) (t := t) (f := T) g4 (show t + cN g 20 ≤ 240 by omega)
    rw [if_pos ((nx_leL (by omega) (by decide)).mpr z), if_pos z, a0, bind_some']
    dsimp only
    rw [a1, bind_some']
    dsimp only
    rw [a2, bind_some']
    dsimp only
    rw [a3, bind_some']
    dsimp only
    rw [a4, bind_some', bind_some']
  · rw [if_neg (fun q => z ((nx_leL (by omega) (by decide)).mp q)), if_neg z]
theorem p_feed {Tl ms a b c d e : Int32} {T X : Nat → Int32} (h : rTape Tl T ms X) : ∃ v Tl' T' ms' X', f_Main_feed Tl T a b c d e = some (v, Tl', T') ∧ f_M_feed ms X a b c d e = some (v, ms', X') ∧ rTape Tl' T' ms' X' := by
  have hh := h
  obtain ⟨t, ht, rfl, rfl, hj⟩ := h
  rw [c_feed ht, m_feed ht]
  by_cases z : t + cN (fby a b c d e) 20 ≤ 240
  · rw [if_pos z, if_pos z]
    exact ⟨_, _, _, _, _, rfl, rfl, _, z, rfl, rfl, tN_ok (fby_rng a b c d e) hj 20⟩
  · rw [if_neg z, if_neg z]
    exact ⟨_, _, _, _, _, rfl, rfl, hh⟩
