/-! states, their logs, what can be undone -/
def stL (W E : Nat → Int32) (nb nm d : Nat) : Prop := owA W nb nm ∧ smA W ∧ W 9 = nI d ∧ d ≤ 9999 ∧ W 10 = nI (min d 60) ∧ ∀ j, j < min d 60 → ∃ s c : Nat, s ≤ 999 ∧ c < 64 ∧ W (11 + 2 * j) = nI s ∧ W (12 + 2 * j) = nI c ∧ E ((d - min d 60 + j) % 128) = nI (64 * s + c)
theorem stL_congr {W W' E : Nat → Int32} {nb nm d : Nat} (h6 : nm ≤ 6) (h : ∀ j, j < 131 → W' j = W j) (x : stL W E nb nm d) : stL W' E nb nm d := by
  obtain ⟨x1, ⟨y1, y2, y3, y4⟩, x3, x4, x5, x6⟩ := x
  refine ⟨fun m hm => by rw [h m (by omega)]; exact x1 m hm, ⟨by rw [h 6 (by omega)]; exact y1, by rw [h 7 (by omega)]; exact y2, by rw [h 8 (by omega)]; exact y3, by rw [h 9 (by omega)]; exact y4⟩, by rw [h 9 (by omega)]; exact x3, x4, by rw [h 10 (by omega)]; exact x5, fun j hj => ?_⟩
  rw [h (11 + 2 * j) (by omega), h (12 + 2 * j) (by omega)]
  exact x6 j hj
theorem stL_E {W E E' : Nat → Int32} {nb nm d : Nat} (x : stL W E nb nm d) (h : ∀ j, j < min d 60 → E' ((d - min d 60 + j) % 128) = E ((d - min d 60 + j) % 128)) : stL W E' nb nm d := by
  obtain ⟨x1, x2, x3, x4, x5, x6⟩ := x
  refine ⟨x1, x2, x3, x4, x5, fun j hj => ?_⟩
  rw [h j hj]
  exact x6 j hj
theorem pkN_congr {W W' : Nat → Int32} {nm : Nat} (h6 : nm ≤ 6) (h : ∀ j, j < 131 → W' j = W j) : pkN W' nm = pkN W nm := by
  have hl : ∀ n, n ≤ nm → lw W' n = lw W n := by
    intro n
    induction n with
    | zero => intro _; rfl
    | succ n ih =>
      intro hn
      unfold lw oN
      rw [ih (by omega), h n (by omega)]
  unfold pkN hiN
  rw [hl nm (Nat.le_refl _), h 6 (by omega), h 7 (by omega), h 8 (by omega), h 9 (by omega)]
def kpB (nb nm x k : Nat) (Pa : Nat → Int64) (Mk E : Nat → Int32) (dd : Nat → Nat) : Prop := ∀ i, i < k → dd (i + 1) ≤ dd i ∧ dd i ≤ dd (i + 1) + 1 ∧ stL (fun j => Mk (131 * (k - 1 - i) + j)) E nb nm (dd (i + 1)) ∧ Pa ((x + 39 - i) % 40) = lN (pkN (fun j => Mk (131 * (k - 1 - i) + j)) nm)
def psA (nb nm : Nat) (Pn Pk : Int32) (Pa : Nat → Int64) (E : Nat → Int32) (Ma : Int32) (Mk W : Nat → Int32) : Prop := ∃ (D k x : Nat) (dd : Nat → Nat), stL W E nb nm D ∧ dd 0 = D ∧ x < 40 ∧ k ≤ 40 ∧ Pn = nI x ∧ Pk = nI k ∧ Ma = nI k ∧ kpB nb nm x k Pa Mk E dd
def psR (nb nm : Nat) (Pn Pk : Int32) (Pa : Nat → Int64) (E : Nat → Int32) (Ma : Int32) (Mk W : Nat → Int32) : Prop := ∃ (D k x : Nat) (dd : Nat → Nat), stL W E nb nm D ∧ dd 0 = D ∧ dd 1 = D ∧ x < 40 ∧ 1 ≤ k ∧ k ≤ 40 ∧ Pn = nI x ∧ Pk = nI k ∧ Ma = nI k ∧ kpB nb nm x k Pa Mk E dd
theorem kp_chain {nb nm x k : Nat} {Pa : Nat → Int64} {Mk E : Nat → Int32} {dd : Nat → Nat} (h : kpB nb nm x k Pa Mk E dd) : ∀ i, i ≤ k → dd i ≤ dd 0 ∧ dd 0 ≤ dd i + i := by
  intro i
  induction i with
  | zero => intro _; omega
  | succ i ih =>
    intro hi
    have h1 := ih (by omega)
    have h2 := h i (by omega)
    omega
theorem kp_E {nb nm x k : Nat} {Pa : Nat → Int64} {Mk E : Nat → Int32} {dd : Nat → Nat} {v : Int32} (hk : k ≤ 40) (h : kpB nb nm x k Pa Mk E dd) : kpB nb nm x k Pa Mk (upd E (dd 0 % 128) v) dd := by
  intro i hi
  obtain ⟨q1, q2, q3, q4⟩ := h i hi
  have hc := kp_chain h (i + 1) (by omega)
  refine ⟨q1, q2, stL_E q3 (fun j hj => ?_), q4⟩
  rw [upd_ne]
  omega
theorem next_fin : ∀ x : Fin 40, (nI x.val + 1) - (nI x.val + 1) / 40 * 40 = nI ((x.val + 1) % 40) ∧ ((nI x.val + 40) - 1) - ((nI x.val + 40) - 1) / 40 * 40 = nI ((x.val + 39) % 40) := by decide +kernel
theorem kept_fin : ∀ k : Fin 41, jmin (nI k.val + 1) 40 = nI (min (k.val + 1) 40) := by decide +kernel
theorem m_keep40 {W Mk : Nat → Int32} {a : Nat} (ha : a < 40) : ∃ Mk', f_M_keep_J52 (nI a) W Mk = some (nI (a + 1), Mk') ∧ (∀ j, j < 131 → Mk' (131 * a + j) = W j) ∧ ∀ t, (t < 131 * a ∨ 131 * a + 131 ≤ t) → Mk' t = Mk t := by
  unfold f_M_keep_J52
  refine qlp1 (fun j (t : Int32 × (Nat → Int32)) => ∃ M1 : Nat → Int32, t = (nI j, M1) ∧ (∀ i, i < j → M1 (131 * a + i) = W i) ∧ ∀ t, (t < 131 * a ∨ 131 * a + 131 ≤ t) → M1 t = Mk t) (fun r => ∃ Mk' : Nat → Int32, r = some (nI (a + 1), Mk') ∧ (∀ j, j < 131 → Mk' (131 * a + j) = W j) ∧ ∀ t, (t < 131 * a ∨ 131 * a + 131 ≤ t) → Mk' t = Mk t) (n := 131) ?_ ?_ (j := 0) (by omega) ⟨Mk, rfl, fun i hi => absurd hi (by omega), fun t _ => rfl⟩
  · rintro j t hj ⟨M1, rfl, h1, h2⟩
    left
    refine ⟨(nI (j + 1), upd M1 (131 * a + j) (W j)), ?_, _, rfl, fun i hi => ?_, fun t ht => ?_⟩
    · unfold f_M_keep_L54
      dsimp only
      rw [if_neg (show ¬ (131 : Int32) ≤ nI j from nI_ge (b := 131) hj (by decide)), oI_nI (j := j) (n := 131) hj (by decide), nx_mull, nI_add, oI_nI (j := 131 * a + j) (n := 5240) (by omega) (by decide), nI_clamp (n := j) (by omega), nI_clamp (n := 131 * a + j) (by omega), nx_add]
      rfl
    · by_cases e : i = j
      · subst e
        exact upd_at
      · rw [upd_ne (by omega)]
        exact h1 i (by omega)
    · rw [upd_ne (by omega)]
      exact h2 t ht
  · rintro t ⟨M1, rfl, h1, h2⟩
    refine ⟨M1, oLp_out ?_, h1, h2⟩
    unfold f_M_keep_L54
    dsimp only
    rw [if_pos (show (131 : Int32) ≤ nI 131 from by decide), nx_add]
    rfl
theorem m_keep {W Mk : Nat → Int32} {k : Nat} (hk : k ≤ 40) : ∃ Mk', f_M_keep (nI k) W Mk = some (nI (min (k + 1) 40), Mk') ∧ (∀ j, j < 131 → Mk' (131 * (min (k + 1) 40 - 1) + j) = W j) ∧ ∀ a j, j < 131 → a < min (k + 1) 40 - 1 → Mk' (131 * a + j) = Mk (131 * (a + (k + 1 - min (k + 1) 40)) + j) := by
  unfold f_M_keep
  by_cases h40 : k = 40
  · subst h40
    rw [if_pos (show nI 40 = 40 from rfl)]
    have hs : ∃ M1, oLp (f_M_keep_L13 (nI 40) W) (131, Mk) = f_M_keep_J52 (nI 39) W M1 ∧ ∀ t, t < 5109 → M1 t = Mk (t + 131) := by
      refine qlp1 (fun j (t : Int32 × (Nat → Int32)) => ∃ M1 : Nat → Int32, t = (nI (131 + j), M1) ∧ (∀ t, t < j → M1 t = Mk (t + 131)) ∧ ∀ t, j ≤ t → M1 t = Mk t) (fun r => ∃ M1 : Nat → Int32, r = f_M_keep_J52 (nI 39) W M1 ∧ ∀ t, t < 5109 → M1 t = Mk (t + 131)) (n := 5109) ?_ ?_ (j := 0) (by omega) ⟨Mk, rfl, fun i hi => absurd hi (by omega), fun t _ => rfl⟩
      · rintro j t hj ⟨M1, rfl, h1, h2⟩
        left
        refine ⟨(nI (131 + (j + 1)), upd M1 j (M1 (131 + j))), ?_, _, rfl, fun t ht => ?_, fun t ht => ?_⟩
        · unfold f_M_keep_L13
          dsimp only
          have e1 : nI (131 + j) - 131 = nI j := by
            rw [show (131 : Int32) = nI 131 from rfl, nx_subN (by omega), Nat.add_sub_cancel_left]
          rw [if_neg (show ¬ (5240 : Int32) ≤ nI (131 + j) from nI_ge (b := 5240) (by omega) (by decide)), oI_nI (j := 131 + j) (n := 5240) (by omega) (by decide), e1, oI_nI (j := j) (n := 5240) (by omega) (by decide), nI_clamp (n := 131 + j) (by omega), nI_clamp (n := j) (by omega), nx_add]
          rfl
        · by_cases e : t = j
          · subst e
            rw [upd_at, h2 (131 + t) (by omega), Nat.add_comm]
          · rw [upd_ne e]
            exact h1 t (by omega)
        · rw [upd_ne (by omega)]
          exact h2 t (by omega)
      · rintro t ⟨M1, rfl, h1, h2⟩
        refine ⟨M1, oLp_map ?_, h1⟩
        unfold f_M_keep_L13
        dsimp only
        rw [if_pos (show (5240 : Int32) ≤ nI (131 + 5109) from by decide)]
        rfl
    obtain ⟨M1, s1, s2⟩ := hs
    obtain ⟨M2, k1, k2, k3⟩ := m_keep40 (W := W) (Mk := M1) (a := 39) (by omega)
    refine ⟨M2, by rw [s1, k1]; rfl, fun j hj => k2 j hj, fun a j hj ha => ?_⟩
    have ha : a < 39 := ha
    rw [k3 _ (by omega), s2 _ (by omega)]
    congr 1
    show 131 * a + j + 131 = 131 * (a + 1) + j
    omega
  · rw [if_neg (show ¬ nI k = 40 from nx_neL (b := 40) h40 (by omega) (by decide))]
    obtain ⟨M2, k1, k2, k3⟩ := m_keep40 (W := W) (Mk := Mk) (a := k) (by omega)
    have hm : min (k + 1) 40 = k + 1 := (by omega)
    refine ⟨M2, by rw [k1, hm], fun j hj => by rw [hm]; exact k2 j hj, fun a j hj ha => ?_⟩
    rw [hm] at ha
    rw [k3 _ (by omega), hm, Nat.sub_self, Nat.add_zero]
theorem ps_remember {W On Mk E : Nat → Int32} {Pa : Nat → Int64} {Pn Pk Ma : Int32} {nb nm : Nat} (h5 : nb ≤ 5) (h6 : nm ≤ 6) (hO : ∀ m, m < nm → On m = W m) (x : psA nb nm Pn Pk Pa E Ma Mk W) : ∃ Pn' Pk' Pa' Ma' Mk', f_Past_remember (nI nm) (W 6) (W 7) (W 8) (W 9) On Pn Pk Pa = some (Pn', Pk', Pa') ∧ f_M_keep Ma W Mk = some (Ma', Mk') ∧ psR nb nm Pn' Pk' Pa' E Ma' Mk' W := by
  obtain ⟨D, k, y, dd, y1, y2, y3, y4, rfl, rfl, rfl, y5⟩ := x
  obtain ⟨Mk', m1, m2, m3⟩ := m_keep (W := W) (Mk := Mk) y4
  obtain ⟨n1, _⟩ := next_fin ⟨y, y3⟩
  have n2 := kept_fin ⟨k, (by omega)⟩
  dsimp only at n1 n2
  refine ⟨_, _, vp_updL Pa y (lN (pkN W nm)), _, Mk', ?_, m1, D, min (k + 1) 40, (y + 1) % 40, fun i => if i = 0 then D else dd (i - 1), y1, rfl, y2, Nat.mod_lt _ (by decide), (by omega), (by omega), rfl, rfl, rfl, ?_⟩
  · unfold f_Past_remember
    rw [c_packed h5 h6 y1.1 y1.2.1 hO, bind_some', oI_nI (j := y) (n := 40) y3 (by decide), nI_clamp (n := y) (by omega), n1, n2]
    rfl
  · intro i hi
    by_cases hi0 : i = 0
    · subst hi0
      have hK : ∀ j, j < 131 → Mk' (131 * (min (k + 1) 40 - 1 - 0) + j) = W j := fun j hj => m2 j hj
      refine ⟨?_, ?_, ?_, ?_⟩
      · show dd (1 - 1) ≤ D
        rw [Nat.sub_self, y2]
        exact Nat.le_refl _
      · show D ≤ dd (1 - 1) + 1
        rw [Nat.sub_self, y2]
        omega
      · show stL _ E nb nm (dd (1 - 1))
        rw [Nat.sub_self, y2]
        exact stL_congr h6 hK y1
      · rw [pkN_congr h6 hK]
        unfold vp_updL
        rw [if_pos]
        omega
    · obtain ⟨q1, q2, q3, q4⟩ := y5 (i - 1) (by omega)
      have hK : ∀ j, j < 131 → Mk' (131 * (min (k + 1) 40 - 1 - i) + j) = Mk (131 * (k - 1 - (i - 1)) + j) := by
        intro j hj
        rw [m3 _ j hj (by omega)]
        congr 3
        omega
      rw [show i - 1 + 1 = i by omega] at q1 q2 q3
      refine ⟨?_, ?_, ?_, ?_⟩
      · show dd i ≤ if i = 0 then D else dd (i - 1)
        rw [if_neg hi0]
        exact q1
      · show (if i = 0 then D else dd (i - 1)) ≤ dd i + 1
        rw [if_neg hi0]
        exact q2
      · show stL _ E nb nm (dd i)
        exact stL_congr h6 hK q3
      · rw [pkN_congr h6 hK, ← q4]
        unfold vp_updL
        rw [if_neg (by omega)]
        congr 1
        omega
theorem ps_same {W W' Mk E : Nat → Int32} {Pa : Nat → Int64} {Pn Pk Ma : Int32} {nb nm : Nat} (x : psR nb nm Pn Pk Pa E Ma Mk W) (h : ∀ D, stL W E nb nm D → stL W' E nb nm D) : psA nb nm Pn Pk Pa E Ma Mk W' := by
  obtain ⟨D, k, y, dd, y1, y2, y2', y3, y3', y4, e1, e2, e3, y5⟩ := x
  exact ⟨D, k, y, dd, h D y1, y2, y3, y4, e1, e2, e3, y5⟩
theorem ps_day {W W' Mk E : Nat → Int32} {Pa : Nat → Int64} {Pn Pk Ma v : Int32} {nb nm D0 : Nat} (h9 : W 9 = nI D0) (hD0 : D0 < 2 ^ 31) (x : psR nb nm Pn Pk Pa E Ma Mk W) (h : stL W E nb nm D0 → stL W' (upd E (D0 % 128) v) nb nm (D0 + 1)) : psA nb nm Pn Pk Pa (upd E (D0 % 128) v) Ma Mk W' := by
  obtain ⟨D, k, y, dd, y1, y2, y2', y3, y3', y4, e1, e2, e3, y5⟩ := x
  have hD : D = D0 := nI_inj (by have := y1.2.2.2.1; omega) hD0 (y1.2.2.1.symm.trans h9)
  subst hD
  have y6 := kp_E (v := v) y4 y5
  rw [y2] at y6
  refine ⟨D + 1, k, y, fun i => if i = 0 then D + 1 else dd i, h y1, rfl, y3, y4, e1, e2, e3, fun i hi => ?_⟩
  obtain ⟨q1, q2, q3, q4⟩ := y6 i hi
  refine ⟨?_, ?_, q3, q4⟩
  · show dd (i + 1) ≤ if i = 0 then D + 1 else dd i
    by_cases e : i = 0
    · subst e
      rw [if_pos rfl, y2']
      omega
    · rw [if_neg e]
      exact q1
  · show (if i = 0 then D + 1 else dd i) ≤ dd (i + 1) + 1
    by_cases e : i = 0
    · subst e
      rw [if_pos rfl, y2']
      omega
    · rw [if_neg e]
      exact q2
/-! undo -/
theorem ps_undo {W On Mk E : Nat → Int32} {Pa : Nat → Int64} {Pn Pk Ma : Int32} {nb nm : Nat} (h5 : nb ≤ 5) (h6 : nm ≤ 6) (hO : ∀ m, m < nm → On m = W m) (x : psA nb nm Pn Pk Pa E Ma Mk W) : ∃ v W1 On1 Pn1 Pk1 Ma1, f_Main_undo (nI nm) (W 6) (W 7) (W 8) (W 9) On Pn Pk Pa = some (v, W1 6, W1 7, W1 8, W1 9, On1, Pn1, Pk1) ∧ f_M_undo Ma W Mk = some (v, Ma1, W1) ∧ (∀ m, m < nm → On1 m = W1 m) ∧ psA nb nm Pn1 Pk1 Pa E Ma1 Mk W1 := by
  have hx := x
  obtain ⟨D, k, y, dd, y1, y2, y3, y4, rfl, rfl, rfl, y5⟩ := x
  unfold f_Main_undo f_Past_goBackOne f_M_undo
  by_cases hk : k = 0
  · rw [if_pos ((nx_eqL (by omega) (by decide)).mpr hk), if_pos ((nx_eqL (by omega) (by decide)).mpr hk)]
    exact ⟨-1, W, On, _, _, _, rfl, rfl, hO, hx⟩
  · rw [if_neg (fun q => hk ((nx_eqL (by omega) (by decide)).mp q)), if_neg (fun q => hk ((nx_eqL (by omega) (by decide)).mp q))]
    obtain ⟨_, n1⟩ := next_fin ⟨y, y3⟩
    dsimp only at n1
    have ek : nI k - 1 = nI (k - 1) := nx_sub (by show 1 ≤ k; omega)
    obtain ⟨q1, q2, q3, q4⟩ := y5 0 (by omega)
    have hun : ∃ W1, oLp (f_M_undo_L21 (nI (k - 1)) Mk) (0, W) = some (nI (k - 1), nI (k - 1), W1) ∧ ∀ j, j < 131 → W1 j = Mk (131 * (k - 1) + j) := by
      refine qlp1 (fun j (t : Int32 × (Nat → Int32)) => ∃ M1 : Nat → Int32, t = (nI j, M1) ∧ (∀ i, i < j → M1 i = Mk (131 * (k - 1) + i))) (fun r => ∃ M1 : Nat → Int32, r = some (nI (k - 1), nI (k - 1), M1) ∧ ∀ j, j < 131 → M1 j = Mk (131 * (k - 1) + j)) (n := 131) ?_ ?_ (j := 0) (by omega) ⟨W, rfl, fun i hi => absurd hi (by omega)⟩
      · rintro j t hj ⟨M1, rfl, h1⟩
        left
        refine ⟨(nI (j + 1), upd M1 j (Mk (131 * (k - 1) + j))), ?_, _, rfl, fun i hi => ?_⟩
        · unfold f_M_undo_L21
          dsimp only
          rw [if_neg (show ¬ (131 : Int32) ≤ nI j from nI_ge (b := 131) hj (by decide)), nx_mull, nI_add, oI_nI (j := 131 * (k - 1) + j) (n := 5240) (by omega) (by decide), oI_nI (j := j) (n := 131) hj (by decide), nI_clamp (n := j) (by omega), nI_clamp (n := 131 * (k - 1) + j) (by omega), nx_add]
          rfl
        · by_cases e : i = j
          · subst e
            exact upd_at
          · rw [upd_ne e]
            exact h1 i (by omega)
      · rintro t ⟨M1, rfl, h1⟩
        refine ⟨M1, oLp_out ?_, h1⟩
        unfold f_M_undo_L21
        dsimp only
        rw [if_pos (show (131 : Int32) ≤ nI 131 from by decide)]
    obtain ⟨W1, w1, w2⟩ := hun
    have hK : ∀ j, j < 131 → W1 j = (fun j => Mk (131 * (k - 1 - 0) + j)) j := fun j hj => w2 j hj
    have hst : stL W1 E nb nm (dd 1) := stL_congr h6 hK q3
    obtain ⟨On1, u1, u2⟩ := c_unpack (On := On) (a := W 6) (b := W 7) (c' := W 8) (d' := W 9) h5 h6 hst.1 hst.2.1
    simp only [oL]
    rw [ek, n1, w1, oI_nI (j := (y + 39) % 40) (n := 40) (Nat.mod_lt _ (by decide)) (by decide), nI_clamp (n := (y + 39) % 40) (by omega), show Pa ((y + 39) % 40) = _ from q4, ← pkN_congr h6 hK, u1, bind_some', bind_some']
    refine ⟨_, W1, On1, _, _, _, rfl, rfl, u2, dd 1, k - 1, (y + 39) % 40, fun i => dd (i + 1), hst, rfl, Nat.mod_lt _ (by decide), (by omega), rfl, rfl, rfl, fun i hi => ?_⟩
    obtain ⟨p1, p2, p3, p4⟩ := y5 (i + 1) (by omega)
    rw [show k - 1 - (i + 1) = k - 1 - 1 - i by omega] at p3 p4
    rw [show (y + 39 - (i + 1)) % 40 = ((y + 39) % 40 + 39 - i) % 40 by omega] at p4
    exact ⟨p1, p2, p3, p4⟩
