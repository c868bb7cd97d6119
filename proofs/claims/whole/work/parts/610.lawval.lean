/-! what a law is worth, both sides -/
theorem w_out {Cd Vl L K s : Nat → Int32} {n a b h : Nat} {v : (Nat → Int32) → Int32} (x : wEv Cd Vl (520 * n + a) (520 * n + b) h v) (hn : n < 5) (hb : b ≤ 520) (hL : ∀ j, j < 6 → L j = K j) (hK : mils K) (hh : h ≤ 80) : ∃ s', f_M_workOut Cd Vl L s (nI n) (nI a) (nI b) = some (v K, s') := by
  obtain ⟨s', h1, h2, h3⟩ := x Cd Vl K L s n b 0 hn hb (Nat.le_refl _) (fun _ _ _ => ⟨rfl, rfl⟩) hL hK (by omega)
  refine ⟨s', ?_⟩
  unfold f_M_workOut
  rw [nx_mull, nI_add]
  simp only [oL]
  rw [show ((0 : Int32), nI (520 * n + a), s) = (nI 0, nI (520 * n + a), s) from rfl, h3, oLp_out (w_end hn hb), h1]
theorem law_val {G Cd Vl TF SF ST : Nat → Int32} {n len c k : Nat} (x : lawP G Cd Vl TF SF ST n len c k) (hn : n < 5) (hlen : len ≤ 240) (hc : c ≤ 240) (hk : k < 140) : ∃ wf : (Nat → Int32) → Int32, (∀ (Ac L K s : Nat → Int32) (l : Nat), l < 4 → (∀ i, i < len → Ac (l * 240 + i) = G i) → (∀ j, j < 6 → L j = K j) → mils K → ∃ s', oLp (f_Laws_worth_C31_L39 Ac L (nI len) (nI (l * 240))) (0, 0, 0, s) = some (wf K, s')) ∧ ∀ (Cl L K s : Nat → Int32), Cl n = nI k → (∀ j, j < 6 → L j = K j) → mils K → ∃ s', oLp (f_M_worthOf_L6 Cd Vl Cl TF SF ST L (nI n)) (nI (140 * n), s) = some (wf K, s') := by
  obtain ⟨E, E0, Ek, hE⟩ := x
  have key : ∀ d i, i + d = k → ∃ wf : (Nat → Int32) → Int32, (∀ (Ac L K s : Nat → Int32) (l u : Nat), l < 4 → u ≤ E i → (∀ i, i < len → Ac (l * 240 + i) = G i) → (∀ j, j < 6 → L j = K j) → mils K → ∃ s', oLp (f_Laws_worth_C31_L39 Ac L (nI len) (nI (l * 240))) (0, nI (E i), nI u, s) = some (wf K, s')) ∧ ∀ (Cl L K s : Nat → Int32), Cl n = nI k → (∀ j, j < 6 → L j = K j) → mils K → ∃ s', oLp (f_M_worthOf_L6 Cd Vl Cl TF SF ST L (nI n)) (nI (140 * n + i), s) = some (wf K, s') := by
    intro d
    induction d with
    | zero =>
      intro i e
      have e : i = k := e
      subst e
      refine ⟨fun _ => 0, fun Ac L K s l u hl hu _ _ _ => ⟨s, oLp_out ?_⟩, fun Cl L K s hCl _ _ => ⟨s, oLp_out ?_⟩⟩
      · rw [Ek] at hu ⊢
        unfold f_Laws_worth_C31_L39
        dsimp only
        by_cases h1 : nI len ≤ nI u
        · rw [if_pos h1]
        · rw [if_neg h1, if_pos (nI_le (Nat.le_refl _) (by omega))]
      · unfold f_M_worthOf_L6
        dsimp only
        rw [oI_nI (j := n) (n := 5) hn (by decide), nI_clamp (n := n) (by omega), hCl, nx_mull, nI_add, if_pos (nI_le (Nat.le_refl _) (by omega))]
    | succ d ih =>
      intro i hi
      obtain ⟨wf, hw1, hw2⟩ := ih (i + 1) (by omega)
      obtain ⟨e, tf, sf, st, q1, q2, q3, q4, q5, q6, q7, q8⟩ := hE i (by omega)
      rcases q8 with ⟨x1, x2, x3, ⟨v, v1, v2, v3, v4⟩, x5⟩ | ⟨j, ⟨y1, y2, y3, y4⟩, ⟨u, u1, u2, u3, u4⟩, x2, ⟨v, v1, v2, v3, v4⟩, x4⟩
      · subst x1
        refine ⟨v, fun Ac L K s l u hl hu hA hL hK => ?_, fun Cl L K s hCl hL hK => ?_⟩
        · obtain ⟨s', u', a1, a2, a3, a4⟩ := v1 Ac K L s l len 0 u hl hlen (by omega) (fun i _ i2 => hA i (by omega)) hL hK (by omega) hu
          refine ⟨s', ?_⟩
          rw [show ((0 : Int32), nI (E i), nI u, s) = (nI 0, nI (E i), nI u, s) from rfl, a4, oLp_out (c_ans hl hlen (by omega) a1 (by omega) ((hA e (by omega)).trans x5)), a2]
        · obtain ⟨s', hs'⟩ := w_out (s := s) v2 hn (by omega) hL hK (by omega)
          refine ⟨s', oLp_out ?_⟩
          unfold f_M_worthOf_L6 f_M_worthOf_J57
          dsimp only
          rw [oI_nI (j := n) (n := 5) hn (by decide), nI_clamp (n := n) (by omega), hCl, nx_mull, nI_add, if_neg (nI_ge (show 140 * n + i < 140 * n + k by omega) (by omega)), oI_nI (j := 140 * n + i) (n := 700) (by omega) (by decide), oI_nI (j := 140 * n + i) (n := 700) (by omega) (by decide), nI_clamp (n := 140 * n + i) (by omega), q4, q5, if_pos rfl, oI_nI (j := 140 * n + i) (n := 700) (by omega) (by decide), oI_nI (j := 140 * n + i) (n := 700) (by omega) (by decide), q6, hs']
          rfl
      · refine ⟨fun K => if u K = 0 then wf K else v K, fun Ac L K s l w hl hu hA hL hK => ?_, fun Cl L K s hCl hL hK => ?_⟩
        · obtain ⟨s1, w1, a1, a2, a3, a4⟩ := u1 Ac K L s l len 0 w hl hlen (by omega) (fun i _ i2 => hA i (by omega)) hL hK (by omega) hu
          have hj := c_jump (L := L) (s := s1) (k := 0) hl hlen (show j < len by omega) a1 (by omega) ((hA j (by omega)).trans x2) (show e + 1 < 1000 by omega)
          rw [show ((0 : Int32), nI (E i), nI w, s) = (nI 0, nI (E i), nI w, s) from rfl, a4, oLp_go hj, a2]
          dsimp only
          by_cases hz : u K = 0
          · rw [if_pos hz, if_pos hz, ← q1]
            exact hw1 Ac L K s1 l (w1 + 1) hl (by omega) hA hL hK
          · rw [if_neg hz, if_neg hz]
            obtain ⟨s2, w2, b1, b2, b3, b4⟩ := v1 Ac K L s1 l len 0 (w1 + 1) hl hlen (by omega) (fun i _ i2 => hA i (by omega)) hL hK (by omega) (by omega)
            refine ⟨s2, ?_⟩
            rw [b4, oLp_out (c_ans hl hlen (by omega) b1 (by omega) ((hA e (by omega)).trans x4)), b2]
        · obtain ⟨s1, hs1⟩ := w_out (s := s) u2 hn (by omega) hL hK (by omega)
          obtain ⟨s2, hs2⟩ := w_out (s := s1) v2 hn (by omega) hL hK (by omega)
          dsimp only
          have eb : f_M_worthOf_L6 Cd Vl Cl TF SF ST L (nI n) (nI (140 * n + i), s) = if u K = 0 then some (.inl (nI (140 * n + (i + 1)), s1)) else some (.inr (v K, s2)) := by
            unfold f_M_worthOf_L6 f_M_worthOf_J57
            dsimp only
            rw [oI_nI (j := n) (n := 5) hn (by decide), nI_clamp (n := n) (by omega), hCl, nx_mull, nI_add, if_neg (nI_ge (show 140 * n + i < 140 * n + k by omega) (by omega)), oI_nI (j := 140 * n + i) (n := 700) (by omega) (by decide), oI_nI (j := 140 * n + i) (n := 700) (by omega) (by decide), nI_clamp (n := 140 * n + i) (by omega), q4, q5, if_neg (fun q => by have := nI_inj (show tf < 2 ^ 31 by omega) (show sf < 2 ^ 31 by omega) q; omega), oI_nI (j := 140 * n + i) (n := 700) (by omega) (by decide), oI_nI (j := 140 * n + i) (n := 700) (by omega) (by decide), hs1, bind_some', oI_nI (j := 140 * n + i) (n := 700) (by omega) (by decide), oI_nI (j := 140 * n + i) (n := 700) (by omega) (by decide), q6, hs2, nx_add]
            rfl
          by_cases hz : u K = 0
          · rw [if_pos hz] at eb ⊢
            rw [oLp_go eb]
            exact hw2 Cl L K s1 hCl hL hK
          · rw [if_neg hz] at eb ⊢
            exact ⟨s2, oLp_out eb⟩
  obtain ⟨wf, h1, h2⟩ := key k 0 (by omega)
  refine ⟨wf, fun Ac L K s l hl hA hL hK => ?_, fun Cl L K s hCl hL hK => h2 Cl L K s hCl hL hK⟩
  have := h1 Ac L K s l 0 hl (by omega) hA hL hK
  rw [E0] at this
  exact this
/-- one law of both -/
def law1 (A_codes A_lengths Kc Kv Kl Kt Kf Ku : Nat → Int32) (l : Nat) : Prop := ∃ len c k : Nat, (len ≤ 240 ∧ c ≤ 240 ∧ k < 140) ∧ A_lengths l = nI len ∧ Kl l = nI k ∧ lawP (fun i => A_codes (l * 240 + i)) Kc Kv Kt Kf Ku l len c k
theorem law1_lwA {A_codes A_lengths Kc Kv Kl Kt Kf Ku : Nat → Int32} {l N : Nat} (x : law1 A_codes A_lengths Kc Kv Kl Kt Kf Ku l) (hN : N ≤ 4) (hl : l < N) : ∃ wf, lwA (nI N) (nI l) A_codes A_lengths (nI l) Kc Kv Kl Kt Kf Ku (some wf) := by
  obtain ⟨len, c, k, ⟨h1, h2, h3⟩, h4, h5, h6⟩ := x
  obtain ⟨wf, w1, w2⟩ := law_val h6 (show l < 5 by omega) h1 h2 h3
  have ha : f_Laws_anyHolds (nI N) (nI l) = some 1 := by
    unfold f_Laws_anyHolds
    rw [if_neg (nI_lt0 (by omega)), if_neg (nI_ge hl (by omega))]
  refine ⟨wf, ha, m1_ne (by omega), fun K L s t hK hL => ⟨?_, ?_⟩⟩
  · obtain ⟨s', hs'⟩ := w1 A_codes L K s l (by omega) (fun i hi => rfl) hL hK
    refine ⟨s', ?_⟩
    unfold f_Laws_worth_C31 f_Laws_worth_C31_J20
    rw [ha, bind_some', if_neg d10, oI_nI (j := l) (n := 4) (by omega) (by decide), nI_clamp (n := l) (by omega), h4, nx_mul]
    exact hs'
  · obtain ⟨s', hs'⟩ := w2 Kl L K t h5 hL hK
    refine ⟨s', ?_⟩
    unfold f_M_worthOf
    rw [nx_mull]
    exact hs'
