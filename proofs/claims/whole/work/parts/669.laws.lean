/-! the state at a yard's start; a law that is kept -/
theorem c_begin {Y C O : Nat → Int32} {a b c d e : Int32} {nm : Nat} (c2 : C 2 = nI nm) (h6 : nm ≤ 6) : ∃ O1 : Nat → Int32, f_Now_begin_C13 Y C a b c d e O = some (nI nm, 0, 0, Y 2, 0, O1) ∧ ∀ m, m < nm → O1 m = Y ((6 + m) * 3) := by
  unfold f_Now_begin_C13
  rw [y_marbles, bind_some', c2, show (6 : Int32) = nI 6 from rfl, jmin_nat (by omega) (by decide), oL_eq, show min nm 6 = nm by omega]
  refine qlp1 (fun j (t : Int32 × (Nat → Int32)) => ∃ U : Nat → Int32, t = (nI j, U) ∧ ∀ m, m < j → U m = Y ((6 + m) * 3)) (fun r => ∃ O1 : Nat → Int32, r = some (nI nm, 0, 0, Y 2, 0, O1) ∧ ∀ m, m < nm → O1 m = Y ((6 + m) * 3)) (n := nm) ?_ ?_ (j := 0) (by omega) ⟨O, rfl, fun i hi => absurd hi (by omega)⟩
  · rintro j t hj ⟨U, rfl, h1⟩
    left
    refine ⟨(nI (j + 1), upd U j (Y ((6 + j) * 3))), ?_, _, rfl, fun i hi => ?_⟩
    · unfold f_Now_begin_C13_L15
      dsimp only
      rw [if_neg (show ¬ nI nm ≤ nI j from nI_ge hj (by omega)), y_firstOwner (by omega), bind_some', oI_nI (j := j) (n := 6) (by omega) (by decide), nI_clamp (n := j) (by omega), oL_eq, nx_add]
    · by_cases e : i = j
      · rw [e, upd_at]
      · rw [upd_ne e]
        exact h1 i (by omega)
  · rintro t ⟨U, rfl, h1⟩
    refine ⟨U, oLp_out ?_, h1⟩
    unfold f_Now_begin_C13_L15
    dsimp only
    rw [if_pos (Int32.le_refl _), y_firstSweets, bind_some']
    rfl
theorem c_copyCode {G Ad : Nat → Int32} {len N : Nat} (hl : len ≤ 240) (hN : N < 4) : ∃ Ad' : Nat → Int32, f_LawR_copyCode_C10 (nI len) G Ad (nI (N * 240)) = some (nI len, Ad') ∧ (∀ i, i < len → Ad' (N * 240 + i) = G i) ∧ ∀ t, t < N * 240 → Ad' t = Ad t := by
  unfold f_LawR_copyCode_C10
  refine qlp1 (fun j (t : Int32 × (Nat → Int32)) => ∃ U : Nat → Int32, t = (nI j, U) ∧ (∀ i, i < j → U (N * 240 + i) = G i) ∧ ∀ t, t < N * 240 → U t = Ad t) (fun r => ∃ Ad' : Nat → Int32, r = some (nI len, Ad') ∧ (∀ i, i < len → Ad' (N * 240 + i) = G i) ∧ ∀ t, t < N * 240 → Ad' t = Ad t) (n := len) ?_ ?_ (j := 0) (by omega) ⟨Ad, rfl, fun i hi => absurd hi (by omega), fun _ _ => rfl⟩
  · rintro j t hj ⟨U, rfl, h1, h2⟩
    left
    refine ⟨(nI (j + 1), upd U (N * 240 + j) (G j)), ?_, _, rfl, fun i hi => ?_, fun i hi => ?_⟩
    · unfold f_LawR_copyCode_C10_L2
      dsimp only
      rw [if_neg (show ¬ nI len ≤ nI j from nI_ge hj (by omega)), nI_add, if_neg (show ¬ (960 : Int32) ≤ nI (N * 240 + j) from nI_ge (b := 960) (by omega) (by decide)), oI_nI (j := j) (n := 240) (by omega) (by decide), oI_nI (j := N * 240 + j) (n := 960) (by omega) (by decide), nI_clamp (n := j) (by omega), nI_clamp (n := N * 240 + j) (by omega), oL_eq, nx_add]
    · by_cases e : i = j
      · rw [e, upd_at]
      · rw [upd_ne (by omega)]
        exact h1 i (by omega)
    · rw [upd_ne (by omega)]
      exact h2 i hi
  · rintro t ⟨U, rfl, h1, h2⟩
    refine ⟨U, oLp_out ?_, h1, h2⟩
    unfold f_LawR_copyCode_C10_L2
    dsimp only
    rw [if_pos (Int32.le_refl _)]
theorem p_add {G Ad Al Kc Kv Kl Kt Kf Ku Co Kc' Kv' Kl' Kt' Kf' Ku' Co' : Nat → Int32} {N len c k : Nat} (hN : N < 4) (hlen : len ≤ 240 ∧ c ≤ 240 ∧ k < 140) (hp : lawP G Kc' Kv' Kt' Kf' Ku' N len c k) (hk : Kl' N = nI k) (hf : fr3 N Kc Kv Co Kl Kt Kf Ku Kc' Kv' Co' Kl' Kt' Kf' Ku') (old : ∀ l, l < N → law1 Ad Al Kc Kv Kl Kt Kf Ku l) : ∃ Ad' Al', f_Laws_add_C7 (nI len) G (nI N) Ad Al = some (nI (N + 1), Ad', Al') ∧ ∀ l, l < N + 1 → law1 Ad' Al' Kc' Kv' Kl' Kt' Kf' Ku' l := by
  obtain ⟨Ad', a1, a2, a3⟩ := c_copyCode (G := G) (Ad := Ad) hlen.1 hN
  refine ⟨Ad', upd Al N (nI len), ?_, fun l hl => ?_⟩
  · unfold f_Laws_add_C7
    rw [if_neg (show ¬ (4 : Int32) ≤ nI N from nI_ge (b := 4) hN (by decide)), show nI N * 240 = nI (N * 240) from nx_mul N 240, a1, bind_some']
    dsimp only
    rw [oI_nI (j := N) (n := 4) hN (by decide), nI_clamp (n := N) (by omega), oL_eq, oL_eq, nx_add]
  · by_cases e : l = N
    · subst e
      refine ⟨len, c, k, hlen, upd_at, hk, lawP_agree hp (fun i hi => a2 i hi) (fun i _ _ => ⟨rfl, rfl⟩) (fun i _ _ => ⟨rfl, rfl, rfl⟩)⟩
    · obtain ⟨f1, f2, f3⟩ := hf
      obtain ⟨len', c', k', hb, hl1, hl2, hl3⟩ := old l (by omega)
      refine ⟨len', c', k', hb, by rw [upd_ne e]; exact hl1, (f2 l e).2.trans hl2, lawP_agree hl3 (fun i hi => a3 _ (by omega)) (fun i h1 h2 => f1 i (by omega)) (fun i h1 h2 => f3 i (by omega))⟩
theorem law1_fr {Ad Al Kc Kv Kl Kt Kf Ku Co Kc' Kv' Kl' Kt' Kf' Ku' Co' : Nat → Int32} {N n l : Nat} (hf : fr3 n Kc Kv Co Kl Kt Kf Ku Kc' Kv' Co' Kl' Kt' Kf' Ku') (hl : l < N) (hn : N ≤ n) (x : law1 Ad Al Kc Kv Kl Kt Kf Ku l) : law1 Ad Al Kc' Kv' Kl' Kt' Kf' Ku' l := by
  obtain ⟨f1, f2, f3⟩ := hf
  obtain ⟨len', c', k', hb, hl1, hl2, hl3⟩ := x
  exact ⟨len', c', k', hb, hl1, (f2 l (by omega)).2.trans hl2, lawP_agree hl3 (fun i hi => rfl) (fun i h1 h2 => f1 i (by omega)) (fun i h1 h2 => f3 i (by omega))⟩
def lwsA (N : Nat) (As Ac : Int32) (Ad Al : Nat → Int32) (Ml Mh : Int32) (Kc Kv Kl Kt Kf Ku : Nat → Int32) : Prop := N ≤ 4 ∧ As = nI N ∧ Ml = nI N ∧ ((Ac = -1 ∧ Mh = -1) ∨ ∃ l : Nat, l < N ∧ Ac = nI l ∧ Mh = nI l) ∧ ∀ l, l < N → law1 Ad Al Kc Kv Kl Kt Kf Ku l
theorem lws_lwA {N : Nat} {As Ac : Int32} {Ad Al : Nat → Int32} {Ml Mh : Int32} {Kc Kv Kl Kt Kf Ku : Nat → Int32} (x : lwsA N As Ac Ad Al Ml Mh Kc Kv Kl Kt Kf Ku) : ∃ w, lwA As Ac Ad Al Mh Kc Kv Kl Kt Kf Ku w := by
  obtain ⟨h4, rfl, rfl, h, hl⟩ := x
  rcases h with ⟨rfl, rfl⟩ | ⟨l, hlN, rfl, rfl⟩
  · exact ⟨none, rfl, rfl⟩
  · obtain ⟨wf, q⟩ := law1_lwA (hl l hlN) h4 hlN
    exact ⟨some wf, q⟩
theorem p_law {N : Nat} {As Ac : Int32} {Ad Al : Nat → Int32} {Ml Mh p0 : Int32} {Kc Kv Kl Kt Kf Ku : Nat → Int32} (x : lwsA N As Ac Ad Al Ml Mh Kc Kv Kl Kt Kf Ku) : ∃ v Ac' Mh', f_Main_law As Ac p0 = some (v, Ac') ∧ f_M_law Ml Mh p0 = some (v, Mh') ∧ lwsA N As Ac' Ad Al Ml Mh' Kc Kv Kl Kt Kf Ku := by
  have hx := x
  obtain ⟨h4, rfl, rfl, h, hl⟩ := x
  unfold f_Main_law f_M_law f_Laws_choose f_M_in
  by_cases h1 : p0 < -1
  · rw [if_pos h1, if_pos h1, bind_some', bind_some', if_pos rfl]
    exact ⟨_, _, _, oZ0, rfl, hx⟩
  · rw [if_neg h1, if_neg h1]
    by_cases hm : p0 = -1
    · subst hm
      have e1 : (-1 : Int32) < nI N := by
        rw [Int32.lt_iff_toInt_lt, nI_toInt (by omega)]
        have : (-1 : Int32).toInt = -1 := by decide
        omega
      have e2 : ¬ nI N - 1 < -1 := by
        rcases (show N = 0 ∨ N = 1 ∨ N = 2 ∨ N = 3 ∨ N = 4 by omega) with rfl | rfl | rfl | rfl | rfl <;> decide
      rw [if_pos e1, if_neg e2, bind_some', bind_some', if_neg d10]
      exact ⟨_, _, _, oZ1, rfl, h4, rfl, rfl, Or.inl ⟨rfl, rfl⟩, hl⟩
    · have h0 : ¬ p0 < 0 := by
        intro q
        rw [Int32.lt_iff_toInt_lt] at q h1
        have a1 : (-1 : Int32).toInt = -1 := by decide
        have a0 : (0 : Int32).toInt = 0 := by decide
        exact hm (Int32.toInt_inj.mp (by omega))
      have e2 : (nI N - 1 < p0) ↔ ¬ p0 < nI N := by
        have e : (nI N - 1).toInt = (N : Int) - 1 := by
          rcases (show N = 0 ∨ N = 1 ∨ N = 2 ∨ N = 3 ∨ N = 4 by omega) with rfl | rfl | rfl | rfl | rfl <;> decide
        rw [Int32.lt_iff_toInt_lt, Int32.lt_iff_toInt_lt, e, nI_toInt (by omega)]
        omega
      rcases ix_cases p0 (n := N) (by omega) with z | ⟨l, hlN, z⟩
      · have hnl : ¬ p0 < nI N := fun q => z ⟨h0, q⟩
        rw [if_neg hnl, if_pos (e2.mpr hnl), bind_some', bind_some', if_pos rfl]
        exact ⟨_, _, _, oZ0, rfl, hx⟩
      · have hlt : p0 < nI N := by rw [z]; exact nI_lt hlN (by omega)
        rw [if_pos hlt, if_neg (fun q => e2.mp q hlt), bind_some', bind_some', if_neg d10]
        exact ⟨_, _, _, oZ1, rfl, h4, rfl, rfl, Or.inr ⟨l, hlN, z, z⟩, hl⟩
