/-! shares, most -/
theorem hs_bt {x : Int32} {m : Nat} (hm : m < 31) : hs x (nI m) = if bt x m = true then 1 else 0 := by
  unfold hs
  have h1 : ∀ i, i < 32 → bt 1 i = decide (i = 0) := by decide +kernel
  refine b_ext (fun i hi => ?_)
  rw [b_and, b_sshr m (by omega) _ hi, h1 i hi]
  by_cases e : i = 0
  · subst e
    rw [if_pos (by omega), Nat.add_zero]
    cases bt x m <;> rfl
  · rw [decide_eq_false e, Bool.and_false]
    split
    · rw [h1 i hi, decide_eq_false e]
    · rw [b_0]
theorem hs_bB {q : Nat → Bool} {n m : Nat} (hn : n ≤ 6) (hm : m < n) : hs (bB q n) (nI m) = if q m = true then 1 else 0 := by
  rw [hs_bt (by omega), bB_bt (by omega) (by omega), decide_eq_true hm, Bool.true_and]
theorem hs_free {q : Nat → Bool} {n m : Nat} (hn : n ≤ 6) (hm : m < n) : hs (((1 <<< (nI n &&& 31)) - 1) &&& (bB q n ^^^ (-1))) (nI m) = if (! q m) = true then 1 else 0 := by
  rw [hs_bt (by omega), b_and, b_xor, b_m1 m (by omega), ← mask_all n hn, bB_bt (by omega) (by omega), bB_bt (by omega) (by omega), decide_eq_true hm]
  cases q m <;> rfl
theorem hs_unsw {q : Nat → Bool} {n m : Nat} {s : Int32} (hn : n ≤ 6) (hm : m < n) : hs (bB q n &&& (s ^^^ (-1))) (nI m) = if (q m && ! bt s m) = true then 1 else 0 := by
  rw [hs_bt (by omega), b_and, b_xor, b_m1 m (by omega), bB_bt (by omega) (by omega), decide_eq_true hm]
  cases q m <;> cases bt s m <;> rfl
def szS (M : Nat → Int32) (q : Nat → Bool) : Nat → Int32
  | 0 => 0
  | m + 1 => szS M q m + (if q m = true then M (3 * m + 2) else 0)
theorem m_sizesOf {M : Nat → Int32} {q : Nat → Bool} {nm : Nat} {v : Int32} (h6 : nm ≤ 6) (hq : ∀ m, m < nm → hs v (nI m) = if q m = true then 1 else 0) : f_M_sizesOf (nI nm) M v = some (szS M q nm) := by
  unfold f_M_sizesOf
  refine oLp_for (fun j => (szS M q j, nI j)) (i := 0) (n := nm) (by omega) (fun j _ hj => ?_) ?_
  · unfold f_M_sizesOf_L4 f_M_sizesOf_J31
    dsimp only
    rw [if_neg (nI_ge hj (by omega)), m_has, bind_some', m_of2 (by omega), bind_some', hq j hj, nx_add]
    by_cases z : q j = true
    · rw [if_pos z, if_neg d10]
      simp [oL, szS, z]
    · rw [if_neg z, if_pos rfl]
      simp [oL, szS, z]
  · unfold f_M_sizesOf_L4
    dsimp only
    rw [if_pos (nI_le (Nat.le_refl nm) (by omega))]
theorem q_shares {Y C R B M F O W : Nat → Int32} {mb mm mf : Int32} {nb nm nf : Nat} {As Ac Mh : Int32} {Ad Al Kc Kv Kl Kt Kf Ku : Nat → Int32} {w : Option ((Nat → Int32) → Int32)} {p0 p1 : Int32} (x : cx Y C R B M F O W mb mm mf nb nm nf As Ac Mh Ad Al Kc Kv Kl Kt Kf Ku w) : ∃ v, f_Main_shares Y C (nI nm) O p0 p1 = some v ∧ f_M_shares mb mm M W p0 p1 = some v := by
  have h := x.1
  obtain ⟨⟨h5, h6, h6'⟩, ⟨c1, c2, c3⟩, ⟨e1, e2, e3⟩, hr, hbo, hma, hfa, rb, rm, rf, r0, r1, r2⟩ := h
  subst e1 e2
  have hO := x.2.1
  unfold f_Main_shares f_M_shares f_M_in
  rw [y_hasBoy c1, bind_some', m_isBoy (by omega), bind_some']
  rcases inB_cases p0 (n := nb) (by omega) with ⟨e, hn⟩ | ⟨b, hb, rfl, e⟩
  · rw [e]
    exact ⟨_, rfl, rfl⟩
  · rw [e, if_neg d10, if_neg d10]
    by_cases h0 : p1 < 0
    · rw [if_pos h0, if_pos h0]
      exact ⟨_, rfl, rfl⟩
    · rw [if_neg h0, if_neg h0]
      by_cases h1 : p1 ≤ 999
      · rw [if_pos h1, if_neg (fun q => i_le_lt.mpr q h1), bind_some', if_neg d10, m_drained h6, bind_some', m_handsOf h6, m_sizesOf (q := fun m => ! decide (W m = -1)) h6 (fun m hm => hs_free h6 hm)]
        simp only [bind_some']
        rw [m_sizesOf (q := fun m => decide (W m = nI b)) h6 (fun m hm => hs_bB h6 hm)]
        simp only [bind_some']
        have eC : oLp (f_Main_shares_L32 Y C (nI nm) O (nI b) p1) (0, 0, 0) = if szS M (fun m => ! decide (W m = -1)) nm = 0 then some 0 else oD (szS M (fun m => ! decide (W m = -1)) nm) (some ((p1 * szS M (fun m => decide (W m = nI b)) nm) / szS M (fun m => ! decide (W m = -1)) nm)) := by
          refine oLp_forM (fun j => (szS M (fun m => decide (W m = nI b)) j, szS M (fun m => ! decide (W m = -1)) j, nI j)) (i := 0) (n := nm) (by omega) (fun j _ hj => ?_) ?_
          · unfold f_Main_shares_L32 f_Main_shares_J97 f_Main_shares_J99
            dsimp only
            rw [y_marbles, bind_some', c2, if_neg (nI_ge hj (by omega)), n_isDrained hj h6, bind_some', hO j hj, y_size (by omega), n_ownerOf hj h6, hO j hj, hma j 2 hj (by omega)]
            simp only [bind_some', oL, nx_add]
            by_cases z : W j = -1
            · have z2 : ¬ (-1 : Int32) = nI b := fun q => m1_ne (show b < 2 ^ 31 by omega) q.symm
              rw [if_pos z, if_neg d10]
              simp [szS, z, z2]
            · rw [if_neg z, if_pos rfl]
              by_cases z2 : W j = nI b
              · have z3 : ¬ nI b = -1 := m1_ne (by omega)
                simp [oL, szS, z2, z3]
              · simp [oL, szS, z, z2]
          · unfold f_Main_shares_L32
            dsimp only
            rw [y_marbles, bind_some', c2, if_pos (nI_le (Nat.le_refl nm) (by omega))]
        rw [eC]
        by_cases z : szS M (fun m => ! decide (W m = -1)) nm = 0
        · rw [if_pos z]
          exact ⟨_, rfl, rfl⟩
        · rw [if_neg z]
          unfold oD
          rw [if_neg z]
          exact ⟨_, rfl, rfl⟩
      · rw [if_neg h1, if_pos (i_nle h1), bind_some', if_pos rfl]
        exact ⟨_, rfl, rfl⟩
def stg (M : Nat → Int32) (q : Nat → Bool) : Nat → Int32
  | 0 => -1
  | m + 1 => if q m = true then (if stg M q m = -1 then nI m else if M (3 * m + 2) ≤ M (3 * (stg M q m).toNatClampNeg + 2) then stg M q m else nI m) else stg M q m
theorem stg_cases (M : Nat → Int32) (q : Nat → Bool) : ∀ n, stg M q n = -1 ∨ ∃ k : Nat, k < n ∧ stg M q n = nI k := by
  intro n
  induction n with
  | zero => exact Or.inl rfl
  | succ n ih =>
    have ih' : stg M q n = -1 ∨ ∃ k : Nat, k < n + 1 ∧ stg M q n = nI k := by
      rcases ih with e | ⟨k, hk, e⟩
      · exact Or.inl e
      · exact Or.inr ⟨k, (by omega), e⟩
    unfold stg
    split
    · split
      · exact Or.inr ⟨n, (by omega), rfl⟩
      · split
        · exact ih'
        · exact Or.inr ⟨n, (by omega), rfl⟩
    · exact ih'
theorem m_strongest {M : Nat → Int32} {q : Nat → Bool} {nm : Nat} {v : Int32} (h6 : nm ≤ 6) (hq : ∀ m, m < nm → hs v (nI m) = if q m = true then 1 else 0) : f_M_strongest (nI nm) M v = some (stg M q nm) := by
  unfold f_M_strongest
  refine oLp_for (fun j => (stg M q j, nI j)) (i := 0) (n := nm) (by omega) (fun j _ hj => ?_) ?_
  · unfold f_M_strongest_L4 f_M_strongest_J40 f_M_strongest_J44 f_M_strongest_J45
    dsimp only
    rw [if_neg (nI_ge hj (by omega)), m_has, bind_some', hq j hj, m_of2 (by omega), bind_some', nx_add]
    show _ = some (Sum.inl (if q j = true then (if stg M q j = -1 then nI j else if M (3 * j + 2) ≤ M (3 * (stg M q j).toNatClampNeg + 2) then stg M q j else nI j) else stg M q j, _))
    by_cases z : q j = true
    · rw [if_pos z, if_pos z, if_neg d10]
      rcases stg_cases M q j with e | ⟨k, hk, e⟩
      · rw [if_pos e, if_pos e]
      · have hne : ¬ stg M q j = -1 := by rw [e]; exact m1_ne (by omega)
        rw [if_neg hne, if_neg hne, e, m_of2 (by omega), bind_some', nI_clamp (by omega)]
        split <;> rfl
    · rw [if_neg z, if_neg z, if_pos rfl]
  · unfold f_M_strongest_L4
    dsimp only
    rw [if_pos (nI_le (Nat.le_refl nm) (by omega))]
theorem c_strongest {Y C R B M F O W : Nat → Int32} {mb mm mf : Int32} {nb nm nf : Nat} {As Ac Mh : Int32} {Ad Al Kc Kv Kl Kt Kf Ku : Nat → Int32} {w : Option ((Nat → Int32) → Int32)} (x : cx Y C R B M F O W mb mm mf nb nm nf As Ac Mh Ad Al Kc Kv Kl Kt Kf Ku w) : f_Main_strongestMarble Y C (nI nm) O = some (stg M (fun m => ! decide (W m = -1)) nm) := by
  have h := x.1
  obtain ⟨⟨h5, h6, h6'⟩, ⟨c1, c2, c3⟩, ⟨e1, e2, e3⟩, hr, hbo, hma, hfa, rb, rm, rf, r0, r1, r2⟩ := h
  have hO := x.2.1
  unfold f_Main_strongestMarble
  refine oLp_for (fun j => (stg M (fun m => ! decide (W m = -1)) j, nI j)) (i := 0) (n := nm) (by omega) (fun j _ hj => ?_) ?_
  · unfold f_Main_strongestMarble_L4 f_Main_strongestMarble_J50 f_Main_strongestMarble_J52
    dsimp only
    rw [y_marbles, bind_some', c2, if_neg (nI_ge hj (by omega)), n_isDrained hj h6, bind_some', hO j hj, y_size (by omega), bind_some', hma j 2 hj (by omega), nx_add]
    show _ = some (Sum.inl (if (! decide (W j = -1)) = true then (if stg M (fun m => ! decide (W m = -1)) j = -1 then nI j else if M (3 * j + 2) ≤ M (3 * (stg M (fun m => ! decide (W m = -1)) j).toNatClampNeg + 2) then stg M (fun m => ! decide (W m = -1)) j else nI j) else stg M (fun m => ! decide (W m = -1)) j, _))
    by_cases z : W j = -1
    · rw [if_pos z, if_neg d10, decide_eq_true z]
      rfl
    · rw [if_neg z, if_pos rfl, decide_eq_false z, if_pos (show (! false) = true from rfl)]
      rcases stg_cases M (fun m => ! decide (W m = -1)) j with e | ⟨k, hk, e⟩
      · rw [if_pos e, if_pos e]
      · have hne : ¬ stg M (fun m => ! decide (W m = -1)) j = -1 := by rw [e]; exact m1_ne (by omega)
        rw [if_neg hne, if_neg hne, e, y_size (by omega), bind_some', hma k 2 (by omega) (by omega), nI_clamp (by omega)]
        split <;> rfl
  · unfold f_Main_strongestMarble_L4
    dsimp only
    rw [y_marbles, bind_some', c2, if_pos (nI_le (Nat.le_refl nm) (by omega))]
theorem c_greatest {Y C R B M F O W : Nat → Int32} {mb mm mf : Int32} {nb nm nf : Nat} {As Ac Mh : Int32} {Ad Al Kc Kv Kl Kt Kf Ku : Nat → Int32} {w : Option ((Nat → Int32) → Int32)} {b : Nat} (x : cx Y C R B M F O W mb mm mf nb nm nf As Ac Mh Ad Al Kc Kv Kl Kt Kf Ku w) : f_Main_greatestOf Y C (nI nm) (W 7) O (nI b) = some (stg M (fun m => decide (W m = nI b) && ! bt (W 7) m) nm) := by
  have h := x.1
  obtain ⟨⟨h5, h6, h6'⟩, ⟨c1, c2, c3⟩, ⟨e1, e2, e3⟩, hr, hbo, hma, hfa, rb, rm, rf, r0, r1, r2⟩ := h
  have hO := x.2.1
  unfold f_Main_greatestOf
  refine oLp_for (fun j => (stg M (fun m => decide (W m = nI b) && ! bt (W 7) m) j, nI j)) (i := 0) (n := nm) (by omega) (fun j _ hj => ?_) ?_
  · unfold f_Main_greatestOf_L4 f_Main_greatestOf_J62 f_Main_greatestOf_J64
    dsimp only
    rw [y_marbles, bind_some', c2, if_neg (nI_ge hj (by omega)), n_ownerOf hj h6, bind_some', hO j hj, n_isSwallowed, bind_some', y_size (by omega), bind_some', hma j 2 hj (by omega), nx_add, hs_bt (by omega)]
    show _ = some (Sum.inl (if (decide (W j = nI b) && ! bt (W 7) j) = true then (if stg M (fun m => decide (W m = nI b) && ! bt (W 7) m) j = -1 then nI j else if M (3 * j + 2) ≤ M (3 * (stg M (fun m => decide (W m = nI b) && ! bt (W 7) m) j).toNatClampNeg + 2) then stg M (fun m => decide (W m = nI b) && ! bt (W 7) m) j else nI j) else stg M (fun m => decide (W m = nI b) && ! bt (W 7) m) j, _))
    by_cases z : W j = nI b
    · rw [if_pos z, decide_eq_true z, Bool.true_and]
      by_cases z2 : bt (W 7) j = true
      · rw [if_pos z2, if_neg d10, z2]
        rfl
      · have z3 : bt (W 7) j = false := by simpa using z2
        rw [if_neg z2, if_pos rfl, z3, if_pos (show (! false) = true from rfl)]
        rcases stg_cases M (fun m => decide (W m = nI b) && ! bt (W 7) m) j with e | ⟨k, hk, e⟩
        · rw [if_pos e, if_pos e]
        · have hne : ¬ stg M (fun m => decide (W m = nI b) && ! bt (W 7) m) j = -1 := by rw [e]; exact m1_ne (by omega)
          rw [if_neg hne, if_neg hne, e, y_size (by omega), bind_some', hma k 2 (by omega) (by omega), nI_clamp (by omega)]
          split <;> rfl
    · rw [if_neg z, decide_eq_false z]
      rfl
  · unfold f_Main_greatestOf_L4
    dsimp only
    rw [y_marbles, bind_some', c2, if_pos (nI_le (Nat.le_refl nm) (by omega))]
theorem q_richest {Y C R B M F O W : Nat → Int32} {mb mm mf : Int32} {nb nm nf : Nat} {As Ac Mh : Int32} {Ad Al Kc Kv Kl Kt Kf Ku : Nat → Int32} {w : Option ((Nat → Int32) → Int32)} (x : cx Y C R B M F O W mb mm mf nb nm nf As Ac Mh Ad Al Kc Kv Kl Kt Kf Ku w) : ∃ v, f_Main_richestBoy C (nI nm) O = some v ∧ f_M_richest (nI nb) (nI nm) W = some v := by
  have h := x.1
  obtain ⟨⟨h5, h6, h6'⟩, ⟨c1, c2, c3⟩, ⟨e1, e2, e3⟩, hr, hbo, hma, hfa, rb, rm, rf, r0, r1, r2⟩ := h
  have hO := x.2.1
  unfold f_Main_richestBoy f_M_richest
  have hr : ∀ s : Int32 × Int32, f_Main_richestBoy_L4 C (nI nm) O s = f_M_richest_L4 (nI nb) (nI nm) W s := by
    intro s
    unfold f_Main_richestBoy_L4 f_M_richest_L4 f_Main_richestBoy_J42 f_M_richest_J36
    simp only [y_boys, bind_some', c1, n_handOf h6 hO, m_handsOf h6, j_bitCount]
  have he : f_Main_richestBoy_L4 C (nI nm) O = f_M_richest_L4 (nI nb) (nI nm) W := funext hr
  rw [he]
  have hex : ∃ v, oLp (f_M_richest_L4 (nI nb) (nI nm) W) (0, 1) = some v := by
    by_cases h1 : nb = 0
    · refine ⟨0, oLp_out ?_⟩
      unfold f_M_richest_L4
      rw [h1, if_pos (by decide)]
    · refine qlp1 (fun j (s : Int32 × Int32) => s.2 = nI (j + 1)) (fun r => ∃ v, r = some v) (n := nb - 1) ?_ ?_ (j := 0) (by omega) rfl
      · rintro j ⟨s1, s2⟩ hj hs
        dsimp only at hs
        subst hs
        left
        unfold f_M_richest_L4 f_M_richest_J36
        dsimp only
        rw [if_neg (nI_ge (show j + 1 < nb by omega) (by omega))]
        simp only [m_handsOf h6, bind_some', j_bitCount, nx_add]
        split
        · exact ⟨_, rfl, rfl⟩
        · exact ⟨_, rfl, rfl⟩
      · rintro ⟨s1, s2⟩ hs
        dsimp only at hs
        subst hs
        refine ⟨s1, oLp_out ?_⟩
        unfold f_M_richest_L4
        dsimp only
        rw [if_pos (nI_le (by omega) (by omega))]
  obtain ⟨v, hv⟩ := hex
  exact ⟨v, hv, hv⟩
theorem q_champion {Y C R B M F O W : Nat → Int32} {mb mm mf : Int32} {nb nm nf : Nat} {As Ac Mh : Int32} {Ad Al Kc Kv Kl Kt Kf Ku : Nat → Int32} {w : Option ((Nat → Int32) → Int32)} {s L s' L' : Nat → Int32} (x : cx Y C R B M F O W mb mm mf nb nm nf As Ac Mh Ad Al Kc Kv Kl Kt Kf Ku w) : ∃ v u u', f_Main_champion As Ac Ad Al s Y C (nI nm) (W 6) (W 7) (W 9) O L = some (v, u) ∧ f_M_champion (nI nb) (nI nm) Mh Kc Kv Kl Kt Kf Ku L' s' R B M W = some (v, u') := by
  have h := x.1
  obtain ⟨⟨h5, h6, h6'⟩, ⟨c1, c2, c3⟩, ⟨e1, e2, e3⟩, hr, hbo, hma, hfa, rb, rm, rf, r0, r1, r2⟩ := h
  have hO := x.2.1
  unfold f_Main_champion f_M_champion
  refine qlp2 (fun j (t : Int32 × Int32 × Int32 × (Nat → Int32) × (Nat → Int32)) (t' : Int32 × Int32 × Int32 × (Nat → Int32) × (Nat → Int32)) => t.1 = t'.1 ∧ t.2.1 = t'.2.1 ∧ t.2.2.1 = nI j ∧ t'.2.2.1 = nI j) (fun r r' => ∃ v u u', r = some (v, u) ∧ r' = some (v, u')) (n := nb) ?_ ?_ (j := 0) (by omega) ⟨rfl, rfl, rfl, rfl⟩
  · rintro j ⟨t1, t2, t3, t4, t5⟩ ⟨u1, u2, u3, u4, u5⟩ hj ⟨i1, i2, i3, i4⟩
    dsimp only at i1 i2 i3 i4
    subst i1 i2 i3 i4
    left
    unfold f_Main_champion_L6 f_M_champion_L6
    dsimp only
    rw [y_boys, bind_some', c1, if_neg (nI_ge hj (by omega)), if_neg (nI_ge hj (by omega)), c_greatest x, bind_some', m_handsOf h6, bind_some', nx_oI (by decide) (by decide), nx_cl 7 (by decide), m_strongest (q := fun m => decide (W m = nI j) && ! bt (W 7) m) h6 (fun m hm => hs_unsw h6 hm), bind_some']
    rcases stg_cases M (fun m => decide (W m = nI j) && ! bt (W 7) m) nm with e | ⟨m, hm, e⟩
    · rw [e, if_pos rfl, if_pos rfl]
      unfold f_Main_champion_J44 f_M_champion_J52 f_M_champion_J77 f_Main_champion_J92 f_M_champion_J101
      rw [if_pos rfl, if_pos rfl, if_pos rfl, nx_add]
      exact ⟨_, _, rfl, rfl, rfl, rfl, rfl, rfl⟩
    · obtain ⟨v, w1, w1', a1, a2, a3⟩ := q_aimOf (s := t4) (L := t5) (s' := u5) (L' := u4) x hj hm
      rw [e, if_neg (m1_ne (by omega)), if_neg (m1_ne (by omega)), a1, bind_some', a2, bind_some']
      dsimp only
      unfold f_Main_champion_J44 f_M_champion_J52 f_M_champion_J77 f_Main_champion_J87 f_M_champion_J96 f_Main_champion_J92 f_M_champion_J101
      rcases a3 with rfl | ⟨p, p1, p9, rfl⟩
      · rw [if_pos rfl, if_pos rfl, if_pos rfl, nx_add]
        exact ⟨_, _, rfl, rfl, rfl, rfl, rfl, rfl⟩
      · obtain ⟨s1, hs1⟩ := cx_flick (s := w1.1) (L := w1.2) x (mil_pw p9) hj hm
        obtain ⟨s2, hs2⟩ := cx_lands (s := w1'.2) (L := w1'.1) x (mil_pw p9) hj hm
        rw [if_neg (m1_ne (by omega)), if_neg (m1_ne (by omega)), hs1, bind_some', hs2, bind_some', l_distance x, bind_some', m_offHole, bind_some', if_neg (m1_ne (by omega)), nx_add]
        by_cases z1 : t1 = -1
        · rw [if_pos z1, if_pos z1]
          exact ⟨_, _, rfl, rfl, rfl, rfl, rfl, rfl⟩
        · rw [if_neg z1, if_neg z1]
          by_cases z2 : t2 ≤ dst R (cel w B M W nm j m (nI p))
          · rw [if_pos z2, if_pos z2]
            exact ⟨_, _, rfl, rfl, rfl, rfl, rfl, rfl⟩
          · rw [if_neg z2, if_neg z2]
            exact ⟨_, _, rfl, rfl, rfl, rfl, rfl, rfl⟩
  · rintro ⟨t1, t2, t3, t4, t5⟩ ⟨u1, u2, u3, u4, u5⟩ ⟨i1, i2, i3, i4⟩
    dsimp only at i1 i2 i3 i4
    subst i1 i2 i3 i4
    refine ⟨t1, _, _, oLp_out (t := (t1, t4, t5)) ?_, oLp_out (t := (t1, u4, u5)) ?_⟩
    · unfold f_Main_champion_L6
      dsimp only
      rw [y_boys, bind_some', c1, if_pos (nI_le (Nat.le_refl nb) (by omega))]
    · unfold f_M_champion_L6
      dsimp only
      rw [if_pos (nI_le (Nat.le_refl nb) (by omega))]
theorem q_most {Y C R B M F O W : Nat → Int32} {mb mm mf : Int32} {nb nm nf : Nat} {As Ac Mh : Int32} {Ad Al Kc Kv Kl Kt Kf Ku : Nat → Int32} {w : Option ((Nat → Int32) → Int32)} {p0 : Int32} {s L s' L' S : Nat → Int32} (x : cx Y C R B M F O W mb mm mf nb nm nf As Ac Mh Ad Al Kc Kv Kl Kt Kf Ku w) : ∃ v u u', f_Main_most As Ac Ad Al s Y C (nI nm) (W 6) (W 7) (W 9) O S L p0 = some (v, u) ∧ f_M_most mb mm Mh Kc Kv Kl Kt Kf Ku L' s' R B M W p0 = some (v, u') := by
  have h := x.1
  have hY := h
  obtain ⟨⟨h5, h6, h6'⟩, ⟨c1, c2, c3⟩, ⟨e1, e2, e3⟩, hr, hbo, hma, hfa, rb, rm, rf, r0, r1, r2⟩ := h
  subst e1 e2
  have hO := x.2.1
  have hW := x.2.2.1
  unfold f_Main_most f_M_most
  rw [y_stands c2 (by omega), bind_some']
  by_cases hz : nm = 0
  · rw [if_pos hz, if_pos ((stands_m h6).mpr hz)]
    exact ⟨_, _, _, rfl, rfl⟩
  · rw [if_neg hz, if_neg d10, if_neg (fun q => hz ((stands_m h6).mp q)), show f_M_in p0 0 3 = _ from in_lit p0 3 (by omega), bind_some']
    rcases inB_cases p0 (n := 4) (by decide) with ⟨e, hn⟩ | ⟨j, hj, rfl, e⟩
    · have a0 : ¬ p0 = 0 := hn 0 (by omega)
      have a1 : ¬ p0 = 1 := hn 1 (by omega)
      have a2 : ¬ p0 = 2 := hn 2 (by omega)
      have a3 : ¬ p0 = 3 := hn 3 (by omega)
      rw [if_neg a0, if_neg a1, if_neg a2, if_neg a3, e]
      exact ⟨_, _, _, rfl, rfl⟩
    · rw [e, if_neg d10]
      have eM : ∀ v, oLp (f_M_most_L22 (nI nb) (nI nm) Mh Kc Kv Kl Kt Kf Ku L' s' R B M W v) (0, 0) = (if v = 0 then ((f_M_richest (nI nb) (nI nm) W).bind fun a_5 => some (a_5, L', s')) else (if v = 1 then ((f_M_drained (nI nm) W).bind fun a_3 => (f_M_strongest (nI nm) M (((1 <<< (nI nm &&& 31)) - 1) &&& (a_3 ^^^ ((-1))))).bind fun a_4 => some (a_4, L', s')) else (if v = 2 then (some (bB (fun p => decide (wth M B W (W 6) nm (nI p) = -1)) 10, L', s')) else ((f_M_champion (nI nb) (nI nm) Mh Kc Kv Kl Kt Kf Ku L' s' R B M W).bind fun a_2 => some (a_2.1, a_2.2.1, a_2.2.2))))) := by
        intro v
        refine oLp_forM (fun j => (bB (fun p => decide (wth M B W (W 6) nm (nI p) = -1)) j, nI j)) (i := 0) (n := 10) (by omega) (fun j _ hj => ?_) ?_
        · unfold f_M_most_L22 f_M_most_J45
          dsimp only
          rw [if_neg (show ¬ (10 : Int32) ≤ nI j from nI_ge (b := 10) hj (by decide)), m_weatherOf h6 h5 hW (yA_maA hY), bind_some', nx_add]
          by_cases z : wth M B W (W 6) nm (nI j) = -1
          · rw [if_pos z]
            simp only [oL, bB, z, decide_true, if_true]
          · rw [if_neg z]
            simp only [oL, bB, z, decide_false]
            rfl
        · unfold f_M_most_L22
          dsimp only
          rw [if_pos (show (10 : Int32) ≤ nI 10 from by decide)]
      rw [eM]
      rcases (show j = 0 ∨ j = 1 ∨ j = 2 ∨ j = 3 by omega) with rfl | rfl | rfl | rfl
      · obtain ⟨v, r1, r2⟩ := q_richest x
        rw [if_pos (show nI 0 = 0 from rfl), if_pos (show nI 0 = 0 from rfl), r1, r2]
        exact ⟨_, _, _, rfl, rfl⟩
      · rw [if_neg (show ¬ nI 1 = 0 from d10), if_neg (show ¬ nI 1 = 0 from d10), if_pos (show nI 1 = 1 from rfl), if_pos (show nI 1 = 1 from rfl), c_strongest x, bind_some', m_drained h6, bind_some', m_strongest (q := fun m => ! decide (W m = -1)) h6 (fun m hm => hs_free h6 hm), bind_some']
        exact ⟨_, _, _, rfl, rfl⟩
      · obtain ⟨S', t1, t2⟩ := s_measure (S := S) (c := W 6) hY hO hW
        have eP : f_Sky_placesWithout S' = some (bB (fun p => decide (wth M B W (W 6) nm (nI p) = -1)) 10) := by
          unfold f_Sky_placesWithout
          refine oLp_for (fun j => (bB (fun p => decide (wth M B W (W 6) nm (nI p) = -1)) j, nI j)) (i := 0) (n := 10) (by omega) (fun j _ hj => ?_) ?_
          · unfold f_Sky_placesWithout_L4 f_Sky_placesWithout_J27
            dsimp only
            rw [if_neg (show ¬ (10 : Int32) ≤ nI j from nI_ge (b := 10) hj (by decide)), s_strongest hj t2, bind_some', nx_add]
            by_cases z : wth M B W (W 6) nm (nI j) = -1
            · rw [if_pos z]
              simp only [oL, bB, z, decide_true, if_true]
            · rw [if_neg z]
              simp only [oL, bB, z, decide_false]
              rfl
          · rfl
        rw [if_neg (show ¬ nI 2 = 0 from d20), if_neg (show ¬ nI 2 = 0 from d20), if_neg (show ¬ nI 2 = 1 from by decide), if_neg (show ¬ nI 2 = 1 from by decide), if_pos (show nI 2 = 2 from rfl), if_pos (show nI 2 = 2 from rfl), t1, bind_some', eP, bind_some']
        exact ⟨_, _, _, rfl, rfl⟩
      · obtain ⟨v, u, u', r1, r2⟩ := q_champion (s := s) (L := L) (s' := s') (L' := L') x
        rw [if_neg (show ¬ nI 3 = 0 from by decide), if_neg (show ¬ nI 3 = 0 from by decide), if_neg (show ¬ nI 3 = 1 from by decide), if_neg (show ¬ nI 3 = 1 from by decide), if_neg (show ¬ nI 3 = 2 from by decide), if_neg (show ¬ nI 3 = 2 from by decide), if_pos (show nI 3 = 3 from rfl), r1, r2]
        exact ⟨_, _, _, rfl, rfl⟩
