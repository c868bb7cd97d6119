/-! the whole yard -/
theorem p_whole {D Dc R B M F : Nat → Int32} {q nb nm nf : Nat} (x : drA D Dc R B M F q nb nm nf) : ∃ r, f_Yard_isWhole_C4 D Dc = some r ∧ f_M_isWhole (nI nb) (nI nm) M = some r ∧ (r = 0 ∨ (r = 1 ∧ 1 ≤ nb ∧ 1 ≤ nm ∧ ∀ m, m < nm → ∃ v : Nat, v < nb ∧ M (3 * m) = nI v)) := by
  obtain ⟨⟨b1, b2, b3, b4⟩, ⟨d0, d1, d2, d3⟩, r0, r1, r2, r3⟩ := x
  have cb : f_Yard_boys_C4 Dc = some (nI nb) := by rw [← d1]; rfl
  have cm : f_Yard_marbles_C4 Dc = some (nI nm) := by rw [← d2]; rfl
  have loop0 : ∀ j, j ≤ nm → oLp (f_M_isWhole_L22 (nI nb) (nI nm) M) (0, nI j) = some 0 := by
    intro j hj
    refine oLp_for (fun j => ((0 : Int32), nI j)) (i := j) (n := nm) hj (fun i _ hi => ?_) ?_
    · unfold f_M_isWhole_L22 f_M_isWhole_J55 f_M_isWhole_J56
      dsimp only
      rw [if_neg (nI_ge hi (by omega)), if_pos rfl, nx_add]
    · unfold f_M_isWhole_L22
      dsimp only
      rw [if_pos (nI_le (Nat.le_refl _) (by omega))]
      exact oZ0
  unfold f_Yard_isWhole_C4 f_M_isWhole f_M_isWhole_J18 f_M_isWhole_J19
  rw [cb, cm, bind_some', bind_some']
  by_cases hb : nb = 0
  · rw [if_pos ((nx_eqL (by omega) (by decide)).mpr hb), if_pos ((nx_leL (by omega) (by decide)).mpr (Nat.le_of_eq hb))]
    exact ⟨0, rfl, loop0 0 (by omega), Or.inl rfl⟩
  · rw [if_neg (fun q => hb ((nx_eqL (by omega) (by decide)).mp q)), if_neg (fun q => hb (Nat.le_zero.mp ((nx_leL (by omega) (by decide)).mp q)))]
    by_cases hm : nm = 0
    · rw [if_pos ((nx_eqL (by omega) (by decide)).mpr hm), if_pos ((nx_leL (by omega) (by decide)).mpr (Nat.le_of_eq hm))]
      exact ⟨0, rfl, loop0 0 (by omega), Or.inl rfl⟩
    · rw [if_neg (fun q => hm ((nx_eqL (by omega) (by decide)).mp q)), if_neg (fun q => hm (Nat.le_zero.mp ((nx_leL (by omega) (by decide)).mp q)))]
      refine qlp2 (fun j (s : Int32) (s' : Int32 × Int32) => s = nI j ∧ s' = (1, nI j) ∧ ∀ m, m < j → ∃ v : Nat, v < nb ∧ M (3 * m) = nI v) (fun r r' => ∃ u, r = some u ∧ r' = some u ∧ (u = 0 ∨ (u = 1 ∧ 1 ≤ nb ∧ 1 ≤ nm ∧ ∀ m, m < nm → ∃ v : Nat, v < nb ∧ M (3 * m) = nI v))) (n := nm) ?_ ?_ (j := 0) (by omega) ⟨rfl, rfl, fun m hm => absurd hm (by omega)⟩
      · rintro j s s' hj ⟨rfl, rfl, hall⟩
        obtain ⟨e1, v, hv, e2⟩ := r2 j hj 0 (by omega)
        have hv4 : v ≤ 4 := hv
        have e1 : D ((6 + j) * 3) = M (3 * j) := e1
        have e2 : M (3 * j) = nI v := e2
        have cf : f_Yard_firstOwner_C4 D (nI j) = some (nI v) := by
          rw [← e2, ← e1]
          exact y_firstOwner (by omega)
        by_cases hvb : v < nb
        · left
          refine ⟨nI (j + 1), (1, nI (j + 1)), ?_, ?_, rfl, rfl, fun m hm => ?_⟩
          · unfold f_Yard_isWhole_C4_L18
            rw [cm, bind_some', if_neg (nI_ge hj (by omega)), cf, bind_some', cb, bind_some', if_pos (nI_lt hvb (by omega)), nx_add]
          · unfold f_M_isWhole_L22 f_M_isWhole_J56
            dsimp only
            rw [if_neg (nI_ge hj (by omega)), if_neg d10, nx_mull, Int32.add_zero, oI_nI (j := 3 * j) (n := 18) (by omega) (by decide), nI_clamp (n := 3 * j) (by omega), e2, if_neg (nI_ge hvb (by omega)), nx_add]
          · rcases Nat.lt_or_ge m j with h | h
            · exact hall m h
            · have : m = j := (by omega)
              subst this
              exact ⟨v, hvb, e2⟩
        · right
          refine ⟨0, oLp_out ?_, ?_, Or.inl rfl⟩
          · unfold f_Yard_isWhole_C4_L18
            rw [cm, bind_some', if_neg (nI_ge hj (by omega)), cf, bind_some', cb, bind_some', if_neg (fun q => hvb ((nx_lt (by omega) (by omega)).mp q))]
          · rw [oLp_go (s' := (0, nI (j + 1)))]
            · exact loop0 (j + 1) (by omega)
            · unfold f_M_isWhole_L22 f_M_isWhole_J55 f_M_isWhole_J56
              dsimp only
              rw [if_neg (nI_ge hj (by omega)), if_neg d10, nx_mull, Int32.add_zero, oI_nI (j := 3 * j) (n := 18) (by omega) (by decide), nI_clamp (n := 3 * j) (by omega), e2, if_pos (nI_le (by omega) (by omega)), nx_add]
      · rintro s s' ⟨rfl, rfl, hall⟩
        refine ⟨1, oLp_out ?_, oLp_out ?_, Or.inr ⟨rfl, (by omega), (by omega), hall⟩⟩
        · unfold f_Yard_isWhole_C4_L18
          rw [cm, bind_some', if_pos (nI_le (Nat.le_refl _) (by omega))]
        · unfold f_M_isWhole_L22
          dsimp only
          rw [if_pos (nI_le (Nat.le_refl _) (by omega))]
          exact oZ1
def ydOut (t : Nat) (rc : tyC4) (rm : Option (Int32 × Int32 × Int32 × Int32 × Int32 × Int32 × (Nat → Int32) × (Nat → Int32) × (Nat → Int32) × (Nat → Int32))) : Prop :=
  (∃ (p x : Int32) (D' Dc' : Nat → Int32) (q nb nm nf : Nat) (R' B' M' F' : Nat → Int32), rc = some (1, p, D', Dc') ∧ rm = some (-1, x, -1, nI nb, nI nm, nI nf, R', B', M', F') ∧ drA D' Dc' R' B' M' F' q nb nm nf ∧ 1 ≤ nb ∧ 1 ≤ nm ∧ ∀ m, m < nm → ∃ v : Nat, v < nb ∧ M' (3 * m) = nI v)
  ∨ ∃ (p : Nat) (x : Int32) (D' Dc' : Nat → Int32) (y1 y2 y3 : Int32) (R' B' M' F' : Nat → Int32), rc = some (0, nI p, D', Dc') ∧ rm = some (nI p, x, nI p, y1, y2, y3, R', B', M', F') ∧ p ≤ t
theorem m_bodyOK {t a q nb nm nf : Nat} {X R B M F : Nat → Int32} {c : Int32} {is : Nat} (ht : t ≤ 240) (ha : a ≤ t) (hq : q ≤ 1) (h5 : nb ≤ 5) (h6 : nm ≤ 6) (h6' : nf ≤ 6) (hc : ch X t (lk X t a) = c) (h : (c = 115 ∧ q = 0 ∧ is = 1) ∨ (c = 98 ∧ nb < 5 ∧ is = 0) ∨ (c = 109 ∧ nm < 6 ∧ is = 0) ∨ (c = 102 ∧ nf < 6 ∧ is = 0)) : f_M_readYard_L54 (nI t) X (nI q, 1, nI a, -1, nI nb, nI nm, nI nf, R, B, M, F) = (f_M_clauseText (nI t) (nI (lk X t a)) (-1) (nI nb) (nI nm) (nI nf) X R B M F c).bind fun a_8 => f_M_readYard_J165 (nI t) a_8.1 a_8.2.1 a_8.2.2.1 a_8.2.2.2.1 a_8.2.2.2.2.1 X a_8.2.2.2.2.2.1 a_8.2.2.2.2.2.2.1 a_8.2.2.2.2.2.2.2.1 a_8.2.2.2.2.2.2.2.2 (nI (if is = 1 then 1 else q)) := by
  unfold f_M_readYard_L54
  dsimp only
  rw [if_neg d10, if_pos rfl, m_look ht ha, bind_some', hc]
  dsimp only
  have hq2 : q = 0 ∨ q = 1 := (by omega)
  rcases h with ⟨rfl, rfl, rfl⟩ | ⟨rfl, hn, rfl⟩ | ⟨rfl, hn, rfl⟩ | ⟨rfl, hn, rfl⟩
  · rw [if_pos rfl, if_pos rfl]
    rfl
  · rw [if_neg (by decide)]
    unfold f_M_readYard_J81 f_M_readYard_J125 f_M_readYard_J130 f_M_readYard_J147 f_M_readYard_J152
    rw [if_pos rfl, if_pos (show nI nb < 5 from nI_lt hn (by decide)), if_neg d10]
    rcases hq2 with rfl | rfl
    · rw [if_pos (show nI 0 = 0 from rfl), if_neg (by decide)]
      rfl
    · rw [if_neg (by decide)]
      rfl
  · rw [if_neg (by decide)]
    unfold f_M_readYard_J81 f_M_readYard_J95 f_M_readYard_J125 f_M_readYard_J130 f_M_readYard_J147 f_M_readYard_J152
    rw [if_neg (by decide), if_pos rfl, if_pos (show nI nm < 6 from nI_lt hn (by decide)), if_neg d10]
    rcases hq2 with rfl | rfl
    · rw [if_pos (show nI 0 = 0 from rfl), if_neg (by decide)]
      rfl
    · rw [if_neg (by decide)]
      rfl
  · rw [if_neg (by decide)]
    unfold f_M_readYard_J81 f_M_readYard_J95 f_M_readYard_J110 f_M_readYard_J125 f_M_readYard_J130 f_M_readYard_J147 f_M_readYard_J152
    rw [if_neg (by decide), if_neg (by decide), if_pos rfl, if_neg (show ¬ (6 : Int32) ≤ nI nf from nI_ge hn (by decide)), if_neg d10]
    rcases hq2 with rfl | rfl
    · rw [if_pos (show nI 0 = 0 from rfl), if_neg (by decide)]
      rfl
    · rw [if_neg (by decide)]
      rfl
theorem m_bodyNO {t a q nb nm nf : Nat} {X R B M F : Nat → Int32} {c : Int32} (ht : t ≤ 240) (ha : a ≤ t) (hq : q ≤ 1) (h5 : nb ≤ 5) (h6 : nm ≤ 6) (h6' : nf ≤ 6) (hc : ch X t (lk X t a) = c) (h1 : c = 115 → ¬ q = 0) (h2 : c = 98 → ¬ nb < 5) (h3 : c = 109 → ¬ nm < 6) (h4 : c = 102 → ¬ nf < 6) : f_M_readYard_L54 (nI t) X (nI q, 1, nI a, -1, nI nb, nI nm, nI nf, R, B, M, F) = some (.inl (nI q, 0, nI (lk X t a), nI (lk X t a), nI nb, nI nm, nI nf, R, B, M, F)) := by
  have hle := lk_le (X := X) ha
  have e129 : f_M_readYard_J129 (nI t) (nI (lk X t a)) (-1) (nI nb) (nI nm) (nI nf) X R B M F (nI q) c = some (.inl (nI q, 0, nI (lk X t a), nI (lk X t a), nI nb, nI nm, nI nf, R, B, M, F)) := by
    unfold f_M_readYard_J129 f_M_readYard_J130
    rw [if_pos rfl, m_bad, bind_some']
    unfold f_M_readYard_J165 f_M_readYard_J186 f_M_readYard_J187 f_M_readYard_J202
    rw [if_neg (m1_ne (by omega)), if_pos rfl, Int32.add_zero]
    rfl
  have e110 : f_M_readYard_J110 (nI t) (nI (lk X t a)) (-1) (nI nb) (nI nm) (nI nf) X R B M F (nI q) c = some (.inl (nI q, 0, nI (lk X t a), nI (lk X t a), nI nb, nI nm, nI nf, R, B, M, F)) := by
    unfold f_M_readYard_J110
    rw [e129]
    by_cases e : c = 102
    · rw [if_pos e, if_pos (show (6 : Int32) ≤ nI nf from nI_le (a := 6) (by have := h4 e; omega) (by omega))]
    · rw [if_neg e]
  have e95 : f_M_readYard_J95 (nI t) (nI (lk X t a)) (-1) (nI nb) (nI nm) (nI nf) X R B M F (nI q) c = some (.inl (nI q, 0, nI (lk X t a), nI (lk X t a), nI nb, nI nm, nI nf, R, B, M, F)) := by
    unfold f_M_readYard_J95
    rw [e110]
    by_cases e : c = 109
    · rw [if_pos e, if_neg (show ¬ nI nm < 6 from nx_nlt (b := 6) (by have := h3 e; omega) (by omega))]
    · rw [if_neg e]
  have e81 : f_M_readYard_J81 (nI t) (nI (lk X t a)) (-1) (nI nb) (nI nm) (nI nf) X R B M F (nI q) c = some (.inl (nI q, 0, nI (lk X t a), nI (lk X t a), nI nb, nI nm, nI nf, R, B, M, F)) := by
    unfold f_M_readYard_J81
    rw [e95]
    by_cases e : c = 98
    · rw [if_pos e, if_neg (show ¬ nI nb < 5 from nx_nlt (b := 5) (by have := h2 e; omega) (by omega))]
    · rw [if_neg e]
  unfold f_M_readYard_L54
  dsimp only
  rw [if_neg d10, if_pos rfl, m_look ht ha, bind_some', hc]
  dsimp only
  rw [e81]
  by_cases e : c = 115
  · rw [if_pos e, if_neg (fun z => h1 e ((nx_eqL (by omega) (by decide)).mp z))]
  · rw [if_neg e]
theorem p_ycl {t a q nb nm nf : Nat} {T X D Dc R B M F : Nat → Int32} (ht : tpA t T X) (ha : a ≤ t) (x : drA D Dc R B M F q nb nm nf) : (∃ is : Nat, yOut t a X q is (f_YardR_readClause (nI t) (nI a) T D Dc) (f_M_clauseText (nI t) (nI (lk X t a)) (-1) (nI nb) (nI nm) (nI nf) X R B M F (ch X t (lk X t a))) ∧ f_M_readYard_L54 (nI t) X (nI q, 1, nI a, -1, nI nb, nI nm, nI nf, R, B, M, F) = (f_M_clauseText (nI t) (nI (lk X t a)) (-1) (nI nb) (nI nm) (nI nf) X R B M F (ch X t (lk X t a))).bind fun a_8 => f_M_readYard_J165 (nI t) a_8.1 a_8.2.1 a_8.2.2.1 a_8.2.2.2.1 a_8.2.2.2.2.1 X a_8.2.2.2.2.2.1 a_8.2.2.2.2.2.2.1 a_8.2.2.2.2.2.2.2.1 a_8.2.2.2.2.2.2.2.2 (nI (if is = 1 then 1 else q))) ∨ (f_YardR_readClause (nI t) (nI a) T D Dc = some (0, nI (lk X t a), D, Dc) ∧ f_M_readYard_L54 (nI t) X (nI q, 1, nI a, -1, nI nb, nI nm, nI nf, R, B, M, F) = some (.inl (nI q, 0, nI (lk X t a), nI (lk X t a), nI nb, nI nm, nI nf, R, B, M, F))) := by
  have h240 := ht.1
  have hx := x
  obtain ⟨⟨b1, b2, b3, b4⟩, ⟨d0, d1, d2, d3⟩, r0, r1, r2, r3⟩ := x
  have full : ∀ (s i mx : Nat), s < 4 → tab2.getD s 0 = nI mx → f_YardR_sortOf (ch X t (lk X t a)) = some (nI s) → Dc s = nI i → mx ≤ i → i ≤ 6 → f_YardR_readClause (nI t) (nI a) T D Dc = some (0, nI (lk X t a), D, Dc) := by
    intro s i mx hs hx' hsrt hDc h1 h2
    unfold f_YardR_readClause
    rw [c_sign ht ha, bind_some']
    dsimp only
    rw [hsrt, bind_some', if_neg (m1_ne (by omega)), c_opensN hs hx' hDc h1 h2, bind_some']
    rfl
  by_cases e0 : ch X t (lk X t a) = 115
  · by_cases hn : q < 1
    · left
      rw [e0]
      exact ⟨1, p_ycl0 ht ha hx e0 hn, m_bodyOK h240 ha b1 b2 b3 b4 e0 (Or.inl ⟨rfl, (by omega), rfl⟩)⟩
    · right
      exact ⟨full 0 q 1 (by decide) (by decide) (by rw [e0]; exact c_sort0) d0 (by omega) (by omega), m_bodyNO h240 ha b1 b2 b3 b4 e0 (fun _ => (by omega)) (fun e => absurd e (by decide)) (fun e => absurd e (by decide)) (fun e => absurd e (by decide))⟩
  · by_cases e1 : ch X t (lk X t a) = 98
    · by_cases hn : nb < 5
      · left
        rw [e1]
        exact ⟨0, p_ycl1 ht ha hx e1 hn, m_bodyOK h240 ha b1 b2 b3 b4 e1 (Or.inr (Or.inl ⟨rfl, hn, rfl⟩))⟩
      · right
        exact ⟨full 1 nb 5 (by decide) (by decide) (by rw [e1]; exact c_sort1) d1 (by omega) (by omega), m_bodyNO h240 ha b1 b2 b3 b4 e1 (fun e => absurd e (by decide)) (fun _ => (by omega)) (fun e => absurd e (by decide)) (fun e => absurd e (by decide))⟩
    · by_cases e2 : ch X t (lk X t a) = 109
      · by_cases hn : nm < 6
        · left
          rw [e2]
          exact ⟨0, p_ycl2 ht ha hx e2 hn, m_bodyOK h240 ha b1 b2 b3 b4 e2 (Or.inr (Or.inr (Or.inl ⟨rfl, hn, rfl⟩)))⟩
        · right
          exact ⟨full 2 nm 6 (by decide) (by decide) (by rw [e2]; exact c_sort2) d2 (by omega) (by omega), m_bodyNO h240 ha b1 b2 b3 b4 e2 (fun e => absurd e (by decide)) (fun e => absurd e (by decide)) (fun _ => (by omega)) (fun e => absurd e (by decide))⟩
      · by_cases e3 : ch X t (lk X t a) = 102
        · by_cases hn : nf < 6
          · left
            rw [e3]
            exact ⟨0, p_ycl3 ht ha hx e3 hn, m_bodyOK h240 ha b1 b2 b3 b4 e3 (Or.inr (Or.inr (Or.inr ⟨rfl, hn, rfl⟩)))⟩
          · right
            exact ⟨full 3 nf 6 (by decide) (by decide) (by rw [e3]; exact c_sort3) d3 (by omega) (by omega), m_bodyNO h240 ha b1 b2 b3 b4 e3 (fun e => absurd e (by decide)) (fun e => absurd e (by decide)) (fun e => absurd e (by decide)) (fun _ => (by omega))⟩
        · right
          refine ⟨?_, m_bodyNO h240 ha b1 b2 b3 b4 rfl (fun e => absurd e e0) (fun e => absurd e e1) (fun e => absurd e e2) (fun e => absurd e e3)⟩
          unfold f_YardR_readClause
          rw [c_sign ht ha, bind_some']
          dsimp only
          rw [c_sortN e0 e1 e2 e3, bind_some', if_pos rfl]
