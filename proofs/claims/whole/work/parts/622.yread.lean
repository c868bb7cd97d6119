/-! the clauses of a yard -/
def rwR (s w r : Nat) (D A : Nat → Int32) (i : Nat) : Prop := ∀ k, k < w → D ((r + i) * 3 + k) = A (w * i + k) ∧ ∃ v : Nat, v ≤ hNt s k ∧ A (w * i + k) = nI v
theorem rwR_fr {s w r i : Nat} {D A D' A' : Nat → Int32} (x : rwR s w r D A i) (h1 : ∀ k, k < w → D' ((r + i) * 3 + k) = D ((r + i) * 3 + k)) (h2 : ∀ k, k < w → A' (w * i + k) = A (w * i + k)) : rwR s w r D' A' i := by
  intro k hk
  rw [h1 k hk, h2 k hk]
  exact x k hk
def drA (D Dc R B M F : Nat → Int32) (q nb nm nf : Nat) : Prop := (q ≤ 1 ∧ nb ≤ 5 ∧ nm ≤ 6 ∧ nf ≤ 6) ∧ (Dc 0 = nI q ∧ Dc 1 = nI nb ∧ Dc 2 = nI nm ∧ Dc 3 = nI nf) ∧ rwR 0 3 0 D R 0 ∧ (∀ i, i < nb → rwR 1 2 1 D B i) ∧ (∀ i, i < nm → rwR 2 3 6 D M i) ∧ ∀ i, i < nf → rwR 3 3 12 D F i
theorem c_sort0 : f_YardR_sortOf 115 = some (nI 0) := oLp_out rfl
theorem c_sort1 : f_YardR_sortOf 98 = some (nI 1) := by
  unfold f_YardR_sortOf
  rw [oLp_go (s' := 1) rfl]
  exact oLp_out rfl
theorem c_sort2 : f_YardR_sortOf 109 = some (nI 2) := by
  unfold f_YardR_sortOf
  rw [oLp_go (s' := 1) rfl, oLp_go (s' := 2) rfl]
  exact oLp_out rfl
theorem c_sort3 : f_YardR_sortOf 102 = some (nI 3) := by
  unfold f_YardR_sortOf
  rw [oLp_go (s' := 1) rfl, oLp_go (s' := 2) rfl, oLp_go (s' := 3) rfl]
  exact oLp_out rfl
theorem c_sortN {c : Int32} (h0 : ¬ c = 115) (h1 : ¬ c = 98) (h2 : ¬ c = 109) (h3 : ¬ c = 102) : f_YardR_sortOf c = some (-1) := by
  have t0 : tab0.length = 4 := by decide
  have hall : ∀ j, j < 4 → ¬ tab0.getD j 0 = c := by
    intro j hj
    rcases (show j = 0 ∨ j = 1 ∨ j = 2 ∨ j = 3 by omega) with rfl | rfl | rfl | rfl
    · exact fun e => h0 e.symm
    · exact fun e => h1 e.symm
    · exact fun e => h2 e.symm
    · exact fun e => h3 e.symm
  unfold f_YardR_sortOf
  refine oLp_for (fun j => nI j) (i := 0) (n := 4) (by omega) (fun j _ hj => ?_) ?_
  · unfold f_YardR_sortOf_L2
    rw [if_neg (show ¬ (4 : Int32) ≤ nI j from nI_ge hj (by decide)), t0, oI_nI (j := j) (n := 4) hj (by decide), nI_clamp (n := j) (by omega), if_neg (hall j hj), nx_add]
  · rfl
theorem c_opens {D Dc : Nat → Int32} {s i r mx : Nat} (hs : s < 4) (hr : tab1.getD s 0 = nI r) (hx : tab2.getD s 0 = nI mx) (hD : Dc s = nI i) (hi : i < mx) (hb : (r + i) * 3 + 3 ≤ 54 ∧ mx ≤ 6) : f_Yard_opens_C4 D Dc (nI s) = some (1, fl D ((r + i) * 3) s 3, upd Dc s (nI (i + 1))) := by
  have t2 : tab2.length = 4 := by decide
  unfold f_Yard_opens_C4
  rw [t2, oI_nI (j := s) (n := 4) hs (by decide), oI_nI (j := s) (n := 4) hs (by decide), nI_clamp (n := s) (by omega), hD, hx, if_pos (nI_lt hi (by omega)), oI_nI (j := s) (n := 4) hs (by decide), c_fillUsual hs hr hb.1, bind_some', oI_nI (j := s) (n := 4) hs (by decide), oI_nI (j := s) (n := 4) hs (by decide), nx_add]
  rfl
theorem c_opensN {D Dc : Nat → Int32} {s i mx : Nat} (hs : s < 4) (hx : tab2.getD s 0 = nI mx) (hD : Dc s = nI i) (hi : mx ≤ i) (hb : i ≤ 6) : f_Yard_opens_C4 D Dc (nI s) = some (0, D, Dc) := by
  have t2 : tab2.length = 4 := by decide
  unfold f_Yard_opens_C4
  rw [t2, oI_nI (j := s) (n := 4) hs (by decide), oI_nI (j := s) (n := 4) hs (by decide), nI_clamp (n := s) (by omega), hD, hx, if_neg (fun q => by have := (nx_lt (by omega) (by omega)).mp q; omega)]
abbrev tyC4 := Option (Int32 × Int32 × (Nat → Int32) × (Nat → Int32))
abbrev tyK9 := Option (Int32 × Int32 × Int32 × Int32 × Int32 × (Nat → Int32) × (Nat → Int32) × (Nat → Int32) × (Nat → Int32))
def yOut (t a : Nat) (X : Nat → Int32) (q : Nat) (is : Nat) (rc : tyC4) (rm : tyK9) : Prop :=
  (∃ (a' : Nat) (D' Dc' : Nat → Int32) (q' nb' nm' nf' : Nat) (R' B' M' F' : Nat → Int32), rc = some (1, nI a', D', Dc') ∧ rm = some (nI (lk X t a'), -1, nI nb', nI nm', nI nf', R', B', M', F') ∧ a < a' ∧ a' ≤ t ∧ drA D' Dc' R' B' M' F' q' nb' nm' nf' ∧ q' = (if is = 1 then 1 else q))
  ∨ ∃ (p : Nat) (x : Int32) (D' Dc' : Nat → Int32) (y1 y2 y3 : Int32) (R' B' M' F' : Nat → Int32), rc = some (0, nI p, D', Dc') ∧ rm = some (x, nI p, y1, y2, y3, R', B', M', F') ∧ p ≤ t
theorem p_ycl0 {t a q nb nm nf : Nat} {T X D Dc R B M F : Nat → Int32} (ht : tpA t T X) (ha : a ≤ t) (x : drA D Dc R B M F q nb nm nf) (hc : ch X t (lk X t a) = 115) (hm : q < 1) : yOut t a X q 1 (f_YardR_readClause (nI t) (nI a) T D Dc) (f_M_clauseText (nI t) (nI (lk X t a)) (-1) (nI nb) (nI nm) (nI nf) X R B M F 115) := by
  have h240 := ht.1
  obtain ⟨⟨b1, b2, b3, b4⟩, ⟨d0, d1, d2, d3⟩, r0, r1, r2, r3⟩ := x
  have hq0 : q = 0 := (by omega)
  subst hq0
  have hb1 := lk_ge (X := X) ha
  obtain ⟨hlt, _⟩ := ch_lt hc (by decide)
  unfold f_YardR_readClause f_M_clauseText
  rw [c_sign ht ha, bind_some', hc]
  dsimp only
  rw [show f_YardR_sortOf 115 = some (nI 0) from c_sort0, bind_some', if_neg (m1_ne (by decide)), c_opens (r := 0) (mx := 1) (by decide) (by decide) (by decide) d0 hm (by omega), bind_some']
  unfold f_Tape_step
  simp only [oL, bind_some', nx_add, nx_mull]
  rw [if_neg d10, if_neg (by decide), if_neg (by decide), if_pos trivial]
  have hit := p_items0 (i := 0) (A := R) ht (show lk X t a + 1 ≤ t by omega) hm (show upd Dc 0 (nI (0 + 1)) 0 = nI (0 + 1) from upd_at) (fun k hk => fl_in (A := D) (b := (0 + 0) * 3) (s := 0) 3 (show k < 3 by omega))
  rcases hit with ⟨a', D', A', x1, x2, x3, x4, x5, x6⟩ | ⟨p, x, D', A', x1, x2, x3⟩
  · left
    have x5' : ∀ j, (j < (0 + 0) * 3 ∨ (0 + 0) * 3 + 3 ≤ j) → D' j = D j := fun j hj => (x5 j hj).trans (fl_out 3 hj)
    rw [show f_M_items_M11 (nI t) (nI (lk X t a + 1)) (-1) X R 115 0 3 = _ from x2, bind_some']
    refine ⟨a', D', upd Dc 0 (nI (0 + 1)), 1, nb, nm, nf, A', B, M, F, x1, rfl, (by omega), (by omega), ⟨⟨(by omega), (by omega), (by omega), (by omega)⟩, ⟨upd_at, (upd_ne (by decide)).trans d1, (upd_ne (by decide)).trans d2, (upd_ne (by decide)).trans d3⟩, ?_, ?_, ?_, ?_⟩, rfl⟩
    · exact x4
    · exact fun i hi => rwR_fr (r1 i hi) (fun k hk => x5' _ (by omega)) (fun k hk => rfl)
    · exact fun i hi => rwR_fr (r2 i hi) (fun k hk => x5' _ (by omega)) (fun k hk => rfl)
    · exact fun i hi => rwR_fr (r3 i hi) (fun k hk => x5' _ (by omega)) (fun k hk => rfl)
  · right
    rw [show f_M_items_M11 (nI t) (nI (lk X t a + 1)) (-1) X R 115 0 3 = _ from x2, bind_some']
    exact ⟨p, x, D', _, _, _, _, _, _, _, _, x1, rfl, x3⟩
theorem p_ycl1 {t a q nb nm nf : Nat} {T X D Dc R B M F : Nat → Int32} (ht : tpA t T X) (ha : a ≤ t) (x : drA D Dc R B M F q nb nm nf) (hc : ch X t (lk X t a) = 98) (hm : nb < 5) : yOut t a X q 0 (f_YardR_readClause (nI t) (nI a) T D Dc) (f_M_clauseText (nI t) (nI (lk X t a)) (-1) (nI nb) (nI nm) (nI nf) X R B M F 98) := by
  have h240 := ht.1
  obtain ⟨⟨b1, b2, b3, b4⟩, ⟨d0, d1, d2, d3⟩, r0, r1, r2, r3⟩ := x
  have hb1 := lk_ge (X := X) ha
  obtain ⟨hlt, _⟩ := ch_lt hc (by decide)
  unfold f_YardR_readClause f_M_clauseText
  rw [c_sign ht ha, bind_some', hc]
  dsimp only
  rw [show f_YardR_sortOf 98 = some (nI 1) from c_sort1, bind_some', if_neg (m1_ne (by decide)), c_opens (r := 1) (mx := 5) (by decide) (by decide) (by decide) d1 hm (by omega), bind_some']
  unfold f_Tape_step
  simp only [oL, bind_some', nx_add, nx_mull]
  rw [if_neg d10, if_pos trivial]
  have hit := p_items1 (i := nb) (A := B) ht (show lk X t a + 1 ≤ t by omega) hm (show upd Dc 1 (nI (nb + 1)) 1 = nI (nb + 1) from upd_at) (fun k hk => fl_in (A := D) (b := (1 + nb) * 3) (s := 1) 3 (show k < 3 by omega))
  rcases hit with ⟨a', D', A', x1, x2, x3, x4, x5, x6⟩ | ⟨p, x, D', A', x1, x2, x3⟩
  · left
    have x5' : ∀ j, (j < (1 + nb) * 3 ∨ (1 + nb) * 3 + 3 ≤ j) → D' j = D j := fun j hj => (x5 j hj).trans (fl_out 3 hj)
    rw [x2, bind_some']
    refine ⟨a', D', upd Dc 1 (nI (nb + 1)), q, (nb + 1), nm, nf, R, A', M, F, x1, rfl, (by omega), (by omega), ⟨⟨(by omega), (by omega), (by omega), (by omega)⟩, ⟨(upd_ne (by decide)).trans d0, upd_at, (upd_ne (by decide)).trans d2, (upd_ne (by decide)).trans d3⟩, ?_, ?_, ?_, ?_⟩, rfl⟩
    · exact rwR_fr r0 (fun k hk => x5' _ (by omega)) (fun k hk => rfl)
    · intro i hi
      by_cases e : i = nb
      · subst e
        exact x4
      · exact rwR_fr (r1 i (by omega)) (fun k hk => x5' _ (by omega)) (fun k hk => x6 _ (by omega))
    · exact fun i hi => rwR_fr (r2 i hi) (fun k hk => x5' _ (by omega)) (fun k hk => rfl)
    · exact fun i hi => rwR_fr (r3 i hi) (fun k hk => x5' _ (by omega)) (fun k hk => rfl)
  · right
    rw [x2, bind_some']
    exact ⟨p, x, D', _, _, _, _, _, _, _, _, x1, rfl, x3⟩
theorem p_ycl2 {t a q nb nm nf : Nat} {T X D Dc R B M F : Nat → Int32} (ht : tpA t T X) (ha : a ≤ t) (x : drA D Dc R B M F q nb nm nf) (hc : ch X t (lk X t a) = 109) (hm : nm < 6) : yOut t a X q 0 (f_YardR_readClause (nI t) (nI a) T D Dc) (f_M_clauseText (nI t) (nI (lk X t a)) (-1) (nI nb) (nI nm) (nI nf) X R B M F 109) := by
  have h240 := ht.1
  obtain ⟨⟨b1, b2, b3, b4⟩, ⟨d0, d1, d2, d3⟩, r0, r1, r2, r3⟩ := x
  have hb1 := lk_ge (X := X) ha
  obtain ⟨hlt, _⟩ := ch_lt hc (by decide)
  unfold f_YardR_readClause f_M_clauseText
  rw [c_sign ht ha, bind_some', hc]
  dsimp only
  rw [show f_YardR_sortOf 109 = some (nI 2) from c_sort2, bind_some', if_neg (m1_ne (by decide)), c_opens (r := 6) (mx := 6) (by decide) (by decide) (by decide) d2 hm (by omega), bind_some']
  unfold f_Tape_step
  simp only [oL, bind_some', nx_add, nx_mull]
  rw [if_neg d10, if_neg (by decide), if_pos trivial]
  have hit := p_items2 (i := nm) (A := M) ht (show lk X t a + 1 ≤ t by omega) hm (show upd Dc 2 (nI (nm + 1)) 2 = nI (nm + 1) from upd_at) (fun k hk => fl_in (A := D) (b := (6 + nm) * 3) (s := 2) 3 (show k < 3 by omega))
  rcases hit with ⟨a', D', A', x1, x2, x3, x4, x5, x6⟩ | ⟨p, x, D', A', x1, x2, x3⟩
  · left
    have x5' : ∀ j, (j < (6 + nm) * 3 ∨ (6 + nm) * 3 + 3 ≤ j) → D' j = D j := fun j hj => (x5 j hj).trans (fl_out 3 hj)
    rw [x2, bind_some']
    refine ⟨a', D', upd Dc 2 (nI (nm + 1)), q, nb, (nm + 1), nf, R, B, A', F, x1, rfl, (by omega), (by omega), ⟨⟨(by omega), (by omega), (by omega), (by omega)⟩, ⟨(upd_ne (by decide)).trans d0, (upd_ne (by decide)).trans d1, upd_at, (upd_ne (by decide)).trans d3⟩, ?_, ?_, ?_, ?_⟩, rfl⟩
    · exact rwR_fr r0 (fun k hk => x5' _ (by omega)) (fun k hk => rfl)
    · exact fun i hi => rwR_fr (r1 i hi) (fun k hk => x5' _ (by omega)) (fun k hk => rfl)
    · intro i hi
      by_cases e : i = nm
      · subst e
        exact x4
      · exact rwR_fr (r2 i (by omega)) (fun k hk => x5' _ (by omega)) (fun k hk => x6 _ (by omega))
    · exact fun i hi => rwR_fr (r3 i hi) (fun k hk => x5' _ (by omega)) (fun k hk => rfl)
  · right
    rw [x2, bind_some']
    exact ⟨p, x, D', _, _, _, _, _, _, _, _, x1, rfl, x3⟩
theorem p_ycl3 {t a q nb nm nf : Nat} {T X D Dc R B M F : Nat → Int32} (ht : tpA t T X) (ha : a ≤ t) (x : drA D Dc R B M F q nb nm nf) (hc : ch X t (lk X t a) = 102) (hm : nf < 6) : yOut t a X q 0 (f_YardR_readClause (nI t) (nI a) T D Dc) (f_M_clauseText (nI t) (nI (lk X t a)) (-1) (nI nb) (nI nm) (nI nf) X R B M F 102) := by
  have h240 := ht.1
  obtain ⟨⟨b1, b2, b3, b4⟩, ⟨d0, d1, d2, d3⟩, r0, r1, r2, r3⟩ := x
  have hb1 := lk_ge (X := X) ha
  obtain ⟨hlt, _⟩ := ch_lt hc (by decide)
  unfold f_YardR_readClause f_M_clauseText
  rw [c_sign ht ha, bind_some', hc]
  dsimp only
  rw [show f_YardR_sortOf 102 = some (nI 3) from c_sort3, bind_some', if_neg (m1_ne (by decide)), c_opens (r := 12) (mx := 6) (by decide) (by decide) (by decide) d3 hm (by omega), bind_some']
  unfold f_Tape_step
  simp only [oL, bind_some', nx_add, nx_mull]
  rw [if_neg d10, if_neg (by decide), if_neg (by decide), if_neg (by decide)]
  have hit := p_items3 (i := nf) (A := F) ht (show lk X t a + 1 ≤ t by omega) hm (show upd Dc 3 (nI (nf + 1)) 3 = nI (nf + 1) from upd_at) (fun k hk => fl_in (A := D) (b := (12 + nf) * 3) (s := 3) 3 (show k < 3 by omega))
  rcases hit with ⟨a', D', A', x1, x2, x3, x4, x5, x6⟩ | ⟨p, x, D', A', x1, x2, x3⟩
  · left
    have x5' : ∀ j, (j < (12 + nf) * 3 ∨ (12 + nf) * 3 + 3 ≤ j) → D' j = D j := fun j hj => (x5 j hj).trans (fl_out 3 hj)
    rw [x2, bind_some']
    refine ⟨a', D', upd Dc 3 (nI (nf + 1)), q, nb, nm, (nf + 1), R, B, M, A', x1, rfl, (by omega), (by omega), ⟨⟨(by omega), (by omega), (by omega), (by omega)⟩, ⟨(upd_ne (by decide)).trans d0, (upd_ne (by decide)).trans d1, (upd_ne (by decide)).trans d2, upd_at⟩, ?_, ?_, ?_, ?_⟩, rfl⟩
    · exact rwR_fr r0 (fun k hk => x5' _ (by omega)) (fun k hk => rfl)
    · exact fun i hi => rwR_fr (r1 i hi) (fun k hk => x5' _ (by omega)) (fun k hk => rfl)
    · exact fun i hi => rwR_fr (r2 i hi) (fun k hk => x5' _ (by omega)) (fun k hk => rfl)
    · intro i hi
      by_cases e : i = nf
      · subst e
        exact x4
      · exact rwR_fr (r3 i (by omega)) (fun k hk => x5' _ (by omega)) (fun k hk => x6 _ (by omega))
  · right
    rw [x2, bind_some']
    exact ⟨p, x, D', _, _, _, _, _, _, _, _, x1, rfl, x3⟩
