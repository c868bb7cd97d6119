/-! a day, its log -/
theorem nx_or (a b : Nat) : nI a ||| nI b = nI (a ||| b) := by
  apply Int32.toBitVec_inj.mp
  rw [Int32.toBitVec_or]
  show BitVec.ofNat 32 a ||| BitVec.ofNat 32 b = BitVec.ofNat 32 (a ||| b)
  exact (BitVec.ofNat_or).symm
theorem bB_nat {q : Nat → Bool} : ∀ n, n ≤ 6 → ∃ v : Nat, v < 2 ^ n ∧ bB q n = nI v := by
  have hsh : ∀ n : Fin 6, (1 : Int32) <<< (nI n.val &&& 31) = nI (2 ^ n.val) := by decide +kernel
  intro n
  induction n with
  | zero => intro _; exact ⟨0, (by decide), rfl⟩
  | succ n ih =>
    intro hn
    obtain ⟨v, hv, e⟩ := ih (by omega)
    have hp : 2 ^ n < 2 ^ (n + 1) := Nat.pow_lt_pow_right (by decide) (by omega)
    unfold bB
    rw [e]
    by_cases z : q n = true
    · rw [if_pos z, hsh ⟨n, (by omega)⟩, nx_or]
      exact ⟨v ||| 2 ^ n, Nat.or_lt_two_pow (by omega) hp, rfl⟩
    · rw [if_neg z, show (0 : Int32) = nI 0 from rfl, nx_or, Nat.or_zero]
      exact ⟨v, (by omega), rfl⟩
theorem cnt_nat {M B F O : Nat → Int32} {c : Int32} {nm nf : Nat} (h : nf ≤ 6) : ∃ v : Nat, v < 64 ∧ cnt M B F O c nm nf = nI v := by
  obtain ⟨v, hv, e⟩ := bB_nat (q := fun f => decide (wth M B O c nm (F (3 * f)) = F (3 * f + 1))) nf h
  have : 2 ^ nf ≤ 2 ^ 6 := Nat.pow_le_pow_right (by decide) h
  exact ⟨v, by have h6 : (2 : Nat) ^ 6 = 64 := rfl
               omega, e⟩
theorem pyS_nat {F : Nat → Int32} {v : Int32} {nf : Nat} (hF : faA F nf) : ∀ n, n ≤ nf → ∃ p : Nat, p ≤ 9 * n ∧ pyS F v n = nI p := by
  intro n
  induction n with
  | zero => intro _; exact ⟨0, (by omega), rfl⟩
  | succ n ih =>
    intro hn
    obtain ⟨p, hp, e⟩ := ih (by omega)
    obtain ⟨g, hg, eg⟩ := (hF n (by omega)).2.2
    unfold pyS
    rw [e]
    split
    · rw [Int32.add_zero]
      exact ⟨p, (by omega), rfl⟩
    · rw [eg, nI_add]
      exact ⟨p + g, (by omega), rfl⟩
theorem bt_nI {k i : Nat} (hk : k < 2 ^ 32) (hi : i < 32) : bt (nI k) i = k.testBit i := by
  unfold bt
  show (BitVec.ofNat 32 k).getLsbD i = _
  rw [BitVec.getLsbD_ofNat]
  simp [hi]
theorem ent_pack {s c : Nat} (hs : s ≤ 999) (hc : c < 64) : (nI s <<< ((6 : Int32) &&& 31)) ||| nI c = nI (64 * s + c) := by
  refine b_ext (fun i hi => ?_)
  have e : (64 * s + c).testBit i = if i < 6 then c.testBit i else s.testBit (i - 6) := Nat.testBit_two_pow_mul_add (i := 6) s hc i
  rw [b_or, show ((6 : Int32) &&& 31) = (nI 6 &&& 31) from rfl, b_shl 6 (by decide) _ hi, bt_nI (by omega) hi, bt_nI (by omega) hi, e]
  by_cases h6 : 6 ≤ i
  · have hcz : c.testBit i = false := Nat.testBit_lt_two_pow (Nat.lt_of_lt_of_le hc (show 2 ^ 6 ≤ 2 ^ i from Nat.pow_le_pow_right (by decide) h6))
    rw [if_neg (by omega), decide_eq_true h6, bt_nI (by omega) (by omega), hcz]
    simp
  · rw [if_pos (by omega), decide_eq_false h6]
    simp
theorem ent_s {s c : Nat} (hs : s ≤ 999) (hc : c < 64) : nI (64 * s + c) >>> ((6 : Int32) &&& 31) = nI s := by
  refine b_ext (fun i hi => ?_)
  have e : ∀ i, (64 * s + c).testBit i = if i < 6 then c.testBit i else s.testBit (i - 6) := fun i => Nat.testBit_two_pow_mul_add (i := 6) s hc i
  rw [show ((6 : Int32) &&& 31) = (nI 6 &&& 31) from rfl, b_sshr 6 (by decide) _ hi, bt_nI (by omega) hi]
  by_cases h : 6 + i < 32
  · rw [if_pos h, bt_nI (by omega) h, e, if_neg (by omega)]
    congr 1
    omega
  · rw [if_neg h, bt_nI (by omega) (by decide), e, if_neg (by decide)]
    rw [Nat.testBit_lt_two_pow (show s < 2 ^ (31 - 6) by omega), Nat.testBit_lt_two_pow (Nat.lt_of_lt_of_le (show s < 2 ^ 10 by omega) (Nat.pow_le_pow_right (by decide) (show 10 ≤ i by omega)))]
theorem ent_c {s c : Nat} (hc : c < 64) : nI (64 * s + c) &&& 63 = nI c := by
  rw [show (63 : Int32) = nI 63 from rfl, nx_and]
  congr 1
  rw [show (63 : Nat) = 2 ^ 6 - 1 from rfl, Nat.and_two_pow_sub_one_eq_mod]
  show (64 * s + c) % 64 = c
  omega
theorem ring_nat {d i : Nat} (h : i < d) (hd : d ≤ 9999) : f_Past_ringIndex (nI d) (nI i) = some (nI ((d - 1 - i) % 128)) := by
  unfold f_Past_ringIndex
  have e1 : nI d - 1 = nI (d - 1) := nx_sub (by show 1 ≤ d; omega)
  rw [e1, nx_subN (by omega), show (127 : Int32) = nI 127 from rfl, nx_and]
  congr 2
  exact Nat.and_two_pow_sub_one_eq_mod _ 7
theorem ring_m1 {d : Nat} (hd : d ≤ 9999) : f_Past_ringIndex (nI d) (-1) = some (nI (d % 128)) := by
  unfold f_Past_ringIndex
  have e1 : nI d - 1 - (-1) = nI d := by
    rw [Int32.sub_eq_add_neg, Int32.sub_eq_add_neg, Int32.add_assoc, show (-1 : Int32) + -(-1) = 0 from by decide, Int32.add_zero]
  rw [e1, show (127 : Int32) = nI 127 from rfl, nx_and]
  congr 2
  exact Nat.and_two_pow_sub_one_eq_mod _ 7
theorem jmin_nat {a b : Nat} (ha : a < 2 ^ 31) (hb : b < 2 ^ 31) : jmin (nI a) (nI b) = nI (min a b) := by
  unfold jmin
  by_cases h : b < a
  · rw [if_pos (nI_lt h ha)]
    congr 1
    omega
  · rw [if_neg (fun q => h ((nx_lt hb ha).mp q))]
    congr 1
    omega
theorem m_J99 {V : Nat → Int32} {l : Nat} {v : Int32} (h : V 10 = nI l) (hl : l < 60) : f_M_passDay_J99 V v = some (upd (upd (upd V (11 + 2 * l) (V 8)) (12 + 2 * l) v) 10 (nI (l + 1))) := by
  unfold f_M_passDay_J99
  rw [nx_oI (by decide) (by decide), nx_oI (by decide) (by decide), nx_cl 10 (by decide), nx_cl 8 (by decide), show V (OfNat.ofNat 10) = nI l from h, nx_mull, nx_addl, oI_nI (j := OfNat.ofNat 11 + OfNat.ofNat 2 * l) (n := 131) (by show 11 + 2 * l < 131; omega) (by decide), nI_clamp (n := OfNat.ofNat 11 + OfNat.ofNat 2 * l) (by show 11 + 2 * l < 2 ^ 31; omega)]
  simp only [oL]
  have e1 : upd V (OfNat.ofNat 11 + OfNat.ofNat 2 * l) (V (OfNat.ofNat 8)) (OfNat.ofNat 10) = nI l := (upd_ne (by show 10 ≠ 11 + 2 * l; omega)).trans h
  rw [nx_oI (by decide) (by decide), e1, nx_mull, nx_addl, nx_add, oI_nI (j := OfNat.ofNat 11 + OfNat.ofNat 2 * l + OfNat.ofNat 1) (n := 131) (by show 11 + 2 * l + 1 < 131; omega) (by decide), nI_clamp (n := OfNat.ofNat 11 + OfNat.ofNat 2 * l + OfNat.ofNat 1) (by show 11 + 2 * l + 1 < 2 ^ 31; omega), nx_oI (by decide) (by decide), nx_oI (by decide) (by decide)]
  have e2 : upd (upd V (OfNat.ofNat 11 + OfNat.ofNat 2 * l) (V (OfNat.ofNat 8))) (OfNat.ofNat 11 + OfNat.ofNat 2 * l + OfNat.ofNat 1) v (OfNat.ofNat 10) = nI l := (upd_ne (by show 10 ≠ 11 + 2 * l + 1; omega)).trans e1
  rw [e2, nx_add]
  congr 1
  show upd (upd (upd V (11 + 2 * l) (V 8)) (11 + 2 * l + 1) v) 10 (nI (l + 1)) = _
  rw [show 11 + 2 * l + 1 = 12 + 2 * l by omega]
theorem sh_e : (120 : Int32) ≤ nI 120 := (nx_Lle (by decide) (by decide)).mpr (Nat.le_refl _)
theorem sh_e' : nI 60 - 1 = nI 59 := nx_pre1 59
theorem oL_eq {α ρ : Type} (x : α) (f : α → Option ρ) : oL x f = f x := rfl
theorem sh_c : (10 : Int32).toNatClampNeg = 10 := nx_cl 10 (by decide)
theorem m_shA {U : Nat → Int32} {cc : Int32} (e10 : U 10 = nI 60) : f_M_passDay_L56 cc (nI 120, U) = (f_M_passDay_J99 (upd U 10 (nI 59)) cc).map .inr := by
  unfold f_M_passDay_L56
  dsimp only
  rw [if_pos sh_e, nx_oI (by decide) (by decide), nx_oI (by decide) (by decide), sh_c, e10, sh_e', oL_eq]
theorem m_shB {U : Nat → Int32} {cc : Int32} {j : Nat} (hj : j < 118) : f_M_passDay_L56 cc (nI (2 + j), U) = some (Sum.inl (nI (2 + (j + 1)), upd U (11 + j) (U (13 + j)))) := by
  unfold f_M_passDay_L56
  dsimp only
  have e1 : (11 : Int32) + nI (2 + j) = nI (13 + j) := by
    rw [show (11 : Int32) = nI 11 from rfl, nI_add]
    exact congrArg nI (by omega)
  have e2 : nI (13 + j) - 2 = nI (11 + j) := by
    rw [show (2 : Int32) = nI 2 from rfl, nx_subN (by omega)]
    exact congrArg nI (by omega)
  rw [if_neg (show ¬ (120 : Int32) ≤ nI (2 + j) from nI_ge (b := 120) (by omega) (by decide)), e1, e2, oI_nI (j := 13 + j) (n := 131) (by omega) (by decide), oI_nI (j := 11 + j) (n := 131) (by omega) (by decide), nI_clamp (n := 13 + j) (by omega), nI_clamp (n := 11 + j) (by omega), show nI (2 + j) + 1 = nI (2 + (j + 1)) from nI_add (2 + j) 1]
  simp only [oL]
theorem m_shift {V : Nat → Int32} {cc : Int32} (v60 : V 10 = nI 60) : ∃ U : Nat → Int32, oLp (f_M_passDay_L56 cc) (2, V) = f_M_passDay_J99 U cc ∧ U 10 = nI 59 ∧ (∀ j, j < 10 → U j = V j) ∧ ∀ t, t < 118 → U (11 + t) = V (13 + t) := by
  refine qlp1 (fun j (t : Int32 × (Nat → Int32)) => ∃ U : Nat → Int32, t = (nI (2 + j), U) ∧ (∀ i, i < 11 → U i = V i) ∧ (∀ i, i < j → U (11 + i) = V (13 + i)) ∧ ∀ i, 11 + j ≤ i → U i = V i) (fun r => ∃ U : Nat → Int32, r = f_M_passDay_J99 U cc ∧ U 10 = nI 59 ∧ (∀ j, j < 10 → U j = V j) ∧ ∀ t, t < 118 → U (11 + t) = V (13 + t)) (n := 118) ?_ ?_ (j := 0) (by omega) ⟨V, rfl, fun _ _ => rfl, fun i hi => absurd hi (by omega), fun _ _ => rfl⟩
  · rintro j t hj ⟨U, rfl, h1, h2, h3⟩
    left
    refine ⟨(nI (2 + (j + 1)), upd U (11 + j) (U (13 + j))), ?_, _, rfl, fun i hi => ?_, fun i hi => ?_, fun i hi => ?_⟩
    · exact m_shB hj
    · rw [upd_ne (by omega)]
      exact h1 i hi
    · by_cases e : i = j
      · subst e
        rw [upd_at, h3 _ (by omega)]
      · rw [upd_ne (by omega)]
        exact h2 i (by omega)
    · rw [upd_ne (by omega)]
      exact h3 i (by omega)
  · rintro t ⟨U, rfl, h1, h2, h3⟩
    refine ⟨upd U 10 (nI 59), oLp_map ?_, upd_at, fun j hj => (upd_ne (by omega)).trans (h1 j (by omega)), fun t ht => (upd_ne (by omega)).trans (h2 t ht)⟩
    exact m_shA ((h1 10 (by omega)).trans v60)
theorem m_pass1 {Y C R B M F W : Nat → Int32} {mb mm mf : Int32} {nb nm nf D p cc sw : Nat} (h : yA Y C mb mm mf R B M F nb nm nf) (s1 : owA W nb nm) (s3 : W 9 = nI D) (s5 : W 10 = nI (min D 60)) (ec : cnt M B F W (W 6) nm nf = nI cc) (ep : pyS F (nI cc) nf = nI p) (esw : jmin 999 (W 8 + nI p) = nI (min 999 (sw + p))) : f_M_passDay (nI nm) (nI nf) B M F W = if min D 60 = 60 then oLp (f_M_passDay_L56 (nI cc)) (2, upd (upd W 8 (nI (min 999 (sw + p)))) 9 (nI (D + 1))) else f_M_passDay_J99 (upd (upd W 8 (nI (min 999 (sw + p)))) 9 (nI (D + 1))) (nI cc) := by
  have hY := h
  obtain ⟨⟨h5, h6, h6'⟩, ⟨c1, c2, c3⟩, ⟨e1, e2, e3⟩, hr, hbo, hma, hfa, rb, rm, rf, r0, r1, r2⟩ := h
  unfold f_M_passDay
  rw [m_contents h6 h5 h6' s1 (yA_maA hY), bind_some', nx_oI (by decide) (by decide), m_payOf h6', bind_some', ec, ep, nx_oI (by decide) (by decide), nx_cl 8 (by decide), show W (OfNat.ofNat 8) = W 8 from rfl, esw]
  simp only [oL]
  rw [nx_oI (by decide) (by decide), nx_oI (by decide) (by decide), nx_cl 9 (by decide), show upd W (OfNat.ofNat 8) (nI (min 999 (sw + p))) (OfNat.ofNat 9) = nI D from (upd_ne (show (9 : Nat) ≠ 8 by decide)).trans s3, nx_add, nx_oI (by decide) (by decide), nx_cl 10 (by decide), show upd (upd W (OfNat.ofNat 8) (nI (min 999 (sw + p)))) (OfNat.ofNat 9) (nI (D + OfNat.ofNat 1)) (OfNat.ofNat 10) = nI (min D 60) from (upd_ne (show (10 : Nat) ≠ 9 by decide)).trans ((upd_ne (show (10 : Nat) ≠ 8 by decide)).trans s5)]
  by_cases z : min D 60 = 60
  · rw [if_pos z, if_pos (show nI (min D 60) = 60 by rw [z]; rfl)]
  · rw [if_neg z, if_neg (show ¬ nI (min D 60) = 60 from nx_neL (b := 60) z (by omega) (by decide))]
theorem p_passDay {Y C R B M F On W E S : Nat → Int32} {mb mm mf : Int32} {nb nm nf D : Nat} (h : yA Y C mb mm mf R B M F nb nm nf) (hO : ∀ m, m < nm → On m = W m) (hst : stL W E nb nm D) (hD : D < 9999) : ∃ (W' S' : Nat → Int32) (v : Int32), f_Main_passDay Y C (nI nm) (W 6) (W 8) (W 9) On E S = some (W' 8, W' 9, upd E (D % 128) v, S') ∧ f_M_passDay (nI nm) (nI nf) B M F W = some W' ∧ (∀ j, j < 8 → W' j = W j) ∧ W' 9 = nI (D + 1) ∧ stL W' (upd E (D % 128) v) nb nm (D + 1) := by
  have hY := h
  obtain ⟨⟨h5, h6, h6'⟩, ⟨c1, c2, c3⟩, ⟨e1, e2, e3⟩, hr, hbo, hma, hfa, rb, rm, rf, r0, r1, r2⟩ := h
  obtain ⟨s1, s2, s3, s4, s5, s6⟩ := hst
  obtain ⟨k6, k7, ⟨sw, hsw, e8⟩, k9⟩ := s2
  obtain ⟨S', hS'⟩ := s_contentNow (S := S) (c := W 6) hY hO s1
  obtain ⟨cc, hcc, ec⟩ := cnt_nat (M := M) (B := B) (F := F) (O := W) (c := W 6) (nm := nm) h6'
  obtain ⟨p, hp, ep⟩ := pyS_nat (v := nI cc) (yA_faA hY) nf (Nat.le_refl _)
  have esw : jmin 999 (W 8 + nI p) = nI (min 999 (sw + p)) := by
    rw [e8, nI_add]
    exact jmin_nat (a := 999) (by decide) (by omega)
  have hC : ∀ v, (nI (min 999 (sw + p)) <<< ((6 : Int32) &&& 31)) ||| nI cc = v → f_Main_passDay Y C (nI nm) (W 6) (W 8) (W 9) On E S = some (nI (min 999 (sw + p)), nI (D + 1), upd E (D % 128) v, S') := by
    intro v hv
    unfold f_Main_passDay f_Past_write
    rw [hS', bind_some']
    dsimp only
    rw [y_paymentOf hY, bind_some', ec, ep, esw, s3]
    simp only [oL]
    rw [ring_m1 s4, bind_some', oI_nI (j := D % 128) (n := 128) (Nat.mod_lt _ (by decide)) (by decide), nI_clamp (n := D % 128) (by omega), hv, bind_some', nx_add]
  rw [ent_pack (by omega) hcc] at hC
  have hM := m_pass1 (p := p) (cc := cc) (sw := sw) hY s1 s3 s5 ec ep esw
  generalize hV : upd (upd W 8 (nI (min 999 (sw + p)))) 9 (nI (D + 1)) = V at hM
  have v8 : V 8 = nI (min 999 (sw + p)) := by rw [← hV]; exact (upd_ne (by decide)).trans upd_at
  have v9 : V 9 = nI (D + 1) := by rw [← hV]; exact upd_at
  have v10 : V 10 = nI (min D 60) := by rw [← hV]; exact (upd_ne (by decide)).trans ((upd_ne (by decide)).trans s5)
  have vlo : ∀ j, j < 8 → V j = W j := fun j hj => by rw [← hV]; exact (upd_ne (by omega)).trans (upd_ne (by omega))
  have vhi : ∀ j, 10 ≤ j → V j = W j := fun j hj => by rw [← hV]; exact (upd_ne (by omega)).trans (upd_ne (by omega))
  clear hV
  -- the last step, common to both
  have fin : ∀ (U : Nat → Int32) (l : Nat), l < 60 → U 10 = nI l → U 8 = nI (min 999 (sw + p)) → U 9 = nI (D + 1) → (∀ j, j < 8 → U j = W j) → l + 1 = min (D + 1) 60 → (∀ j, j < l → ∃ s c : Nat, s ≤ 999 ∧ c < 64 ∧ U (11 + 2 * j) = nI s ∧ U (12 + 2 * j) = nI c ∧ E ((D - l + j) % 128) = nI (64 * s + c)) → f_M_passDay (nI nm) (nI nf) B M F W = f_M_passDay_J99 U (nI cc) → ∃ (W' S' : Nat → Int32) (v : Int32), f_Main_passDay Y C (nI nm) (W 6) (W 8) (W 9) On E S = some (W' 8, W' 9, upd E (D % 128) v, S') ∧ f_M_passDay (nI nm) (nI nf) B M F W = some W' ∧ (∀ j, j < 8 → W' j = W j) ∧ W' 9 = nI (D + 1) ∧ stL W' (upd E (D % 128) v) nb nm (D + 1) := by
    intro U l hl u10 u8 u9 ulo hll hent hm
    rw [m_J99 u10 hl, u8] at hm
    have x8 : upd (upd (upd U (11 + 2 * l) (nI (min 999 (sw + p)))) (12 + 2 * l) (nI cc)) 10 (nI (l + 1)) 8 = nI (min 999 (sw + p)) := by rw [upd_ne (by omega), upd_ne (by omega), upd_ne (by omega), u8]
    have x9 : upd (upd (upd U (11 + 2 * l) (nI (min 999 (sw + p)))) (12 + 2 * l) (nI cc)) 10 (nI (l + 1)) 9 = nI (D + 1) := by rw [upd_ne (by omega), upd_ne (by omega), upd_ne (by omega), u9]
    have xlo : ∀ j, j < 8 → upd (upd (upd U (11 + 2 * l) (nI (min 999 (sw + p)))) (12 + 2 * l) (nI cc)) 10 (nI (l + 1)) j = W j := fun j hj => by rw [upd_ne (by omega), upd_ne (by omega), upd_ne (by omega), ulo j hj]
    refine ⟨_, S', nI (64 * min 999 (sw + p) + cc), ?_, hm, xlo, x9, ?_⟩
    · rw [hC _ rfl, x8, x9]
    · refine ⟨fun m hm => by rw [xlo m (by omega)]; exact s1 m hm, ⟨by rw [xlo 6 (by omega)]; exact k6, by rw [xlo 7 (by omega)]; exact k7, ⟨_, (by omega), x8⟩, ⟨D + 1, (by omega), x9⟩⟩, x9, (by omega), ?_, fun j hj => ?_⟩
      · rw [upd_at, hll]
      · by_cases ej : j = l
        · subst ej
          refine ⟨min 999 (sw + p), cc, (by omega), hcc, ?_, ?_, ?_⟩
          · rw [upd_ne (by omega), upd_ne (by omega), upd_at]
          · rw [upd_ne (by omega), upd_at]
          · rw [show (D + 1 - min (D + 1) 60 + j) = D by omega]
            exact upd_at
        · obtain ⟨s, c, h1, h2, h3, h4, h5⟩ := hent j (by omega)
          refine ⟨s, c, h1, h2, ?_, ?_, ?_⟩
          · rw [upd_ne (by omega), upd_ne (by omega), upd_ne (by omega), h3]
          · rw [upd_ne (by omega), upd_ne (by omega), upd_ne (by omega), h4]
          · rw [upd_ne (by omega), ← h5]
            congr 2
            omega
  by_cases z : min D 60 = 60
  · rw [if_pos z] at hM
    have hsh := m_shift (cc := nI cc) (V := V) (by rw [v10, z])
    obtain ⟨U, g1, g2, g3, g4⟩ := hsh
    rw [g1] at hM
    refine fin U 59 (by omega) g2 ((g3 8 (by omega)).trans v8) ((g3 9 (by omega)).trans v9) (fun j hj => (g3 j (by omega)).trans (vlo j hj)) (by omega) (fun j hj => ?_) hM
    obtain ⟨s, c, h1, h2, h3, h4, h5⟩ := s6 (j + 1) (by omega)
    refine ⟨s, c, h1, h2, ?_, ?_, ?_⟩
    · rw [g4 (2 * j) (by omega), vhi _ (by omega), ← h3]
      congr 1
      omega
    · rw [show 12 + 2 * j = 11 + (2 * j + 1) by omega, g4 (2 * j + 1) (by omega), vhi _ (by omega), ← h4]
      congr 1
      omega
    · rw [← h5]
      congr 2
      omega
  · rw [if_neg z] at hM
    refine fin V (min D 60) (by omega) v10 v8 v9 vlo (by omega) (fun j hj => ?_) hM
    obtain ⟨s, c, h1, h2, h3, h4, h5⟩ := s6 j hj
    exact ⟨s, c, h1, h2, by rw [vhi _ (by omega), h3], by rw [vhi _ (by omega), h4], h5⟩
