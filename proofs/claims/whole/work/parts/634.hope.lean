/-! hopeless yards -/
theorem s_inh {Y C R B M F : Nat → Int32} {mb mm mf p : Int32} {nb nm nf : Nat} (h : yA Y C mb mm mf R B M F nb nm nf) : f_Sky_isInhabited Y C p = some 1 ∨ (f_Sky_isInhabited Y C p = some 0 ∧ ∀ b, b < nb → ¬ B (2 * b + 1) = p) := by
  obtain ⟨⟨h5, h6, h6'⟩, ⟨c1, c2, c3⟩, ⟨e1, e2, e3⟩, hr, hbo, hma, hfa, rb, rm, rf, r0, r1, r2⟩ := h
  unfold f_Sky_isInhabited
  refine qlp1 (fun j (s : Int32) => s = nI j ∧ ∀ b, b < j → ¬ B (2 * b + 1) = p) (fun r => r = some 1 ∨ (r = some 0 ∧ ∀ b, b < nb → ¬ B (2 * b + 1) = p)) (n := nb) ?_ ?_ (j := 0) (by omega) ⟨rfl, fun f hf => absurd hf (by omega)⟩
  · rintro j s hj ⟨rfl, hall⟩
    have eb : f_Sky_isInhabited_L2 Y C p (nI j) = if B (2 * j + 1) = p then some (.inr 1) else some (.inl (nI (j + 1))) := by
      unfold f_Sky_isInhabited_L2
      rw [y_boys, bind_some', c1, if_neg (nI_ge hj (by omega)), y_boyPlace (by omega), hbo j 1 hj (by omega), bind_some', nx_add]
    by_cases e : B (2 * j + 1) = p
    · rw [if_pos e] at eb
      exact Or.inr (Or.inl (oLp_out eb))
    · rw [if_neg e] at eb
      refine Or.inl ⟨_, eb, rfl, fun f hf => ?_⟩
      rcases Nat.lt_or_eq_of_le (Nat.le_of_lt_succ hf) with q | q
      · exact hall f q
      · subst q
        exact e
  · rintro s ⟨rfl, hall⟩
    refine Or.inr ⟨oLp_out ?_, hall⟩
    unfold f_Sky_isInhabited_L2
    rw [y_boys, bind_some', c1, if_pos (nI_le (Nat.le_refl nb) (by omega))]
theorem s_torn {Y C R B M F : Nat → Int32} {mb mm mf : Int32} {nb nm nf f : Nat} (h : yA Y C mb mm mf R B M F nb nm nf) (hf : f < nf) : f_Sky_isTorn Y C (nI f) = some 0 ∨ (f_Sky_isTorn Y C (nI f) = some 1 ∧ ∃ g, g < nf ∧ F (3 * g) = F (3 * f) ∧ ¬ F (3 * g + 1) = F (3 * f + 1)) := by
  obtain ⟨⟨h5, h6, h6'⟩, ⟨c1, c2, c3⟩, ⟨e1, e2, e3⟩, hr, hbo, hma, hfa, rb, rm, rf, r0, r1, r2⟩ := h
  unfold f_Sky_isTorn
  refine qlp1 (fun j (s : Int32) => s = nI j) (fun r => r = some 0 ∨ (r = some 1 ∧ ∃ g, g < nf ∧ F (3 * g) = F (3 * f) ∧ ¬ F (3 * g + 1) = F (3 * f + 1))) (n := nf) ?_ ?_ (j := 0) (by omega) rfl
  · rintro j s hj rfl
    have eb : f_Sky_isTorn_L2 Y C (nI f) (nI j) = if F (3 * j) = F (3 * f) then (if F (3 * j + 1) = F (3 * f + 1) then some (.inl (nI (j + 1))) else some (.inr 1)) else some (.inl (nI (j + 1))) := by
      unfold f_Sky_isTorn_L2 f_Sky_isTorn_J53
      rw [y_farms, bind_some', c3, if_neg (nI_ge hj (by omega)), y_farmPlace (by omega), bind_some', y_farmPlace (by omega), bind_some', y_wanted (by omega), bind_some', y_wanted (by omega), bind_some', nx_add, show Y ((12 + j) * 3) = F (3 * j) from hfa j 0 hj (by omega), show Y ((12 + f) * 3) = F (3 * f) from hfa f 0 hf (by omega), hfa j 1 hj (by omega), hfa f 1 hf (by omega)]
    by_cases e : F (3 * j) = F (3 * f)
    · rw [if_pos e] at eb
      by_cases e2 : F (3 * j + 1) = F (3 * f + 1)
      · rw [if_pos e2] at eb
        exact Or.inl ⟨_, eb, rfl⟩
      · rw [if_neg e2] at eb
        exact Or.inr (Or.inr ⟨oLp_out eb, j, hj, e, e2⟩)
    · rw [if_neg e] at eb
      exact Or.inl ⟨_, eb, rfl⟩
  · rintro s rfl
    refine Or.inl (oLp_out ?_)
    unfold f_Sky_isTorn_L2
    rw [y_farms, bind_some', c3, if_pos (nI_le (Nat.le_refl nf) (by omega))]
def pmB (F : Nat → Int32) (k : Int32) : Nat → Nat → Bool
  | 0, _ => false
  | j + 1, p => pmB F k j p || (decide (F (3 * j + 1) = k) && decide (F (3 * j) = nI p))
theorem pmB_ex {F : Nat → Int32} {k : Int32} {p : Nat} : ∀ j, pmB F k j p = true → ∃ g, g < j ∧ F (3 * g + 1) = k ∧ F (3 * g) = nI p := by
  intro j
  induction j with
  | zero => intro h; unfold pmB at h; cases h
  | succ j ih =>
    intro h
    unfold pmB at h
    rw [Bool.or_eq_true, Bool.and_eq_true] at h
    rcases h with h | ⟨h1, h2⟩
    · obtain ⟨g, g1, g2⟩ := ih h
      exact ⟨g, (by omega), g2⟩
    · exact ⟨j, (by omega), of_decide_eq_true h1, of_decide_eq_true h2⟩
theorem b_bit {p : Nat} (hp : p < 32) {i : Nat} (hi : i < 32) : bt ((1 : Int32) <<< (nI p &&& 31)) i = decide (i = p) := by
  have h1 : ∀ i, i < 32 → bt 1 i = decide (i = 0) := by decide +kernel
  rw [b_shl p hp 1 hi, h1 (i - p) (by omega)]
  by_cases e : i = p
  · subst e
    simp
  · by_cases e2 : p ≤ i
    · simp [e2, e, show ¬ i - p = 0 by omega]
    · simp [e2, e]
theorem wo_nat {v : Nat} {c : Int32} (hv : v ≤ 9) : ∃ n : Nat, n ≤ 9 ∧ wo (nI v) c = nI n := by
  unfold wo
  by_cases h : c = 0
  · rw [if_pos h]
    exact ⟨v, hv, rfl⟩
  · rw [if_neg h]
    rcases (show v = 0 ∨ v = 1 ∨ v = 2 ∨ v = 3 ∨ v = 4 ∨ v = 5 ∨ v = 6 ∨ v = 7 ∨ v = 8 ∨ v = 9 by omega) with rfl | rfl | rfl | rfl | rfl | rfl | rfl | rfl | rfl | rfl
    · exact ⟨0, (by omega), by decide⟩
    · exact ⟨0, (by omega), by decide⟩
    · exact ⟨0, (by omega), by decide⟩
    · exact ⟨1, (by omega), by decide⟩
    · exact ⟨2, (by omega), by decide⟩
    · exact ⟨3, (by omega), by decide⟩
    · exact ⟨4, (by omega), by decide⟩
    · exact ⟨5, (by omega), by decide⟩
    · exact ⟨6, (by omega), by decide⟩
    · exact ⟨7, (by omega), by decide⟩
def stB (M W : Nat → Int32) (k : Int32) (m : Nat) : Bool := decide (M (3 * m + 1) = k) && (decide (¬ W m = -1) && decide (¬ wo (M (3 * m + 2)) (hs (W 6) (nI m)) = 0))
theorem cnN_bd {q : Nat → Bool} : ∀ n, cnN q n ≤ n := by
  intro n
  induction n with
  | zero => exact Nat.le_refl _
  | succ n ih =>
    unfold cnN
    split <;> omega
theorem s_rare {Y C R B M F On W : Nat → Int32} {mb mm mf k : Int32} {nb nm nf : Nat} (h : yA Y C mb mm mf R B M F nb nm nf) (hO : ∀ m, m < nm → On m = W m) : f_Sky_isTooRare Y C (nI nm) (W 6) On k = some 0 ∨ (f_Sky_isTooRare Y C (nI nm) (W 6) On k = some 1 ∧ cnN (stB M W k) nm < cnN (pmB F k nf) 10) := by
  have hY := h
  obtain ⟨⟨h5, h6, h6'⟩, ⟨c1, c2, c3⟩, ⟨e1, e2, e3⟩, hr, hbo, hma, hfa, rb, rm, rf, r0, r1, r2⟩ := h
  have e55 : ∀ v2, oLp (f_Sky_isTooRare_L55 Y C (nI nm) (W 6) On k v2) (0, 0) = if bc v2 ≤ nI (cnN (stB M W k) nm) then some 0 else some 1 := by
    intro v2
    refine oLp_forM (fun j => (nI (cnN (stB M W k) j), nI j)) (i := 0) (n := nm) (by omega) (fun j _ hj => ?_) ?_
    · obtain ⟨v, hv, ev⟩ := (rm j hj).2.2
      obtain ⟨n, hn, en⟩ := wo_nat (c := hs (W 6) (nI j)) hv
      unfold f_Sky_isTooRare_L55 f_Sky_isTooRare_J113 f_Sky_isTooRare_J114
      dsimp only
      rw [y_marbles, bind_some', c2, if_neg (nI_ge hj (by omega)), y_kind (by omega), bind_some', hma j 1 hj (by omega), n_isDrained hj h6, bind_some', hO j hj, s_sound hY hj, bind_some', ev, en]
      have eq : cnN (stB M W k) (j + 1) = cnN (stB M W k) j + (if stB M W k j = true then 1 else 0) := rfl
      rw [eq]
      simp only [oL, nx_add, Int32.add_zero]
      unfold stB
      rw [ev, en]
      by_cases z1 : M (3 * j + 1) = k
      · rw [if_pos z1]
        by_cases z2 : W j = -1
        · rw [if_pos z2, if_neg d10]
          simp [z2]
        · rw [if_neg z2, if_pos rfl]
          by_cases z3 : nI n ≤ 0
          · have z4 : nI n = 0 := by
              have := (nx_leL (by omega) (by decide)).mp z3
              have : n = 0 := Nat.le_zero.mp this
              rw [this]
              rfl
            rw [if_pos z3]
            simp [z1, z2, z4]
          · have z4 : ¬ nI n = 0 := fun q => z3 (by rw [q]; decide)
            rw [if_neg z3]
            simp [z1, z2, z4]
      · rw [if_neg z1]
        simp [z1]
    · unfold f_Sky_isTooRare_L55
      dsimp only
      rw [y_marbles, bind_some', c2, if_pos (nI_le (Nat.le_refl nm) (by omega)), j_bitCount, bind_some']
  have e4 : f_Sky_isTooRare Y C (nI nm) (W 6) On k = if bc (bB (pmB F k nf) 10) ≤ nI (cnN (stB M W k) nm) then some 0 else some 1 := by
    unfold f_Sky_isTooRare
    rw [← e55]
    have z0 : bB (pmB F k 0) 10 = 0 := by simp [bB, pmB]
    suffices key : oLp (f_Sky_isTooRare_L4 Y C (nI nm) (W 6) On k) (bB (pmB F k 0) 10, nI 0) = oLp (f_Sky_isTooRare_L55 Y C (nI nm) (W 6) On k (bB (pmB F k nf) 10)) (0, 0) by
      rw [z0] at key
      exact key
    refine oLp_forM (fun j => (bB (pmB F k j) 10, nI j)) (i := 0) (n := nf) (by omega) (fun j _ hj => ?_) ?_
    · obtain ⟨p, hp, ep⟩ := (rf j hj).1
      unfold f_Sky_isTooRare_L4 f_Sky_isTooRare_J42
      dsimp only
      rw [y_farms, bind_some', c3, if_neg (nI_ge hj (by omega)), y_wanted (by omega), bind_some', hfa j 1 hj (by omega), y_farmPlace (by omega), bind_some', show Y ((12 + j) * 3) = F (3 * j) from hfa j 0 hj (by omega), ep, nx_add]
      simp only [oL]
      by_cases z : F (3 * j + 1) = k
      · rw [if_pos z]
        congr 3
        refine b_ext (fun i hi => ?_)
        rw [b_or, bB_bt (by omega) hi, b_bit (by omega) hi, bB_bt (by omega) hi]
        show _ = (decide (i < 10) && (pmB F k j i || (decide (F (3 * j + 1) = k) && decide (F (3 * j) = nI i))))
        rw [decide_eq_true z, Bool.true_and, ep]
        by_cases e : i = p
        · subst e
          simp [show i < 10 by omega]
        · have : ¬ nI p = nI i := fun q => e (nI_inj (by omega) (by omega) q).symm
          simp [e, this]
      · rw [if_neg z]
        congr 3
        refine b_ext (fun i hi => ?_)
        rw [b_or, bB_bt (by omega) hi, b_0, bB_bt (by omega) hi]
        show _ = (decide (i < 10) && (pmB F k j i || (decide (F (3 * j + 1) = k) && decide (F (3 * j) = nI i))))
        rw [decide_eq_false z, Bool.false_and]
        simp
    · unfold f_Sky_isTooRare_L4
      dsimp only
      rw [y_farms, bind_some', c3, if_pos (nI_le (Nat.le_refl nf) (by omega))]
  rw [e4, bc10]
  have q1 := cnN_bd (q := pmB F k nf) 10
  have q2 := cnN_bd (q := stB M W k) nm
  by_cases z : nI (cnN (pmB F k nf) 10) ≤ nI (cnN (stB M W k) nm)
  · rw [if_pos z]
    exact Or.inl rfl
  · rw [if_neg z]
    exact Or.inr ⟨rfl, Nat.lt_of_not_le (fun q => z (nI_le q (by omega)))⟩
theorem s_hope {Y C R B M F On W : Nat → Int32} {mb mm mf : Int32} {nb nm nf : Nat} (h : yA Y C mb mm mf R B M F nb nm nf) (hO : ∀ m, m < nm → On m = W m) (hW : owA W nb nm) : f_Sky_isHopeless Y C (nI nm) (W 6) On = some 0 ∨ (f_Sky_isHopeless Y C (nI nm) (W 6) On = some 1 ∧ ∀ σ, ¬ sS W (frP W) ChM (Cnt M B F (W 6) nm nf) nb nm 0 W σ) := by
  have hY := h
  obtain ⟨⟨h5, h6, h6'⟩, ⟨c1, c2, c3⟩, ⟨e1, e2, e3⟩, hr, hbo, hma, hfa, rb, rm, rf, r0, r1, r2⟩ := h
  have own : ∀ σ, sS W (frP W) ChM (Cnt M B F (W 6) nm nf) nb nm 0 W σ → ∀ m, m < nm → ¬ σ m = -1 → ¬ W m = -1 ∧ ∃ b, b < nb ∧ σ m = nI b := by
    intro σ hσ m hm hne
    rcases hσ.2.1 m (by omega) hm with ⟨q1, b, hb, e, _⟩ | ⟨q1, e⟩
    · rcases fre_0 h5 hW hm with ⟨q2, _⟩ | ⟨_, _, b0, hb0, e0⟩
      · exact absurd q1 q2
      · exact ⟨by rw [e0]; exact m1_ne (by omega), b, hb, e⟩
    · rw [e] at hne ⊢
      rcases hW m hm with q | q
      · exact absurd q hne
      · exact ⟨hne, q⟩
  unfold f_Sky_isHopeless
  refine qlp1 (fun j (s : Int32) => s = nI j) (fun r => r = some 0 ∨ (r = some 1 ∧ ∀ σ, ¬ sS W (frP W) ChM (Cnt M B F (W 6) nm nf) nb nm 0 W σ)) (n := nf) ?_ ?_ (j := 0) (by omega) rfl
  · rintro j s hj rfl
    obtain ⟨p, hp, ep⟩ := (rf j hj).1
    obtain ⟨k, hk, ek⟩ := (rf j hj).2.1
    have hne : ∀ σ, sS W (frP W) ChM (Cnt M B F (W 6) nm nf) nb nm 0 W σ → wth M B σ (W 6) nm (F (3 * j)) = nI k := fun σ hσ => (hσ.2.2 j hj).trans ek
    have eb : ∀ E, f_Sky_isHopeless_L2 Y C (nI nm) (W 6) On (nI j) = E ↔ ((f_Sky_isInhabited Y C (F (3 * j))).bind fun a_3 => if a_3 = 0 then (some (.inr 1)) else ((f_Sky_isTorn Y C (nI j)).bind fun a_4 => if a_4 = 0 then ((f_Sky_isTooRare Y C (nI nm) (W 6) On (nI k)).bind fun a_6 => if a_6 = 0 then (some (.inl (nI (j + 1)))) else (some (.inr 1))) else (some (.inr 1)))) = E := by
      intro E
      unfold f_Sky_isHopeless_L2
      rw [y_farms, bind_some', c3, if_neg (nI_ge hj (by omega)), y_farmPlace (by omega), bind_some', show Y ((12 + j) * 3) = F (3 * j) from hfa j 0 hj (by omega), y_wanted (by omega), bind_some', hfa j 1 hj (by omega), ek, nx_add]
    rcases s_inh (p := F (3 * j)) hY with q | ⟨q, q2⟩
    · rcases s_torn hY hj with w | ⟨w, g, g1, g2, g3⟩
      · rcases s_rare (k := nI k) hY hO with v | ⟨v, v2⟩
        · refine Or.inl ⟨nI (j + 1), (eb _).mpr ?_, rfl⟩
          rw [q, bind_some', if_neg d10, w, bind_some', if_pos rfl, v, bind_some', if_pos rfl]
        · refine Or.inr (Or.inr ⟨oLp_out ((eb _).mpr ?_), fun σ hσ => ?_⟩)
          · rw [q, bind_some', if_neg d10, w, bind_some', if_pos rfl, v, bind_some', if_neg d10]
          · have hp := pig (q := pmB F (nI k) nf) (S := stB M W (nI k)) (g := fun m => (B (2 * (σ m).toNatClampNeg + 1)).toNatClampNeg) (nm := nm) 10 (fun p hp hq => by
              obtain ⟨g, g1, g2, g3⟩ := pmB_ex nf hq
              have hw : wth M B σ (W 6) nm (F (3 * g)) = nI k := (hσ.2.2 g g1).trans g2
              obtain ⟨m, m1, m2, m3, m4, m5⟩ := need_m (show k < 2 ^ 31 by omega) hw
              refine ⟨m, m1, ?_, ?_⟩
              · unfold stB
                simp [m3, (own σ hσ m m1 m2).1, m5]
              · show (B (2 * (σ m).toNatClampNeg + 1)).toNatClampNeg = p
                rw [m4, g3, nI_clamp (by omega)])
            have hl := cnN_le (q := fun m => stB M W (nI k) m && decide ((B (2 * (σ m).toNatClampNeg + 1)).toNatClampNeg < 10)) (q' := stB M W (nI k)) nm (fun m _ hq => by
              rw [Bool.and_eq_true] at hq
              exact hq.1)
            omega
      · refine Or.inr (Or.inr ⟨oLp_out ((eb _).mpr ?_), fun σ hσ => ?_⟩)
        · rw [q, bind_some', if_neg d10, w, bind_some', if_neg d10]
        · have h1 := hσ.2.2 g g1
          have h2 := hσ.2.2 j hj
          rw [g2] at h1
          exact g3 (h1.symm.trans h2)
    · refine Or.inr (Or.inr ⟨oLp_out ((eb _).mpr ?_), fun σ hσ => ?_⟩)
      · rw [q, bind_some', if_pos rfl]
      · obtain ⟨m, m1, m2, m3, m4, m5⟩ := need_m (show k < 2 ^ 31 by omega) (hne σ hσ)
        obtain ⟨_, b, hb, eb'⟩ := own σ hσ m m1 m2
        rw [eb', nI_clamp (by omega)] at m4
        exact q2 b hb m4
  · rintro s rfl
    refine Or.inl (oLp_out ?_)
    unfold f_Sky_isHopeless_L2
    rw [y_farms, bind_some', c3, if_pos (nI_le (Nat.le_refl nf) (by omega))]
