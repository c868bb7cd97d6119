/-! the class's search -/
def frP (W : Nat → Int32) (j : Nat) : Prop := ¬ fre (W j) (hs (W 7) (nI j)) = 0
def Cnt (M B F : Nat → Int32) (c : Int32) (nm nf : Nat) (σ : Nat → Int32) : Prop := ∀ f, f < nf → wth M B σ c nm (F (3 * f)) = F (3 * f + 1)
def fE (B : Nat → Int32) (b : Nat) (p : Int32) : Prop := (∀ b', b' < b → ¬ B (2 * b' + 1) = B (2 * b + 1)) ∧ ¬ B (2 * b + 1) = p
def ChC (B W : Nat → Int32) (m b : Nat) : Prop := nI b = W m ∨ fE B b (B (2 * (W m).toNatClampNeg + 1))
theorem Cnt_congr {M B F σ τ : Nat → Int32} {c : Int32} {nm nf : Nat} (h : ∀ j, j < nm → σ j = τ j) (x : Cnt M B F c nm nf σ) : Cnt M B F c nm nf τ := by
  intro f hf
  rw [← wth_congr h]
  exact x f hf
theorem s_areAll {Y C R B M F O S : Nat → Int32} {mb mm mf c : Int32} {nb nm nf : Nat} (h : yA Y C mb mm mf R B M F nb nm nf) (hS : skA S M B O c nm) : (Cnt M B F c nm nf O ∧ f_Sky_areAllContent Y C S = some 1) ∨ (¬ Cnt M B F c nm nf O ∧ f_Sky_areAllContent Y C S = some 0) := by
  obtain ⟨⟨h5, h6, h6'⟩, ⟨c1, c2, c3⟩, ⟨e1, e2, e3⟩, hr, hbo, hma, hfa, rb, rm, rf, r0, r1, r2⟩ := h
  unfold f_Sky_areAllContent
  refine qlp1 (fun j (s : Int32) => s = nI j ∧ ∀ f, f < j → wth M B O c nm (F (3 * f)) = F (3 * f + 1)) (fun r => (Cnt M B F c nm nf O ∧ r = some 1) ∨ (¬ Cnt M B F c nm nf O ∧ r = some 0)) (n := nf) ?_ ?_ (j := 0) (by omega) ⟨rfl, fun f hf => absurd hf (by omega)⟩
  · rintro j s hj ⟨rfl, hall⟩
    obtain ⟨p, hp, ep⟩ := (rf j hj).1
    have eb : f_Sky_areAllContent_L2 Y C S (nI j) = if wth M B O c nm (F (3 * j)) = F (3 * j + 1) then some (.inl (nI (j + 1))) else some (.inr 0) := by
      unfold f_Sky_areAllContent_L2
      rw [y_farms, bind_some', c3, if_neg (nI_ge hj (by omega)), y_farmPlace (by omega), bind_some', show Y ((12 + j) * 3) = F (3 * j) from hfa j 0 hj (by omega), ep, s_strongest (by omega) hS, bind_some', y_wanted (by omega), bind_some', hfa j 1 hj (by omega), ← ep, nx_add]
    by_cases e : wth M B O c nm (F (3 * j)) = F (3 * j + 1)
    · rw [if_pos e] at eb
      refine Or.inl ⟨_, eb, rfl, fun f hf => ?_⟩
      rcases Nat.lt_or_eq_of_le (Nat.le_of_lt_succ hf) with q | q
      · exact hall f q
      · subst q
        exact e
    · rw [if_neg e] at eb
      exact Or.inr (Or.inr ⟨fun q => e (q j hj), oLp_out eb⟩)
  · rintro s ⟨rfl, hall⟩
    refine Or.inl ⟨hall, oLp_out ?_⟩
    unfold f_Sky_areAllContent_L2
    rw [y_farms, bind_some', c3, if_pos (nI_le (Nat.le_refl nf) (by omega))]
theorem s_first {Y C R B M F : Nat → Int32} {mb mm mf p : Int32} {nb nm nf b : Nat} (h : yA Y C mb mm mf R B M F nb nm nf) (hb : b < nb) : (fE B b p ∧ f_Sky_isFirstElsewhere Y (nI b) p = some 1) ∨ (¬ fE B b p ∧ f_Sky_isFirstElsewhere Y (nI b) p = some 0) := by
  obtain ⟨⟨h5, h6, h6'⟩, ⟨c1, c2, c3⟩, ⟨e1, e2, e3⟩, hr, hbo, hma, hfa, rb, rm, rf, r0, r1, r2⟩ := h
  have pl : ∀ i, i < nb → f_Yard_boyPlace Y (nI i) = some (B (2 * i + 1)) := by
    intro i hi
    rw [y_boyPlace (by omega), hbo i 1 hi (by omega)]
  unfold f_Sky_isFirstElsewhere
  refine qlp1 (fun j (s : Int32) => s = nI j ∧ ∀ b', b' < j → ¬ B (2 * b' + 1) = B (2 * b + 1)) (fun r => (fE B b p ∧ r = some 1) ∨ (¬ fE B b p ∧ r = some 0)) (n := b) ?_ ?_ (j := 0) (by omega) ⟨rfl, fun f hf => absurd hf (by omega)⟩
  · rintro j s hj ⟨rfl, hall⟩
    have eb : f_Sky_isFirstElsewhere_L2 Y (nI b) p (nI j) = if B (2 * j + 1) = B (2 * b + 1) then some (.inr 0) else some (.inl (nI (j + 1))) := by
      unfold f_Sky_isFirstElsewhere_L2
      rw [if_neg (nI_ge hj (by omega)), pl j (by omega), bind_some', pl b hb, bind_some', nx_add]
    by_cases e : B (2 * j + 1) = B (2 * b + 1)
    · rw [if_pos e] at eb
      exact Or.inr (Or.inr ⟨fun q => q.1 j hj e, oLp_out eb⟩)
    · rw [if_neg e] at eb
      refine Or.inl ⟨_, eb, rfl, fun f hf => ?_⟩
      rcases Nat.lt_or_eq_of_le (Nat.le_of_lt_succ hf) with q | q
      · exact hall f q
      · subst q
        exact e
  · rintro s ⟨rfl, hall⟩
    have eb : f_Sky_isFirstElsewhere_L2 Y (nI b) p (nI b) = if B (2 * b + 1) = p then some (.inr 0) else some (.inr 1) := by
      unfold f_Sky_isFirstElsewhere_L2
      rw [if_pos (nI_le (Nat.le_refl b) (by omega)), pl b hb, bind_some']
      split <;> rfl
    by_cases e : B (2 * b + 1) = p
    · rw [if_pos e] at eb
      exact Or.inr ⟨fun q => q.2 e, oLp_out eb⟩
    · rw [if_neg e] at eb
      exact Or.inl ⟨⟨hall, e⟩, oLp_out eb⟩
theorem owA_upd {O : Nat → Int32} {nb nm m b : Nat} (h : owA O nb nm) (hb : b < nb) : owA (upd O m (nI b)) nb nm := by
  intro j hj
  by_cases e : j = m
  · rw [e, upd_at]
    exact Or.inr ⟨b, hb, rfl⟩
  · rw [upd_ne e]
    exact h j hj
theorem fre_0 {W : Nat → Int32} {nb nm m : Nat} (hb5 : nb ≤ 5) (hW : owA W nb nm) (hm : m < nm) : (¬ frP W m ∧ fre (W m) (hs (W 7) (nI m)) = 0) ∨ (frP W m ∧ fre (W m) (hs (W 7) (nI m)) = 1 ∧ ∃ b, b < nb ∧ W m = nI b) := by
  unfold frP fre
  rcases hW m hm with e | ⟨b, hb, e⟩
  · left
    rw [if_pos e]
    exact ⟨fun q => q rfl, rfl⟩
  · have hne : ¬ W m = -1 := by rw [e]; exact m1_ne (by have := hb5; omega)
    rw [if_neg hne]
    by_cases hz : hs (W 7) (nI m) = 0
    · right
      rw [if_pos hz]
      exact ⟨d10, rfl, b, hb, e⟩
    · left
      rw [if_neg hz]
      exact ⟨fun q => q rfl, rfl⟩
theorem c_try {Y C R B M F On W : Nat → Int32} {mb mm mf : Int32} {nb nm nf : Nat} (h : yA Y C mb mm mf R B M F nb nm nf) (hO : ∀ m, m < nm → On m = W m) (hW : owA W nb nm) : ∀ (k m : Nat) (O S : Nat → Int32) (f : Nat) (r : Int32) (many row : Nat), nm < k + m → m ≤ nm → skA S M B O (W 6) nm → (∀ j, m ≤ j → j < nm → O j = W j) → owA O nb nm → f ≤ 7 → many ≤ m → ∃ (f' : Nat) (r' : Int32) (S' : Nat → Int32), f_Sky_tryOwners k Y C (nI nm) (W 6) (W 7) On (nI f) r S (nI m) (nI many) (nI row) = some (nI f', r', S') ∧ skA S' M B O (W 6) nm ∧ f' ≤ 7 ∧ Bst (sS W (frP W) (ChC B W) (Cnt M B F (W 6) nm nf) nb nm m O) (fun σ => csF W σ (nm - m) m many) (fun σ => rwF σ (nm - m) m row) f r f' r' := by
  have hY := h
  obtain ⟨⟨h5, h6, h6'⟩, ⟨c1, c2, c3⟩, ⟨e1, e2, e3⟩, hr, hbo, hma, hfa, rb, rm, rf, r0, r1, r2⟩ := h
  intro k
  induction k with
  | zero => intro m O S f r many row hk hm; omega
  | succ k ih =>
    intro m O S f r many row hk hm hS hOW hOw hf hmany
    unfold f_Sky_tryOwners f_Sky_tryOwnersB
    by_cases hlt : many < f
    · rw [if_pos (nI_lt hlt (by omega)), y_marbles, bind_some', c2]
      by_cases hmn : m = nm
      · subst hmn
        rw [if_pos (nI_le (Nat.le_refl m) (by omega))]
        unfold f_Sky_tryOwners_J26
        rcases s_areAll hY hS with ⟨q1, q2⟩ | ⟨q1, q2⟩
        · rw [q2, bind_some', if_neg d10]
          refine ⟨many, nI row, S, rfl, hS, (by omega), Or.inl ⟨O, ⟨fun j _ => rfl, fun j j1 j2 => absurd j2 (by omega), q1⟩, ?_, ?_, ?_, fun τ hτ => ?_⟩⟩
          · rw [Nat.sub_self]
            exact hlt
          · rw [Nat.sub_self]
            rfl
          · rw [Nat.sub_self]
            rfl
          · rw [Nat.sub_self]
            exact Or.inr ⟨rfl, Nat.le_refl _⟩
        · rw [q2, bind_some', if_pos rfl]
          exact ⟨f, r, S, rfl, hS, hf, Or.inr ⟨fun τ hτ => absurd (Cnt_congr hτ.1 hτ.2.2) q1, rfl, rfl⟩⟩
      · have hml : m < nm := (by omega)
        rw [if_neg (nI_ge hml (by omega)), if_pos (show nI m < 6 from nI_lt (b := 6) (by omega) (by decide)), n_ownerOf hml h6, bind_some', n_isFree hml h6, bind_some', hO m hml]
        rcases fre_0 h5 hW hml with ⟨q1, q2⟩ | ⟨q1, q2, b0, hb0, eb0⟩
        · rw [q2, if_pos rfl]
          obtain ⟨f', r', S', e1, e2, e3, e4⟩ := ih (m + 1) O S f r many (10 * row + dig (W m)) (by omega) (by omega) hS (fun j j1 j2 => hOW j (by omega) j2) hOw hf (by omega)
          have hfix := Bst_fix hml q1 (hOW m (by omega) hml) e4
          unfold f_Sky_tryOwners_J87
          refine ⟨f', r', S', ?_, e2, e3, hfix⟩
          rcases hW m hml with e | ⟨b, hb, e⟩
          · rw [if_pos e, nx_add, nx_mul, nx_add]
            rw [e, show dig (-1) = 9 from by decide, Nat.mul_comm 10 row] at e1
            rw [show nI (row * OfNat.ofNat 10 + OfNat.ofNat 9) = nI (row * 10 + 9) from rfl, e1, bind_some']
          · rw [if_neg (by rw [e]; exact m1_ne (by omega)), nx_add, nx_mul, e, nI_add]
            rw [e, dig_nI (by omega), Nat.mul_comm 10 row] at e1
            rw [show nI (row * OfNat.ofNat 10 + b) = nI (row * 10 + b) from rfl, e1, bind_some']
        · rw [q2, if_neg d10]
          have hOm : O m = nI b0 := (hOW m (by omega) hml).trans eb0
          obtain ⟨S5, l1, l2⟩ := s_lift hY hS hml hb0 hOm
          rw [eb0, l1, bind_some']
          refine qlp1 (fun bb (s : Int32 × Int32 × Int32 × (Nat → Int32)) => ∃ (f1 : Nat) (r1 : Int32) (S1 : Nat → Int32), s = (nI bb, nI f1, r1, S1) ∧ skA S1 M B (upd O m (-1)) (W 6) nm ∧ f1 ≤ 7 ∧ Bst (lS W (frP W) (ChC B W) (Cnt M B F (W 6) nm nf) nb nm m O bb) (fun σ => csF W σ (nm - m) m many) (fun σ => rwF σ (nm - m) m row) f r f1 r1) (fun res => ∃ (f' : Nat) (r' : Int32) (S' : Nat → Int32), res = some (nI f', r', S') ∧ skA S' M B O (W 6) nm ∧ f' ≤ 7 ∧ Bst (sS W (frP W) (ChC B W) (Cnt M B F (W 6) nm nf) nb nm m O) (fun σ => csF W σ (nm - m) m many) (fun σ => rwF σ (nm - m) m row) f r f' r') (n := nb) ?_ ?_ (j := 0) (by omega) ⟨f, r, S5, rfl, l2, hf, Bst_0⟩
          · rintro bb s hbb ⟨f1, r1, S1, rfl, k1, k2, k3⟩
            left
            have hpl : f_Yard_boyPlace Y (nI b0) = some (B (2 * b0 + 1)) := by rw [y_boyPlace (by omega), hbo b0 1 hb0 (by omega)]
            have hgo : ChC B W m bb → ∃ u, f_Sky_tryOwners_J139 (f_Sky_tryOwners k) Y C (nI nm) (W 6) (W 7) On (nI f1) r1 S1 (nI m) (nI many) (nI row) (nI b0) (nI bb) = some (.inl u) ∧ ∃ (f1 : Nat) (r1 : Int32) (S1 : Nat → Int32), u = (nI (bb + 1), nI f1, r1, S1) ∧ skA S1 M B (upd O m (-1)) (W 6) nm ∧ f1 ≤ 7 ∧ Bst (lS W (frP W) (ChC B W) (Cnt M B F (W 6) nm nf) nb nm m O (bb + 1)) (fun σ => csF W σ (nm - m) m many) (fun σ => rwF σ (nm - m) m row) f r f1 r1 := by
              intro hch
              obtain ⟨S2, p1, p2⟩ := s_put hY k1 hml hbb
              obtain ⟨f2, r2, S3, e1, e2, e3, e4⟩ := ih (m + 1) (upd O m (nI bb)) S2 f1 r1 (if nI bb = W m then many else many + 1) (10 * row + bb) (by omega) (by omega) p2 (fun j j1 j2 => (upd_ne (by omega)).trans (hOW j (by omega) j2)) (owA_upd hOw hbb) k2 (by split <;> omega)
              obtain ⟨S4, g1, g2⟩ := s_lift hY e2 hml hbb upd_at
              rw [upd_upd] at g2
              refine ⟨(nI (bb + 1), nI f2, r2, S4), ?_, f2, r2, S4, rfl, g2, e3, Bst_boy h5 hW hml hbb hch k3 e4⟩
              unfold f_Sky_tryOwners_J139 f_Sky_tryOwners_J164 f_Sky_tryOwners_J181
              rw [p1, bind_some', nx_add, nx_add, nx_mul, nI_add]
              rw [Nat.mul_comm 10 row, eb0] at e1
              by_cases hz : nI bb = nI b0
              · rw [if_pos hz] at e1 ⊢
                rw [show nI (m + OfNat.ofNat 1) = nI (m + 1) from rfl, show nI (row * OfNat.ofNat 10 + bb) = nI (row * 10 + bb) from rfl, e1, bind_some', g1, bind_some']
              · rw [if_neg hz] at e1 ⊢
                rw [nx_add, show nI (m + OfNat.ofNat 1) = nI (m + 1) from rfl, show nI (many + OfNat.ofNat 1) = nI (many + 1) from rfl, show nI (row * OfNat.ofNat 10 + bb) = nI (row * 10 + bb) from rfl, e1, bind_some', g1, bind_some']
            unfold f_Sky_tryOwners_L102
            dsimp only
            rw [y_boys, bind_some', c1, if_neg (nI_ge hbb (by omega))]
            by_cases hz : nI bb = nI b0
            · rw [if_pos hz]
              obtain ⟨u, u1, u2⟩ := hgo (Or.inl (by rw [eb0]; exact hz))
              exact ⟨u, u1, u2⟩
            · rw [if_neg hz, hpl, bind_some']
              rcases s_first (p := B (2 * b0 + 1)) hY hbb with ⟨w1, w2⟩ | ⟨w1, w2⟩
              · rw [w2, bind_some', if_neg d10]
                obtain ⟨u, u1, u2⟩ := hgo (Or.inr (by rw [eb0, nI_clamp (by omega)]; exact w1))
                exact ⟨u, u1, u2⟩
              · rw [w2, bind_some', if_pos rfl]
                unfold f_Sky_tryOwners_J181
                rw [nx_add]
                refine ⟨_, rfl, f1, r1, S1, rfl, k1, k2, Bst_skip ?_ k3⟩
                rintro (q | q)
                · exact hz (by rw [q, eb0])
                · rw [eb0, nI_clamp (by omega)] at q
                  exact w1 q
          · rintro s ⟨f1, r1, S1, rfl, k1, k2, k3⟩
            obtain ⟨S2, p1, p2⟩ := s_put hY k1 hml hb0
            rw [upd_id hOm] at p2
            refine ⟨f1, r1, S2, oLp_out ?_, p2, k2, Bst_end hml q1 k3⟩
            unfold f_Sky_tryOwners_L102
            dsimp only
            rw [y_boys, bind_some', c1, if_pos (nI_le (Nat.le_refl nb) (by omega)), p1]
            rfl
    · rw [if_neg (fun q => hlt ((nx_lt (by omega) (by omega)).mp q))]
      refine ⟨f, r, S, rfl, hS, hf, Or.inr ⟨fun τ _ => ?_, rfl, rfl⟩⟩
      have := csF_ge (W := W) (σ := τ) (nm - m) m many
      show f ≤ csF W τ (nm - m) m many
      omega
