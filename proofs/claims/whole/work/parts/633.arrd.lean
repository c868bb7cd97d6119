/-! arrangements by places -/
def smP (B : Nat → Int32) (x y : Int32) : Prop := (x = -1 ↔ y = -1) ∧ (¬ x = -1 → B (2 * x.toNatClampNeg + 1) = B (2 * y.toNatClampNeg + 1))
theorem stC_smP {M B σ τ : Nat → Int32} {c p k : Int32} {m : Nat} (h : smP B (τ m) (σ m)) : stC M B τ c p k m = stC M B σ c p k m := by
  unfold stC
  by_cases e : τ m = -1
  · rw [if_pos e, if_pos (h.1.mp e)]
  · rw [if_neg e, if_neg (fun q => e (h.1.mpr q)), h.2 e]
theorem stS_smP {M B σ τ : Nat → Int32} {c p k : Int32} : ∀ n, (∀ m, m < n → smP B (τ m) (σ m)) → stS M B τ c p k n = stS M B σ c p k n := by
  intro n
  induction n with
  | zero => intro _; rfl
  | succ n ih =>
    intro h
    unfold stS
    rw [ih (fun m hm => h m (by omega)), stC_smP (h n (by omega))]
theorem wth_smP {M B σ τ : Nat → Int32} {c p : Int32} {n : Nat} (h : ∀ m, m < n → smP B (τ m) (σ m)) : wth M B τ c n p = wth M B σ c n p := by
  unfold wth
  rw [wS_congr (fun k _ => stS_smP n h)]
theorem lexF {W σ τ : Nat → Int32} : ∀ d m c1 c2 r1 r2, (∀ j, m ≤ j → j < m + d → τ j = W j ∨ (¬ σ j = W j ∧ dig (τ j) ≤ dig (σ j))) → (c1 < c2 ∨ (c1 = c2 ∧ r1 ≤ r2)) → (csF W τ d m c1 < csF W σ d m c2 ∨ (csF W τ d m c1 = csF W σ d m c2 ∧ rwF τ d m r1 ≤ rwF σ d m r2)) := by
  intro d
  induction d with
  | zero => intro m c1 c2 r1 r2 _ h; exact h
  | succ d ih =>
    intro m c1 c2 r1 r2 hp h
    rw [csF_s, csF_s, rwF_s, rwF_s]
    refine ih _ _ _ _ _ (fun j j1 j2 => hp j (by omega) (by omega)) ?_
    have h1 := hp m (by omega) (by omega)
    by_cases e1 : τ m = W m
    · rw [if_pos e1]
      by_cases e2 : σ m = W m
      · rw [if_pos e2, e1, e2]
        omega
      · rw [if_neg e2]
        omega
    · rw [if_neg e1]
      rcases h1 with q | ⟨q1, q2⟩
      · exact absurd q e1
      · rw [if_neg q1]
        omega
theorem first_pl {B : Nat → Int32} : ∀ b : Nat, ∃ b', b' ≤ b ∧ B (2 * b' + 1) = B (2 * b + 1) ∧ ∀ b'', b'' < b' → ¬ B (2 * b'' + 1) = B (2 * b' + 1) := by
  intro b
  induction b using Nat.strongRecOn with
  | _ b ih =>
    by_cases h : ∃ b', b' < b ∧ B (2 * b' + 1) = B (2 * b + 1)
    · obtain ⟨b', h1, h2⟩ := h
      obtain ⟨b2, k1, k2, k3⟩ := ih b' h1
      exact ⟨b2, (by omega), k2.trans h2, k3⟩
    · exact ⟨b, Nat.le_refl _, rfl, fun b2 h1 h2 => h ⟨b2, h1, h2⟩⟩
theorem arr_dom {B M F W σ : Nat → Int32} {nb nm nf : Nat} (h5 : nb ≤ 5) (hW : owA W nb nm) (x : sS W (frP W) ChM (Cnt M B F (W 6) nm nf) nb nm 0 W σ) : ∃ τ, sS W (frP W) (ChC B W) (Cnt M B F (W 6) nm nf) nb nm 0 W τ ∧ (csF W τ nm 0 0 < csF W σ nm 0 0 ∨ (csF W τ nm 0 0 = csF W σ nm 0 0 ∧ rwF τ nm 0 0 ≤ rwF σ nm 0 0)) := by
  have hall : ∀ j, ∃ y, j < nm → okA W (frP W) (ChC B W) nb j y ∧ smP B y (σ j) ∧ (y = W j ∨ (¬ σ j = W j ∧ dig y ≤ dig (σ j))) := by
    intro j
    by_cases hj : j < nm
    · rcases x.2.1 j (by omega) hj with ⟨q1, b, hb, e, _⟩ | ⟨q1, e⟩
      · rcases fre_0 h5 hW hj with ⟨q2, _⟩ | ⟨_, _, b0, hb0, e0⟩
        · exact absurd q1 q2
        · by_cases ep : B (2 * b + 1) = B (2 * b0 + 1)
          · refine ⟨W j, fun _ => ⟨Or.inl ⟨q1, b0, hb0, e0, Or.inl e0.symm⟩, ⟨?_, fun _ => ?_⟩, Or.inl rfl⟩⟩
            · rw [e0, e]
              exact ⟨fun q => absurd q (m1_ne (by omega)), fun q => absurd q (m1_ne (by omega))⟩
            · rw [e0, e, nI_clamp (by omega), nI_clamp (by omega), ep]
          · obtain ⟨b', k1, k2, k3⟩ := first_pl (B := B) b
            refine ⟨nI b', fun _ => ⟨Or.inl ⟨q1, b', (by omega), rfl, Or.inr ⟨k3, ?_⟩⟩, ⟨?_, fun _ => ?_⟩, Or.inr ⟨?_, ?_⟩⟩⟩
            · rw [e0, nI_clamp (by omega), k2]
              exact ep
            · rw [e]
              exact ⟨fun q => absurd q (m1_ne (by omega)), fun q => absurd q (m1_ne (by omega))⟩
            · rw [e, nI_clamp (by omega), nI_clamp (by omega), k2]
            · rw [e, e0]
              intro q
              have := nI_inj (by omega) (by omega) q
              subst this
              exact ep rfl
            · rw [e, dig_nI (by omega), dig_nI (by omega)]
              exact k1
      · refine ⟨W j, fun _ => ⟨Or.inr ⟨q1, rfl⟩, ?_, Or.inl rfl⟩⟩
        rw [e]
        exact ⟨Iff.rfl, fun _ => rfl⟩
    · exact ⟨0, fun q => absurd q hj⟩
  obtain ⟨τ, hτ⟩ := Classical.axiomOfChoice hall
  refine ⟨τ, ⟨fun j hj => absurd hj (by omega), fun j _ hj => (hτ j hj).1, fun f hf => ?_⟩, ?_⟩
  · rw [wth_smP (fun m hm => (hτ m hm).2.1)]
    exact x.2.2 f hf
  · exact lexF nm 0 0 0 0 0 (fun j _ hj => (hτ j (by omega)).2.2) (Or.inr ⟨rfl, Nat.le_refl _⟩)
/-! what a content farm needs -/
theorem wS_pos (f : Nat → Int32) : ∀ n, 0 ≤ (wS f n).2 ∧ ((wS f n).1 = -1 ∨ ∃ k, k < n ∧ (wS f n).1 = nI k ∧ ¬ f k = 0) := by
  intro n
  induction n with
  | zero => exact ⟨by show (0 : Int32) ≤ 0; decide, Or.inl rfl⟩
  | succ n ih =>
    rw [wS_s]
    by_cases h : f n ≤ (wS f n).2
    · rw [if_pos h]
      refine ⟨ih.1, ?_⟩
      rcases ih.2 with q | ⟨k, q1, q2⟩
      · exact Or.inl q
      · exact Or.inr ⟨k, (by omega), q2⟩
    · rw [if_neg h]
      have h1 := i_nle h
      have h2 := ih.1
      rw [Int32.lt_iff_toInt_lt] at h1
      rw [Int32.le_iff_toInt_le] at h2
      have z : (0 : Int32).toInt = 0 := (by decide)
      refine ⟨?_, Or.inr ⟨n, (by omega), rfl, fun q => ?_⟩⟩
      · show 0 ≤ f n
        rw [Int32.le_iff_toInt_le]
        omega
      · rw [q] at h1
        omega
theorem stS_ne {M B O : Nat → Int32} {c p k : Int32} : ∀ n, ¬ stS M B O c p k n = 0 → ∃ m, m < n ∧ ¬ stC M B O c p k m = 0 := by
  intro n
  induction n with
  | zero => intro h; exact absurd rfl h
  | succ n ih =>
    intro h
    by_cases e : stC M B O c p k n = 0
    · unfold stS at h
      rw [e, Int32.add_zero] at h
      obtain ⟨m, hm, h2⟩ := ih h
      exact ⟨m, (by omega), h2⟩
    · exact ⟨n, (by omega), e⟩
theorem need_m {M B O : Nat → Int32} {c p : Int32} {nm k : Nat} (hk : k < 2 ^ 31) (h : wth M B O c nm p = nI k) : ∃ m, m < nm ∧ ¬ O m = -1 ∧ M (3 * m + 1) = nI k ∧ B (2 * (O m).toNatClampNeg + 1) = p ∧ ¬ wo (M (3 * m + 2)) (hs c (nI m)) = 0 := by
  unfold wth at h
  rcases (wS_pos (fun k => stS M B O c p (nI k) nm) 6).2 with q | ⟨k', q1, q2, q3⟩
  · rw [q] at h
    exact absurd h.symm (m1_ne hk)
  · rw [q2] at h
    have := nI_inj (show k' < 2 ^ 31 by omega) hk h
    subst this
    obtain ⟨m, hm, h2⟩ := stS_ne nm q3
    refine ⟨m, hm, ?_⟩
    unfold stC at h2
    by_cases e1 : O m = -1
    · rw [if_pos e1] at h2
      exact absurd rfl h2
    · rw [if_neg e1] at h2
      by_cases e2 : M (3 * m + 1) = nI k'
      · rw [if_pos e2] at h2
        by_cases e3 : B (2 * (O m).toNatClampNeg + 1) = p
        · rw [if_pos e3] at h2
          exact ⟨e1, e2, e3, h2⟩
        · rw [if_neg e3] at h2
          exact absurd rfl h2
      · rw [if_neg e2] at h2
        exact absurd rfl h2
/-! counting -/
def cnN (q : Nat → Bool) : Nat → Nat
  | 0 => 0
  | n + 1 => cnN q n + (if q n = true then 1 else 0)
theorem cnN_split {S : Nat → Bool} {g : Nat → Nat} {n : Nat} : ∀ nm, cnN (fun m => S m && decide (g m < n + 1)) nm = cnN (fun m => S m && decide (g m < n)) nm + cnN (fun m => S m && decide (g m = n)) nm := by
  intro nm
  induction nm with
  | zero => rfl
  | succ nm ih =>
    unfold cnN
    rw [ih]
    by_cases hS : S nm = true
    · by_cases h1 : g nm < n
      · simp [hS, h1, show g nm < n + 1 by omega, show ¬ g nm = n by omega]
        omega
      · by_cases h2 : g nm = n
        · simp [hS, h2]
          omega
        · simp [hS, h1, h2, show ¬ g nm < n + 1 by omega]
    · simp [hS]
theorem cnN_le {q q' : Nat → Bool} : ∀ n, (∀ m, m < n → q m = true → q' m = true) → cnN q n ≤ cnN q' n := by
  intro n
  induction n with
  | zero => intro _; exact Nat.le_refl _
  | succ n ih =>
    intro h
    unfold cnN
    have h1 := ih (fun m hm => h m (by omega))
    have h2 := h n (by omega)
    by_cases e : q n = true
    · rw [if_pos e, if_pos (h2 e)]
      omega
    · rw [if_neg e]
      omega
theorem cnN_pos {q : Nat → Bool} : ∀ n m, m < n → q m = true → 1 ≤ cnN q n := by
  intro n
  induction n with
  | zero => intro m h; omega
  | succ n ih =>
    intro m h hq
    unfold cnN
    by_cases e : m = n
    · subst e
      rw [if_pos hq]
      omega
    · have := ih m (by omega) hq
      omega
theorem pig {q S : Nat → Bool} {g : Nat → Nat} {nm : Nat} : ∀ n, (∀ p, p < n → q p = true → ∃ m, m < nm ∧ S m = true ∧ g m = p) → cnN q n ≤ cnN (fun m => S m && decide (g m < n)) nm := by
  intro n
  induction n with
  | zero => intro _; exact Nat.zero_le _
  | succ n ih =>
    intro h
    have h1 := ih (fun p hp => h p (by omega))
    rw [cnN_split]
    show cnN q n + (if q n = true then 1 else 0) ≤ _
    by_cases e : q n = true
    · rw [if_pos e]
      obtain ⟨m, m1, m2, m3⟩ := h n (by omega) e
      have := cnN_pos (q := fun m => S m && decide (g m = n)) nm m m1 (by simp [m2, m3])
      omega
    · rw [if_neg e]
      omega
theorem bc10 (q : Nat → Bool) : bc (bB q 10) = nI (cnN q 10) := by
  simp only [bB, cnN]
  generalize q 0 = b0
  generalize q 1 = b1
  generalize q 2 = b2
  generalize q 3 = b3
  generalize q 4 = b4
  generalize q 5 = b5
  generalize q 6 = b6
  generalize q 7 = b7
  generalize q 8 = b8
  generalize q 9 = b9
  revert b0 b1 b2 b3 b4 b5 b6 b7 b8 b9
  decide +kernel
