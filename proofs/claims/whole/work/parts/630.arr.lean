/-! the best of a set of arrangements -/
def Bst (S : (Nat → Int32) → Prop) (cf rf : (Nat → Int32) → Nat) (f : Nat) (r : Int32) (f' : Nat) (r' : Int32) : Prop :=
  (∃ σ, S σ ∧ cf σ < f ∧ f' = cf σ ∧ r' = nI (rf σ) ∧ ∀ τ, S τ → f' < cf τ ∨ (f' = cf τ ∧ rf σ ≤ rf τ)) ∨ ((∀ τ, S τ → f ≤ cf τ) ∧ f' = f ∧ r' = r)
theorem Bst_congr {S S' : (Nat → Int32) → Prop} {cf rf cf' rf' : (Nat → Int32) → Nat} {f f1 : Nat} {r r1 : Int32} (x : Bst S cf rf f r f1 r1) (h1 : ∀ σ, S σ ↔ S' σ) (h2 : ∀ σ, S σ → cf σ = cf' σ ∧ rf σ = rf' σ) : Bst S' cf' rf' f r f1 r1 := by
  rcases x with ⟨σ, a1, a2, a3, a4, a5⟩ | ⟨a1, a2, a3⟩
  · obtain ⟨e1, e2⟩ := h2 σ a1
    refine Or.inl ⟨σ, (h1 σ).mp a1, by omega, by omega, by rw [← e2]; exact a4, fun τ hτ => ?_⟩
    have hτ' := (h1 τ).mpr hτ
    obtain ⟨q1, q2⟩ := h2 τ hτ'
    have := a5 τ hτ'
    omega
  · refine Or.inr ⟨fun τ hτ => ?_, a2, a3⟩
    have hτ' := (h1 τ).mpr hτ
    obtain ⟨q1, q2⟩ := h2 τ hτ'
    have := a1 τ hτ'
    omega
theorem Bst_join {S1 S2 S : (Nat → Int32) → Prop} {cf rf : (Nat → Int32) → Nat} {f f1 f2 : Nat} {r r1 r2 : Int32} (x : Bst S1 cf rf f r f1 r1) (y : Bst S2 cf rf f1 r1 f2 r2) (hS : ∀ σ, S σ ↔ S1 σ ∨ S2 σ) (hr : ∀ σ τ, S1 σ → S2 τ → rf σ < rf τ) : Bst S cf rf f r f2 r2 := by
  rcases y with ⟨σ, a1, a2, a3, a4, a5⟩ | ⟨a1, a2, a3⟩
  · left
    rcases x with ⟨ρ, b1, b2, b3, b4, b5⟩ | ⟨b1, b2, b3⟩
    · refine ⟨σ, (hS σ).mpr (Or.inr a1), by omega, a3, a4, fun τ hτ => ?_⟩
      rcases (hS τ).mp hτ with h | h
      · have := b5 τ h
        omega
      · exact a5 τ h
    · refine ⟨σ, (hS σ).mpr (Or.inr a1), by omega, a3, a4, fun τ hτ => ?_⟩
      rcases (hS τ).mp hτ with h | h
      · have := b1 τ h
        omega
      · exact a5 τ h
  · rcases x with ⟨ρ, b1, b2, b3, b4, b5⟩ | ⟨b1, b2, b3⟩
    · left
      refine ⟨ρ, (hS ρ).mpr (Or.inl b1), b2, by omega, by rw [a3, b4], fun τ hτ => ?_⟩
      rcases (hS τ).mp hτ with h | h
      · have := b5 τ h
        omega
      · have h1 := a1 τ h
        have h2 := hr ρ τ b1 h
        omega
    · right
      refine ⟨fun τ hτ => ?_, by omega, by rw [a3, b3]⟩
      rcases (hS τ).mp hτ with h | h
      · exact b1 τ h
      · have := a1 τ h
        omega
/-! costs and rows -/
def dig (x : Int32) : Nat := if x = -1 then 9 else x.toNatClampNeg
def csF (W σ : Nat → Int32) : Nat → Nat → Nat → Nat
  | 0, _, c => c
  | d + 1, m, c => csF W σ d (m + 1) (if σ m = W m then c else c + 1)
def rwF (σ : Nat → Int32) : Nat → Nat → Nat → Nat
  | 0, _, r => r
  | d + 1, m, r => rwF σ d (m + 1) (10 * r + dig (σ m))
theorem csF_s {W σ : Nat → Int32} {d m c : Nat} : csF W σ (d + 1) m c = csF W σ d (m + 1) (if σ m = W m then c else c + 1) := rfl
theorem rwF_s {σ : Nat → Int32} {d m r : Nat} : rwF σ (d + 1) m r = rwF σ d (m + 1) (10 * r + dig (σ m)) := rfl
theorem csF_ge {W σ : Nat → Int32} : ∀ d m c, c ≤ csF W σ d m c := by
  intro d
  induction d with
  | zero => intro m c; exact Nat.le_refl _
  | succ d ih =>
    intro m c
    have := ih (m + 1) (if σ m = W m then c else c + 1)
    unfold csF
    by_cases h : σ m = W m
    · rw [if_pos h] at this ⊢
      exact this
    · rw [if_neg h] at this ⊢
      omega
theorem csF_le {W σ : Nat → Int32} : ∀ d m c, csF W σ d m c ≤ c + d := by
  intro d
  induction d with
  | zero => intro m c; exact Nat.le_refl _
  | succ d ih =>
    intro m c
    have := ih (m + 1) (if σ m = W m then c else c + 1)
    unfold csF
    by_cases h : σ m = W m
    · rw [if_pos h] at this ⊢
      omega
    · rw [if_neg h] at this ⊢
      omega
theorem rwF_bd {σ : Nat → Int32} : ∀ d m r, (∀ j, m ≤ j → j < m + d → dig (σ j) ≤ 9) → r * 10 ^ d ≤ rwF σ d m r ∧ rwF σ d m r < (r + 1) * 10 ^ d := by
  intro d
  induction d with
  | zero => intro m r _; unfold rwF; omega
  | succ d ih =>
    intro m r h
    have h1 := ih (m + 1) (10 * r + dig (σ m)) (fun j j1 j2 => h j (by omega) (by omega))
    have h2 := h m (by omega) (by omega)
    unfold rwF
    rw [Nat.pow_succ]
    have e1 : r * (10 ^ d * 10) ≤ (10 * r + dig (σ m)) * 10 ^ d := by
      rw [Nat.mul_comm (10 ^ d) 10, ← Nat.mul_assoc]
      exact Nat.mul_le_mul_right _ (by omega)
    have e2 : (10 * r + dig (σ m) + 1) * 10 ^ d ≤ (r + 1) * (10 ^ d * 10) := by
      rw [Nat.mul_comm (10 ^ d) 10, ← Nat.mul_assoc]
      exact Nat.mul_le_mul_right _ (by omega)
    omega
theorem rwF_lt {σ τ : Nat → Int32} {d m r r' : Nat} (h1 : ∀ j, m ≤ j → j < m + d → dig (σ j) ≤ 9) (h2 : ∀ j, m ≤ j → j < m + d → dig (τ j) ≤ 9) (h : r < r') : rwF σ d m r < rwF τ d m r' := by
  have a := (rwF_bd d m r h1).2
  have b := (rwF_bd d m r' h2).1
  have c : (r + 1) * 10 ^ d ≤ r' * 10 ^ d := Nat.mul_le_mul_right _ h
  omega
theorem csF_congr {W σ τ : Nat → Int32} : ∀ d m c, (∀ j, m ≤ j → j < m + d → σ j = τ j) → csF W σ d m c = csF W τ d m c := by
  intro d
  induction d with
  | zero => intro m c _; rfl
  | succ d ih =>
    intro m c h
    unfold csF
    rw [h m (by omega) (by omega)]
    exact ih _ _ (fun j j1 j2 => h j (by omega) (by omega))
theorem rwF_congr {σ τ : Nat → Int32} : ∀ d m r, (∀ j, m ≤ j → j < m + d → σ j = τ j) → rwF σ d m r = rwF τ d m r := by
  intro d
  induction d with
  | zero => intro m c _; rfl
  | succ d ih =>
    intro m c h
    unfold rwF
    rw [h m (by omega) (by omega)]
    exact ih _ _ (fun j j1 j2 => h j (by omega) (by omega))
/-! a search: free marbles may come to boys that Ch allows -/
def okA (W : Nat → Int32) (fr : Nat → Prop) (Ch : Nat → Nat → Prop) (nb : Nat) (j : Nat) (x : Int32) : Prop := (fr j ∧ ∃ b, b < nb ∧ x = nI b ∧ Ch j b) ∨ (¬ fr j ∧ x = W j)
def sS (W : Nat → Int32) (fr : Nat → Prop) (Ch : Nat → Nat → Prop) (Cn : (Nat → Int32) → Prop) (nb nm m : Nat) (O σ : Nat → Int32) : Prop := (∀ j, j < m → σ j = O j) ∧ (∀ j, m ≤ j → j < nm → okA W fr Ch nb j (σ j)) ∧ Cn σ
theorem dig_nI {b : Nat} (h : b < 2 ^ 31) : dig (nI b) = b := by
  unfold dig
  rw [if_neg (m1_ne h), nI_clamp h]
theorem okA_dig {W : Nat → Int32} {fr : Nat → Prop} {Ch : Nat → Nat → Prop} {nb nm j : Nat} {x : Int32} (hb : nb ≤ 5) (hW : owA W nb nm) (hj : j < nm) (h : okA W fr Ch nb j x) : dig x ≤ 9 := by
  rcases h with ⟨_, b, h1, h2, _⟩ | ⟨_, h2⟩
  · rw [h2, dig_nI (by omega)]
    omega
  · rw [h2]
    rcases hW j hj with e | ⟨b, h1, e⟩
    · rw [e]
      decide
    · rw [e, dig_nI (by omega)]
      omega
/-- a fixed marble -/
theorem Bst_fix {W : Nat → Int32} {fr : Nat → Prop} {Ch : Nat → Nat → Prop} {Cn : (Nat → Int32) → Prop} {nb nm m many row f f' : Nat} {r r' : Int32} {O : Nat → Int32} (hm : m < nm) (hf : ¬ fr m) (hO : O m = W m) (x : Bst (sS W fr Ch Cn nb nm (m + 1) O) (fun σ => csF W σ (nm - (m + 1)) (m + 1) many) (fun σ => rwF σ (nm - (m + 1)) (m + 1) (10 * row + dig (W m))) f r f' r') : Bst (sS W fr Ch Cn nb nm m O) (fun σ => csF W σ (nm - m) m many) (fun σ => rwF σ (nm - m) m row) f r f' r' := by
  have e : nm - m = (nm - (m + 1)) + 1 := (by omega)
  refine Bst_congr x (fun σ => ⟨fun h => ⟨fun j hj => h.1 j (by omega), fun j j1 j2 => ?_, h.2.2⟩, fun h => ⟨fun j hj => ?_, fun j j1 j2 => h.2.1 j (by omega) j2, h.2.2⟩⟩) (fun σ h => ?_)
  · rcases Nat.lt_or_eq_of_le j1 with h1 | h1
    · exact h.2.1 j (by omega) j2
    · subst h1
      exact Or.inr ⟨hf, (h.1 m (by omega)).trans hO⟩
  · rcases Nat.lt_or_eq_of_le (Nat.le_of_lt_succ hj) with h1 | h1
    · exact h.1 j h1
    · subst h1
      rcases h.2.1 j (by omega) hm with ⟨q, _⟩ | ⟨_, q⟩
      · exact absurd q hf
      · rw [q, hO]
  · have hs : σ m = W m := (h.1 m (by omega)).trans hO
    rw [e]
    rw [csF_s, rwF_s]
    rw [if_pos hs, hs]
    exact ⟨rfl, rfl⟩
/-- the sets of a loop over the boys of a free marble -/
def lS (W : Nat → Int32) (fr : Nat → Prop) (Ch : Nat → Nat → Prop) (Cn : (Nat → Int32) → Prop) (nb nm m : Nat) (O : Nat → Int32) (bb : Nat) (σ : Nat → Int32) : Prop := (∀ j, j < m → σ j = O j) ∧ (∃ b, b < bb ∧ σ m = nI b ∧ Ch m b) ∧ (∀ j, m + 1 ≤ j → j < nm → okA W fr Ch nb j (σ j)) ∧ Cn σ
theorem Bst_0 {W : Nat → Int32} {fr : Nat → Prop} {Ch : Nat → Nat → Prop} {Cn : (Nat → Int32) → Prop} {nb nm m f : Nat} {r : Int32} {O : Nat → Int32} {cf rf : (Nat → Int32) → Nat} : Bst (lS W fr Ch Cn nb nm m O 0) cf rf f r f r := Or.inr ⟨fun τ hτ => by obtain ⟨_, ⟨b, hb, _⟩, _⟩ := hτ; omega, rfl, rfl⟩
theorem Bst_end {W : Nat → Int32} {fr : Nat → Prop} {Ch : Nat → Nat → Prop} {Cn : (Nat → Int32) → Prop} {nb nm m f f' : Nat} {r r' : Int32} {O : Nat → Int32} {cf rf : (Nat → Int32) → Nat} (hm : m < nm) (hf : fr m) (x : Bst (lS W fr Ch Cn nb nm m O nb) cf rf f r f' r') : Bst (sS W fr Ch Cn nb nm m O) cf rf f r f' r' := by
  refine Bst_congr x (fun σ => ⟨fun h => ⟨h.1, fun j j1 j2 => ?_, h.2.2.2⟩, fun h => ⟨h.1, ?_, fun j j1 j2 => h.2.1 j (by omega) j2, h.2.2⟩⟩) (fun σ h => ⟨rfl, rfl⟩)
  · rcases Nat.lt_or_eq_of_le j1 with h1 | h1
    · exact h.2.2.1 j h1 j2
    · subst h1
      exact Or.inl ⟨hf, h.2.1⟩
  · rcases h.2.1 m (by omega) hm with ⟨_, q⟩ | ⟨q, _⟩
    · exact q
    · exact absurd hf q
theorem Bst_skip {W : Nat → Int32} {fr : Nat → Prop} {Ch : Nat → Nat → Prop} {Cn : (Nat → Int32) → Prop} {nb nm m f f' bb : Nat} {r r' : Int32} {O : Nat → Int32} {cf rf : (Nat → Int32) → Nat} (hc : ¬ Ch m bb) (x : Bst (lS W fr Ch Cn nb nm m O bb) cf rf f r f' r') : Bst (lS W fr Ch Cn nb nm m O (bb + 1)) cf rf f r f' r' := by
  refine Bst_congr x (fun σ => ⟨fun h => ⟨h.1, ?_, h.2.2⟩, fun h => ⟨h.1, ?_, h.2.2⟩⟩) (fun σ h => ⟨rfl, rfl⟩)
  · obtain ⟨b, h1, h2⟩ := h.2.1
    exact ⟨b, (by omega), h2⟩
  · obtain ⟨b, h1, h2, h3⟩ := h.2.1
    refine ⟨b, ?_, h2, h3⟩
    rcases Nat.lt_or_eq_of_le (Nat.le_of_lt_succ h1) with q | q
    · exact q
    · subst q
      exact absurd h3 hc
theorem Bst_boy {W : Nat → Int32} {fr : Nat → Prop} {Ch : Nat → Nat → Prop} {Cn : (Nat → Int32) → Prop} {nb nm m many row f f1 f2 bb : Nat} {r r1 r2 : Int32} {O : Nat → Int32} (hb5 : nb ≤ 5) (hW : owA W nb nm) (hm : m < nm) (hbb : bb < nb) (hc : Ch m bb) (x : Bst (lS W fr Ch Cn nb nm m O bb) (fun σ => csF W σ (nm - m) m many) (fun σ => rwF σ (nm - m) m row) f r f1 r1) (y : Bst (sS W fr Ch Cn nb nm (m + 1) (upd O m (nI bb))) (fun σ => csF W σ (nm - (m + 1)) (m + 1) (if nI bb = W m then many else many + 1)) (fun σ => rwF σ (nm - (m + 1)) (m + 1) (10 * row + bb)) f1 r1 f2 r2) : Bst (lS W fr Ch Cn nb nm m O (bb + 1)) (fun σ => csF W σ (nm - m) m many) (fun σ => rwF σ (nm - m) m row) f r f2 r2 := by
  have e : nm - m = (nm - (m + 1)) + 1 := (by omega)
  have y2 : Bst (sS W fr Ch Cn nb nm (m + 1) (upd O m (nI bb))) (fun σ => csF W σ (nm - m) m many) (fun σ => rwF σ (nm - m) m row) f1 r1 f2 r2 := by
    refine Bst_congr y (fun σ => Iff.rfl) (fun σ h => ?_)
    have hs : σ m = nI bb := (h.1 m (by omega)).trans upd_at
    rw [e]
    rw [csF_s, rwF_s]
    rw [hs, dig_nI (by omega)]
    exact ⟨rfl, rfl⟩
  refine Bst_join x y2 (fun σ => ⟨fun h => ?_, fun h => ?_⟩) (fun σ τ h1 h2 => ?_)
  · obtain ⟨g1, ⟨b, g2, g3, g4⟩, g5, g6⟩ := h
    by_cases hbe : b = bb
    · subst hbe
      right
      refine ⟨fun j hj => ?_, g5, g6⟩
      by_cases ej : j = m
      · rw [ej, upd_at, g3]
      · rw [upd_ne ej]
        exact g1 j (by omega)
    · left
      exact ⟨g1, ⟨b, (by omega), g3, g4⟩, g5, g6⟩
  · rcases h with ⟨g1, ⟨b, g2, g3, g4⟩, g5, g6⟩ | ⟨g1, g5, g6⟩
    · exact ⟨g1, ⟨b, (by omega), g3, g4⟩, g5, g6⟩
    · refine ⟨fun j hj => (g1 j (by omega)).trans (upd_ne (by omega)), ⟨bb, (by omega), (g1 m (by omega)).trans upd_at, hc⟩, g5, g6⟩
  · obtain ⟨g1, ⟨b, g2, g3, g4⟩, g5, g6⟩ := h1
    obtain ⟨k1, k5, k6⟩ := h2
    have hs : τ m = nI bb := (k1 m (by omega)).trans upd_at
    rw [e]
    unfold rwF
    rw [g3, hs, dig_nI (by omega), dig_nI (by omega)]
    exact rwF_lt (fun j j1 j2 => okA_dig hb5 hW (show j < nm by omega) (g5 j j1 (by omega))) (fun j j1 j2 => okA_dig hb5 hW (show j < nm by omega) (k5 j j1 (by omega))) (by omega)
/-- two searches, one in the other, have one best -/
theorem Bst_same {S S' : (Nat → Int32) → Prop} {cf rf : (Nat → Int32) → Nat} {f f1 f2 : Nat} {r r1 r2 : Int32} (x : Bst S' cf rf f r f1 r1) (y : Bst S cf rf f r f2 r2) (h1 : ∀ σ, S' σ → S σ) (h2 : ∀ σ, S σ → ∃ τ, S' τ ∧ (cf τ < cf σ ∨ (cf τ = cf σ ∧ rf τ ≤ rf σ))) : f1 = f2 ∧ r1 = r2 := by
  rcases x with ⟨σ, a1, a2, a3, a4, a5⟩ | ⟨a1, a2, a3⟩
  · rcases y with ⟨ρ, b1, b2, b3, b4, b5⟩ | ⟨b1, b2, b3⟩
    · obtain ⟨τ, t1, t2⟩ := h2 ρ b1
      have k1 := a5 τ t1
      have k2 := b5 σ (h1 σ a1)
      have e1 : f1 = f2 := (by omega)
      have e2 : rf σ = rf ρ := (by omega)
      exact ⟨e1, by rw [a4, b4, e2]⟩
    · have := b1 σ (h1 σ a1)
      omega
  · rcases y with ⟨ρ, b1, b2, b3, b4, b5⟩ | ⟨b1, b2, b3⟩
    · obtain ⟨τ, t1, t2⟩ := h2 ρ b1
      have := a1 τ t1
      omega
    · exact ⟨(by omega), by rw [a3, b3]⟩
