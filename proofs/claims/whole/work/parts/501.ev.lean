/-! evaluating plain functions: sums and products of small numbers, with literals -/
theorem nx_add (a k : Nat) : nI a + (no_index (OfNat.ofNat k : Int32)) = nI (a + OfNat.ofNat k) := nI_add a k
theorem nx_addl (a k : Nat) : (no_index (OfNat.ofNat k : Int32)) + nI a = nI (OfNat.ofNat k + a) := nI_add k a
theorem nx_mulN (a k : Nat) : nI a * nI k = nI (a * k) := by
  apply Int32.toBitVec_inj.mp
  rw [Int32.toBitVec_mul]
  show BitVec.ofNat 32 a * BitVec.ofNat 32 k = BitVec.ofNat 32 (a * k)
  rw [BitVec.ofNat_mul]
theorem nx_mul (a k : Nat) : nI a * (no_index (OfNat.ofNat k : Int32)) = nI (a * OfNat.ofNat k) := nx_mulN a k
theorem nx_mull (a k : Nat) : (no_index (OfNat.ofNat k : Int32)) * nI a = nI (OfNat.ofNat k * a) := nx_mulN k a
theorem nx_subN {a k : Nat} (h : k ≤ a) : nI a - nI k = nI (a - k) := by
  have e : nI a = nI (a - k) + nI k := by rw [nI_add, Nat.sub_add_cancel h]
  rw [e, Int32.add_sub_cancel]
theorem nx_sub {a k : Nat} (h : k ≤ a) : nI a - (no_index (OfNat.ofNat k : Int32)) = nI (a - OfNat.ofNat k) := nx_subN h
theorem nx_zadd (a : Nat) : (0 : Int32) + nI a = nI a := by rw [show (0 : Int32) = nI 0 from rfl, nI_add, Nat.zero_add]
theorem nx_cl (k : Nat) (h : k < 2 ^ 31) : (no_index (OfNat.ofNat k : Int32)).toNatClampNeg = OfNat.ofNat k := nI_clamp h
theorem nx_oI {ρ : Type} {j n : Nat} {E : Option ρ} (h : j < n) (hn : n < 2 ^ 31) : oI (no_index (OfNat.ofNat j : Int32)) n E = E := oI_nI h hn
theorem nx_le {a b : Nat} (ha : a < 2 ^ 31) (hb : b < 2 ^ 31) : nI a ≤ nI b ↔ a ≤ b := by
  rw [Int32.le_iff_toInt_le, nI_toInt ha, nI_toInt hb]
  omega
theorem nx_lt {a b : Nat} (ha : a < 2 ^ 31) (hb : b < 2 ^ 31) : nI a < nI b ↔ a < b := by
  rw [Int32.lt_iff_toInt_lt, nI_toInt ha, nI_toInt hb]
  omega
theorem nx_leL {a b : Nat} (ha : a < 2 ^ 31) (hb : b < 2 ^ 31) : nI a ≤ (no_index (OfNat.ofNat b : Int32)) ↔ a ≤ OfNat.ofNat b := nx_le ha hb
theorem nx_Lle {a b : Nat} (ha : a < 2 ^ 31) (hb : b < 2 ^ 31) : (no_index (OfNat.ofNat a : Int32)) ≤ nI b ↔ OfNat.ofNat a ≤ b := nx_le ha hb
theorem nx_ltL {a b : Nat} (ha : a < 2 ^ 31) (hb : b < 2 ^ 31) : nI a < (no_index (OfNat.ofNat b : Int32)) ↔ a < OfNat.ofNat b := nx_lt ha hb
theorem nx_Llt {a b : Nat} (ha : a < 2 ^ 31) (hb : b < 2 ^ 31) : (no_index (OfNat.ofNat a : Int32)) < nI b ↔ OfNat.ofNat a < b := nx_lt ha hb
theorem nx_eqL {a b : Nat} (ha : a < 2 ^ 31) (hb : b < 2 ^ 31) : nI a = (no_index (OfNat.ofNat b : Int32)) ↔ a = OfNat.ofNat b := nI_eq ha hb
theorem nx_Leq {a b : Nat} (ha : a < 2 ^ 31) (hb : b < 2 ^ 31) : (no_index (OfNat.ofNat a : Int32)) = nI b ↔ OfNat.ofNat a = b := nI_eq ha hb
theorem nx_ne {a : Nat} (ha : a < 2 ^ 31) : (nI a = -1) ↔ False := ⟨m1_ne ha, False.elim⟩
theorem nx_ne' {a : Nat} (ha : a < 2 ^ 31) : (-1 = nI a) ↔ False := ⟨fun h => m1_ne ha h.symm, False.elim⟩
theorem nx_lt0 {a : Nat} (ha : a < 2 ^ 31) : (nI a < 0) ↔ False := ⟨nI_lt0 ha, False.elim⟩
theorem nx_le0 {a : Nat} (ha : a < 2 ^ 31) : (0 ≤ nI a) ↔ True := ⟨fun _ => trivial, fun _ => i_nlt (nI_lt0 ha)⟩
theorem nx_m1 : ((-1 : Int32) < 0) ↔ True := by decide
theorem nx_10 : ((1 : Int32) = 0) ↔ False := by decide
/-- any int against a number of things -/
def inB (p : Int32) (n : Nat) : Int32 := if p < 0 then 0 else if nI n ≤ p then 0 else 1
theorem inB_cases (p : Int32) {n : Nat} (hn : n < 2 ^ 31) : (inB p n = 0 ∧ ∀ j, j < n → p ≠ nI j) ∨ ∃ j : Nat, j < n ∧ p = nI j ∧ inB p n = 1 := by
  rcases ix_cases p hn with h | ⟨j, hj, e⟩
  · refine Or.inl ⟨?_, fun j hj e => h ⟨by rw [e]; exact nI_lt0 (by omega), by rw [e]; exact nI_lt hj hn⟩⟩
    unfold inB
    by_cases h0 : p < 0
    · rw [if_pos h0]
    · rw [if_neg h0, if_pos (i_nlt (fun q => h ⟨h0, q⟩))]
  · refine Or.inr ⟨j, hj, e, ?_⟩
    unfold inB
    rw [e, if_neg (nI_lt0 (by omega)), if_neg (nI_ge hj hn)]
theorem in_inB (p : Int32) {n : Nat} (hn : n < 2 ^ 31) : f_M_in p 0 (nI n - 1) = some (inB p n) := by
  unfold f_M_in inB
  by_cases h0 : p < 0
  · rw [if_pos h0, if_pos h0]
  · rw [if_neg h0, if_neg h0]
    have e : (nI n - 1).toInt = (n : Int) - 1 := by
      rcases Nat.eq_zero_or_pos n with h | h
      · subst h
        decide
      · rw [show (1 : Int32) = nI 1 from rfl, nx_subN h, nI_toInt (by omega)]
        omega
    by_cases h1 : nI n ≤ p
    · rw [if_pos h1, if_pos]
      rw [Int32.lt_iff_toInt_lt, e]
      rw [Int32.le_iff_toInt_le, nI_toInt hn] at h1
      omega
    · rw [if_neg h1, if_neg]
      rw [Int32.lt_iff_toInt_lt, e]
      rw [Int32.le_iff_toInt_le, nI_toInt hn] at h1
      omega
theorem oZ_inB {ρ : Type} {p : Int32} {n : Nat} {E : Option ρ} : oZ (inB p n) E = E := by
  unfold inB
  by_cases h0 : p < 0
  · rw [if_pos h0]
    exact oZ0
  · rw [if_neg h0]
    by_cases h1 : nI n ≤ p
    · rw [if_pos h1]
      exact oZ0
    · rw [if_neg h1]
      exact oZ1
/-! ### the yard -/
def yA (Y_cells Y_clauses : Nat → Int32) (m_boys m_marbles m_farms : Int32) (m_rule m_boy m_marble m_farm : Nat → Int32) (nb nm nf : Nat) : Prop :=
  (nb ≤ 5 ∧ nm ≤ 6 ∧ nf ≤ 6) ∧ (Y_clauses 1 = nI nb ∧ Y_clauses 2 = nI nm ∧ Y_clauses 3 = nI nf) ∧ (m_boys = nI nb ∧ m_marbles = nI nm ∧ m_farms = nI nf)
  ∧ (∀ k, k < 3 → Y_cells k = m_rule k) ∧ (∀ b k, b < nb → k < 2 → Y_cells ((1 + b) * 3 + k) = m_boy (2 * b + k))
  ∧ (∀ m k, m < nm → k < 3 → Y_cells ((6 + m) * 3 + k) = m_marble (3 * m + k)) ∧ (∀ f k, f < nf → k < 3 → Y_cells ((12 + f) * 3 + k) = m_farm (3 * f + k))
  ∧ (∀ b, b < nb → (∃ v : Nat, v ≤ 9 ∧ m_boy (2 * b) = nI v) ∧ ∃ v : Nat, v ≤ 9 ∧ m_boy (2 * b + 1) = nI v)
  ∧ (∀ m, m < nm → (∃ v : Nat, v < nb ∧ m_marble (3 * m) = nI v) ∧ (∃ v : Nat, v ≤ 5 ∧ m_marble (3 * m + 1) = nI v) ∧ ∃ v : Nat, v ≤ 9 ∧ m_marble (3 * m + 2) = nI v)
  ∧ (∀ f, f < nf → (∃ v : Nat, v ≤ 9 ∧ m_farm (3 * f) = nI v) ∧ (∃ v : Nat, v ≤ 5 ∧ m_farm (3 * f + 1) = nI v) ∧ ∃ v : Nat, v ≤ 9 ∧ m_farm (3 * f + 2) = nI v)
  ∧ (∃ v : Nat, v ≤ 30 ∧ m_rule 0 = nI v) ∧ (∃ v : Nat, v ≤ 9 ∧ m_rule 1 = nI v) ∧ (∃ v : Nat, v ≤ 99 ∧ m_rule 2 = nI v)
/-- a loop by an invariant; it may leave early -/
theorem qlp1 {S T : Type} {b : S → Option (S ⊕ T)} (I : Nat → S → Prop) (Q : Option T → Prop) {n : Nat} (h : ∀ j s, j < n → I j s → (∃ u, b s = some (.inl u) ∧ I (j + 1) u) ∨ Q (oLp b s)) (he : ∀ s, I n s → Q (oLp b s)) {j : Nat} {s : S} (hj : j ≤ n) (hs : I j s) : Q (oLp b s) := by
  have key : ∀ d j s, n = j + d → I j s → Q (oLp b s) := by
    intro d
    induction d with
    | zero =>
      intro j s e hi
      have e : n = j := e
      subst e
      exact he s hi
    | succ d ih =>
      intro j s e hi
      rcases h j s (by omega) hi with ⟨u, hu, hi2⟩ | q
      · rw [oLp_go hu]
        exact ih (j + 1) u (by omega) hi2
      · exact q
  exact key (n - j) j s (by omega) hs
/-- two loops side by side -/
theorem qlp2 {S T S' T' : Type} {b : S → Option (S ⊕ T)} {b' : S' → Option (S' ⊕ T')} (I : Nat → S → S' → Prop) (Q : Option T → Option T' → Prop) {n : Nat} (h : ∀ j s s', j < n → I j s s' → (∃ u u', b s = some (.inl u) ∧ b' s' = some (.inl u') ∧ I (j + 1) u u') ∨ Q (oLp b s) (oLp b' s')) (he : ∀ s s', I n s s' → Q (oLp b s) (oLp b' s')) {j : Nat} {s : S} {s' : S'} (hj : j ≤ n) (hs : I j s s') : Q (oLp b s) (oLp b' s') := by
  have key : ∀ d j s s', n = j + d → I j s s' → Q (oLp b s) (oLp b' s') := by
    intro d
    induction d with
    | zero =>
      intro j s s' e hi
      have e : n = j := e
      subst e
      exact he s s' hi
    | succ d ih =>
      intro j s s' e hi
      rcases h j s s' (by omega) hi with ⟨u, u', hu, hu', hi2⟩ | q
      · rw [oLp_go hu, oLp_go hu']
        exact ih (j + 1) u u' (by omega) hi2
      · exact q
  exact key (n - j) j s s' (by omega) hs
