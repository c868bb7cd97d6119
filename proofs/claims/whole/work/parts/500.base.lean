/-! The plain part: small numbers, loops, reads. -/
theorem oI_nI {ρ : Type} {j n : Nat} {E : Option ρ} (h : j < n) (hn : n < 2 ^ 31) : oI (nI j) n E = E := by
  unfold oI
  rw [if_neg]
  exact nI_in h hn
theorem oI_in {ρ : Type} {i : Int32} {n : Nat} {E : Option ρ} (h : vp_in i n) : oI i n E = E := if_neg h
theorem oLp_go {S T : Type} {body : S → Option (S ⊕ T)} {s s' : S} (h : body s = some (.inl s')) : oLp body s = oLp body s' := by
  rw [oLp_eq, h]
theorem oLp_out {S T : Type} {body : S → Option (S ⊕ T)} {s : S} {t : T} (h : body s = some (.inr t)) : oLp body s = some t := by
  rw [oLp_eq, h]
theorem oLp_map {S T : Type} {body : S → Option (S ⊕ T)} {s : S} {E : Option T} (h : body s = E.map .inr) : oLp body s = E := by
  rw [oLp_eq, h]
  cases E <;> rfl
/-- a loop that counts: from the i-th state on to the n-th -/
theorem oLp_run {S T : Type} {body : S → Option (S ⊕ T)} (st : Nat → S) {i n : Nat} (hi : i ≤ n) (h : ∀ j, i ≤ j → j < n → body (st j) = some (.inl (st (j + 1)))) : oLp body (st i) = oLp body (st n) := by
  induction n with
  | zero => rw [Nat.le_zero.mp hi]
  | succ n ih =>
    rcases Nat.lt_or_eq_of_le hi with h1 | h1
    · rw [ih (Nat.le_of_lt_succ h1) (fun j a b => h j a (Nat.lt_succ_of_lt b)), oLp_go (h n (Nat.le_of_lt_succ h1) (Nat.lt_succ_self n))]
    · rw [h1]
/-- a loop that counts to n and ends there with t -/
theorem oLp_for {S T : Type} {body : S → Option (S ⊕ T)} (st : Nat → S) {i n : Nat} {t : T} (hi : i ≤ n) (h : ∀ j, i ≤ j → j < n → body (st j) = some (.inl (st (j + 1)))) (he : body (st n) = some (.inr t)) : oLp body (st i) = some t := (oLp_run st hi h).trans (oLp_out he)
/-- .. and goes on with E -/
theorem oLp_forM {S T : Type} {body : S → Option (S ⊕ T)} (st : Nat → S) {i n : Nat} {E : Option T} (hi : i ≤ n) (h : ∀ j, i ≤ j → j < n → body (st j) = some (.inl (st (j + 1)))) (he : body (st n) = E.map .inr) : oLp body (st i) = E := (oLp_run st hi h).trans (oLp_map he)
theorem nI_lit (n : Nat) : (OfNat.ofNat n : Int32) = nI n := rfl
theorem nI_neg1 : ¬ nI 0 < 0 := by decide
theorem m1_lt : (-1 : Int32) < 0 := by decide
theorem m1_ne {n : Nat} (h : n < 2 ^ 31) : ¬ nI n = -1 := by
  intro e
  have h1 := congrArg Int32.toInt e
  rw [nI_toInt h] at h1
  have h2 : (-1 : Int32).toInt = -1 := by decide
  omega
theorem nI_lt0 {n : Nat} (h : n < 2 ^ 31) : ¬ nI n < 0 := nI_pos h
theorem nI_inj {a b : Nat} (ha : a < 2 ^ 31) (hb : b < 2 ^ 31) (h : nI a = nI b) : a = b := (nI_eq ha hb).mp h
/-- any int against 0 .. n-1 -/
theorem ix_cases (x : Int32) {n : Nat} (hn : n < 2 ^ 31) : (¬ (¬ x < 0 ∧ x < nI n)) ∨ ∃ j : Nat, j < n ∧ x = nI j := by
  rcases pk_ix x hn with h | h | h
  · exact Or.inl (fun q => q.1 h)
  · exact Or.inl (fun q => by have := q.2; rw [Int32.lt_iff_toInt_lt] at this; rw [Int32.le_iff_toInt_le] at h; omega)
  · exact Or.inr h
theorem i_nle {x y : Int32} (h : ¬ x ≤ y) : y < x := by
  rw [Int32.le_iff_toInt_le] at h
  rw [Int32.lt_iff_toInt_lt]
  omega
theorem i_nlt {x y : Int32} (h : ¬ x < y) : y ≤ x := by
  rw [Int32.lt_iff_toInt_lt] at h
  rw [Int32.le_iff_toInt_le]
  omega
theorem i_le_lt {x y : Int32} : (¬ x ≤ y) ↔ y < x := ⟨i_nle, fun h q => by rw [Int32.le_iff_toInt_le] at q; rw [Int32.lt_iff_toInt_lt] at h; omega⟩
theorem nI_le_iff {x : Int32} {n : Nat} (h0 : ¬ x < 0) (hn : n < 2 ^ 31) : x ≤ nI n ↔ x.toInt ≤ n := by
  rw [Int32.le_iff_toInt_le, nI_toInt hn]
theorem oZ0 {ρ : Type} {E : Option ρ} : oZ 0 E = E := by
  unfold oZ
  exact if_pos rfl
theorem oZ1 {ρ : Type} {E : Option ρ} : oZ 1 E = E := by
  unfold oZ
  exact if_pos rfl
theorem bind_some' {α β : Type} {a : α} {f : α → Option β} : (some a).bind f = f a := rfl
/-! relations, by groups of components -/
def rTape (T_length : Int32) (T_bytes : Nat → Int32) (m_size : Int32) (m_tape : Nat → Int32) : Prop := ∃ t : Nat, t ≤ 240 ∧ T_length = nI t ∧ m_size = nI t ∧ ∀ j, j < t → T_bytes j = m_tape j ∧ ∃ b : Nat, 1 ≤ b ∧ b ≤ 255 ∧ m_tape j = nI b
/-! bytes of a number -/
def byt (w : Int32) (i : Nat) : Int32 := (w >>> (nI (24 - 8 * i) &&& 31)) &&& 255
