/-! operators: the class's on ints, the reference's on longs -/
theorem l_m : (-1000000 : Int64).toInt = -1000000 := by decide
theorem l_p : (1000000 : Int64).toInt = 1000000 := by decide
theorem bm32 {x : Int} (h1 : -1000000 ≤ x) (h2 : x ≤ 1000000) : x.bmod (2 ^ 32) = x := Int.bmod_eq_of_le_mul_two (by omega) (by omega)
theorem bm64 {x : Int} (h1 : -1000000 ≤ x) (h2 : x ≤ 1000000) : x.bmod (2 ^ 64) = x := Int.bmod_eq_of_le_mul_two (by omega) (by omega)
theorem held_bd (z : Int64) : -1000000 ≤ (jmaxl (-1000000) (jminl 1000000 z)).toInt ∧ (jmaxl (-1000000) (jminl 1000000 z)).toInt ≤ 1000000 := by
  have hm : (jminl 1000000 z).toInt ≤ 1000000 := by
    unfold jminl
    by_cases h : z < 1000000
    · rw [if_pos h]
      rw [Int64.lt_iff_toInt_lt, l_p] at h
      omega
    · rw [if_neg h, l_p]
      omega
  generalize jminl 1000000 z = y at hm
  unfold jmaxl
  by_cases h : y < -1000000
  · rw [if_pos h, l_m]
    omega
  · rw [if_neg h]
    rw [Int64.lt_iff_toInt_lt, l_m] at h
    omega
theorem held_mil (z : Int64) : mil ((jmaxl (-1000000) (jminl 1000000 z)).toInt32) := by
  have h := held_bd z
  unfold mil
  rw [Int64.toInt_toInt32, bm32 h.1 h.2]
  exact h
theorem held_id {z : Int64} (h1 : -1000000 ≤ z.toInt) (h2 : z.toInt ≤ 1000000) : jmaxl (-1000000) (jminl 1000000 z) = z := by
  have e : jminl 1000000 z = z := by
    unfold jminl
    by_cases h : z < 1000000
    · rw [if_pos h]
    · rw [if_neg h]
      rw [Int64.lt_iff_toInt_lt, l_p] at h
      apply Int64.toInt_inj.mp
      rw [l_p]
      omega
  rw [e]
  unfold jmaxl
  rw [if_neg]
  rw [Int64.lt_iff_toInt_lt, l_m]
  omega
def opP (o : Nat) (o' : Int32) (qi qo : Bool) : Prop := ∀ x y, mil x → mil y → (qi = true → b01 x ∧ b01 y) → ∃ w, f_Laws_joined (nI o) x y = some w ∧ f_M_worked o' x.toInt64 y.toInt64 = some w ∧ mil w ∧ (qo = true → b01 w)
theorem op_add : opP 43 2 false false := fun x y hx hy _ => ⟨_, rfl, rfl, held_mil _, fun h => by cases h⟩
theorem op_sub : opP 45 3 false false := fun x y hx hy _ => ⟨_, rfl, rfl, held_mil _, fun h => by cases h⟩
theorem op_mul : opP 42 4 false false := fun x y hx hy _ => ⟨_, rfl, rfl, held_mil _, fun h => by cases h⟩
theorem mil_0 : mil 0 := mil_nI (n := 0) (by omega)
theorem mil_1 : mil 1 := mil_nI (n := 1) (by omega)
theorem mil_b {x : Int32} (h : b01 x) : mil x := by
  rcases h with h | h <;> rw [h]
  · exact mil_0
  · exact mil_1
theorem l_0 : (0 : Int64) = (0 : Int32).toInt64 := rfl
theorem t64_inj {x y : Int32} : x.toInt64 = y.toInt64 ↔ x = y := by
  constructor
  · intro h
    have := congrArg Int64.toInt h
    rw [Int32.toInt_toInt64, Int32.toInt_toInt64] at this
    exact Int32.toInt_inj.mp this
  · intro h
    rw [h]
theorem t64_le {x y : Int32} : x.toInt64 ≤ y.toInt64 ↔ x ≤ y := by
  rw [Int64.le_iff_toInt_le, Int32.le_iff_toInt_le, Int32.toInt_toInt64, Int32.toInt_toInt64]
theorem op_div : opP 47 5 false false := by
  intro x y hx hy _
  by_cases h0 : y = 0
  · subst h0
    exact ⟨0, rfl, rfl, mil_0, fun h => by cases h⟩
  · have hq1 := Int.natAbs_tdiv_le_natAbs x.toInt y.toInt
    have hx1 := hx.1
    have hx2 := hx.2
    have q1 : -1000000 ≤ x.toInt.tdiv y.toInt := by omega
    have q2 : x.toInt.tdiv y.toInt ≤ 1000000 := by omega
    have e64 : (x.toInt64 / y.toInt64).toInt = x.toInt.tdiv y.toInt := by
      rw [Int64.toInt_div, Int32.toInt_toInt64, Int32.toInt_toInt64, bm64 q1 q2]
    have e32 : (x / y).toInt = x.toInt.tdiv y.toInt := by
      rw [Int32.toInt_div, bm32 q1 q2]
    refine ⟨x / y, ?_, ?_, ?_, fun h => by cases h⟩
    · show (if y = 0 then some 0 else oD y (some (x / y))) = _
      rw [if_neg h0]
      unfold oD
      rw [if_neg h0]
    · show (if lg_cmp y.toInt64 0 = 0 then some 0 else oDl y.toInt64 ((f_M_bounded (x.toInt64 / y.toInt64)).bind fun a => some a)) = _
      have hy64 : ¬ y.toInt64 = 0 := fun q => h0 (t64_inj.mp q)
      rw [if_neg (fun q => hy64 ((lg_cmp_eq _ _).mp q))]
      unfold oDl f_M_bounded
      rw [if_neg hy64, bind_some', held_id (by rw [e64]; exact q1) (by rw [e64]; exact q2)]
      congr 1
      apply Int32.toInt_inj.mp
      rw [Int64.toInt_toInt32, e64, e32, bm32 q1 q2]
    · unfold mil
      rw [e32]
      exact ⟨q1, q2⟩
theorem op_eq : opP 61 6 false true := by
  intro x y hx hy _
  by_cases h : x = y
  · refine ⟨1, ?_, ?_, mil_1, fun _ => Or.inr rfl⟩
    · show (if x = y then some 1 else some 0) = _
      rw [if_pos h]
    · show (if lg_cmp x.toInt64 y.toInt64 = 0 then some 1 else some 0) = _
      rw [if_pos ((lg_cmp_eq _ _).mpr (t64_inj.mpr h))]
  · refine ⟨0, ?_, ?_, mil_0, fun _ => Or.inl rfl⟩
    · show (if x = y then some 1 else some 0) = _
      rw [if_neg h]
    · show (if lg_cmp x.toInt64 y.toInt64 = 0 then some 1 else some 0) = _
      rw [if_neg (fun q => h (t64_inj.mp ((lg_cmp_eq _ _).mp q)))]
theorem op_lt : opP 60 7 false true := by
  intro x y hx hy _
  by_cases h : y ≤ x
  · refine ⟨0, ?_, ?_, mil_0, fun _ => Or.inl rfl⟩
    · show (if y ≤ x then some 0 else some 1) = _
      rw [if_pos h]
    · show (if 0 ≤ lg_cmp x.toInt64 y.toInt64 then some 0 else some 1) = _
      rw [if_pos ((lg_cmp_ge _ _).mpr (t64_le.mpr h))]
  · refine ⟨1, ?_, ?_, mil_1, fun _ => Or.inr rfl⟩
    · show (if y ≤ x then some 0 else some 1) = _
      rw [if_neg h]
    · show (if 0 ≤ lg_cmp x.toInt64 y.toInt64 then some 0 else some 1) = _
      rw [if_neg (fun q => h (t64_le.mp ((lg_cmp_ge _ _).mp q)))]
theorem op_gt : opP 62 8 false true := by
  intro x y hx hy _
  by_cases h : x ≤ y
  · refine ⟨0, ?_, ?_, mil_0, fun _ => Or.inl rfl⟩
    · show (if x ≤ y then some 0 else some 1) = _
      rw [if_pos h]
    · show (if lg_cmp x.toInt64 y.toInt64 ≤ 0 then some 0 else some 1) = _
      rw [if_pos ((lg_cmp_le _ _).mpr (t64_le.mpr h))]
  · refine ⟨1, ?_, ?_, mil_1, fun _ => Or.inr rfl⟩
    · show (if x ≤ y then some 0 else some 1) = _
      rw [if_neg h]
    · show (if lg_cmp x.toInt64 y.toInt64 ≤ 0 then some 0 else some 1) = _
      rw [if_neg (fun q => h (t64_le.mp ((lg_cmp_le _ _).mp q)))]
theorem op_and : opP 38 10 true true := by
  intro x y hx hy hb
  obtain ⟨h1, h2⟩ := hb rfl
  rcases h1 with rfl | rfl <;> rcases h2 with rfl | rfl
  · exact ⟨0, rfl, rfl, mil_0, fun _ => Or.inl rfl⟩
  · exact ⟨0, rfl, rfl, mil_0, fun _ => Or.inl rfl⟩
  · exact ⟨0, rfl, rfl, mil_0, fun _ => Or.inl rfl⟩
  · exact ⟨1, rfl, rfl, mil_1, fun _ => Or.inr rfl⟩
theorem op_or : opP 124 11 true true := by
  intro x y hx hy hb
  obtain ⟨h1, h2⟩ := hb rfl
  rcases h1 with rfl | rfl <;> rcases h2 with rfl | rfl
  · exact ⟨0, rfl, rfl, mil_0, fun _ => Or.inl rfl⟩
  · exact ⟨1, rfl, rfl, mil_1, fun _ => Or.inr rfl⟩
  · exact ⟨1, rfl, rfl, mil_1, fun _ => Or.inr rfl⟩
  · exact ⟨1, rfl, rfl, mil_1, fun _ => Or.inr rfl⟩
theorem pEv_mono {G Cd Vl : Nat → Int32} {a b a' b' h h' : Nat} {q : Bool} (x : pEv G Cd Vl a b a' b' h q) (hh : h ≤ h') : pEv G Cd Vl a b a' b' h' q := by
  obtain ⟨v, x1, x2, x3, x4⟩ := x
  exact ⟨v, cEv_mono x1 hh, wEv_mono x2 hh, x3, x4⟩
theorem pEv_weak {G Cd Vl : Nat → Int32} {a b a' b' h : Nat} (x : pEv G Cd Vl a b a' b' h true) : pEv G Cd Vl a b a' b' h false := by
  obtain ⟨v, x1, x2, x3, x4⟩ := x
  exact ⟨v, x1, x2, x3, fun h => by cases h⟩
theorem pEv_agree {G Cd Vl G' Cd' Vl' : Nat → Int32} {a b a' b' h : Nat} {q : Bool} (x : pEv G Cd Vl a b a' b' h q) (h1 : ∀ i, a ≤ i → i < b → G' i = G i) (h2 : ∀ i, a' ≤ i → i < b' → Cd' i = Cd i ∧ Vl' i = Vl i) : pEv G' Cd' Vl' a b a' b' h q := by
  obtain ⟨v, x1, x2, x3, x4⟩ := x
  exact ⟨v, cEv_agree x1 h1, wEv_agree x2 h2, x3, x4⟩
theorem pEv_op {G Cd Vl : Nat → Int32} {a b c a' b' c' h1 h2 h o : Nat} {o' : Int32} {qi qo : Bool} (x : pEv G Cd Vl a b a' b' h1 qi) (y : pEv G Cd Vl b c b' c' h2 qi) (hp : opP o o' qi qo) (hab : a ≤ b) (hbc : b ≤ c) (hab' : a' ≤ b') (hbc' : b' ≤ c') (hc : G c = nI (20000 + o)) (hc' : Cd c' = o') (ho : o < 1000) (hn : o ≠ 33) (h0 : ¬ o' = 0) (h1' : ¬ o' = 1) (h9 : ¬ o' = 9) (q1 : h1 ≤ h) (q2 : h2 + 1 ≤ h) (q3 : 3 ≤ h) : pEv G Cd Vl a (c + 1) a' (c' + 1) h qo := by
  obtain ⟨v1, x1, x2, x3, x4⟩ := x
  obtain ⟨v2, y1, y2, y3, y4⟩ := y
  have key : ∀ K, mils K → f_Laws_joined (nI o) (v1 K) (v2 K) = some ((f_Laws_joined (nI o) (v1 K) (v2 K)).getD 0) ∧ f_M_worked o' (v1 K).toInt64 (v2 K).toInt64 = some ((f_Laws_joined (nI o) (v1 K) (v2 K)).getD 0) ∧ mil ((f_Laws_joined (nI o) (v1 K) (v2 K)).getD 0) ∧ (qo = true → b01 ((f_Laws_joined (nI o) (v1 K) (v2 K)).getD 0)) := by
    intro K hK
    obtain ⟨w, w1, w2, w3, w4⟩ := hp (v1 K) (v2 K) (x3 K hK) (y3 K hK) (fun e => ⟨x4 e K hK, y4 e K hK⟩)
    rw [w1]
    exact ⟨rfl, w2, w3, w4⟩
  exact ⟨fun K => (f_Laws_joined (nI o) (v1 K) (v2 K)).getD 0, cEv_op x1 y1 hab hbc hc ho hn (fun K hK => (key K hK).1) q1 q2 q3, wEv_op x2 y2 hab' hbc' hc' h0 h1' h9 (fun K hK => (key K hK).2.1) q1 q2 q3, fun K hK => (key K hK).2.2.1, fun e K hK => (key K hK).2.2.2 e⟩
theorem b01_not {x : Int32} (h : b01 x) : b01 (1 - x) := by
  rcases h with rfl | rfl
  · exact Or.inr rfl
  · exact Or.inl rfl
theorem pEv_not {G Cd Vl : Nat → Int32} {a b a' b' h : Nat} (x : pEv G Cd Vl a b a' b' h true) (hab : a ≤ b) (hab' : a' ≤ b') (hc : G b = nI 20033) (hc' : Cd b' = 9) (q : 2 ≤ h) : pEv G Cd Vl a (b + 1) a' (b' + 1) h true := by
  obtain ⟨v, x1, x2, x3, x4⟩ := x
  exact ⟨fun K => 1 - v K, cEv_not x1 hab hc q, wEv_not x2 hab' hc' q, fun K hK => mil_b (b01_not (x4 rfl K hK)), fun _ K hK => b01_not (x4 rfl K hK)⟩
theorem pEv_num {G Cd Vl : Nat → Int32} {a a' v : Nat} (hc : G a = nI v) (hv : v < 10000) (h1 : Cd a' = 0) (h2 : Vl a' = nI v) : pEv G Cd Vl a (a + 1) a' (a' + 1) 1 false :=
  ⟨fun _ => nI v, cEv_num hc hv, wEv_num h1 h2, fun K _ => mil_nI (by omega), fun h => by cases h⟩
theorem pEv_let {G Cd Vl : Nat → Int32} {a a' i : Nat} (hc : G a = nI (10000 + i)) (hi : i < 6) (h1 : Cd a' = 1) (h2 : Vl a' = nI i) : pEv G Cd Vl a (a + 1) a' (a' + 1) 1 false :=
  ⟨fun K => K i, cEv_let hc hi, wEv_let h1 h2 hi, fun K hK => hK i hi, fun h => by cases h⟩
