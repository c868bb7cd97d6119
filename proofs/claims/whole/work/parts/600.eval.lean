/-! a law's value: tokens of the class, codes of the reference -/
theorem nx_pred (k : Nat) : nI (k + 1) + (-1) = nI k := by
  rw [← nI_add k 1, Int32.add_assoc, show nI 1 + (-1) = (0 : Int32) from by decide, Int32.add_zero]
theorem nx_pre1 (k : Nat) : nI (k + 1) - 1 = nI k := nx_sub (by show 1 ≤ k + 1; omega)
theorem nx_nle {a b : Nat} (h : a < b) (hb : b < 2 ^ 31) : ¬ (no_index (OfNat.ofNat b : Int32)) ≤ nI a := nI_ge h hb
theorem nx_nlt {a b : Nat} (h : b ≤ a) (ha : a < 2 ^ 31) : ¬ nI a < (no_index (OfNat.ofNat b : Int32)) := fun q => by
  have := (nx_ltL ha (by omega)).mp q
  have : a < b := this
  omega
theorem nx_neL {a b : Nat} (h : a ≠ b) (ha : a < 2 ^ 31) (hb : b < 2 ^ 31) : ¬ nI a = (no_index (OfNat.ofNat b : Int32)) := fun q => h ((nx_eqL ha hb).mp q)
theorem c_num {Ac L s : Nat → Int32} {l len a u top v : Nat} (hl : l < 4) (hlen : len ≤ 240) (ha : a < len) (hu : u ≤ a) (ht : top < 240) (hc : Ac (l * 240 + a) = nI v) (hv : v < 10000) : f_Laws_worth_C31_L39 Ac L (nI len) (nI (l * 240)) (nI top, nI a, nI u, s) = some (.inl (nI (top + 1), nI (a + 1), nI (u + 1), upd s top (nI v))) := by
  unfold f_Laws_worth_C31_L39
  dsimp only
  rw [if_neg (nI_ge (show u < len by omega) (by omega)), if_neg (nI_ge ha (by omega)), if_neg (show ¬ (240 : Int32) ≤ nI top from nI_ge ht (by decide)), nI_add, oI_nI (j := l * 240 + a) (n := 960) (by omega) (by decide), nI_clamp (n := l * 240 + a) (by omega)]
  simp only [oL]
  rw [hc, if_neg (show ¬ (20000 : Int32) ≤ nI v from nI_ge (b := 20000) (by omega) (by decide)), if_neg (show ¬ (10000 : Int32) ≤ nI v from nI_ge hv (by decide))]
  unfold f_Laws_worth_C31_J110 f_Laws_worth_C31_J251
  rw [oI_nI ht (by decide), nI_clamp (by omega)]
  simp only [oL, nx_add]
theorem c_let {Ac L s : Nat → Int32} {l len a u top i : Nat} (hl : l < 4) (hlen : len ≤ 240) (ha : a < len) (hu : u ≤ a) (ht : top < 240) (hc : Ac (l * 240 + a) = nI (10000 + i)) (hi : i < 6) : f_Laws_worth_C31_L39 Ac L (nI len) (nI (l * 240)) (nI top, nI a, nI u, s) = some (.inl (nI (top + 1), nI (a + 1), nI (u + 1), upd s top (L i))) := by
  unfold f_Laws_worth_C31_L39
  dsimp only
  rw [if_neg (nI_ge (show u < len by omega) (by omega)), if_neg (nI_ge ha (by omega)), if_neg (show ¬ (240 : Int32) ≤ nI top from nI_ge ht (by decide)), nI_add, oI_nI (j := l * 240 + a) (n := 960) (by omega) (by decide), nI_clamp (n := l * 240 + a) (by omega)]
  simp only [oL]
  rw [hc, if_neg (show ¬ (20000 : Int32) ≤ nI (10000 + i) from nI_ge (b := 20000) (by omega) (by decide)), if_pos (show (10000 : Int32) ≤ nI (10000 + i) from nI_le (a := 10000) (by omega) (by omega))]
  have e : nI (10000 + i) - 10000 = nI i := by
    rw [show (10000 : Int32) = nI 10000 from rfl, nx_subN (by omega), Nat.add_sub_cancel_left]
  rw [e]
  unfold f_Laws_letterOf_C31 f_Laws_worth_C31_J110 f_Laws_worth_C31_J251
  rw [if_neg (nI_lt0 (by omega)), if_neg (show ¬ (6 : Int32) ≤ nI i from nI_ge hi (by decide)), oI_nI hi (by decide), nI_clamp (n := i) (by omega), bind_some', oI_nI ht (by decide), nI_clamp (by omega)]
  simp only [oL, nx_add]
theorem c_op {Ac L s : Nat → Int32} {l len a u k o : Nat} {x : Int32} (hl : l < 4) (hlen : len ≤ 240) (ha : a < len) (hu : u ≤ a) (ht : k + 2 < 240) (hc : Ac (l * 240 + a) = nI (20000 + o)) (ho : o < 1000) (hn : o ≠ 33) (hx : f_Laws_joined (nI o) (s k) (s (k + 1)) = some x) : f_Laws_worth_C31_L39 Ac L (nI len) (nI (l * 240)) (nI (k + 2), nI a, nI u, s) = some (.inl (nI (k + 1), nI (a + 1), nI (u + 1), upd s k x)) := by
  unfold f_Laws_worth_C31_L39
  dsimp only
  rw [if_neg (nI_ge (show u < len by omega) (by omega)), if_neg (nI_ge ha (by omega)), if_neg (show ¬ (240 : Int32) ≤ nI (k + 2) from nI_ge ht (by decide)), nI_add, oI_nI (j := l * 240 + a) (n := 960) (by omega) (by decide), nI_clamp (n := l * 240 + a) (by omega)]
  simp only [oL]
  have e : nI (20000 + o) - 20000 = nI o := by
    rw [show (20000 : Int32) = nI 20000 from rfl, nx_subN (by omega), Nat.add_sub_cancel_left]
  rw [hc, if_pos (show (20000 : Int32) ≤ nI (20000 + o) from nI_le (a := 20000) (by omega) (by omega)), if_neg (show ¬ nI (k + 2) = 0 from nx_neL (b := 0) (by omega) (by omega) (by decide)), if_neg (show ¬ nI (20000 + o) = 30000 from nx_neL (b := 30000) (by omega) (by omega) (by decide)), if_pos (show nI (20000 + o) < 40000 from nI_lt (b := 40000) (by omega) (by decide)), if_neg (show ¬ nI (20000 + o) = 20033 from nx_neL (b := 20033) (by omega) (by omega) (by decide)), if_neg (show ¬ nI (k + 2) < 2 from nx_nlt (b := 2) (by omega) (by omega)), e, nx_pred (k + 1), nx_pre1 k, oI_nI (j := k) (n := 240) (by omega) (by decide), oI_nI (j := k + 1) (n := 240) (by omega) (by decide), nI_clamp (n := k) (by omega), nI_clamp (n := k + 1) (by omega), hx, bind_some', oI_nI (j := k) (n := 240) (by omega) (by decide)]
  unfold f_Laws_worth_C31_J251
  rw [nx_add, nx_add]
theorem c_not {Ac L s : Nat → Int32} {l len a u k : Nat} (hl : l < 4) (hlen : len ≤ 240) (ha : a < len) (hu : u ≤ a) (ht : k + 1 < 240) (hc : Ac (l * 240 + a) = nI 20033) : f_Laws_worth_C31_L39 Ac L (nI len) (nI (l * 240)) (nI (k + 1), nI a, nI u, s) = some (.inl (nI (k + 1), nI (a + 1), nI (u + 1), upd s k (1 - s k))) := by
  unfold f_Laws_worth_C31_L39
  dsimp only
  rw [if_neg (nI_ge (show u < len by omega) (by omega)), if_neg (nI_ge ha (by omega)), if_neg (show ¬ (240 : Int32) ≤ nI (k + 1) from nI_ge ht (by decide)), nI_add, oI_nI (j := l * 240 + a) (n := 960) (by omega) (by decide), nI_clamp (n := l * 240 + a) (by omega)]
  simp only [oL]
  rw [hc, if_pos (show (20000 : Int32) ≤ nI 20033 from nI_le (a := 20000) (by omega) (by omega)), if_neg (show ¬ nI (k + 1) = 0 from nx_neL (b := 0) (by omega) (by omega) (by decide)), if_neg (show ¬ nI 20033 = 30000 from by decide), if_pos (show nI 20033 < 40000 from by decide), if_pos (show nI 20033 = 20033 from rfl), nx_pre1 k, oI_nI (j := k) (n := 240) (by omega) (by decide), oI_nI (j := k) (n := 240) (by omega) (by decide), nI_clamp (n := k) (by omega)]
  unfold f_Laws_worth_C31_J251
  rw [nx_add, nx_add]
theorem c_jump {Ac L s : Nat → Int32} {l len a u k x : Nat} (hl : l < 4) (hlen : len ≤ 240) (ha : a < len) (hu : u ≤ a) (ht : k + 1 < 240) (hc : Ac (l * 240 + a) = nI (40000 + x)) (hx : x < 1000) : f_Laws_worth_C31_L39 Ac L (nI len) (nI (l * 240)) (nI (k + 1), nI a, nI u, s) = some (.inl (nI k, (if s k = 0 then nI x else nI (a + 1)), nI (u + 1), s)) := by
  unfold f_Laws_worth_C31_L39
  dsimp only
  rw [if_neg (nI_ge (show u < len by omega) (by omega)), if_neg (nI_ge ha (by omega)), if_neg (show ¬ (240 : Int32) ≤ nI (k + 1) from nI_ge ht (by decide)), nI_add, oI_nI (j := l * 240 + a) (n := 960) (by omega) (by decide), nI_clamp (n := l * 240 + a) (by omega)]
  simp only [oL]
  have e : nI (40000 + x) - 40000 = nI x := by
    rw [show (40000 : Int32) = nI 40000 from rfl, nx_subN (by omega), Nat.add_sub_cancel_left]
  rw [hc, if_pos (show (20000 : Int32) ≤ nI (40000 + x) from nI_le (a := 20000) (by omega) (by omega)), if_neg (show ¬ nI (k + 1) = 0 from nx_neL (b := 0) (by omega) (by omega) (by decide)), if_neg (show ¬ nI (40000 + x) = 30000 from nx_neL (b := 30000) (by omega) (by omega) (by decide)), if_neg (show ¬ nI (40000 + x) < 40000 from nx_nlt (b := 40000) (by omega) (by omega)), nx_pred k, e, oI_nI (j := k) (n := 240) (by omega) (by decide), nI_clamp (n := k) (by omega)]
  unfold f_Laws_worth_C31_J172 f_Laws_worth_C31_J251
  rw [nx_add, nx_add]
  split <;> rfl
theorem c_ans {Ac L s : Nat → Int32} {l len a u k : Nat} (hl : l < 4) (hlen : len ≤ 240) (ha : a < len) (hu : u ≤ a) (ht : k + 1 < 240) (hc : Ac (l * 240 + a) = nI 30000) : f_Laws_worth_C31_L39 Ac L (nI len) (nI (l * 240)) (nI (k + 1), nI a, nI u, s) = some (.inr (s k, s)) := by
  unfold f_Laws_worth_C31_L39
  dsimp only
  rw [if_neg (nI_ge (show u < len by omega) (by omega)), if_neg (nI_ge ha (by omega)), if_neg (show ¬ (240 : Int32) ≤ nI (k + 1) from nI_ge ht (by decide)), nI_add, oI_nI (j := l * 240 + a) (n := 960) (by omega) (by decide), nI_clamp (n := l * 240 + a) (by omega)]
  simp only [oL]
  rw [hc, if_pos (show (20000 : Int32) ≤ nI 30000 from by decide), if_neg (show ¬ nI (k + 1) = 0 from nx_neL (b := 0) (by omega) (by omega) (by decide)), if_pos (show nI 30000 = 30000 from rfl), nx_pre1 k, oI_nI (j := k) (n := 240) (by omega) (by decide), nI_clamp (n := k) (by omega)]
  rfl
/-! the reference's -/
theorem w_num {Cd Vl L s : Nat → Int32} {n e a top : Nat} {v : Int32} (hn : n < 5) (he : e ≤ 520) (ha : a < 520 * n + e) (ht : top < 80) (hc : Cd a = 0) (hv : Vl a = v) : f_M_workOut_L12 Cd Vl L (nI n) (nI e) (nI top, nI a, s) = some (.inl (nI (top + 1), nI (a + 1), upd s top v)) := by
  unfold f_M_workOut_L12
  dsimp only
  rw [nx_mull, nI_add, if_neg (show ¬ nI (520 * n + e) ≤ nI a from nI_ge ha (by omega)), oI_nI (j := a) (n := 2600) (by omega) (by decide), nI_clamp (n := a) (by omega), hc, if_pos rfl]
  unfold f_M_workOut_J45 f_M_workOut_J83 f_M_workOut_J165
  rw [oI_nI (j := a) (n := 2600) (by omega) (by decide), nI_clamp (n := a) (by omega), hc, if_pos rfl, oI_nI (j := a) (n := 2600) (by omega) (by decide), oI_nI ht (by decide), nI_clamp (by omega), hv]
  simp only [oL, nx_add]
theorem w_let {Cd Vl L s : Nat → Int32} {n e a top i : Nat} (hn : n < 5) (he : e ≤ 520) (ha : a < 520 * n + e) (ht : top < 80) (hc : Cd a = 1) (hv : Vl a = nI i) (hi : i < 6) : f_M_workOut_L12 Cd Vl L (nI n) (nI e) (nI top, nI a, s) = some (.inl (nI (top + 1), nI (a + 1), upd s top (L i))) := by
  unfold f_M_workOut_L12
  dsimp only
  rw [nx_mull, nI_add, if_neg (show ¬ nI (520 * n + e) ≤ nI a from nI_ge ha (by omega)), oI_nI (j := a) (n := 2600) (by omega) (by decide), nI_clamp (n := a) (by omega), hc, if_neg (by decide), oI_nI (j := a) (n := 2600) (by omega) (by decide), if_pos rfl]
  unfold f_M_workOut_J45 f_M_workOut_J83 f_M_workOut_J165
  rw [oI_nI (j := a) (n := 2600) (by omega) (by decide), nI_clamp (n := a) (by omega), hc, if_neg (by decide), oI_nI (j := a) (n := 2600) (by omega) (by decide), hv, oI_nI hi (by decide), nI_clamp (n := i) (by omega), oI_nI ht (by decide), nI_clamp (by omega)]
  simp only [oL, nx_add]
theorem w_not {Cd Vl L s : Nat → Int32} {n e a k : Nat} (hn : n < 5) (he : e ≤ 520) (ha : a < 520 * n + e) (ht : k + 1 < 80) (hc : Cd a = 9) : f_M_workOut_L12 Cd Vl L (nI n) (nI e) (nI (k + 1), nI a, s) = some (.inl (nI (k + 1), nI (a + 1), upd s k (1 - s k))) := by
  unfold f_M_workOut_L12
  dsimp only
  rw [nx_mull, nI_add, if_neg (show ¬ nI (520 * n + e) ≤ nI a from nI_ge ha (by omega)), oI_nI (j := a) (n := 2600) (by omega) (by decide), nI_clamp (n := a) (by omega), hc, if_neg (by decide), oI_nI (j := a) (n := 2600) (by omega) (by decide), if_neg (by decide), oI_nI (j := a) (n := 2600) (by omega) (by decide), if_pos rfl, nx_pre1 k, oI_nI (j := k) (n := 80) (by omega) (by decide), oI_nI (j := k) (n := 80) (by omega) (by decide), nI_clamp (n := k) (by omega)]
  unfold f_M_workOut_J165
  simp only [oL, nx_add]
theorem w_op {Cd Vl L s : Nat → Int32} {n e a k : Nat} {c x : Int32} (hn : n < 5) (he : e ≤ 520) (ha : a < 520 * n + e) (ht : k + 2 < 80) (hc : Cd a = c) (h0 : ¬ c = 0) (h1 : ¬ c = 1) (h9 : ¬ c = 9) (hx : f_M_worked c (s k).toInt64 (s (k + 1)).toInt64 = some x) : f_M_workOut_L12 Cd Vl L (nI n) (nI e) (nI (k + 2), nI a, s) = some (.inl (nI (k + 1), nI (a + 1), upd s k x)) := by
  unfold f_M_workOut_L12
  dsimp only
  rw [nx_mull, nI_add, if_neg (show ¬ nI (520 * n + e) ≤ nI a from nI_ge ha (by omega)), oI_nI (j := a) (n := 2600) (by omega) (by decide), nI_clamp (n := a) (by omega), hc, if_neg h0, oI_nI (j := a) (n := 2600) (by omega) (by decide), if_neg h1, oI_nI (j := a) (n := 2600) (by omega) (by decide), if_neg h9, oI_nI (j := a) (n := 2600) (by omega) (by decide), nx_pred (k + 1), nx_pre1 k, oI_nI (j := k) (n := 80) (by omega) (by decide), oI_nI (j := k + 1) (n := 80) (by omega) (by decide), nI_clamp (n := k) (by omega), nI_clamp (n := k + 1) (by omega), hx, bind_some', oI_nI (j := k) (n := 80) (by omega) (by decide)]
  unfold f_M_workOut_J165
  simp only [oL, nx_add]
theorem w_end {Cd Vl L s : Nat → Int32} {n e top : Nat} (hn : n < 5) (he : e ≤ 520) : f_M_workOut_L12 Cd Vl L (nI n) (nI e) (nI top, nI (520 * n + e), s) = some (.inr (s 0, s)) := by
  unfold f_M_workOut_L12
  dsimp only
  rw [nx_mull, nI_add, if_pos (nI_le (Nat.le_refl _) (by omega))]
  rfl
/-! a piece of code that leaves one value -/
def mils (K : Nat → Int32) : Prop := ∀ j, j < 6 → mil (K j)
def cEv (G : Nat → Int32) (a b h : Nat) (v : (Nat → Int32) → Int32) : Prop :=
  ∀ (Ac K L s : Nat → Int32) (l len top u : Nat), l < 4 → len ≤ 240 → b ≤ len → (∀ i, a ≤ i → i < b → Ac (l * 240 + i) = G i) → (∀ j, j < 6 → L j = K j) → mils K → top + h ≤ 80 → u ≤ a →
    ∃ (s' : Nat → Int32) (u' : Nat), u' ≤ b ∧ s' top = v K ∧ (∀ j, j < top → s' j = s j) ∧ oLp (f_Laws_worth_C31_L39 Ac L (nI len) (nI (l * 240))) (nI top, nI a, nI u, s) = oLp (f_Laws_worth_C31_L39 Ac L (nI len) (nI (l * 240))) (nI (top + 1), nI b, nI u', s')
def wEv (Cd Vl : Nat → Int32) (a b h : Nat) (v : (Nat → Int32) → Int32) : Prop :=
  ∀ (Cd' Vl' K L s : Nat → Int32) (n e top : Nat), n < 5 → e ≤ 520 → b ≤ 520 * n + e → (∀ i, a ≤ i → i < b → Cd' i = Cd i ∧ Vl' i = Vl i) → (∀ j, j < 6 → L j = K j) → mils K → top + h ≤ 80 →
    ∃ (s' : Nat → Int32), s' top = v K ∧ (∀ j, j < top → s' j = s j) ∧ oLp (f_M_workOut_L12 Cd' Vl' L (nI n) (nI e)) (nI top, nI a, s) = oLp (f_M_workOut_L12 Cd' Vl' L (nI n) (nI e)) (nI (top + 1), nI b, s')
theorem cEv_agree {G G' : Nat → Int32} {a b h : Nat} {v : (Nat → Int32) → Int32} (x : cEv G a b h v) (hg : ∀ i, a ≤ i → i < b → G' i = G i) : cEv G' a b h v := by
  intro Ac K L s l len top u h1 h2 h3 h4
  exact x Ac K L s l len top u h1 h2 h3 (fun i p q => (h4 i p q).trans (hg i p q))
theorem wEv_agree {C V C' V' : Nat → Int32} {a b h : Nat} {v : (Nat → Int32) → Int32} (x : wEv C V a b h v) (hg : ∀ i, a ≤ i → i < b → C' i = C i ∧ V' i = V i) : wEv C' V' a b h v := by
  intro Ac Av K L s n e top h1 h2 h3 h4
  exact x Ac Av K L s n e top h1 h2 h3 (fun i p q => ⟨(h4 i p q).1.trans (hg i p q).1, (h4 i p q).2.trans (hg i p q).2⟩)
theorem cEv_mono {G : Nat → Int32} {a b h h' : Nat} {v : (Nat → Int32) → Int32} (x : cEv G a b h v) (hh : h ≤ h') : cEv G a b h' v := by
  intro Ac K L s l len top u h1 h2 h3 h4 h5 h6 h7
  exact x Ac K L s l len top u h1 h2 h3 h4 h5 h6 (by omega)
theorem wEv_mono {C V : Nat → Int32} {a b h h' : Nat} {v : (Nat → Int32) → Int32} (x : wEv C V a b h v) (hh : h ≤ h') : wEv C V a b h' v := by
  intro Ac Av K L s n e top h1 h2 h3 h4 h5 h6 h7
  exact x Ac Av K L s n e top h1 h2 h3 h4 h5 h6 (by omega)
theorem cEv_num {G : Nat → Int32} {a v : Nat} (hc : G a = nI v) (hv : v < 10000) : cEv G a (a + 1) 1 (fun _ => nI v) := by
  intro Ac K L s l len top u h1 h2 h3 h4 h5 h6 h7 h8
  refine ⟨upd s top (nI v), u + 1, (by omega), upd_at, fun j hj => upd_ne (by omega), oLp_go (c_num h1 h2 (by omega) h8 (by omega) ((h4 a (by omega) (by omega)).trans hc) hv)⟩
theorem cEv_let {G : Nat → Int32} {a i : Nat} (hc : G a = nI (10000 + i)) (hi : i < 6) : cEv G a (a + 1) 1 (fun K => K i) := by
  intro Ac K L s l len top u h1 h2 h3 h4 h5 h6 h7 h8
  refine ⟨upd s top (L i), u + 1, (by omega), upd_at.trans (h5 i hi), fun j hj => upd_ne (by omega), oLp_go (c_let h1 h2 (by omega) h8 (by omega) ((h4 a (by omega) (by omega)).trans hc) hi)⟩
theorem wEv_num {C V : Nat → Int32} {a : Nat} {v : Int32} (hc : C a = 0) (hv : V a = v) : wEv C V a (a + 1) 1 (fun _ => v) := by
  intro Ac Av K L s n e top h1 h2 h3 h4 h5 h6 h7
  refine ⟨upd s top v, upd_at, fun j hj => upd_ne (by omega), oLp_go (w_num h1 h2 (by omega) (by omega) ((h4 a (by omega) (by omega)).1.trans hc) ((h4 a (by omega) (by omega)).2.trans hv))⟩
theorem wEv_let {C V : Nat → Int32} {a i : Nat} (hc : C a = 1) (hv : V a = nI i) (hi : i < 6) : wEv C V a (a + 1) 1 (fun K => K i) := by
  intro Ac Av K L s n e top h1 h2 h3 h4 h5 h6 h7
  refine ⟨upd s top (L i), upd_at.trans (h5 i hi), fun j hj => upd_ne (by omega), oLp_go (w_let h1 h2 (by omega) (by omega) ((h4 a (by omega) (by omega)).1.trans hc) ((h4 a (by omega) (by omega)).2.trans hv) hi)⟩
theorem cEv_op {G : Nat → Int32} {a b c h1 h2 h o : Nat} {v1 v2 w : (Nat → Int32) → Int32} (x : cEv G a b h1 v1) (y : cEv G b c h2 v2) (hab : a ≤ b) (hbc : b ≤ c) (hc : G c = nI (20000 + o)) (ho : o < 1000) (hn : o ≠ 33) (hw : ∀ K, mils K → f_Laws_joined (nI o) (v1 K) (v2 K) = some (w K)) (q1 : h1 ≤ h) (q2 : h2 + 1 ≤ h) (q3 : 3 ≤ h) : cEv G a (c + 1) h w := by
  intro Ac K L s l len top u p1 p2 p3 p4 p5 p6 p7 p8
  obtain ⟨s1, u1, a1, b1, c1, d1⟩ := x Ac K L s l len top u p1 p2 (by omega) (fun i i1 i2 => p4 i i1 (by omega)) p5 p6 (by omega) p8
  obtain ⟨s2, u2, a2, b2, c2, d2⟩ := y Ac K L s1 l len (top + 1) u1 p1 p2 (by omega) (fun i i1 i2 => p4 i (by omega) (by omega)) p5 p6 (by omega) a1
  refine ⟨upd s2 top (w K), u2 + 1, (by omega), upd_at, fun j hj => (upd_ne (by omega)).trans ((c2 j (by omega)).trans (c1 j hj)), d1.trans (d2.trans (oLp_go (c_op p1 p2 (by omega) a2 (by omega) ((p4 c (by omega) (by omega)).trans hc) ho hn ?_)))⟩
  rw [b2, c2 top (by omega), b1]
  exact hw K p6
theorem wEv_op {C V : Nat → Int32} {a b c h1 h2 h : Nat} {o : Int32} {v1 v2 w : (Nat → Int32) → Int32} (x : wEv C V a b h1 v1) (y : wEv C V b c h2 v2) (hab : a ≤ b) (hbc : b ≤ c) (hc : C c = o) (h0 : ¬ o = 0) (h1' : ¬ o = 1) (h9 : ¬ o = 9) (hw : ∀ K, mils K → f_M_worked o (v1 K).toInt64 (v2 K).toInt64 = some (w K)) (q1 : h1 ≤ h) (q2 : h2 + 1 ≤ h) (q3 : 3 ≤ h) : wEv C V a (c + 1) h w := by
  intro Ac Av K L s n e top p1 p2 p3 p4 p5 p6 p7
  obtain ⟨s1, b1, c1, d1⟩ := x Ac Av K L s n e top p1 p2 (by omega) (fun i i1 i2 => p4 i i1 (by omega)) p5 p6 (by omega)
  obtain ⟨s2, b2, c2, d2⟩ := y Ac Av K L s1 n e (top + 1) p1 p2 (by omega) (fun i i1 i2 => p4 i (by omega) (by omega)) p5 p6 (by omega)
  refine ⟨upd s2 top (w K), upd_at, fun j hj => (upd_ne (by omega)).trans ((c2 j (by omega)).trans (c1 j hj)), d1.trans (d2.trans (oLp_go (w_op p1 p2 (by omega) (by omega) ((p4 c (by omega) (by omega)).1.trans hc) h0 h1' h9 ?_)))⟩
  rw [b2, c2 top (by omega), b1]
  exact hw K p6
theorem cEv_not {G : Nat → Int32} {a b h : Nat} {v : (Nat → Int32) → Int32} (x : cEv G a b h v) (hab : a ≤ b) (hc : G b = nI 20033) (q : 2 ≤ h) : cEv G a (b + 1) h (fun K => 1 - v K) := by
  intro Ac K L s l len top u p1 p2 p3 p4 p5 p6 p7 p8
  obtain ⟨s1, u1, a1, b1, c1, d1⟩ := x Ac K L s l len top u p1 p2 (by omega) (fun i i1 i2 => p4 i i1 (by omega)) p5 p6 (by omega) p8
  refine ⟨upd s1 top (1 - s1 top), u1 + 1, (by omega), upd_at.trans (by rw [b1]), fun j hj => (upd_ne (by omega)).trans (c1 j hj), d1.trans (oLp_go (c_not p1 p2 (by omega) a1 (by omega) ((p4 b (by omega) (by omega)).trans hc)))⟩
theorem wEv_not {C V : Nat → Int32} {a b h : Nat} {v : (Nat → Int32) → Int32} (x : wEv C V a b h v) (hab : a ≤ b) (hc : C b = 9) (q : 2 ≤ h) : wEv C V a (b + 1) h (fun K => 1 - v K) := by
  intro Ac Av K L s n e top p1 p2 p3 p4 p5 p6 p7
  obtain ⟨s1, b1, c1, d1⟩ := x Ac Av K L s n e top p1 p2 (by omega) (fun i i1 i2 => p4 i i1 (by omega)) p5 p6 (by omega)
  refine ⟨upd s1 top (1 - s1 top), upd_at.trans (by rw [b1]), fun j hj => (upd_ne (by omega)).trans (c1 j hj), d1.trans (oLp_go (w_not p1 p2 (by omega) (by omega) ((p4 b (by omega) (by omega)).1.trans hc)))⟩
/-! both at once -/
def b01 (x : Int32) : Prop := x = 0 ∨ x = 1
def pEv (G Cd Vl : Nat → Int32) (a b a' b' h : Nat) (q : Bool) : Prop := ∃ v : (Nat → Int32) → Int32, cEv G a b h v ∧ wEv Cd Vl a' b' h v ∧ (∀ K, mils K → mil (v K)) ∧ (q = true → ∀ K, mils K → b01 (v K))
