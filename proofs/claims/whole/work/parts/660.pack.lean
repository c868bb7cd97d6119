/-! a state in one number -/
def oN (W : Nat → Int32) (m : Nat) : Nat := if W m = -1 then 0 else (W m).toNatClampNeg + 1
def lw (W : Nat → Int32) : Nat → Nat
  | 0 => 0
  | m + 1 => lw W m + oN W m * 8 ^ m
def hiN (W : Nat → Int32) : Nat := (((W 9).toNatClampNeg * 1024 + (W 8).toNatClampNeg) * 64 + (W 7).toNatClampNeg) * 64 + (W 6).toNatClampNeg
def pkN (W : Nat → Int32) (nm : Nat) : Nat := hiN W * 262144 + lw W nm
def smA (W : Nat → Int32) : Prop := (∃ c : Nat, c < 64 ∧ W 6 = nI c) ∧ (∃ c : Nat, c < 64 ∧ W 7 = nI c) ∧ (∃ s : Nat, s ≤ 999 ∧ W 8 = nI s) ∧ ∃ d : Nat, d ≤ 9999 ∧ W 9 = nI d
theorem oN_bd {W : Nat → Int32} {nb nm m : Nat} (h5 : nb ≤ 5) (hW : owA W nb nm) (hm : m < nm) : oN W m < 8 ∧ W m + 1 = nI (oN W m) ∧ W m = nI (oN W m) - 1 := by
  unfold oN
  rcases hW m hm with e | ⟨b, hb, e⟩
  · rw [if_pos e, e]
    decide
  · rw [if_neg (by rw [e]; exact m1_ne (by omega)), e, nI_clamp (by omega), nx_add, nx_pre1]
    exact ⟨(by omega), rfl, rfl⟩
theorem lw_lt {W : Nat → Int32} {nb nm : Nat} (h5 : nb ≤ 5) (hW : owA W nb nm) : ∀ m, m ≤ nm → lw W m < 8 ^ m := by
  intro m
  induction m with
  | zero => intro _; exact Nat.one_pos
  | succ m ih =>
    intro hm
    have h1 := ih (by omega)
    have h2 := (oN_bd h5 hW (show m < nm by omega)).1
    have h3 : oN W m * 8 ^ m ≤ 7 * 8 ^ m := Nat.mul_le_mul_right _ (by omega)
    show lw W m + oN W m * 8 ^ m < 8 ^ (m + 1)
    rw [Nat.pow_succ]
    omega
theorem lw_split {W : Nat → Int32} {m : Nat} : ∀ n, m < n → ∃ r, lw W n = lw W m + oN W m * 8 ^ m + r * 8 ^ (m + 1) := by
  intro n
  induction n with
  | zero => intro h; omega
  | succ n ih =>
    intro h
    rcases Nat.lt_or_eq_of_le (Nat.le_of_lt_succ h) with q | q
    · obtain ⟨r, hr⟩ := ih q
      refine ⟨r + oN W n * 8 ^ (n - (m + 1)), ?_⟩
      show lw W n + oN W n * 8 ^ n = _
      rw [hr, Nat.add_mul, Nat.mul_assoc, ← Nat.pow_add, show n - (m + 1) + (m + 1) = n by omega]
      omega
    · subst q
      exact ⟨0, by show lw W m + oN W m * 8 ^ m = _; omega⟩
theorem or_mid {q o low k p : Nat} (hp : 2 ^ k = p) (ho : o < 8) (hl : low < p) (hs : q * (p * 8) + (o * p + low) < 2 ^ 64) : lN (q * (p * 8) + low) ||| lN (o * p) = lN (q * (p * 8) + (o * p + low)) := by
  have h8 : 2 ^ (k + 3) = p * 8 := by rw [Nat.pow_add, hp]
  have hol : o * p ≤ 7 * p := Nat.mul_le_mul_right _ (by omega)
  rw [← g_or (k := k + 3) (p := p * 8) (b := q) (a := low) h8 (by omega) (by omega), Int64.or_assoc, Int64.or_comm (lN low), g_or (k := k) hp hl (by omega), g_or (k := k + 3) h8 (by omega) hs]
theorem hiN_bd {W : Nat → Int32} (h : smA W) : hiN W < 67108864 * 1024 := by
  obtain ⟨⟨c, hc, e6⟩, ⟨s, hs, e7⟩, ⟨w, hw, e8⟩, ⟨d, hd, e9⟩⟩ := h
  unfold hiN
  rw [e6, e7, e8, e9, nI_clamp (by omega), nI_clamp (by omega), nI_clamp (by omega), nI_clamp (by omega)]
  omega
theorem c_packed {W On : Nat → Int32} {nb nm : Nat} (h5 : nb ≤ 5) (h6 : nm ≤ 6) (hW : owA W nb nm) (hs : smA W) (hO : ∀ m, m < nm → On m = W m) : f_Now_packed (nI nm) (W 6) (W 7) (W 8) (W 9) On = some (lN (pkN W nm)) := by
  have hbd := hiN_bd hs
  obtain ⟨⟨c, hc, e6⟩, ⟨s, hs, e7⟩, ⟨w, hw, e8⟩, ⟨d, hd, e9⟩⟩ := hs
  have e0 : ((((((W 9) : Int32).toInt64) <<< ((40 : Int32).toInt64 &&& 63)) ||| (((W 8 : Int32).toInt64) <<< ((30 : Int32).toInt64 &&& 63))) ||| (((W 7 : Int32).toInt64) <<< ((24 : Int32).toInt64 &&& 63))) ||| (((W 6 : Int32).toInt64) <<< ((18 : Int32).toInt64 &&& 63)) = lN (hiN W * 262144 + 0) := by
    unfold hiN
    rw [e6, e7, e8, e9, nI_clamp (by omega), nI_clamp (by omega), nI_clamp (by omega), nI_clamp (by omega), nI_l (by omega), nI_l (by omega), nI_l (by omega), nI_l (by omega)]
    rw [show (40 : Int32) = nI 40 from rfl, show (30 : Int32) = nI 30 from rfl, show (24 : Int32) = nI 24 from rfl, show (18 : Int32) = nI 18 from rfl, wb_shl d (by decide), wb_shl w (by decide), wb_shl s (by decide), wb_shl c (by decide)]
    rw [show (2 : Nat) ^ 40 = 1099511627776 from rfl, show (2 : Nat) ^ 30 = 1073741824 from rfl, show (2 : Nat) ^ 24 = 16777216 from rfl, show (2 : Nat) ^ 18 = 262144 from rfl]
    rw [g_or (k := 40) (p := 1099511627776) (by decide) (by omega) (by omega), show d * 1099511627776 + w * 1073741824 = (d * 1024 + w) * 1073741824 by omega, g_or (k := 30) (p := 1073741824) (by decide) (by omega) (by omega), show (d * 1024 + w) * 1073741824 + s * 16777216 = ((d * 1024 + w) * 64 + s) * 16777216 by omega, g_or (k := 24) (p := 16777216) (by decide) (by omega) (by omega)]
    refine congrArg lN ?_
    omega
  unfold f_Now_packed
  simp only [oL]
  rw [e0]
  refine oLp_for (fun j => (lN (hiN W * 262144 + lw W j), nI j)) (i := 0) (n := nm) (by omega) (fun j _ hj => ?_) ?_
  · obtain ⟨b1, b2, b3⟩ := oN_bd h5 hW hj
    have hlw := lw_lt h5 hW j (by omega)
    unfold f_Now_packed_L38
    dsimp only
    rw [if_neg (nI_ge hj (by omega)), oI_nI (j := j) (n := 6) (by omega) (by decide), nI_clamp (n := j) (by omega), hO j hj, b2, nI_l (by omega), nx_mull, wb_shl _ (show 3 * j < 64 by omega), nx_add]
    simp only [oL]
    congr 3
    show lN (hiN W * 262144 + lw W j) ||| lN (oN W j * 2 ^ (3 * j)) = lN (hiN W * 262144 + (lw W j + oN W j * 8 ^ j))
    rcases (show j = 0 ∨ j = 1 ∨ j = 2 ∨ j = 3 ∨ j = 4 ∨ j = 5 by omega) with rfl | rfl | rfl | rfl | rfl | rfl
    · rw [show hiN W * 262144 + lw W 0 = (hiN W * 32768) * (1 * 8) + lw W 0 by omega, show oN W 0 * 2 ^ (3 * 0) = oN W 0 * 1 from rfl, or_mid (k := 0) (by decide) b1 hlw (by have : lw W 0 < 1 := hlw; omega)]
      refine congrArg lN ?_
      show _ = hiN W * 262144 + (lw W 0 + oN W 0 * 1)
      omega
    · have hlw : lw W 1 < 8 := hlw
      rw [show hiN W * 262144 + lw W 1 = (hiN W * 4096) * (8 * 8) + lw W 1 by omega, show oN W 1 * 2 ^ (3 * 1) = oN W 1 * 8 from rfl, or_mid (k := 3) (by decide) b1 hlw (by omega)]
      refine congrArg lN ?_
      show _ = hiN W * 262144 + (lw W 1 + oN W 1 * 8)
      omega
    · have hlw : lw W 2 < 64 := hlw
      rw [show hiN W * 262144 + lw W 2 = (hiN W * 512) * (64 * 8) + lw W 2 by omega, show oN W 2 * 2 ^ (3 * 2) = oN W 2 * 64 from rfl, or_mid (k := 6) (by decide) b1 hlw (by omega)]
      refine congrArg lN ?_
      show _ = hiN W * 262144 + (lw W 2 + oN W 2 * 64)
      omega
    · have hlw : lw W 3 < 512 := hlw
      rw [show hiN W * 262144 + lw W 3 = (hiN W * 64) * (512 * 8) + lw W 3 by omega, show oN W 3 * 2 ^ (3 * 3) = oN W 3 * 512 from rfl, or_mid (k := 9) (by decide) b1 hlw (by omega)]
      refine congrArg lN ?_
      show _ = hiN W * 262144 + (lw W 3 + oN W 3 * 512)
      omega
    · have hlw : lw W 4 < 4096 := hlw
      rw [show hiN W * 262144 + lw W 4 = (hiN W * 8) * (4096 * 8) + lw W 4 by omega, show oN W 4 * 2 ^ (3 * 4) = oN W 4 * 4096 from rfl, or_mid (k := 12) (by decide) b1 hlw (by omega)]
      refine congrArg lN ?_
      show _ = hiN W * 262144 + (lw W 4 + oN W 4 * 4096)
      omega
    · have hlw : lw W 5 < 32768 := hlw
      rw [show hiN W * 262144 + lw W 5 = (hiN W * 1) * (32768 * 8) + lw W 5 by omega, show oN W 5 * 2 ^ (3 * 5) = oN W 5 * 32768 from rfl, or_mid (k := 15) (by decide) b1 hlw (by omega)]
      refine congrArg lN ?_
      show _ = hiN W * 262144 + (lw W 5 + oN W 5 * 32768)
      omega
  · unfold f_Now_packed_L38
    dsimp only
    rw [if_pos (nI_le (Nat.le_refl nm) (by omega))]
    rfl
theorem pkN_bd {W : Nat → Int32} {nb nm : Nat} (h5 : nb ≤ 5) (h6 : nm ≤ 6) (hW : owA W nb nm) (hs : smA W) : pkN W nm < 2 ^ 64 ∧ lw W nm < 262144 := by
  have h1 := hiN_bd hs
  have h2 := lw_lt h5 hW nm (Nat.le_refl _)
  have h3 : 8 ^ nm ≤ 8 ^ 6 := Nat.pow_le_pow_right (by decide) h6
  have h4 : (8 : Nat) ^ 6 = 262144 := rfl
  unfold pkN
  omega
theorem c_unpack {W On : Nat → Int32} {nb nm : Nat} {a b c' d' : Int32} (h5 : nb ≤ 5) (h6 : nm ≤ 6) (hW : owA W nb nm) (hs : smA W) : ∃ On', f_Now_unpack (nI nm) a b c' d' On (lN (pkN W nm)) = some (W 6, W 7, W 8, W 9, On') ∧ ∀ m, m < nm → On' m = W m := by
  obtain ⟨hbd, hlw⟩ := pkN_bd h5 h6 hW hs
  obtain ⟨⟨c, hc, e6⟩, ⟨s, hs, e7⟩, ⟨w, hw, e8⟩, ⟨d, hd, e9⟩⟩ := hs
  have hpk : pkN W nm = (((d * 1024 + w) * 64 + s) * 64 + c) * 262144 + lw W nm := by
    unfold pkN hiN
    rw [e6, e7, e8, e9, nI_clamp (by omega), nI_clamp (by omega), nI_clamp (by omega), nI_clamp (by omega)]
  have f6 : ((((lN (pkN W nm)).toUInt64 >>> ((18 : Int32).toInt64.toUInt64 &&& Int64.toUInt64 63)).toInt64) &&& 63 : Int64).toInt32 = W 6 := by
    rw [show (18 : Int32) = nI 18 from rfl, wb_shr hbd (by decide), show (63 : Int64) = lN (64 - 1) from rfl, g_mask (s := 6) (p := 64) (by decide) (by decide) (Nat.lt_of_le_of_lt (Nat.div_le_self _ _) hbd), lN_i, e6, hpk]
    congr 1
    rw [show (2 : Nat) ^ 18 = 262144 from rfl]
    omega
  have f7 : ((((lN (pkN W nm)).toUInt64 >>> ((24 : Int32).toInt64.toUInt64 &&& Int64.toUInt64 63)).toInt64) &&& 63 : Int64).toInt32 = W 7 := by
    rw [show (24 : Int32) = nI 24 from rfl, wb_shr hbd (by decide), show (63 : Int64) = lN (64 - 1) from rfl, g_mask (s := 6) (p := 64) (by decide) (by decide) (Nat.lt_of_le_of_lt (Nat.div_le_self _ _) hbd), lN_i, e7, hpk]
    congr 1
    rw [show (2 : Nat) ^ 24 = 16777216 from rfl]
    omega
  have f8 : ((((lN (pkN W nm)).toUInt64 >>> ((30 : Int32).toInt64.toUInt64 &&& Int64.toUInt64 63)).toInt64) &&& 1023 : Int64).toInt32 = W 8 := by
    rw [show (30 : Int32) = nI 30 from rfl, wb_shr hbd (by decide), show (1023 : Int64) = lN (1024 - 1) from rfl, g_mask (s := 10) (p := 1024) (by decide) (by decide) (Nat.lt_of_le_of_lt (Nat.div_le_self _ _) hbd), lN_i, e8, hpk]
    congr 1
    rw [show (2 : Nat) ^ 30 = 1073741824 from rfl]
    omega
  have f9 : (((lN (pkN W nm)).toUInt64 >>> ((40 : Int32).toInt64.toUInt64 &&& Int64.toUInt64 63)).toInt64 : Int64).toInt32 = W 9 := by
    rw [show (40 : Int32) = nI 40 from rfl, wb_shr hbd (by decide), lN_i, e9, hpk]
    congr 1
    rw [show (2 : Nat) ^ 40 = 1099511627776 from rfl]
    omega
  have fo : ∀ m, m < nm → ((((lN (pkN W nm)).toUInt64 >>> ((3 * nI m).toInt64.toUInt64 &&& Int64.toUInt64 63)).toInt64) &&& 7 : Int64).toInt32 - 1 = W m := by
    intro m hm
    obtain ⟨b1, b2, b3⟩ := oN_bd h5 hW hm
    have hl := lw_lt h5 hW m (by omega)
    obtain ⟨r, hr⟩ := lw_split (W := W) (m := m) nm hm
    rw [nx_mull, wb_shr hbd (show 3 * m < 64 by omega), show (7 : Int64) = lN (8 - 1) from rfl, g_mask (s := 3) (p := 8) (by decide) (by decide) (Nat.lt_of_le_of_lt (Nat.div_le_self _ _) hbd), lN_i, b3]
    congr 2
    show pkN W nm / 2 ^ (3 * m) % 8 = oN W m
    have e8 : 2 ^ (3 * m) = 8 ^ m := by rw [Nat.pow_mul]
    have eh : hiN W * 262144 = (hiN W * 8 ^ (5 - m)) * 8 ^ (m + 1) := by
      rw [Nat.mul_assoc, ← Nat.pow_add, show 5 - m + (m + 1) = 6 by omega]
    have ep : pkN W nm = lw W m + 8 ^ m * (oN W m + 8 * (r + hiN W * 8 ^ (5 - m))) := by
      unfold pkN
      rw [hr, eh, Nat.pow_succ]
      have q1 : r * (8 ^ m * 8) = 8 ^ m * (8 * r) := by rw [Nat.mul_comm r, Nat.mul_assoc]
      have q2 : hiN W * 8 ^ (5 - m) * (8 ^ m * 8) = 8 ^ m * (8 * (hiN W * 8 ^ (5 - m))) := by rw [Nat.mul_comm (hiN W * 8 ^ (5 - m)), Nat.mul_assoc]
      rw [q1, q2, Nat.mul_comm (oN W m), Nat.mul_add (8 ^ m) (oN W m), Nat.mul_add 8 r, Nat.mul_add (8 ^ m) (8 * r)]
      omega
    rw [e8, ep, Nat.add_mul_div_left _ _ (Nat.pos_of_ne_zero (by intro q; rw [q] at hl; omega)), Nat.div_eq_of_lt hl]
    omega
  unfold f_Now_unpack
  refine qlp1 (fun j (t : Int32 × (Nat → Int32)) => ∃ On1 : Nat → Int32, t = (nI j, On1) ∧ ∀ m, m < j → On1 m = W m) (fun r => ∃ On' : Nat → Int32, r = some (W 6, W 7, W 8, W 9, On') ∧ ∀ m, m < nm → On' m = W m) (n := nm) ?_ ?_ (j := 0) (by omega) ⟨On, rfl, fun m hm => absurd hm (by omega)⟩
  · rintro j t hj ⟨On1, rfl, hall⟩
    left
    refine ⟨(nI (j + 1), upd On1 j (W j)), ?_, _, rfl, fun m hm => ?_⟩
    · unfold f_Now_unpack_L2
      dsimp only
      rw [if_neg (nI_ge hj (by omega)), oI_nI (j := j) (n := 6) (by omega) (by decide), nI_clamp (n := j) (by omega), fo j hj, nx_add]
      rfl
    · by_cases e : m = j
      · subst e
        exact upd_at
      · rw [upd_ne e]
        exact hall m (by omega)
  · rintro t ⟨On1, rfl, hall⟩
    refine ⟨On1, oLp_out ?_, hall⟩
    unfold f_Now_unpack_L2
    dsimp only
    rw [if_pos (nI_le (Nat.le_refl nm) (by omega)), f6, f7, f8, f9]
    rfl
