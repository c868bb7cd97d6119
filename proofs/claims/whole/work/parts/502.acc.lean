/-! the yard's and the now's accessors, both sides -/
theorem y_cell {Y_cells : Nat → Int32} {s i k r n : Nat} (hs : s < 4) (hr : tab1.getD s 0 = nI r) (hn : tab2.getD s 0 = nI n) (hi : i < n) (hk : k < 3) (hrn : (r + n) * 3 ≤ 54) : f_Yard_cell Y_cells (nI s) (nI i) (nI k) = some (Y_cells ((r + i) * 3 + k)) := by
  have t1 : tab1.length = 4 := by decide
  have t2 : tab2.length = 4 := by decide
  unfold f_Yard_cell
  rw [t1, t2, nI_clamp (by omega), hr, hn, if_neg (nI_lt0 (by omega)), oI_nI hs (by decide), if_neg (nI_ge hi (by omega)), oI_nI hs (by decide)]
  simp only [nI_add, nx_mul]
  rw [oI_nI (by omega) (by decide), nI_clamp (by omega)]
theorem y_boys {C : Nat → Int32} : f_Yard_boys C = some (C 1) := rfl
theorem y_marbles {C : Nat → Int32} : f_Yard_marbles C = some (C 2) := rfl
theorem y_farms {C : Nat → Int32} : f_Yard_farms C = some (C 3) := rfl
theorem y_skill {Y : Nat → Int32} {b : Nat} (h : b < 5) : f_Yard_skill Y (nI b) = some (Y ((1 + b) * 3)) := by
  unfold f_Yard_skill
  rw [show f_Yard_cell Y 1 (nI b) 0 = _ from y_cell (s := 1) (r := 1) (n := 5) (k := 0) (by decide) (by decide) (by decide) h (by decide) (by decide)]
  rfl
theorem y_boyPlace {Y : Nat → Int32} {b : Nat} (h : b < 5) : f_Yard_boyPlace Y (nI b) = some (Y ((1 + b) * 3 + 1)) := by
  unfold f_Yard_boyPlace
  rw [show f_Yard_cell Y 1 (nI b) 1 = _ from y_cell (s := 1) (r := 1) (n := 5) (k := 1) (by decide) (by decide) (by decide) h (by decide) (by decide)]
  rfl
theorem y_firstOwner {Y : Nat → Int32} {m : Nat} (h : m < 6) : f_Yard_firstOwner Y (nI m) = some (Y ((6 + m) * 3)) := by
  unfold f_Yard_firstOwner
  rw [show f_Yard_cell Y 2 (nI m) 0 = _ from y_cell (s := 2) (r := 6) (n := 6) (k := 0) (by decide) (by decide) (by decide) h (by decide) (by decide)]
  rfl
theorem y_kind {Y : Nat → Int32} {m : Nat} (h : m < 6) : f_Yard_kind Y (nI m) = some (Y ((6 + m) * 3 + 1)) := by
  unfold f_Yard_kind
  rw [show f_Yard_cell Y 2 (nI m) 1 = _ from y_cell (s := 2) (r := 6) (n := 6) (k := 1) (by decide) (by decide) (by decide) h (by decide) (by decide)]
  rfl
theorem y_size {Y : Nat → Int32} {m : Nat} (h : m < 6) : f_Yard_size Y (nI m) = some (Y ((6 + m) * 3 + 2)) := by
  unfold f_Yard_size
  rw [show f_Yard_cell Y 2 (nI m) 2 = _ from y_cell (s := 2) (r := 6) (n := 6) (k := 2) (by decide) (by decide) (by decide) h (by decide) (by decide)]
  rfl
theorem y_farmPlace {Y : Nat → Int32} {f : Nat} (h : f < 6) : f_Yard_farmPlace Y (nI f) = some (Y ((12 + f) * 3)) := by
  unfold f_Yard_farmPlace
  rw [show f_Yard_cell Y 3 (nI f) 0 = _ from y_cell (s := 3) (r := 12) (n := 6) (k := 0) (by decide) (by decide) (by decide) h (by decide) (by decide)]
  rfl
theorem y_wanted {Y : Nat → Int32} {f : Nat} (h : f < 6) : f_Yard_wanted Y (nI f) = some (Y ((12 + f) * 3 + 1)) := by
  unfold f_Yard_wanted
  rw [show f_Yard_cell Y 3 (nI f) 1 = _ from y_cell (s := 3) (r := 12) (n := 6) (k := 1) (by decide) (by decide) (by decide) h (by decide) (by decide)]
  rfl
theorem y_payment {Y : Nat → Int32} {f : Nat} (h : f < 6) : f_Yard_payment Y (nI f) = some (Y ((12 + f) * 3 + 2)) := by
  unfold f_Yard_payment
  rw [show f_Yard_cell Y 3 (nI f) 2 = _ from y_cell (s := 3) (r := 12) (n := 6) (k := 2) (by decide) (by decide) (by decide) h (by decide) (by decide)]
  rfl
theorem y_hole {Y : Nat → Int32} : f_Yard_hole Y = some (Y 0) := rfl
theorem y_behind {Y : Nat → Int32} : f_Yard_behind Y = some (Y 1) := rfl
theorem y_firstSweets {Y : Nat → Int32} : f_Yard_firstSweets Y = some (Y 2) := rfl
theorem m_of {M : Nat → Int32} {m k : Nat} (h : m < 6) (hk : k < 3) : f_M_of M (nI m) (nI k) = some (M (3 * m + k)) := by
  unfold f_M_of
  simp only [nx_mull, nI_add]
  rw [oI_nI (by omega) (by decide), nI_clamp (by omega)]
theorem m_of0 {M : Nat → Int32} {m : Nat} (h : m < 6) : f_M_of M (nI m) 0 = some (M (3 * m)) := m_of (k := 0) h (by decide)
theorem m_of1 {M : Nat → Int32} {m : Nat} (h : m < 6) : f_M_of M (nI m) 1 = some (M (3 * m + 1)) := m_of (k := 1) h (by decide)
theorem m_of2 {M : Nat → Int32} {m : Nat} (h : m < 6) : f_M_of M (nI m) 2 = some (M (3 * m + 2)) := m_of (k := 2) h (by decide)
theorem m_ofFarm {M : Nat → Int32} {m k : Nat} (h : m < 6) (hk : k < 3) : f_M_ofFarm M (nI m) (nI k) = some (M (3 * m + k)) := by
  unfold f_M_ofFarm
  simp only [nx_mull, nI_add]
  rw [oI_nI (by omega) (by decide), nI_clamp (by omega)]
theorem m_ofF0 {M : Nat → Int32} {m : Nat} (h : m < 6) : f_M_ofFarm M (nI m) 0 = some (M (3 * m)) := m_ofFarm (k := 0) h (by decide)
theorem m_ofF1 {M : Nat → Int32} {m : Nat} (h : m < 6) : f_M_ofFarm M (nI m) 1 = some (M (3 * m + 1)) := m_ofFarm (k := 1) h (by decide)
theorem m_ofF2 {M : Nat → Int32} {m : Nat} (h : m < 6) : f_M_ofFarm M (nI m) 2 = some (M (3 * m + 2)) := m_ofFarm (k := 2) h (by decide)
theorem y_hasBoy {C : Nat → Int32} {n : Nat} {p : Int32} (h : C 1 = nI n) : f_Yard_hasBoy C p = some (inB p n) := by
  unfold f_Yard_hasBoy inB
  rw [y_boys, bind_some', h]
  split
  · rfl
  · split <;> rfl
theorem y_hasMarble {C : Nat → Int32} {n : Nat} {p : Int32} (h : C 2 = nI n) : f_Yard_hasMarble C p = some (inB p n) := by
  unfold f_Yard_hasMarble inB
  rw [y_marbles, bind_some', h]
  split
  · rfl
  · split <;> rfl
theorem y_hasFarm {C : Nat → Int32} {n : Nat} {p : Int32} (h : C 3 = nI n) : f_Yard_hasFarm C p = some (inB p n) := by
  unfold f_Yard_hasFarm inB
  rw [y_farms, bind_some', h]
  split
  · rfl
  · split <;> rfl
theorem m_isBoy {n : Nat} {p : Int32} (hn : n < 2 ^ 31) : f_M_isBoy (nI n) p = some (inB p n) := by
  unfold f_M_isBoy
  rw [in_inB p hn, bind_some', oZ_inB]
theorem m_isMarble {n : Nat} {p : Int32} (hn : n < 2 ^ 31) : f_M_isMarble (nI n) p = some (inB p n) := by
  unfold f_M_isMarble
  rw [in_inB p hn, bind_some', oZ_inB]
theorem y_stands {C : Nat → Int32} {n : Nat} (h : C 2 = nI n) (hn : n < 2 ^ 31) : f_Yard_stands C = some (if n = 0 then 0 else 1) := by
  unfold f_Yard_stands
  rw [y_marbles, bind_some', h]
  by_cases h0 : n = 0
  · subst h0
    rfl
  · rw [if_neg h0, if_neg]
    intro q
    have := (nx_leL hn (by decide)).mp q
    omega
theorem n_ownerOf {n m : Nat} {O : Nat → Int32} (h : m < n) (hn : n ≤ 6) : f_Now_ownerOf (nI n) O (nI m) = some (O m) := by
  unfold f_Now_ownerOf
  rw [if_neg (nI_lt0 (by omega)), if_neg (nI_ge h (by omega)), oI_nI (by omega) (by decide), nI_clamp (by omega)]
theorem n_isDrained {n m : Nat} {O : Nat → Int32} (h : m < n) (hn : n ≤ 6) : f_Now_isDrained (nI n) O (nI m) = some (if O m = -1 then 1 else 0) := by
  unfold f_Now_isDrained
  rw [n_ownerOf h hn, bind_some']
  split <;> rfl
theorem n_hand {n m : Nat} {O : Nat → Int32} {v : Int32} (h : m < n) (hn : n ≤ 6) : f_Now_hand (nI n) O (nI m) v = some (upd O m v) := by
  unfold f_Now_hand
  rw [if_neg (nI_lt0 (by omega)), if_neg (nI_ge h (by omega)), oI_nI (by omega) (by decide), nI_clamp (by omega)]
  rfl
/-- a bit of a set of small things -/
def hs (c : Int32) (m : Int32) : Int32 := (c >>> (m &&& 31)) &&& 1
theorem hs_01 (c m : Int32) : hs c m = 0 ∨ hs c m = 1 := by
  unfold hs
  have h : bt ((c >>> (m &&& 31)) &&& 1) = fun i => bt (c >>> (m &&& 31)) i && bt 1 i := funext (fun i => b_and _ _ i)
  have h1 : ∀ i, i < 32 → bt 1 i = decide (i = 0) := by decide +kernel
  by_cases hb : bt (c >>> (m &&& 31)) 0 = true
  · right
    refine b_ext (fun i hi => ?_)
    rw [b_and, h1 i hi]
    by_cases h0 : i = 0
    · subst h0
      rw [hb]
      rfl
    · simp [h0]
  · left
    refine b_ext (fun i hi => ?_)
    rw [b_and, h1 i hi, b_0]
    by_cases h0 : i = 0
    · subst h0
      simp at hb
      rw [hb]
      rfl
    · simp [h0]
theorem n_isChipped {c m : Int32} : f_Now_isChipped c m = some (hs c m) := by
  unfold f_Now_isChipped
  show (if hs c m = 0 then some (0 : Int32) else some 1) = some (hs c m)
  rcases hs_01 c m with h | h <;> rw [h] <;> rfl
theorem n_isSwallowed {c m : Int32} : f_Now_isSwallowed c m = some (hs c m) := by
  unfold f_Now_isSwallowed
  show (if hs c m = 0 then some (0 : Int32) else some 1) = some (hs c m)
  rcases hs_01 c m with h | h <;> rw [h] <;> rfl
theorem m_has {c m : Int32} : f_M_has c m = some (hs c m) := by
  unfold f_M_has
  show (if hs c m = 1 then some (1 : Int32) else some 0) = some (hs c m)
  rcases hs_01 c m with h | h <;> rw [h] <;> rfl
def fre (o s : Int32) : Int32 := if o = -1 then 0 else if s = 0 then 1 else 0
theorem n_isFree {n m : Nat} {O : Nat → Int32} {c : Int32} (h : m < n) (hn : n ≤ 6) : f_Now_isFree (nI n) c O (nI m) = some (fre (O m) (hs c (nI m))) := by
  unfold f_Now_isFree fre
  rw [n_isDrained h hn, bind_some', n_isSwallowed]
  by_cases h1 : O m = -1
  · rw [if_pos h1, if_pos h1]
    rfl
  · rw [if_neg h1, if_neg h1, if_pos rfl, bind_some']
    split <;> rfl
theorem m_isLoose {m : Nat} {W : Nat → Int32} (h : m < 6) : f_M_isLoose W (nI m) = some (fre (W m) (hs (W 7) (nI m))) := by
  unfold f_M_isLoose fre
  rw [nx_zadd, oI_nI (by omega) (by decide), nI_clamp (by omega), m_has]
  by_cases h1 : W m = -1
  · rw [if_pos h1, if_pos h1]
  · rw [if_neg h1, if_neg h1]
    rw [nx_oI (by decide) (by decide), nx_cl 7 (by decide), bind_some']
    split <;> rfl
/-- what a marble is worth now -/
def wo (s c : Int32) : Int32 := if c = 0 then s else jmax 0 (s - 2)
theorem n_soundSize {Y : Nat → Int32} {c : Int32} {m : Nat} (h : m < 6) : f_Now_soundSize_C13 Y c (nI m) = some (wo (Y ((6 + m) * 3 + 2)) (hs c (nI m))) := by
  unfold f_Now_soundSize_C13 wo
  rw [y_size h, bind_some', n_isChipped, bind_some']
  split <;> rfl
theorem m_worthNow {M W : Nat → Int32} {m v : Nat} (h : m < 6) (hv : M (3 * m + 2) = nI v) (hv9 : v ≤ 9) : f_M_worthNow M W (nI m) = some (wo (M (3 * m + 2)) (hs (W 6) (nI m))) := by
  unfold f_M_worthNow wo
  rw [m_of2 h, bind_some']
  show ((f_M_has (W 6) (nI m)).bind _) = _
  rw [m_has, bind_some']
  by_cases h0 : hs (W 6) (nI m) = 0
  · rw [if_pos h0, if_pos h0]
    unfold f_M_worthNow_J26
    rw [hv]
    have : jmax 0 (nI v - 0) = nI v := by
      rw [Int32.sub_zero]
      unfold jmax
      by_cases hz : (0 : Int32) < nI v
      · rw [if_pos hz]
      · rw [if_neg hz]
        have hz2 : ¬ (0 < v) := fun q => hz ((nx_Llt (by decide) (by omega)).mpr q)
        have : v = 0 := by omega
        subst this
        rfl
    rw [this]
  · rw [if_neg h0, if_neg h0]
    rfl
