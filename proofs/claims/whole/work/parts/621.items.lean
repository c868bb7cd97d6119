/-! the items of a clause -/
def hNt (s k : Nat) : Nat := (tab5.getD (s * 3 + k) 0).toNatClampNeg
def iOut (t w r i : Nat) (hN : Nat → Nat) (X D Dc A : Nat → Int32) (a : Nat) (rc : Option (Int32 × Int32 × (Nat → Int32) × (Nat → Int32))) (rm : Option (Int32 × Int32 × (Nat → Int32))) : Prop :=
  (∃ (a' : Nat) (D' A' : Nat → Int32), rc = some (1, nI a', D', Dc) ∧ rm = some (nI (lk X t a'), -1, A') ∧ (a ≤ a' ∧ a' ≤ t) ∧ (∀ k, k < w → D' ((r + i) * 3 + k) = A' (w * i + k) ∧ ∃ v : Nat, v ≤ hN k ∧ A' (w * i + k) = nI v) ∧ (∀ j, (j < (r + i) * 3 ∨ (r + i) * 3 + 3 ≤ j) → D' j = D j) ∧ ∀ j, (j < w * i ∨ w * i + w ≤ j) → A' j = A j)
  ∨ ∃ (p : Nat) (x : Int32) (D' A' : Nat → Int32), rc = some (0, nI p, D', Dc) ∧ rm = some (x, nI p, A') ∧ p ≤ t
theorem tb_0 : ∀ k, k < 3 → ∃ lo hi u : Nat, lo ≤ 99 ∧ hi = hNt 0 k ∧ hi ≤ 99 ∧ u ≤ hi ∧ tab4.getD (0 * 3 + k) 0 = nI lo ∧ tab5.getD (0 * 3 + k) 0 = nI hi ∧ tab6.getD (0 * 3 + k) 0 = nI u ∧ f_M_lowest 115 (nI k) = some (nI lo) ∧ f_M_highest 115 (nI k) = some (nI hi) ∧ f_M_usual 115 (nI k) = some (nI u) := by
  intro k hk
  rcases (show k = 0 ∨ k = 1 ∨ k = 2 by omega) with rfl | rfl | rfl
  · exact ⟨(tab4.getD (0 * 3 + 0) 0).toNatClampNeg, _, (tab6.getD (0 * 3 + 0) 0).toNatClampNeg, by decide, rfl, by decide, by decide, by decide, by decide, by decide, rfl, rfl, rfl⟩
  · exact ⟨(tab4.getD (0 * 3 + 1) 0).toNatClampNeg, _, (tab6.getD (0 * 3 + 1) 0).toNatClampNeg, by decide, rfl, by decide, by decide, by decide, by decide, by decide, rfl, rfl, rfl⟩
  · exact ⟨(tab4.getD (0 * 3 + 2) 0).toNatClampNeg, _, (tab6.getD (0 * 3 + 2) 0).toNatClampNeg, by decide, rfl, by decide, by decide, by decide, by decide, by decide, rfl, rfl, rfl⟩
theorem p_items0 {t a i : Nat} {T X D Dc A : Nat → Int32} (ht : tpA t T X) (ha : a ≤ t) (hi : i < 1) (hDc : Dc 0 = nI (i + 1)) (hD : ∀ k, k < 3 → D ((0 + i) * 3 + k) = tab6.getD (0 * 3 + k) 0) : iOut t 3 0 i (hNt 0) X D Dc A a (oLp (f_YardR_readClause_L40 (nI t) T Dc (nI 0)) (0, 0, nI a, D)) (f_M_items_M11 (nI t) (nI a) (-1) X A 115 (nI (3 * i)) 3) := by
  have h240 := ht.1
  have hitm : ∀ y, f_M_itemOf 115 (ch X t y) = some (itm 0 (ch X t y)) ∧ (itm 0 (ch X t y) = -1 ∨ (y < t ∧ ∃ k : Nat, k < 3 ∧ itm 0 (ch X t y) = nI k)) := by
    intro y
    rcases ch_byte (a := y) ht with ⟨e, _⟩ | ⟨hy, b, b1, b2, e⟩
    · rw [e]
      exact ⟨by decide, Or.inl (by decide)⟩
    · rw [e]
      obtain ⟨q1, q2⟩ := itm_fin ⟨0, (by decide)⟩ ⟨b, (by omega)⟩ b1
      refine ⟨q2, ?_⟩
      rcases q1 with q | q | q | ⟨q, q'⟩
      · exact Or.inl q
      · exact Or.inr ⟨hy, 0, (by omega), q⟩
      · exact Or.inr ⟨hy, 1, (by omega), q⟩
      · exact Or.inr ⟨hy, 2, (by omega), q⟩
  have e1 : f_M_items_M11 (nI t) (nI a) (-1) X A 115 (nI (3 * i)) 3 = oLp (f_M_items_M11_L41 (nI t) X 115 (nI (3 * i))) (0, itm 0 (ch X t (lk X t a)), nI (lk X t a), -1, fl A (3 * i) 0 3) := by
    unfold f_M_items_M11
    refine oLp_forM (fun j => (nI j, fl A (3 * i) 0 j)) (i := 0) (n := 3) (by omega) (fun j _ hj => ?_) ?_
    · obtain ⟨lo, hh, u, _, _, _, _, _, _, u6, _, _, uu⟩ := tb_0 j hj
      unfold f_M_items_M11_L3
      dsimp only
      rw [if_neg (show ¬ (3 : Int32) ≤ nI j from nI_ge hj (by decide)), uu, bind_some', nI_add, oI_nI (j := 3 * i + j) (n := 3) (by omega) (by decide), nI_clamp (n := 3 * i + j) (by omega)]
      simp only [oL, nx_add]
      show _ = some (Sum.inl (_, upd (fl A (3 * i) 0 j) (3 * i + j) (tab6.getD (0 * 3 + j) 0)))
      rw [u6]
    · unfold f_M_items_M11_L3
      dsimp only
      rw [if_pos (show (3 : Int32) ≤ nI 3 from by decide), m_look h240 ha, bind_some', (hitm _).1, bind_some']
  rw [e1]
  clear e1
  refine qlpW (fun m (s : Int32 × Int32 × Int32 × (Nat → Int32)) (s' : Int32 × Int32 × Int32 × Int32 × (Nat → Int32)) => ∃ (q y : Nat) (D1 A1 : Nat → Int32), q < 8 ∧ m = 3 - pc q ∧ pc q ≤ 3 ∧ s = (nI q, nI (pc q), nI y, D1) ∧ s' = (nI q, itm 0 (ch X t (lk X t y)), nI (lk X t y), -1, A1) ∧ a ≤ y ∧ y ≤ t ∧ (∀ k, k < 3 → D1 ((0 + i) * 3 + k) = A1 (3 * i + k) ∧ ∃ v : Nat, v ≤ hNt 0 k ∧ A1 (3 * i + k) = nI v) ∧ (∀ j, (j < (0 + i) * 3 ∨ (0 + i) * 3 + 3 ≤ j) → D1 j = D j) ∧ ∀ j, (j < 3 * i ∨ 3 * i + 3 ≤ j) → A1 j = A j) (iOut t 3 0 i (hNt 0) X D Dc A a) ?_ (m := 3) ⟨0, a, D, fl A (3 * i) 0 3, (by omega), rfl, (by decide), rfl, rfl, Nat.le_refl _, ha, fun k hk => ?_, fun j _ => rfl, fun j hj => fl_out 3 hj⟩
  · rintro m s s' ⟨q, y, D1, A1, hq, rfl, hpc, rfl, rfl, hay, hy, hrow, hD1, hA1⟩
    have hy1 := lk_ge (X := X) hy
    have hy2 := lk_le (X := X) hy
    have hy3 := lk_lk (X := X) hy
    obtain ⟨i1, i2⟩ := hitm (lk X t y)
    by_cases h3 : pc q = 3
    · right
      left
      refine ⟨y, D1, A1, oLp_out ?_, oLp_out ?_, ⟨hay, hy⟩, hrow, hD1, hA1⟩
      · unfold f_YardR_readClause_L40
        dsimp only
        rw [h3, if_pos (by decide)]
      · unfold f_M_items_M11_L41
        dsimp only
        rw [if_pos rfl]
        rcases i2 with e | ⟨_, k, hk, e⟩
        · rw [e, if_pos rfl]
        · rw [e, if_neg (m1_ne (by omega)), m_has, bind_some', if_neg ((pc_fin ⟨q, hq⟩ ⟨k, (by omega)⟩).2 h3)]
    · have hn3 : ¬ (3 : Int32) ≤ nI (pc q) := nI_ge (b := 3) (by omega) (by decide)
      rcases i2 with e | ⟨hyt, k, hk, e⟩
      · right
        left
        refine ⟨lk X t y, D1, A1, oLp_out ?_, oLp_out ?_, ⟨(by omega), hy2⟩, hrow, hD1, hA1⟩
        · unfold f_YardR_readClause_L40
          dsimp only
          rw [if_neg hn3, c_sign ht hy, bind_some']
          dsimp only
          rw [c_itemOf (by decide), bind_some', e, if_pos rfl]
        · unfold f_M_items_M11_L41
          dsimp only
          rw [if_pos rfl, e, if_pos rfl, hy3]
      · by_cases hb : hs (nI q) (nI k) = 0
        · obtain ⟨q', eq', epc⟩ := (pc_fin ⟨q, hq⟩ ⟨k, (by omega)⟩).1 hb
          dsimp only at eq' epc
          obtain ⟨lo, hh, u, t1, t2, t3, t4, t5, t6, t7, t8, t9, t10⟩ := tb_0 k hk
          have hC : f_YardR_readClause_L40 (nI t) T Dc (nI 0) (nI q, nI (pc q), nI y, D1) = (f_YardR_readValue (nI t) (nI (lk X t y + 1)) T D1 Dc (nI 0) (nI k)).bind fun a_9 => if a_9.1 = 0 then (some (.inr (0, a_9.2.1, a_9.2.2, Dc))) else (some (.inl (nI q'.val, nI (pc q + 1), a_9.2.1, a_9.2.2))) := by
            unfold f_YardR_readClause_L40
            dsimp only
            rw [if_neg hn3, c_sign ht hy, bind_some']
            dsimp only
            rw [c_itemOf (by decide), bind_some', e, if_neg (m1_ne (by omega)), if_pos (show (nI q >>> (nI k &&& 31)) &&& 1 = 0 from hb), eq']
            unfold f_Tape_step
            simp only [oL, bind_some', nx_add]
          have hM : f_M_items_M11_L41 (nI t) X 115 (nI (3 * i)) (nI q, itm 0 (ch X t (lk X t y)), nI (lk X t y), -1, A1) = (f_M_number (nI t) (nI (lk X t y + 1)) (-1) X (nI lo) (nI hh)).bind fun a_8 => if a_8.2.2 = (-1) then ((f_M_look (nI t) a_8.2.1 X).bind fun a_10 => (f_M_itemOf 115 a_10.1).bind fun a_11 => f_M_items_M11_J126 a_10.2 a_8.2.2 (upd A1 (3 * i + k) a_8.1) (nI q'.val) a_11) else (f_M_items_M11_J126 a_8.2.1 a_8.2.2 (upd A1 (3 * i + k) a_8.1) (nI q'.val) ((-1))) := by
            unfold f_M_items_M11_L41
            dsimp only
            rw [if_pos rfl, e, if_neg (m1_ne (by omega)), m_has, bind_some', if_pos hb, eq', t8, t9]
            simp only [oL, bind_some', nx_add]
            congr 1
            funext a_8
            rw [nI_add, oI_nI (j := 3 * i + k) (n := 3) (by omega) (by decide), nI_clamp (n := 3 * i + k) (by omega)]
          rcases p_value (D := D1) (Dc := Dc) (s := 0) (k := k) (i := i) (r := 0) (lo := lo) (hi := hh) ht (show lk X t y + 1 ≤ t by omega) (by decide) (by omega) hDc (by decide) (by omega) t5 t6 t1 t3 with ⟨v, a', v1, v2, v3, v4, v5⟩ | ⟨p, v, v1, v2, v3⟩
          · left
            have hl1 := lk_ge (X := X) (show lk X t y + 1 ≤ t by omega)
            rw [v4, bind_some'] at hC
            dsimp only at hC
            rw [if_neg d10] at hC
            rw [v5, bind_some'] at hM
            dsimp only at hM
            rw [if_pos rfl, m_look h240 v3, bind_some'] at hM
            dsimp only at hM
            rw [(hitm _).1, bind_some'] at hM
            unfold f_M_items_M11_J126 at hM
            refine ⟨_, _, 3 - pc q'.val, (by omega), hC, hM, q'.val, a', _, _, q'.isLt, rfl, (by omega), by rw [epc], rfl, (by omega), v3, fun k' hk' => ?_, fun j hj => ?_, fun j hj => ?_⟩
            · by_cases ek : k' = k
              · subst ek
                rw [upd_at, upd_at]
                exact ⟨rfl, v, by rw [← t2]; exact v1, rfl⟩
              · rw [upd_ne (by omega), upd_ne (by omega)]
                exact hrow k' hk'
            · rw [upd_ne (by omega)]
              exact hD1 j hj
            · rw [upd_ne (by omega)]
              exact hA1 j hj
          · right
            right
            rw [v2, bind_some'] at hC
            dsimp only at hC
            rw [if_pos rfl] at hC
            rw [v3, bind_some'] at hM
            dsimp only at hM
            rw [if_neg (m1_ne (by omega))] at hM
            unfold f_M_items_M11_J126 at hM
            rw [oLp_out hC, oLp_go hM]
            refine ⟨p, nI p, D1, upd A1 (3 * i + k) v, rfl, oLp_out ?_, v1⟩
            unfold f_M_items_M11_L41
            dsimp only
            rw [if_neg (m1_ne (by omega))]
        · right
          left
          refine ⟨lk X t y, D1, A1, oLp_out ?_, oLp_out ?_, ⟨(by omega), hy2⟩, hrow, hD1, hA1⟩
          · unfold f_YardR_readClause_L40
            dsimp only
            rw [if_neg hn3, c_sign ht hy, bind_some']
            dsimp only
            rw [c_itemOf (by decide), bind_some', e, if_neg (m1_ne (by omega)), if_neg (show ¬ (nI q >>> (nI k &&& 31)) &&& 1 = 0 from hb)]
          · unfold f_M_items_M11_L41
            dsimp only
            rw [if_pos rfl, e, if_neg (m1_ne (by omega)), m_has, bind_some', if_neg hb, hy3]
  · obtain ⟨lo, hh, u, t1, t2, t3, t4, t5, t6, t7, t8, t9, t10⟩ := tb_0 k hk
    rw [fl_in 3 hk, hD k hk, t7]
    exact ⟨rfl, u, by rw [← t2]; exact t4, rfl⟩
theorem tb_1 : ∀ k, k < 2 → ∃ lo hi u : Nat, lo ≤ 99 ∧ hi = hNt 1 k ∧ hi ≤ 99 ∧ u ≤ hi ∧ tab4.getD (1 * 3 + k) 0 = nI lo ∧ tab5.getD (1 * 3 + k) 0 = nI hi ∧ tab6.getD (1 * 3 + k) 0 = nI u ∧ f_M_lowest 98 (nI k) = some (nI lo) ∧ f_M_highest 98 (nI k) = some (nI hi) ∧ f_M_usual 98 (nI k) = some (nI u) := by
  intro k hk
  rcases (show k = 0 ∨ k = 1  by omega) with rfl | rfl 
  · exact ⟨(tab4.getD (1 * 3 + 0) 0).toNatClampNeg, _, (tab6.getD (1 * 3 + 0) 0).toNatClampNeg, by decide, rfl, by decide, by decide, by decide, by decide, by decide, rfl, rfl, rfl⟩
  · exact ⟨(tab4.getD (1 * 3 + 1) 0).toNatClampNeg, _, (tab6.getD (1 * 3 + 1) 0).toNatClampNeg, by decide, rfl, by decide, by decide, by decide, by decide, by decide, rfl, rfl, rfl⟩
theorem p_items1 {t a i : Nat} {T X D Dc A : Nat → Int32} (ht : tpA t T X) (ha : a ≤ t) (hi : i < 5) (hDc : Dc 1 = nI (i + 1)) (hD : ∀ k, k < 2 → D ((1 + i) * 3 + k) = tab6.getD (1 * 3 + k) 0) : iOut t 2 1 i (hNt 1) X D Dc A a (oLp (f_YardR_readClause_L40 (nI t) T Dc (nI 1)) (0, 0, nI a, D)) (f_M_items_M12 (nI t) (nI a) (-1) X A 98 (nI (2 * i)) 2) := by
  have h240 := ht.1
  have hitm : ∀ y, f_M_itemOf 98 (ch X t y) = some (itm 1 (ch X t y)) ∧ (itm 1 (ch X t y) = -1 ∨ (y < t ∧ ∃ k : Nat, k < 2 ∧ itm 1 (ch X t y) = nI k)) := by
    intro y
    rcases ch_byte (a := y) ht with ⟨e, _⟩ | ⟨hy, b, b1, b2, e⟩
    · rw [e]
      exact ⟨by decide, Or.inl (by decide)⟩
    · rw [e]
      obtain ⟨q1, q2⟩ := itm_fin ⟨1, (by decide)⟩ ⟨b, (by omega)⟩ b1
      refine ⟨q2, ?_⟩
      rcases q1 with q | q | q | ⟨q, q'⟩
      · exact Or.inl q
      · exact Or.inr ⟨hy, 0, (by omega), q⟩
      · exact Or.inr ⟨hy, 1, (by omega), q⟩
      · exact absurd rfl q'
  have e1 : f_M_items_M12 (nI t) (nI a) (-1) X A 98 (nI (2 * i)) 2 = oLp (f_M_items_M12_L41 (nI t) X 98 (nI (2 * i))) (0, itm 1 (ch X t (lk X t a)), nI (lk X t a), -1, fl A (2 * i) 1 2) := by
    unfold f_M_items_M12
    refine oLp_forM (fun j => (nI j, fl A (2 * i) 1 j)) (i := 0) (n := 2) (by omega) (fun j _ hj => ?_) ?_
    · obtain ⟨lo, hh, u, _, _, _, _, _, _, u6, _, _, uu⟩ := tb_1 j hj
      unfold f_M_items_M12_L3
      dsimp only
      rw [if_neg (show ¬ (2 : Int32) ≤ nI j from nI_ge hj (by decide)), uu, bind_some', nI_add, oI_nI (j := 2 * i + j) (n := 10) (by omega) (by decide), nI_clamp (n := 2 * i + j) (by omega)]
      simp only [oL, nx_add]
      show _ = some (Sum.inl (_, upd (fl A (2 * i) 1 j) (2 * i + j) (tab6.getD (1 * 3 + j) 0)))
      rw [u6]
    · unfold f_M_items_M12_L3
      dsimp only
      rw [if_pos (show (2 : Int32) ≤ nI 2 from by decide), m_look h240 ha, bind_some', (hitm _).1, bind_some']
  rw [e1]
  clear e1
  refine qlpW (fun m (s : Int32 × Int32 × Int32 × (Nat → Int32)) (s' : Int32 × Int32 × Int32 × Int32 × (Nat → Int32)) => ∃ (q y : Nat) (D1 A1 : Nat → Int32), q < 8 ∧ m = 3 - pc q ∧ pc q ≤ 3 ∧ s = (nI q, nI (pc q), nI y, D1) ∧ s' = (nI q, itm 1 (ch X t (lk X t y)), nI (lk X t y), -1, A1) ∧ a ≤ y ∧ y ≤ t ∧ (∀ k, k < 2 → D1 ((1 + i) * 3 + k) = A1 (2 * i + k) ∧ ∃ v : Nat, v ≤ hNt 1 k ∧ A1 (2 * i + k) = nI v) ∧ (∀ j, (j < (1 + i) * 3 ∨ (1 + i) * 3 + 3 ≤ j) → D1 j = D j) ∧ ∀ j, (j < 2 * i ∨ 2 * i + 2 ≤ j) → A1 j = A j) (iOut t 2 1 i (hNt 1) X D Dc A a) ?_ (m := 3) ⟨0, a, D, fl A (2 * i) 1 2, (by omega), rfl, (by decide), rfl, rfl, Nat.le_refl _, ha, fun k hk => ?_, fun j _ => rfl, fun j hj => fl_out 2 hj⟩
  · rintro m s s' ⟨q, y, D1, A1, hq, rfl, hpc, rfl, rfl, hay, hy, hrow, hD1, hA1⟩
    have hy1 := lk_ge (X := X) hy
    have hy2 := lk_le (X := X) hy
    have hy3 := lk_lk (X := X) hy
    obtain ⟨i1, i2⟩ := hitm (lk X t y)
    by_cases h3 : pc q = 3
    · right
      left
      refine ⟨y, D1, A1, oLp_out ?_, oLp_out ?_, ⟨hay, hy⟩, hrow, hD1, hA1⟩
      · unfold f_YardR_readClause_L40
        dsimp only
        rw [h3, if_pos (by decide)]
      · unfold f_M_items_M12_L41
        dsimp only
        rw [if_pos rfl]
        rcases i2 with e | ⟨_, k, hk, e⟩
        · rw [e, if_pos rfl]
        · rw [e, if_neg (m1_ne (by omega)), m_has, bind_some', if_neg ((pc_fin ⟨q, hq⟩ ⟨k, (by omega)⟩).2 h3)]
    · have hn3 : ¬ (3 : Int32) ≤ nI (pc q) := nI_ge (b := 3) (by omega) (by decide)
      rcases i2 with e | ⟨hyt, k, hk, e⟩
      · right
        left
        refine ⟨lk X t y, D1, A1, oLp_out ?_, oLp_out ?_, ⟨(by omega), hy2⟩, hrow, hD1, hA1⟩
        · unfold f_YardR_readClause_L40
          dsimp only
          rw [if_neg hn3, c_sign ht hy, bind_some']
          dsimp only
          rw [c_itemOf (by decide), bind_some', e, if_pos rfl]
        · unfold f_M_items_M12_L41
          dsimp only
          rw [if_pos rfl, e, if_pos rfl, hy3]
      · by_cases hb : hs (nI q) (nI k) = 0
        · obtain ⟨q', eq', epc⟩ := (pc_fin ⟨q, hq⟩ ⟨k, (by omega)⟩).1 hb
          dsimp only at eq' epc
          obtain ⟨lo, hh, u, t1, t2, t3, t4, t5, t6, t7, t8, t9, t10⟩ := tb_1 k hk
          have hC : f_YardR_readClause_L40 (nI t) T Dc (nI 1) (nI q, nI (pc q), nI y, D1) = (f_YardR_readValue (nI t) (nI (lk X t y + 1)) T D1 Dc (nI 1) (nI k)).bind fun a_9 => if a_9.1 = 0 then (some (.inr (0, a_9.2.1, a_9.2.2, Dc))) else (some (.inl (nI q'.val, nI (pc q + 1), a_9.2.1, a_9.2.2))) := by
            unfold f_YardR_readClause_L40
            dsimp only
            rw [if_neg hn3, c_sign ht hy, bind_some']
            dsimp only
            rw [c_itemOf (by decide), bind_some', e, if_neg (m1_ne (by omega)), if_pos (show (nI q >>> (nI k &&& 31)) &&& 1 = 0 from hb), eq']
            unfold f_Tape_step
            simp only [oL, bind_some', nx_add]
          have hM : f_M_items_M12_L41 (nI t) X 98 (nI (2 * i)) (nI q, itm 1 (ch X t (lk X t y)), nI (lk X t y), -1, A1) = (f_M_number (nI t) (nI (lk X t y + 1)) (-1) X (nI lo) (nI hh)).bind fun a_8 => if a_8.2.2 = (-1) then ((f_M_look (nI t) a_8.2.1 X).bind fun a_10 => (f_M_itemOf 98 a_10.1).bind fun a_11 => f_M_items_M12_J126 a_10.2 a_8.2.2 (upd A1 (2 * i + k) a_8.1) (nI q'.val) a_11) else (f_M_items_M12_J126 a_8.2.1 a_8.2.2 (upd A1 (2 * i + k) a_8.1) (nI q'.val) ((-1))) := by
            unfold f_M_items_M12_L41
            dsimp only
            rw [if_pos rfl, e, if_neg (m1_ne (by omega)), m_has, bind_some', if_pos hb, eq', t8, t9]
            simp only [oL, bind_some', nx_add]
            congr 1
            funext a_8
            rw [nI_add, oI_nI (j := 2 * i + k) (n := 10) (by omega) (by decide), nI_clamp (n := 2 * i + k) (by omega)]
          rcases p_value (D := D1) (Dc := Dc) (s := 1) (k := k) (i := i) (r := 1) (lo := lo) (hi := hh) ht (show lk X t y + 1 ≤ t by omega) (by decide) (by omega) hDc (by decide) (by omega) t5 t6 t1 t3 with ⟨v, a', v1, v2, v3, v4, v5⟩ | ⟨p, v, v1, v2, v3⟩
          · left
            have hl1 := lk_ge (X := X) (show lk X t y + 1 ≤ t by omega)
            rw [v4, bind_some'] at hC
            dsimp only at hC
            rw [if_neg d10] at hC
            rw [v5, bind_some'] at hM
            dsimp only at hM
            rw [if_pos rfl, m_look h240 v3, bind_some'] at hM
            dsimp only at hM
            rw [(hitm _).1, bind_some'] at hM
            unfold f_M_items_M12_J126 at hM
            refine ⟨_, _, 3 - pc q'.val, (by omega), hC, hM, q'.val, a', _, _, q'.isLt, rfl, (by omega), by rw [epc], rfl, (by omega), v3, fun k' hk' => ?_, fun j hj => ?_, fun j hj => ?_⟩
            · by_cases ek : k' = k
              · subst ek
                rw [upd_at, upd_at]
                exact ⟨rfl, v, by rw [← t2]; exact v1, rfl⟩
              · rw [upd_ne (by omega), upd_ne (by omega)]
                exact hrow k' hk'
            · rw [upd_ne (by omega)]
              exact hD1 j hj
            · rw [upd_ne (by omega)]
              exact hA1 j hj
          · right
            right
            rw [v2, bind_some'] at hC
            dsimp only at hC
            rw [if_pos rfl] at hC
            rw [v3, bind_some'] at hM
            dsimp only at hM
            rw [if_neg (m1_ne (by omega))] at hM
            unfold f_M_items_M12_J126 at hM
            rw [oLp_out hC, oLp_go hM]
            refine ⟨p, nI p, D1, upd A1 (2 * i + k) v, rfl, oLp_out ?_, v1⟩
            unfold f_M_items_M12_L41
            dsimp only
            rw [if_neg (m1_ne (by omega))]
        · right
          left
          refine ⟨lk X t y, D1, A1, oLp_out ?_, oLp_out ?_, ⟨(by omega), hy2⟩, hrow, hD1, hA1⟩
          · unfold f_YardR_readClause_L40
            dsimp only
            rw [if_neg hn3, c_sign ht hy, bind_some']
            dsimp only
            rw [c_itemOf (by decide), bind_some', e, if_neg (m1_ne (by omega)), if_neg (show ¬ (nI q >>> (nI k &&& 31)) &&& 1 = 0 from hb)]
          · unfold f_M_items_M12_L41
            dsimp only
            rw [if_pos rfl, e, if_neg (m1_ne (by omega)), m_has, bind_some', if_neg hb, hy3]
  · obtain ⟨lo, hh, u, t1, t2, t3, t4, t5, t6, t7, t8, t9, t10⟩ := tb_1 k hk
    rw [fl_in 2 hk, hD k hk, t7]
    exact ⟨rfl, u, by rw [← t2]; exact t4, rfl⟩
theorem tb_2 : ∀ k, k < 3 → ∃ lo hi u : Nat, lo ≤ 99 ∧ hi = hNt 2 k ∧ hi ≤ 99 ∧ u ≤ hi ∧ tab4.getD (2 * 3 + k) 0 = nI lo ∧ tab5.getD (2 * 3 + k) 0 = nI hi ∧ tab6.getD (2 * 3 + k) 0 = nI u ∧ f_M_lowest 109 (nI k) = some (nI lo) ∧ f_M_highest 109 (nI k) = some (nI hi) ∧ f_M_usual 109 (nI k) = some (nI u) := by
  intro k hk
  rcases (show k = 0 ∨ k = 1 ∨ k = 2 by omega) with rfl | rfl | rfl
  · exact ⟨(tab4.getD (2 * 3 + 0) 0).toNatClampNeg, _, (tab6.getD (2 * 3 + 0) 0).toNatClampNeg, by decide, rfl, by decide, by decide, by decide, by decide, by decide, rfl, rfl, rfl⟩
  · exact ⟨(tab4.getD (2 * 3 + 1) 0).toNatClampNeg, _, (tab6.getD (2 * 3 + 1) 0).toNatClampNeg, by decide, rfl, by decide, by decide, by decide, by decide, by decide, rfl, rfl, rfl⟩
  · exact ⟨(tab4.getD (2 * 3 + 2) 0).toNatClampNeg, _, (tab6.getD (2 * 3 + 2) 0).toNatClampNeg, by decide, rfl, by decide, by decide, by decide, by decide, by decide, rfl, rfl, rfl⟩
theorem p_items2 {t a i : Nat} {T X D Dc A : Nat → Int32} (ht : tpA t T X) (ha : a ≤ t) (hi : i < 6) (hDc : Dc 2 = nI (i + 1)) (hD : ∀ k, k < 3 → D ((6 + i) * 3 + k) = tab6.getD (2 * 3 + k) 0) : iOut t 3 6 i (hNt 2) X D Dc A a (oLp (f_YardR_readClause_L40 (nI t) T Dc (nI 2)) (0, 0, nI a, D)) (f_M_items_M13 (nI t) (nI a) (-1) X A 109 (nI (3 * i)) 3) := by
  have h240 := ht.1
  have hitm : ∀ y, f_M_itemOf 109 (ch X t y) = some (itm 2 (ch X t y)) ∧ (itm 2 (ch X t y) = -1 ∨ (y < t ∧ ∃ k : Nat, k < 3 ∧ itm 2 (ch X t y) = nI k)) := by
    intro y
    rcases ch_byte (a := y) ht with ⟨e, _⟩ | ⟨hy, b, b1, b2, e⟩
    · rw [e]
      exact ⟨by decide, Or.inl (by decide)⟩
    · rw [e]
      obtain ⟨q1, q2⟩ := itm_fin ⟨2, (by decide)⟩ ⟨b, (by omega)⟩ b1
      refine ⟨q2, ?_⟩
      rcases q1 with q | q | q | ⟨q, q'⟩
      · exact Or.inl q
      · exact Or.inr ⟨hy, 0, (by omega), q⟩
      · exact Or.inr ⟨hy, 1, (by omega), q⟩
      · exact Or.inr ⟨hy, 2, (by omega), q⟩
  have e1 : f_M_items_M13 (nI t) (nI a) (-1) X A 109 (nI (3 * i)) 3 = oLp (f_M_items_M13_L41 (nI t) X 109 (nI (3 * i))) (0, itm 2 (ch X t (lk X t a)), nI (lk X t a), -1, fl A (3 * i) 2 3) := by
    unfold f_M_items_M13
    refine oLp_forM (fun j => (nI j, fl A (3 * i) 2 j)) (i := 0) (n := 3) (by omega) (fun j _ hj => ?_) ?_
    · obtain ⟨lo, hh, u, _, _, _, _, _, _, u6, _, _, uu⟩ := tb_2 j hj
      unfold f_M_items_M13_L3
      dsimp only
      rw [if_neg (show ¬ (3 : Int32) ≤ nI j from nI_ge hj (by decide)), uu, bind_some', nI_add, oI_nI (j := 3 * i + j) (n := 18) (by omega) (by decide), nI_clamp (n := 3 * i + j) (by omega)]
      simp only [oL, nx_add]
      show _ = some (Sum.inl (_, upd (fl A (3 * i) 2 j) (3 * i + j) (tab6.getD (2 * 3 + j) 0)))
      rw [u6]
    · unfold f_M_items_M13_L3
      dsimp only
      rw [if_pos (show (3 : Int32) ≤ nI 3 from by decide), m_look h240 ha, bind_some', (hitm _).1, bind_some']
  rw [e1]
  clear e1
  refine qlpW (fun m (s : Int32 × Int32 × Int32 × (Nat → Int32)) (s' : Int32 × Int32 × Int32 × Int32 × (Nat → Int32)) => ∃ (q y : Nat) (D1 A1 : Nat → Int32), q < 8 ∧ m = 3 - pc q ∧ pc q ≤ 3 ∧ s = (nI q, nI (pc q), nI y, D1) ∧ s' = (nI q, itm 2 (ch X t (lk X t y)), nI (lk X t y), -1, A1) ∧ a ≤ y ∧ y ≤ t ∧ (∀ k, k < 3 → D1 ((6 + i) * 3 + k) = A1 (3 * i + k) ∧ ∃ v : Nat, v ≤ hNt 2 k ∧ A1 (3 * i + k) = nI v) ∧ (∀ j, (j < (6 + i) * 3 ∨ (6 + i) * 3 + 3 ≤ j) → D1 j = D j) ∧ ∀ j, (j < 3 * i ∨ 3 * i + 3 ≤ j) → A1 j = A j) (iOut t 3 6 i (hNt 2) X D Dc A a) ?_ (m := 3) ⟨0, a, D, fl A (3 * i) 2 3, (by omega), rfl, (by decide), rfl, rfl, Nat.le_refl _, ha, fun k hk => ?_, fun j _ => rfl, fun j hj => fl_out 3 hj⟩
  · rintro m s s' ⟨q, y, D1, A1, hq, rfl, hpc, rfl, rfl, hay, hy, hrow, hD1, hA1⟩
    have hy1 := lk_ge (X := X) hy
    have hy2 := lk_le (X := X) hy
    have hy3 := lk_lk (X := X) hy
    obtain ⟨i1, i2⟩ := hitm (lk X t y)
    by_cases h3 : pc q = 3
    · right
      left
      refine ⟨y, D1, A1, oLp_out ?_, oLp_out ?_, ⟨hay, hy⟩, hrow, hD1, hA1⟩
      · unfold f_YardR_readClause_L40
        dsimp only
        rw [h3, if_pos (by decide)]
      · unfold f_M_items_M13_L41
        dsimp only
        rw [if_pos rfl]
        rcases i2 with e | ⟨_, k, hk, e⟩
        · rw [e, if_pos rfl]
        · rw [e, if_neg (m1_ne (by omega)), m_has, bind_some', if_neg ((pc_fin ⟨q, hq⟩ ⟨k, (by omega)⟩).2 h3)]
    · have hn3 : ¬ (3 : Int32) ≤ nI (pc q) := nI_ge (b := 3) (by omega) (by decide)
      rcases i2 with e | ⟨hyt, k, hk, e⟩
      · right
        left
        refine ⟨lk X t y, D1, A1, oLp_out ?_, oLp_out ?_, ⟨(by omega), hy2⟩, hrow, hD1, hA1⟩
        · unfold f_YardR_readClause_L40
          dsimp only
          rw [if_neg hn3, c_sign ht hy, bind_some']
          dsimp only
          rw [c_itemOf (by decide), bind_some', e, if_pos rfl]
        · unfold f_M_items_M13_L41
          dsimp only
          rw [if_pos rfl, e, if_pos rfl, hy3]
      · by_cases hb : hs (nI q) (nI k) = 0
        · obtain ⟨q', eq', epc⟩ := (pc_fin ⟨q, hq⟩ ⟨k, (by omega)⟩).1 hb
          dsimp only at eq' epc
          obtain ⟨lo, hh, u, t1, t2, t3, t4, t5, t6, t7, t8, t9, t10⟩ := tb_2 k hk
          have hC : f_YardR_readClause_L40 (nI t) T Dc (nI 2) (nI q, nI (pc q), nI y, D1) = (f_YardR_readValue (nI t) (nI (lk X t y + 1)) T D1 Dc (nI 2) (nI k)).bind fun a_9 => if a_9.1 = 0 then (some (.inr (0, a_9.2.1, a_9.2.2, Dc))) else (some (.inl (nI q'.val, nI (pc q + 1), a_9.2.1, a_9.2.2))) := by
            unfold f_YardR_readClause_L40
            dsimp only
            rw [if_neg hn3, c_sign ht hy, bind_some']
            dsimp only
            rw [c_itemOf (by decide), bind_some', e, if_neg (m1_ne (by omega)), if_pos (show (nI q >>> (nI k &&& 31)) &&& 1 = 0 from hb), eq']
            unfold f_Tape_step
            simp only [oL, bind_some', nx_add]
          have hM : f_M_items_M13_L41 (nI t) X 109 (nI (3 * i)) (nI q, itm 2 (ch X t (lk X t y)), nI (lk X t y), -1, A1) = (f_M_number (nI t) (nI (lk X t y + 1)) (-1) X (nI lo) (nI hh)).bind fun a_8 => if a_8.2.2 = (-1) then ((f_M_look (nI t) a_8.2.1 X).bind fun a_10 => (f_M_itemOf 109 a_10.1).bind fun a_11 => f_M_items_M13_J126 a_10.2 a_8.2.2 (upd A1 (3 * i + k) a_8.1) (nI q'.val) a_11) else (f_M_items_M13_J126 a_8.2.1 a_8.2.2 (upd A1 (3 * i + k) a_8.1) (nI q'.val) ((-1))) := by
            unfold f_M_items_M13_L41
            dsimp only
            rw [if_pos rfl, e, if_neg (m1_ne (by omega)), m_has, bind_some', if_pos hb, eq', t8, t9]
            simp only [oL, bind_some', nx_add]
            congr 1
            funext a_8
            rw [nI_add, oI_nI (j := 3 * i + k) (n := 18) (by omega) (by decide), nI_clamp (n := 3 * i + k) (by omega)]
          rcases p_value (D := D1) (Dc := Dc) (s := 2) (k := k) (i := i) (r := 6) (lo := lo) (hi := hh) ht (show lk X t y + 1 ≤ t by omega) (by decide) (by omega) hDc (by decide) (by omega) t5 t6 t1 t3 with ⟨v, a', v1, v2, v3, v4, v5⟩ | ⟨p, v, v1, v2, v3⟩
          · left
            have hl1 := lk_ge (X := X) (show lk X t y + 1 ≤ t by omega)
            rw [v4, bind_some'] at hC
            dsimp only at hC
            rw [if_neg d10] at hC
            rw [v5, bind_some'] at hM
            dsimp only at hM
            rw [if_pos rfl, m_look h240 v3, bind_some'] at hM
            dsimp only at hM
            rw [(hitm _).1, bind_some'] at hM
            unfold f_M_items_M13_J126 at hM
            refine ⟨_, _, 3 - pc q'.val, (by omega), hC, hM, q'.val, a', _, _, q'.isLt, rfl, (by omega), by rw [epc], rfl, (by omega), v3, fun k' hk' => ?_, fun j hj => ?_, fun j hj => ?_⟩
            · by_cases ek : k' = k
              · subst ek
                rw [upd_at, upd_at]
                exact ⟨rfl, v, by rw [← t2]; exact v1, rfl⟩
              · rw [upd_ne (by omega), upd_ne (by omega)]
                exact hrow k' hk'
            · rw [upd_ne (by omega)]
              exact hD1 j hj
            · rw [upd_ne (by omega)]
              exact hA1 j hj
          · right
            right
            rw [v2, bind_some'] at hC
            dsimp only at hC
            rw [if_pos rfl] at hC
            rw [v3, bind_some'] at hM
            dsimp only at hM
            rw [if_neg (m1_ne (by omega))] at hM
            unfold f_M_items_M13_J126 at hM
            rw [oLp_out hC, oLp_go hM]
            refine ⟨p, nI p, D1, upd A1 (3 * i + k) v, rfl, oLp_out ?_, v1⟩
            unfold f_M_items_M13_L41
            dsimp only
            rw [if_neg (m1_ne (by omega))]
        · right
          left
          refine ⟨lk X t y, D1, A1, oLp_out ?_, oLp_out ?_, ⟨(by omega), hy2⟩, hrow, hD1, hA1⟩
          · unfold f_YardR_readClause_L40
            dsimp only
            rw [if_neg hn3, c_sign ht hy, bind_some']
            dsimp only
            rw [c_itemOf (by decide), bind_some', e, if_neg (m1_ne (by omega)), if_neg (show ¬ (nI q >>> (nI k &&& 31)) &&& 1 = 0 from hb)]
          · unfold f_M_items_M13_L41
            dsimp only
            rw [if_pos rfl, e, if_neg (m1_ne (by omega)), m_has, bind_some', if_neg hb, hy3]
  · obtain ⟨lo, hh, u, t1, t2, t3, t4, t5, t6, t7, t8, t9, t10⟩ := tb_2 k hk
    rw [fl_in 3 hk, hD k hk, t7]
    exact ⟨rfl, u, by rw [← t2]; exact t4, rfl⟩
theorem tb_3 : ∀ k, k < 3 → ∃ lo hi u : Nat, lo ≤ 99 ∧ hi = hNt 3 k ∧ hi ≤ 99 ∧ u ≤ hi ∧ tab4.getD (3 * 3 + k) 0 = nI lo ∧ tab5.getD (3 * 3 + k) 0 = nI hi ∧ tab6.getD (3 * 3 + k) 0 = nI u ∧ f_M_lowest 102 (nI k) = some (nI lo) ∧ f_M_highest 102 (nI k) = some (nI hi) ∧ f_M_usual 102 (nI k) = some (nI u) := by
  intro k hk
  rcases (show k = 0 ∨ k = 1 ∨ k = 2 by omega) with rfl | rfl | rfl
  · exact ⟨(tab4.getD (3 * 3 + 0) 0).toNatClampNeg, _, (tab6.getD (3 * 3 + 0) 0).toNatClampNeg, by decide, rfl, by decide, by decide, by decide, by decide, by decide, rfl, rfl, rfl⟩
  · exact ⟨(tab4.getD (3 * 3 + 1) 0).toNatClampNeg, _, (tab6.getD (3 * 3 + 1) 0).toNatClampNeg, by decide, rfl, by decide, by decide, by decide, by decide, by decide, rfl, rfl, rfl⟩
  · exact ⟨(tab4.getD (3 * 3 + 2) 0).toNatClampNeg, _, (tab6.getD (3 * 3 + 2) 0).toNatClampNeg, by decide, rfl, by decide, by decide, by decide, by decide, by decide, rfl, rfl, rfl⟩
theorem p_items3 {t a i : Nat} {T X D Dc A : Nat → Int32} (ht : tpA t T X) (ha : a ≤ t) (hi : i < 6) (hDc : Dc 3 = nI (i + 1)) (hD : ∀ k, k < 3 → D ((12 + i) * 3 + k) = tab6.getD (3 * 3 + k) 0) : iOut t 3 12 i (hNt 3) X D Dc A a (oLp (f_YardR_readClause_L40 (nI t) T Dc (nI 3)) (0, 0, nI a, D)) (f_M_items_M14 (nI t) (nI a) (-1) X A 102 (nI (3 * i)) 3) := by
  have h240 := ht.1
  have hitm : ∀ y, f_M_itemOf 102 (ch X t y) = some (itm 3 (ch X t y)) ∧ (itm 3 (ch X t y) = -1 ∨ (y < t ∧ ∃ k : Nat, k < 3 ∧ itm 3 (ch X t y) = nI k)) := by
    intro y
    rcases ch_byte (a := y) ht with ⟨e, _⟩ | ⟨hy, b, b1, b2, e⟩
    · rw [e]
      exact ⟨by decide, Or.inl (by decide)⟩
    · rw [e]
      obtain ⟨q1, q2⟩ := itm_fin ⟨3, (by decide)⟩ ⟨b, (by omega)⟩ b1
      refine ⟨q2, ?_⟩
      rcases q1 with q | q | q | ⟨q, q'⟩
      · exact Or.inl q
      · exact Or.inr ⟨hy, 0, (by omega), q⟩
      · exact Or.inr ⟨hy, 1, (by omega), q⟩
      · exact Or.inr ⟨hy, 2, (by omega), q⟩
  have e1 : f_M_items_M14 (nI t) (nI a) (-1) X A 102 (nI (3 * i)) 3 = oLp (f_M_items_M14_L41 (nI t) X 102 (nI (3 * i))) (0, itm 3 (ch X t (lk X t a)), nI (lk X t a), -1, fl A (3 * i) 3 3) := by
    unfold f_M_items_M14
    refine oLp_forM (fun j => (nI j, fl A (3 * i) 3 j)) (i := 0) (n := 3) (by omega) (fun j _ hj => ?_) ?_
    · obtain ⟨lo, hh, u, _, _, _, _, _, _, u6, _, _, uu⟩ := tb_3 j hj
      unfold f_M_items_M14_L3
      dsimp only
      rw [if_neg (show ¬ (3 : Int32) ≤ nI j from nI_ge hj (by decide)), uu, bind_some', nI_add, oI_nI (j := 3 * i + j) (n := 18) (by omega) (by decide), nI_clamp (n := 3 * i + j) (by omega)]
      simp only [oL, nx_add]
      show _ = some (Sum.inl (_, upd (fl A (3 * i) 3 j) (3 * i + j) (tab6.getD (3 * 3 + j) 0)))
      rw [u6]
    · unfold f_M_items_M14_L3
      dsimp only
      rw [if_pos (show (3 : Int32) ≤ nI 3 from by decide), m_look h240 ha, bind_some', (hitm _).1, bind_some']
  rw [e1]
  clear e1
  refine qlpW (fun m (s : Int32 × Int32 × Int32 × (Nat → Int32)) (s' : Int32 × Int32 × Int32 × Int32 × (Nat → Int32)) => ∃ (q y : Nat) (D1 A1 : Nat → Int32), q < 8 ∧ m = 3 - pc q ∧ pc q ≤ 3 ∧ s = (nI q, nI (pc q), nI y, D1) ∧ s' = (nI q, itm 3 (ch X t (lk X t y)), nI (lk X t y), -1, A1) ∧ a ≤ y ∧ y ≤ t ∧ (∀ k, k < 3 → D1 ((12 + i) * 3 + k) = A1 (3 * i + k) ∧ ∃ v : Nat, v ≤ hNt 3 k ∧ A1 (3 * i + k) = nI v) ∧ (∀ j, (j < (12 + i) * 3 ∨ (12 + i) * 3 + 3 ≤ j) → D1 j = D j) ∧ ∀ j, (j < 3 * i ∨ 3 * i + 3 ≤ j) → A1 j = A j) (iOut t 3 12 i (hNt 3) X D Dc A a) ?_ (m := 3) ⟨0, a, D, fl A (3 * i) 3 3, (by omega), rfl, (by decide), rfl, rfl, Nat.le_refl _, ha, fun k hk => ?_, fun j _ => rfl, fun j hj => fl_out 3 hj⟩
  · rintro m s s' ⟨q, y, D1, A1, hq, rfl, hpc, rfl, rfl, hay, hy, hrow, hD1, hA1⟩
    have hy1 := lk_ge (X := X) hy
    have hy2 := lk_le (X := X) hy
    have hy3 := lk_lk (X := X) hy
    obtain ⟨i1, i2⟩ := hitm (lk X t y)
    by_cases h3 : pc q = 3
    · right
      left
      refine ⟨y, D1, A1, oLp_out ?_, oLp_out ?_, ⟨hay, hy⟩, hrow, hD1, hA1⟩
      · unfold f_YardR_readClause_L40
        dsimp only
        rw [h3, if_pos (by decide)]
      · unfold f_M_items_M14_L41
        dsimp only
        rw [if_pos rfl]
        rcases i2 with e | ⟨_, k, hk, e⟩
        · rw [e, if_pos rfl]
        · rw [e, if_neg (m1_ne (by omega)), m_has, bind_some', if_neg ((pc_fin ⟨q, hq⟩ ⟨k, (by omega)⟩).2 h3)]
    · have hn3 : ¬ (3 : Int32) ≤ nI (pc q) := nI_ge (b := 3) (by omega) (by decide)
      rcases i2 with e | ⟨hyt, k, hk, e⟩
      · right
        left
        refine ⟨lk X t y, D1, A1, oLp_out ?_, oLp_out ?_, ⟨(by omega), hy2⟩, hrow, hD1, hA1⟩
        · unfold f_YardR_readClause_L40
          dsimp only
          rw [if_neg hn3, c_sign ht hy, bind_some']
          dsimp only
          rw [c_itemOf (by decide), bind_some', e, if_pos rfl]
        · unfold f_M_items_M14_L41
          dsimp only
          rw [if_pos rfl, e, if_pos rfl, hy3]
      · by_cases hb : hs (nI q) (nI k) = 0
        · obtain ⟨q', eq', epc⟩ := (pc_fin ⟨q, hq⟩ ⟨k, (by omega)⟩).1 hb
          dsimp only at eq' epc
          obtain ⟨lo, hh, u, t1, t2, t3, t4, t5, t6, t7, t8, t9, t10⟩ := tb_3 k hk
          have hC : f_YardR_readClause_L40 (nI t) T Dc (nI 3) (nI q, nI (pc q), nI y, D1) = (f_YardR_readValue (nI t) (nI (lk X t y + 1)) T D1 Dc (nI 3) (nI k)).bind fun a_9 => if a_9.1 = 0 then (some (.inr (0, a_9.2.1, a_9.2.2, Dc))) else (some (.inl (nI q'.val, nI (pc q + 1), a_9.2.1, a_9.2.2))) := by
            unfold f_YardR_readClause_L40
            dsimp only
            rw [if_neg hn3, c_sign ht hy, bind_some']
            dsimp only
            rw [c_itemOf (by decide), bind_some', e, if_neg (m1_ne (by omega)), if_pos (show (nI q >>> (nI k &&& 31)) &&& 1 = 0 from hb), eq']
            unfold f_Tape_step
            simp only [oL, bind_some', nx_add]
          have hM : f_M_items_M14_L41 (nI t) X 102 (nI (3 * i)) (nI q, itm 3 (ch X t (lk X t y)), nI (lk X t y), -1, A1) = (f_M_number (nI t) (nI (lk X t y + 1)) (-1) X (nI lo) (nI hh)).bind fun a_8 => if a_8.2.2 = (-1) then ((f_M_look (nI t) a_8.2.1 X).bind fun a_10 => (f_M_itemOf 102 a_10.1).bind fun a_11 => f_M_items_M14_J126 a_10.2 a_8.2.2 (upd A1 (3 * i + k) a_8.1) (nI q'.val) a_11) else (f_M_items_M14_J126 a_8.2.1 a_8.2.2 (upd A1 (3 * i + k) a_8.1) (nI q'.val) ((-1))) := by
            unfold f_M_items_M14_L41
            dsimp only
            rw [if_pos rfl, e, if_neg (m1_ne (by omega)), m_has, bind_some', if_pos hb, eq', t8, t9]
            simp only [oL, bind_some', nx_add]
            congr 1
            funext a_8
            rw [nI_add, oI_nI (j := 3 * i + k) (n := 18) (by omega) (by decide), nI_clamp (n := 3 * i + k) (by omega)]
          rcases p_value (D := D1) (Dc := Dc) (s := 3) (k := k) (i := i) (r := 12) (lo := lo) (hi := hh) ht (show lk X t y + 1 ≤ t by omega) (by decide) (by omega) hDc (by decide) (by omega) t5 t6 t1 t3 with ⟨v, a', v1, v2, v3, v4, v5⟩ | ⟨p, v, v1, v2, v3⟩
          · left
            have hl1 := lk_ge (X := X) (show lk X t y + 1 ≤ t by omega)
            rw [v4, bind_some'] at hC
            dsimp only at hC
            rw [if_neg d10] at hC
            rw [v5, bind_some'] at hM
            dsimp only at hM
            rw [if_pos rfl, m_look h240 v3, bind_some'] at hM
            dsimp only at hM
            rw [(hitm _).1, bind_some'] at hM
            unfold f_M_items_M14_J126 at hM
            refine ⟨_, _, 3 - pc q'.val, (by omega), hC, hM, q'.val, a', _, _, q'.isLt, rfl, (by omega), by rw [epc], rfl, (by omega), v3, fun k' hk' => ?_, fun j hj => ?_, fun j hj => ?_⟩
            · by_cases ek : k' = k
              · subst ek
                rw [upd_at, upd_at]
                exact ⟨rfl, v, by rw [← t2]; exact v1, rfl⟩
              · rw [upd_ne (by omega), upd_ne (by omega)]
                exact hrow k' hk'
            · rw [upd_ne (by omega)]
              exact hD1 j hj
            · rw [upd_ne (by omega)]
              exact hA1 j hj
          · right
            right
            rw [v2, bind_some'] at hC
            dsimp only at hC
            rw [if_pos rfl] at hC
            rw [v3, bind_some'] at hM
            dsimp only at hM
            rw [if_neg (m1_ne (by omega))] at hM
            unfold f_M_items_M14_J126 at hM
            rw [oLp_out hC, oLp_go hM]
            refine ⟨p, nI p, D1, upd A1 (3 * i + k) v, rfl, oLp_out ?_, v1⟩
            unfold f_M_items_M14_L41
            dsimp only
            rw [if_neg (m1_ne (by omega))]
        · right
          left
          refine ⟨lk X t y, D1, A1, oLp_out ?_, oLp_out ?_, ⟨(by omega), hy2⟩, hrow, hD1, hA1⟩
          · unfold f_YardR_readClause_L40
            dsimp only
            rw [if_neg hn3, c_sign ht hy, bind_some']
            dsimp only
            rw [c_itemOf (by decide), bind_some', e, if_neg (m1_ne (by omega)), if_neg (show ¬ (nI q >>> (nI k &&& 31)) &&& 1 = 0 from hb)]
          · unfold f_M_items_M14_L41
            dsimp only
            rw [if_pos rfl, e, if_neg (m1_ne (by omega)), m_has, bind_some', if_neg hb, hy3]
  · obtain ⟨lo, hh, u, t1, t2, t3, t4, t5, t6, t7, t8, t9, t10⟩ := tb_3 k hk
    rw [fl_in 3 hk, hD k hk, t7]
    exact ⟨rfl, u, by rw [← t2]; exact t4, rfl⟩
