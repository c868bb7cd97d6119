theorem q_arrange {Y C R B M F O W : Nat → Int32} {mb mm mf : Int32} {nb nm nf : Nat} {As Ac Mh : Int32} {Ad Al Kc Kv Kl Kt Kf Ku : Nat → Int32} {w : Option ((Nat → Int32) → Int32)} {p0 Sf Sr br bm : Int32} {S : Nat → Int32} (x : cx Y C R B M F O W mb mm mf nb nm nf As Ac Mh Ad Al Kc Kv Kl Kt Kf Ku w) : ∃ v u u1 u2, f_Main_arrange Y C (nI nm) (W 6) (W 7) O Sf Sr S p0 = some (v, u) ∧ f_M_arrange mb mm mf br bm B M F W p0 = some (v, u1, u2, W) := by
  have h := x.1
  have hY := h
  obtain ⟨⟨h5, h6, h6'⟩, ⟨c1, c2, c3⟩, ⟨e1, e2, e3⟩, hr, hbo, hma, hfa, rb, rm, rf, r0, r1, r2⟩ := h
  subst e1 e2 e3
  have hO := x.2.1
  have hW := x.2.2.1
  unfold f_Main_arrange f_M_arrange
  rw [y_stands c2 (by omega), bind_some']
  by_cases hz : nm = 0
  · rw [if_pos hz, if_pos ((stands_m h6).mpr hz)]
    exact ⟨_, _, _, _, rfl, rfl⟩
  · rw [if_neg hz, if_neg d10, if_neg (fun q => hz ((stands_m h6).mp q))]
    unfold f_M_in
    by_cases h0 : p0 < 0
    · rw [if_pos h0, if_pos h0]
      exact ⟨_, _, _, _, rfl, rfl⟩
    · rw [if_neg h0, if_neg h0]
      by_cases h1 : p0 ≤ 1
      · rw [if_pos h1, if_neg (fun q => i_le_lt.mpr q h1), bind_some', if_neg d10]
        obtain ⟨f2, r2, br2, bm2, m1, m2, m3⟩ := m_try h5 h6 h6' (yA_maA hY) hW 8 0 W 7 (-1) (-1) 0 0 0 (by omega) (by omega) (fun j _ => rfl) hW (by omega) (by decide) ⟨rfl, Or.inl ⟨rfl, rfl⟩⟩
        rw [show f_M_tryOwners 8 (nI nb) (nI nm) (nI nf) (-1) 0 B M F W 0 0 0 = _ from m1, bind_some']
        obtain ⟨rfl, m4⟩ := m2
        unfold f_Sky_findArrangement
        have pq : p0 = 0 ∨ p0 = 1 := by
          obtain ⟨k, hk, e⟩ := nI_of2 (M := 1) (n := 1) (by decide) h0 h1
          rcases (show k = 0 ∨ k = 1 by omega) with rfl | rfl
          · exact Or.inl e
          · exact Or.inr e
        rcases s_hope hY hO hW with q | ⟨q, qn⟩
        · obtain ⟨S', t1, t2⟩ := s_measure (S := S) (c := W 6) hY hO hW
          obtain ⟨f1, r1, S1, c1', c2', c3', c4'⟩ := c_try hY hO hW 8 0 W S' 7 (-1) 0 0 (by omega) (by omega) t2 (fun j _ _ => rfl) hW (by omega) (by omega)
          rw [q, bind_some', if_pos rfl, t1, bind_some', show f_Sky_tryOwners 8 Y C (nI nm) (W 6) (W 7) O 7 (-1) S' 0 0 0 = _ from c1', bind_some']
          obtain ⟨g1, g2⟩ := Bst_same c4' m3 (fun σ hσ => ⟨hσ.1, fun j j1 j2 => by
            rcases hσ.2.1 j j1 j2 with ⟨z1, b, z2, z3, z4⟩ | z
            · exact Or.inl ⟨z1, b, z2, z3, trivial⟩
            · exact Or.inr z, hσ.2.2⟩) (fun σ hσ => arr_dom h5 hW hσ)
          subst g1 g2
          dsimp only
          rcases m4 with ⟨k1, k2⟩ | ⟨k1, k2, ρ, k3, k4, k5⟩
          · rw [if_pos k2, bind_some', if_pos k2]
            exact ⟨_, _, _, _, rfl, by rw [k2]⟩
          · have kn : ¬ r1 = -1 := by rw [k4]; exact m1_ne (by omega)
            rw [if_neg kn, bind_some', if_neg kn]
            dsimp only
            rw [if_neg d10]
            rcases pq with rfl | rfl
            · rw [if_pos rfl, if_neg (by decide)]
              exact ⟨_, _, _, _, rfl, by rw [k2]⟩
            · rw [if_neg d10, if_pos rfl]
              exact ⟨_, _, _, _, rfl, rfl⟩
        · rw [q, bind_some', if_neg d10, bind_some']
          dsimp only
          have k2 : br2 = -1 := by
            rcases m3 with ⟨σ, a1, _⟩ | ⟨_, _, a3⟩
            · exact absurd a1 (qn σ)
            · exact a3
          rw [if_pos k2, k2]
          exact ⟨_, _, _, _, rfl, rfl⟩
      · rw [if_neg h1, if_pos (i_nle h1), bind_some', if_pos rfl]
        exact ⟨_, _, _, _, rfl, rfl⟩
