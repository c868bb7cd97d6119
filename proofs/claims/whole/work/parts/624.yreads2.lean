theorem m_J209bad {t p : Nat} {X R B M F : Nat → Int32} {x y1 y2 y3 v : Int32} (hp : p < 2 ^ 31) : f_M_readYard_L54 (nI t) X (v, 0, x, nI p, y1, y2, y3, R, B, M, F) = some (.inr (nI p, x, nI p, y1, y2, y3, R, B, M, F)) := by
  unfold f_M_readYard_L54 f_M_readYard_J209
  dsimp only
  rw [if_pos rfl, if_neg (m1_ne hp)]
  rfl
theorem p_yreads {t : Nat} {T X : Nat → Int32} (ht : tpA t T X) : ∀ (m a k : Nat) (D Dc R B M F : Nat → Int32) (q nb nm nf : Nat), t - a = m → a ≤ t → 2 * k ≤ a → drA D Dc R B M F q nb nm nf → ydOut t (oLp (f_YardR_reads_L18 (nI t) T) (1, nI k, nI a, D, Dc)) (oLp (f_M_readYard_L54 (nI t) X) (nI q, 1, nI a, -1, nI nb, nI nm, nI nf, R, B, M, F)) := by
  have h240 := ht.1
  intro m
  induction m using Nat.strongRecOn with
  | _ m ih =>
    intro a k D Dc R B M F q nb nm nf hm ha hk hx
    have hb1 := lk_ge (X := X) ha
    have hb2 := lk_le (X := X) ha
    have hk2 : ¬ (240 : Int32) ≤ nI k := nI_ge (b := 240) (by omega) (by decide)
    rcases p_ycl ht ha hx with ⟨is, hy, hM⟩ | ⟨hC, hM⟩
    · rcases hy with ⟨a', D', Dc', q', nb', nm', nf', R', B', M', F', x1, x2, x3, x4, x5, x6⟩ | ⟨p, x, D', Dc', y1, y2, y3, R', B', M', F', x1, x2, x3⟩
      · have hc1 := lk_ge (X := X) x4
        have hc2 := lk_le (X := X) x4
        have hc3 := lk_lk (X := X) x4
        have eC : f_YardR_reads_L18 (nI t) T (1, nI k, nI a, D, Dc) = some (.inl ((if ch X t (lk X t a') = 59 then ((1 : Int32), nI (lk X t a' + 1)) else (0, nI (lk X t a'))).1, nI (k + 1), (if ch X t (lk X t a') = 59 then ((1 : Int32), nI (lk X t a' + 1)) else (0, nI (lk X t a'))).2, D', Dc')) := by
          unfold f_YardR_reads_L18
          dsimp only
          rw [if_neg hk2, if_neg d10, x1, bind_some']
          dsimp only
          rw [if_neg d10, c_takes ht x4, bind_some', nx_add]
        rw [x2, bind_some', ← x6] at hM
        dsimp only at hM
        unfold f_M_readYard_J165 at hM
        rw [if_pos rfl, m_look h240 hc2, bind_some', hc3] at hM
        dsimp only at hM
        rw [oLp_go eC]
        by_cases e59 : ch X t (lk X t a') = 59
        · obtain ⟨hlt, _⟩ := ch_lt e59 (by decide)
          rw [if_pos e59] at hM ⊢
          unfold f_M_readYard_J187 f_M_readYard_J202 at hM
          rw [if_neg d10] at hM
          simp only [oL, nx_add] at hM
          rw [oLp_go hM]
          exact ih (t - (lk X t a' + 1)) (by omega) (lk X t a' + 1) (k + 1) D' Dc' R' B' M' F' q' nb' nm' nf' rfl (by omega) (by omega) x5
        · rw [if_neg e59] at hM ⊢
          unfold f_M_readYard_J186 f_M_readYard_J187 f_M_readYard_J202 at hM
          rw [if_pos rfl] at hM
          simp only [oL, Int32.add_zero] at hM
          rw [oLp_go hM]
          have eC2 : f_YardR_reads_L18 (nI t) T (0, nI (k + 1), nI (lk X t a'), D', Dc') = (f_YardR_reads_J54 (nI t) (nI (lk X t a')) T D' Dc').map .inr := by
            unfold f_YardR_reads_L18
            dsimp only
            rw [if_neg (show ¬ (240 : Int32) ≤ nI (k + 1) from nI_ge (b := 240) (by omega) (by decide)), if_pos rfl]
          have eM2 : f_M_readYard_L54 (nI t) X (nI q', 0, nI (lk X t a'), -1, nI nb', nI nm', nI nf', R', B', M', F') = (f_M_readYard_J209 (nI t) (nI (lk X t a')) (-1) (nI nb') (nI nm') (nI nf') X R' B' M' F').map .inr := by
            unfold f_M_readYard_L54
            dsimp only
            rw [if_pos rfl]
          rw [oLp_map eC2, oLp_map eM2]
          unfold f_YardR_reads_J54 f_M_readYard_J209 f_M_readYard_J232
          rw [c_sign ht hc2, bind_some', if_pos rfl, m_look h240 hc2, bind_some', hc3, m_bad, bind_some']
          dsimp only
          by_cases e0 : ch X t (lk X t a') = -1
          · rw [if_pos e0, if_pos e0]
            obtain ⟨r, w1, w2, w3⟩ := p_whole x5
            rw [w1, w2, bind_some', bind_some']
            rcases w3 with rfl | ⟨rfl, w4, w5, w6⟩
            · right
              exact ⟨lk X t a', _, _, _, _, _, _, _, _, _, _, rfl, rfl, hc2⟩
            · left
              exact ⟨_, _, _, _, q', nb', nm', nf', _, _, _, _, rfl, rfl, x5, w4, w5, w6⟩
          · rw [if_neg e0, if_neg e0]
            right
            exact ⟨lk X t a', _, _, _, _, _, _, _, _, _, _, rfl, rfl, hc2⟩
      · right
        rw [x2, bind_some'] at hM
        dsimp only at hM
        unfold f_M_readYard_J165 f_M_readYard_J186 f_M_readYard_J187 f_M_readYard_J202 at hM
        rw [if_neg (m1_ne (show p < 2 ^ 31 by omega)), if_pos rfl] at hM
        simp only [oL, Int32.add_zero] at hM
        rw [oLp_go hM, oLp_out (m_J209bad (show p < 2 ^ 31 by omega))]
        refine ⟨p, _, D', Dc', _, _, _, _, _, _, _, oLp_out ?_, rfl, x3⟩
        unfold f_YardR_reads_L18
        dsimp only
        rw [if_neg hk2, if_neg d10, x1, bind_some']
        rfl
    · right
      rw [oLp_go hM, oLp_out (m_J209bad (show lk X t a < 2 ^ 31 by omega))]
      refine ⟨lk X t a, _, D, Dc, _, _, _, _, _, _, _, oLp_out ?_, rfl, hb2⟩
      unfold f_YardR_reads_L18
      dsimp only
      rw [if_neg hk2, if_neg d10, hC, bind_some']
      rfl
theorem p_readYard {t : Nat} {T X D Dc R B M F : Nat → Int32} {Ta Ma Mw y1 y2 y3 : Int32} (ht : tpA t T X) : ydOut t (f_YardR_reads (nI t) Ta T D Dc) (f_M_readYard (nI t) Ma Mw y1 y2 y3 X R B M F) := by
  have h240 := ht.1
  unfold f_YardR_reads f_M_readYard f_Yard_clear_C4
  have hfill : ∃ Dc', f_J_fill_C6 Dc 0 = some Dc' ∧ Dc' 0 = nI 0 ∧ Dc' 1 = nI 0 ∧ Dc' 2 = nI 0 ∧ Dc' 3 = nI 0 := by
    refine ⟨upd (upd (upd (upd Dc 0 0) 1 0) 2 0) 3 0, ?_, rfl, rfl, rfl, rfl⟩
    unfold f_J_fill_C6
    rw [oLp_go (s' := (1, upd Dc 0 0)) rfl, oLp_go (s' := (2, upd (upd Dc 0 0) 1 0)) rfl, oLp_go (s' := (3, upd (upd (upd Dc 0 0) 1 0) 2 0)) rfl, oLp_go (s' := (4, upd (upd (upd (upd Dc 0 0) 1 0) 2 0) 3 0)) rfl]
    exact oLp_out rfl
  obtain ⟨Dc', h1, d0, d1, d2, d3⟩ := hfill
  rw [h1, bind_some', show f_Yard_fillUsual_C4 D 0 0 = some (fl D ((0 + 0) * 3) 0 3) from c_fillUsual (s := 0) (i := 0) (r := 0) (by decide) (by decide) (by omega), bind_some', bind_some']
  unfold f_Tape_rewind
  rw [bind_some']
  have e1 : oLp (f_M_readYard_L29 (nI t) 0 (-1) 0 0 0 X B M F 0) (0, R) = oLp (f_M_readYard_L54 (nI t) X) (0, 1, 0, -1, 0, 0, 0, fl R (3 * 0) 0 3, B, M, F) := by
    refine oLp_forM (fun j => (nI j, fl R (3 * 0) 0 j)) (i := 0) (n := 3) (by omega) (fun j _ hj => ?_) ?_
    · obtain ⟨lo, hh, u, _, _, _, _, _, _, u6, _, _, uu⟩ := tb_0 j hj
      unfold f_M_readYard_L29
      dsimp only
      rw [if_neg (show ¬ (3 : Int32) ≤ nI j from nI_ge hj (by decide)), uu, bind_some', oI_nI (j := j) (n := 3) hj (by decide), nI_clamp (n := j) (by omega)]
      simp only [oL, nx_add]
      show _ = some (Sum.inl (_, upd (fl R (3 * 0) 0 j) (3 * 0 + j) (tab6.getD (0 * 3 + j) 0)))
      rw [u6, Nat.mul_zero, Nat.zero_add]
    · unfold f_M_readYard_L29
      dsimp only
      rw [if_pos (show (3 : Int32) ≤ nI 3 from by decide)]
  rw [e1]
  refine p_yreads ht t 0 0 _ _ _ _ _ _ 0 0 0 0 rfl (by omega) (by omega) ⟨⟨(by omega), (by omega), (by omega), (by omega)⟩, ⟨d0, d1, d2, d3⟩, fun k hk => ?_, fun i hi => absurd hi (by omega), fun i hi => absurd hi (by omega), fun i hi => absurd hi (by omega)⟩
  obtain ⟨lo, hh, u, t1, t2, t3, t4, t5, t6, t7, t8, t9, t10⟩ := tb_0 k hk
  dsimp only
  rw [fl_in 3 hk, fl_in 3 hk, t7]
  exact ⟨rfl, u, by rw [← t2]; exact t4, rfl⟩
/-- a whole draft, taken over -/
theorem drA_yA {D Dc R B M F : Nat → Int32} {q nb nm nf : Nat} (x : drA D Dc R B M F q nb nm nf) (h : ∀ m, m < nm → ∃ v : Nat, v < nb ∧ M (3 * m) = nI v) : yA D Dc (nI nb) (nI nm) (nI nf) R B M F nb nm nf := by
  obtain ⟨⟨b1, b2, b3, b4⟩, ⟨d0, d1, d2, d3⟩, r0, r1, r2, r3⟩ := x
  refine ⟨⟨b2, b3, b4⟩, ⟨d1, d2, d3⟩, ⟨rfl, rfl, rfl⟩, fun k hk => ?_, fun b k hb hk => (r1 b hb k hk).1, fun m k hm hk => (r2 m hm k hk).1, fun f k hf hk => (r3 f hf k hk).1, fun b hb => ⟨(r1 b hb 0 (by omega)).2, (r1 b hb 1 (by omega)).2⟩, fun m hm => ⟨h m hm, (r2 m hm 1 (by omega)).2, (r2 m hm 2 (by omega)).2⟩, fun f hf => ⟨(r3 f hf 0 (by omega)).2, (r3 f hf 1 (by omega)).2, (r3 f hf 2 (by omega)).2⟩, (r0 0 (by omega)).2, (r0 1 (by omega)).2, (r0 2 (by omega)).2⟩
  have := (r0 k hk).1
  simpa using this
