/-! the reference's search -/
def ChM (_ _ : Nat) : Prop := True
theorem mask_all : ∀ n, n ≤ 6 → bB (fun _ => true) n = (1 <<< (nI n &&& 31)) - 1 := by
  intro n hn
  rcases (show n = 0 ∨ n = 1 ∨ n = 2 ∨ n = 3 ∨ n = 4 ∨ n = 5 ∨ n = 6 by omega) with rfl | rfl | rfl | rfl | rfl | rfl | rfl <;> decide +kernel
theorem cnt_all {M B F O : Nat → Int32} {c : Int32} {nm nf : Nat} (hf : nf ≤ 6) : cnt M B F O c nm nf = (1 <<< (nI nf &&& 31)) - 1 ↔ Cnt M B F c nm nf O := by
  unfold cnt Cnt
  constructor
  · intro h f hfn
    rw [← mask_all nf hf] at h
    have h1 := congrArg (fun x => bt x f) h
    rw [bB_bt (by omega) (by omega), bB_bt (by omega) (by omega), decide_eq_true hfn, Bool.true_and, Bool.true_and] at h1
    exact of_decide_eq_true h1
  · intro h
    rw [← mask_all nf hf]
    exact bB_congr (fun j hj => decide_eq_true (h j hj))
def enc (f : Nat) (r br bm : Int32) (L : Nat) : Prop := br = r ∧ ((f = 7 ∧ r = -1) ∨ (f ≤ 6 ∧ bm = nI f ∧ ∃ ρ : Nat, ρ < 1000000 ∧ r = nI ρ ∧ ρ ≤ L))
theorem enc_mono {f : Nat} {r br bm : Int32} {L L' : Nat} (x : enc f r br bm L) (h : L ≤ L') : enc f r br bm L' := by
  obtain ⟨x1, x2⟩ := x
  rcases x2 with x2 | ⟨y1, y2, ρ, y3, y4, y5⟩
  · exact ⟨x1, Or.inl x2⟩
  · exact ⟨x1, Or.inr ⟨y1, y2, ρ, y3, y4, (by omega)⟩⟩
theorem pw_s {r b d : Nat} (h : b ≤ 10) : (10 * r + b) * 10 ^ d ≤ (r + 1) * 10 ^ (d + 1) := by
  rw [Nat.pow_succ, Nat.mul_comm (10 ^ d) 10, ← Nat.mul_assoc]
  exact Nat.mul_le_mul_right _ (by omega)
theorem pw_l {r b d : Nat} : r * 10 ^ (d + 1) ≤ (10 * r + b) * 10 ^ d := by
  rw [Nat.pow_succ, Nat.mul_comm (10 ^ d) 10, ← Nat.mul_assoc]
  exact Nat.mul_le_mul_right _ (by omega)
theorem m_try {B M F W : Nat → Int32} {nb nm nf : Nat} (h5 : nb ≤ 5) (h6 : nm ≤ 6) (h6' : nf ≤ 6) (hM : maA M nm) (hW : owA W nb nm) : ∀ (k m : Nat) (O : Nat → Int32) (f : Nat) (r br bm : Int32) (many row : Nat), nm < k + m → m ≤ nm → (∀ j, m ≤ j → O j = W j) → owA O nb nm → many ≤ m → row < 10 ^ m → enc f r br bm (row * 10 ^ (nm - m)) → ∃ (f' : Nat) (r' br' bm' : Int32), f_M_tryOwners k (nI nb) (nI nm) (nI nf) br bm B M F O (nI m) (nI row) (nI many) = some (br', bm', O) ∧ enc f' r' br' bm' ((row + 1) * 10 ^ (nm - m)) ∧ Bst (sS W (frP W) ChM (Cnt M B F (W 6) nm nf) nb nm m O) (fun σ => csF W σ (nm - m) m many) (fun σ => rwF σ (nm - m) m row) f r f' r' := by
  intro k
  induction k with
  | zero => intro m O f r br bm many row hk hm; omega
  | succ k ih =>
    intro m O f r br bm many row hk hm hOW hOw hmany hrow henc
    have hO6 : O 6 = W 6 := hOW 6 (by omega)
    have hO7 : O 7 = W 7 := hOW 7 (by omega)
    unfold f_M_tryOwners f_M_tryOwnersB
    have body : ((∃ ρ : Nat, r = nI ρ ∧ f ≤ 6 ∧ many ≤ f) ∨ f = 7) → ∃ (f' : Nat) (r' br' bm' : Int32), f_M_tryOwners_J17 (f_M_tryOwners k) (nI nb) (nI nm) (nI nf) br bm B M F O (nI m) (nI row) (nI many) = some (br', bm', O) ∧ enc f' r' br' bm' ((row + 1) * 10 ^ (nm - m)) ∧ Bst (sS W (frP W) ChM (Cnt M B F (W 6) nm nf) nb nm m O) (fun σ => csF W σ (nm - m) m many) (fun σ => rwF σ (nm - m) m row) f r f' r' := by
      intro _
      unfold f_M_tryOwners_J17
      by_cases hmn : m = nm
      · subst hmn
        have hrow6 : row < 1000000 := Nat.lt_of_lt_of_le hrow (show 10 ^ m ≤ 10 ^ 6 from Nat.pow_le_pow_right (by decide) h6)
        rw [if_pos rfl, m_contents h6 h5 h6' hOw hM, bind_some', hO6]
        rw [Nat.sub_self] at henc ⊢
        rw [Nat.pow_zero, Nat.mul_one] at henc ⊢
        by_cases hC : Cnt M B F (W 6) m nf O
        · rw [if_pos ((cnt_all h6').mpr hC)]
          unfold f_M_tryOwners_J45 f_M_tryOwners_J76
          rw [if_neg d10]
          have take : many < f → enc many (nI row) (nI row) (nI many) (row + 1) ∧ Bst (sS W (frP W) ChM (Cnt M B F (W 6) m nf) nb m m O) (fun σ => csF W σ 0 m many) (fun σ => rwF σ 0 m row) f r many (nI row) := by
            intro hlt
            exact ⟨⟨rfl, Or.inr ⟨(by omega), rfl, row, hrow6, rfl, (by omega)⟩⟩, Or.inl ⟨O, ⟨fun j _ => rfl, fun j j1 j2 => absurd j2 (by omega), hC⟩, hlt, rfl, rfl, fun τ _ => Or.inr ⟨rfl, Nat.le_refl _⟩⟩⟩
          obtain ⟨rfl, x2⟩ := henc
          rcases x2 with ⟨rfl, rfl⟩ | ⟨y1, rfl, ρ, y3, rfl, y5⟩
          · rw [if_pos rfl]
            obtain ⟨t1, t2⟩ := take (by omega)
            exact ⟨many, nI row, nI row, nI many, rfl, t1, t2⟩
          · rw [if_neg (m1_ne (by omega))]
            by_cases hlt : many < f
            · rw [if_pos (nI_lt hlt (by omega))]
              obtain ⟨t1, t2⟩ := take hlt
              exact ⟨many, nI row, nI row, nI many, rfl, t1, t2⟩
            · rw [if_neg (fun q => hlt ((nx_lt (by omega) (by omega)).mp q)), if_pos (nI_le y5 (by omega))]
              exact ⟨f, nI ρ, nI ρ, nI f, rfl, ⟨rfl, Or.inr ⟨y1, rfl, ρ, y3, rfl, (by omega)⟩⟩, Or.inr ⟨fun τ _ => Nat.le_of_not_lt hlt, rfl, rfl⟩⟩
        · rw [if_neg (fun q => hC ((cnt_all h6').mp q))]
          unfold f_M_tryOwners_J45
          rw [if_pos rfl]
          exact ⟨f, r, br, bm, rfl, enc_mono henc (by omega), Or.inr ⟨fun τ hτ => absurd (Cnt_congr hτ.1 hτ.2.2) hC, rfl, rfl⟩⟩
      · have hml : m < nm := (by omega)
        have e : nm - m = (nm - (m + 1)) + 1 := (by omega)
        rw [e] at henc
        have hrow' : ∀ d, d ≤ 9 → 10 * row + d < 10 ^ (m + 1) := by
          intro d hd
          rw [Nat.pow_succ]
          omega
        rw [if_neg (fun q => hmn (nI_inj (by omega) (by omega) q)), nx_zadd, oI_nI (j := m) (n := 131) (by omega) (by decide), nI_clamp (n := m) (by omega)]
        simp only [oL]
        rw [m_isLoose (by omega), bind_some', hO7, hOW m (by omega)]
        rcases fre_0 h5 hW hml with ⟨q1, q2⟩ | ⟨q1, q2, b0, hb0, eb0⟩
        · rw [q2, if_pos rfl]
          have hd9 : dig (W m) ≤ 9 := by
            rcases hW m hml with e | ⟨b, hb, e⟩
            · rw [e]
              decide
            · rw [e, dig_nI (by omega)]
              omega
          obtain ⟨f', r', br', bm', e1, e2, e3⟩ := ih (m + 1) O f r br bm many (10 * row + dig (W m)) (by omega) (by omega) (fun j j1 => hOW j (by omega)) hOw (by omega) (hrow' _ hd9) (enc_mono henc pw_l)
          have hfix := Bst_fix hml q1 (hOW m (by omega)) e3
          have e2' : enc f' r' br' bm' ((row + 1) * 10 ^ (nm - m)) := by
            rw [e]
            refine enc_mono e2 ?_
            rw [Nat.add_assoc]
            exact pw_s (by omega)
          unfold f_M_tryOwners_J126
          refine ⟨f', r', br', bm', ?_, e2', hfix⟩
          rcases hW m hml with e | ⟨b, hb, e⟩
          · rw [if_pos e, nx_add, nx_mull, nx_add]
            rw [e, show dig (-1) = 9 from by decide] at e1
            rw [show nI (OfNat.ofNat 10 * row + OfNat.ofNat 9) = nI (10 * row + 9) from rfl, e1, bind_some']
          · rw [if_neg (by rw [e]; exact m1_ne (by omega)), nx_add, nx_mull, e, nI_add]
            rw [e, dig_nI (by omega)] at e1
            rw [show nI (OfNat.ofNat 10 * row + b) = nI (10 * row + b) from rfl, e1, bind_some']
        · rw [q2, if_neg d10]
          have hOm : O m = W m := hOW m (by omega)
          refine qlp1 (fun bb (s : Int32 × Int32 × Int32 × (Nat → Int32)) => ∃ (f1 : Nat) (r1 br1 bm1 : Int32) (x : Int32), s = (nI bb, br1, bm1, upd O m x) ∧ bb ≤ nb ∧ enc f1 r1 br1 bm1 ((10 * row + bb) * 10 ^ (nm - (m + 1))) ∧ Bst (lS W (frP W) ChM (Cnt M B F (W 6) nm nf) nb nm m O bb) (fun σ => csF W σ (nm - m) m many) (fun σ => rwF σ (nm - m) m row) f r f1 r1) (fun res => ∃ (f' : Nat) (r' br' bm' : Int32), res = some (br', bm', O) ∧ enc f' r' br' bm' ((row + 1) * 10 ^ (nm - m)) ∧ Bst (sS W (frP W) ChM (Cnt M B F (W 6) nm nf) nb nm m O) (fun σ => csF W σ (nm - m) m many) (fun σ => rwF σ (nm - m) m row) f r f' r') (n := nb) ?_ ?_ (j := 0) (by omega) ⟨f, r, br, bm, O m, by rw [upd_id rfl]; rfl, (by omega), enc_mono henc pw_l, Bst_0⟩
          · rintro bb s hbb ⟨f1, r1, br1, bm1, x, rfl, _, k2, k3⟩
            left
            obtain ⟨f2, r2, br2, bm2, e1, e2, e4⟩ := ih (m + 1) (upd O m (nI bb)) f1 r1 br1 bm1 (if nI bb = W m then many else many + 1) (10 * row + bb) (by omega) (by omega) (fun j j1 => (upd_ne (by omega)).trans (hOW j (by omega))) (owA_upd hOw hbb) (by split <;> omega) (hrow' _ (by omega)) k2
            refine ⟨(nI (bb + 1), br2, bm2, upd O m (nI bb)), ?_, f2, r2, br2, bm2, nI bb, rfl, (by omega), e2, Bst_boy h5 hW hml hbb trivial k3 e4⟩
            unfold f_M_tryOwners_L135 f_M_tryOwners_J179
            dsimp only
            rw [if_neg (nI_ge hbb (by omega)), nx_zadd, oI_nI (j := m) (n := 131) (by omega) (by decide), nI_clamp (n := m) (by omega), upd_upd, nx_add, nx_mull, nI_add]
            simp only [oL]
            rw [show nI (OfNat.ofNat 10 * row + bb) = nI (10 * row + bb) from rfl, show nI (m + OfNat.ofNat 1) = nI (m + 1) from rfl]
            by_cases hz : nI bb = W m
            · rw [if_pos hz] at e1 ⊢
              rw [e1, bind_some', nx_add]
            · rw [if_neg hz] at e1 ⊢
              rw [nx_add, show nI (many + OfNat.ofNat 1) = nI (many + 1) from rfl, e1, bind_some', nx_add]
          · rintro s ⟨f1, r1, br1, bm1, x, rfl, _, k2, k3⟩
            refine ⟨f1, r1, br1, bm1, oLp_out ?_, ?_, Bst_end hml q1 k3⟩
            · unfold f_M_tryOwners_L135
              dsimp only
              rw [if_pos (nI_le (Nat.le_refl nb) (by omega)), nx_zadd, oI_nI (j := m) (n := 131) (by omega) (by decide), nI_clamp (n := m) (by omega), upd_upd]
              simp only [oL]
              rw [upd_id hOm]
              rfl
            · rw [e]
              exact enc_mono k2 (pw_s (by omega))
    have henc2 := henc
    obtain ⟨x1, x2⟩ := henc2
    rcases x2 with ⟨rfl, rfl⟩ | ⟨y1, y2, ρ, y3, y4, y5⟩
    · rw [if_pos x1]
      exact body (Or.inr rfl)
    · rw [if_neg (by rw [x1, y4]; exact m1_ne (by omega))]
      by_cases hle : many ≤ f
      · rw [y2, if_pos (nI_le hle (by omega)), ← y2]
        exact body (Or.inl ⟨ρ, y4, y1, hle⟩)
      · rw [y2, if_neg (fun q => hle ((nx_le (by omega) (by omega)).mp q)), ← y2]
        refine ⟨f, r, br, bm, rfl, enc_mono henc (Nat.mul_le_mul_right _ (by omega)), Or.inr ⟨fun τ _ => ?_, rfl, rfl⟩⟩
        have := csF_ge (W := W) (σ := τ) (nm - m) m many
        show f ≤ csF W τ (nm - m) m many
        omega
