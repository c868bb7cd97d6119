/-! acts: refusals, the play -/
def rfA (Rc Rm : Nat → Int32) : Prop := ∀ j, j < 5 → Rc j = Rm j
theorem p_refuse {Rc Rm : Nat → Int32} {k : Nat} (h : rfA Rc Rm) (hk : k < 5) : ∃ Rc' Rm', f_Main_refuse Rc (nI k) = some (-1, Rc') ∧ f_M_isRefused Rm (nI k) = some (1, Rm') ∧ rfA Rc' Rm' := by
  refine ⟨upd Rc k (Rc k + 1), upd Rm k (Rm k + 1), ?_, ?_, fun j hj => ?_⟩
  · unfold f_Main_refuse
    rw [if_neg (nI_lt0 (by omega)), if_neg (show ¬ (5 : Int32) ≤ nI k from nI_ge (b := 5) hk (by decide)), oI_nI hk (by decide), oI_nI hk (by decide), nI_clamp (by omega)]
    rfl
  · unfold f_M_isRefused
    rw [if_neg (m1_ne (n := k) (by omega)), oI_nI hk (by decide), oI_nI hk (by decide), nI_clamp (by omega), oL_eq]
    unfold f_M_isRefused_J15
    rw [if_neg (m1_ne (n := k) (by omega))]
  · by_cases e : j = k
    · subst e
      rw [upd_at, upd_at, h j hj]
    · rw [upd_ne e, upd_ne e, h j hj]
theorem m_notRef {Rm : Nat → Int32} : f_M_isRefused Rm (-1) = some (0, Rm) := by
  unfold f_M_isRefused
  rw [if_pos rfl]
  unfold f_M_isRefused_J15
  rw [if_pos rfl]
theorem whN_cs {W : Nat → Int32} {nm : Nat} {p q : Int32} : whN W nm p q = -1 ∨ ∃ k : Nat, k < 3 ∧ whN W nm p q = nI k := by
  unfold whN
  split
  · exact Or.inr ⟨0, (by decide), rfl⟩
  · split
    · exact Or.inr ⟨0, (by decide), rfl⟩
    · split
      · exact Or.inr ⟨1, (by decide), rfl⟩
      · split
        · exact Or.inr ⟨2, (by decide), rfl⟩
        · split
          · exact Or.inr ⟨2, (by decide), rfl⟩
          · split
            · exact Or.inr ⟨2, (by decide), rfl⟩
            · exact Or.inl rfl
theorem whP_cs {W : Nat → Int32} {nm : Nat} {p q a b : Int32} : whP W nm p a q b = -1 ∨ ∃ k : Nat, k < 3 ∧ whP W nm p a q b = nI k := by
  unfold whP
  split
  · exact Or.inr ⟨0, (by decide), rfl⟩
  · split
    · exact Or.inr ⟨1, (by decide), rfl⟩
    · split
      · exact Or.inr ⟨1, (by decide), rfl⟩
      · exact whN_cs
theorem stL_own {W W' E : Nat → Int32} {nb nm D : Nat} (h6 : nm ≤ 6) (h : ∀ j, nm ≤ j → W' j = W j) (ho : owA W' nb nm) (x : stL W E nb nm D) : stL W' E nb nm D := by
  obtain ⟨x1, ⟨y1, y2, y3, y4⟩, x3, x4, x5, x6⟩ := x
  refine ⟨ho, ⟨by rw [h 6 (by omega)]; exact y1, by rw [h 7 (by omega)]; exact y2, by rw [h 8 (by omega)]; exact y3, by rw [h 9 (by omega)]; exact y4⟩, by rw [h 9 (by omega)]; exact x3, x4, by rw [h 10 (by omega)]; exact x5, fun j hj => ?_⟩
  rw [h (11 + 2 * j) (by omega), h (12 + 2 * j) (by omega)]
  exact x6 j hj
def plO (R W : Nat → Int32) (m o : Nat) (c1 c2 w : Int32) (j : Nat) : Int32 := if j = o then (if w = 1 then W m else if drn R c2 = 0 then W o else -1) else if j = m then (if w = 2 then W o else if drn R c1 = 0 then W m else -1) else W j
theorem d12 : ¬ (1 : Int32) = 2 := by decide
theorem upd_if {O : Nat → Int32} {m j : Nat} {x : Int32} : upd O m x j = if j = m then x else O j := rfl
theorem plc1 {O : Nat → Int32} {m o j : Nat} {p q : Prop} [Decidable p] [Decidable q] (hne : m ≠ o) : upd (if q then (if p then O else upd O m (-1)) else upd (if p then O else upd O m (-1)) o (-1)) o (O m) j = if j = o then O m else if j = m then (if p then O m else -1) else O j := by
  by_cases a : j = o
  · rw [a, upd_at, if_pos rfl]
  · rw [upd_ne a, if_neg a]
    by_cases hp : p <;> by_cases hq : q <;> simp only [hp, hq, if_true, if_false, if_pos, upd_if, a] <;> (split <;> first | rfl | simp_all)
theorem plc2 {O : Nat → Int32} {m o j : Nat} {p q : Prop} [Decidable p] [Decidable q] (hne : m ≠ o) : upd (if q then (if p then O else upd O m (-1)) else upd (if p then O else upd O m (-1)) o (-1)) m (O o) j = if j = o then (if q then O o else -1) else if j = m then O o else O j := by
  have hne' : ¬ o = m := fun e => hne e.symm
  by_cases a : j = m
  · have : ¬ j = o := by omega
    rw [if_neg this, if_pos a, a, upd_at]
  · rw [upd_ne a, if_neg a]
    by_cases b : j = o
    · rw [if_pos b, b]
      by_cases hp : p <;> by_cases hq : q <;> simp [hp, hq, upd_if, hne']
    · rw [if_neg b]
      by_cases hp : p <;> by_cases hq : q <;> simp [hp, hq, upd_if, a, b]
theorem plc3 {O : Nat → Int32} {m o j : Nat} {p q : Prop} [Decidable p] [Decidable q] (hne : m ≠ o) : (if q then (if p then O else upd O m (-1)) else upd (if p then O else upd O m (-1)) o (-1)) j = if j = o then (if q then O o else -1) else if j = m then (if p then O m else -1) else O j := by
  have hne' : ¬ o = m := fun e => hne e.symm
  by_cases b : j = o
  · rw [if_pos b, b]
    by_cases hp : p <;> by_cases hq : q <;> simp [hp, hq, upd_if, hne']
  · rw [if_neg b]
    by_cases a : j = m
    · rw [if_pos a, a]
      by_cases hp : p <;> by_cases hq : q <;> simp [hp, hq, upd_if, hne]
    · rw [if_neg a]
      by_cases hp : p <;> by_cases hq : q <;> simp [hp, hq, upd_if, a, b]
theorem c_carry {R Y O s L : Nat → Int32} {m o nm : Nat} {c1 c2 w : Int32} (hd1 : f_Lane_isDrain Y c1 = some (drn R c1)) (hd2 : f_Lane_isDrain Y c2 = some (drn R c2)) (h6 : nm ≤ 6) (hm : m < nm) (ho : o < nm) (hne : m ≠ o) : ((f_Lane_isDrain Y c1).bind fun a_6 => if a_6 = 0 then (f_Lane_carryOut_J69 s Y (nI nm) O L (nI m) (nI o) (O m) (O o) c2 w) else ((f_Now_hand (nI nm) O (nI m) ((-1))).bind fun a_11 => f_Lane_carryOut_J69 s Y (nI nm) a_11 L (nI m) (nI o) (O m) (O o) c2 w)) = some (w, s, plO R O m o c1 c2 w, L) := by
  have key : ∀ Q : Nat → Int32, f_Lane_carryOut_J69 s Y (nI nm) Q L (nI m) (nI o) (O m) (O o) c2 w = some (w, s, (if w = 1 then upd (if drn R c2 = 0 then Q else upd Q o (-1)) o (O m) else if w = 2 then upd (if drn R c2 = 0 then Q else upd Q o (-1)) m (O o) else (if drn R c2 = 0 then Q else upd Q o (-1))), L) := by
    intro Q
    unfold f_Lane_carryOut_J69 f_Lane_carryOut_J87
    rw [hd2, bind_some']
    by_cases z : drn R c2 = 0
    · rw [if_pos z, if_pos z]
      by_cases w1 : w = 1
      · rw [if_pos w1, if_pos w1, n_hand ho h6, bind_some']
      · rw [if_neg w1, if_neg w1]
        by_cases w2 : w = 2
        · rw [if_pos w2, if_pos w2, n_hand hm h6, bind_some']
        · rw [if_neg w2, if_neg w2]
    · rw [if_neg z, if_neg z, n_hand ho h6, bind_some']
      by_cases w1 : w = 1
      · rw [if_pos w1, if_pos w1, n_hand ho h6, bind_some']
      · rw [if_neg w1, if_neg w1]
        by_cases w2 : w = 2
        · rw [if_pos w2, if_pos w2, n_hand hm h6, bind_some']
        · rw [if_neg w2, if_neg w2]
  rw [hd1, bind_some']
  have fin : ∀ Q : Nat → Int32, Q = (if drn R c1 = 0 then O else upd O m (-1)) → some (w, s, (if w = 1 then upd (if drn R c2 = 0 then Q else upd Q o (-1)) o (O m) else if w = 2 then upd (if drn R c2 = 0 then Q else upd Q o (-1)) m (O o) else (if drn R c2 = 0 then Q else upd Q o (-1))), L) = some (w, s, plO R O m o c1 c2 w, L) := by
    intro Q hQ
    refine congrArg (fun z => some (w, s, z, L)) (funext fun j => ?_)
    subst hQ
    unfold plO
    by_cases w1 : w = 1
    · subst w1
      rw [if_pos rfl, if_pos rfl, if_neg d12]
      exact plc1 hne
    · rw [if_neg w1, if_neg w1]
      by_cases w2 : w = 2
      · rw [if_pos w2, if_pos w2]
        exact plc2 hne
      · rw [if_neg w2, if_neg w2]
        exact plc3 hne
  by_cases z : drn R c1 = 0
  · rw [if_pos z, key]
    exact fin _ (by rw [if_pos z])
  · rw [if_neg z, n_hand hm h6, bind_some', key]
    exact fin _ (by rw [if_neg z])
theorem m_carry {R W s L : Nat → Int32} {m o : Nat} {c1 c2 w : Int32} (hm : m < 6) (ho : o < 6) (hne : m ≠ o) (hw : w = wnr R c1 c2) : ∃ W1, (if w = 1 then (oI (0 + nI m) 131 (oI (0 + nI o) 131 (oL (upd W ((0 + nI o : Int32).toNatClampNeg) (W (0 + nI m : Int32).toNatClampNeg)) fun m_now_9 => f_M_playNow_J49 L s R m_now_9 (nI m) (nI o) c1 c2 w))) else (f_M_playNow_J49 L s R W (nI m) (nI o) c1 c2 w)) = some (w, L, s, W1) ∧ ∀ j, W1 j = plO R W m o c1 c2 w j := by
  have k128 : ∀ (V : Nat → Int32) (q : Nat) (x : Int32), q < 6 → f_M_playNow_J128 L s V w (nI q) x = some (w, L, s, upd V q x) := by
    intro V q x hq
    unfold f_M_playNow_J128
    rw [oI_nI (j := q) (n := 131) (by omega) (by decide), nI_clamp (n := q) (by omega)]
    rfl
  have k99 : ∀ (V : Nat → Int32) (x : Int32), f_M_playNow_J99 L s R V (nI o) c2 w (nI m) x = some (w, L, s, upd (upd V m x) o (if drn R c2 = 0 then upd V m x o else -1)) := by
    intro V x
    unfold f_M_playNow_J99
    rw [oI_nI (j := m) (n := 131) (by omega) (by decide), nI_clamp (n := m) (by omega), oL_eq, m_isDrain, bind_some', nx_zadd, oI_nI (j := o) (n := 131) (by omega) (by decide), nI_clamp (n := o) (by omega), k128 _ _ _ ho, k128 _ _ _ ho]
    by_cases z : drn R c2 = 0
    · rw [if_pos z, if_pos z]
    · rw [if_neg z, if_neg z]
  have k71 : ∀ V : Nat → Int32, f_M_playNow_J71 L s R V (nI m) (nI o) c1 c2 w = some (w, L, s, upd (upd V m (if drn R c1 = 0 then V m else -1)) o (if drn R c2 = 0 then upd V m (if drn R c1 = 0 then V m else -1) o else -1)) := by
    intro V
    unfold f_M_playNow_J71
    rw [m_isDrain, bind_some', nx_zadd, oI_nI (j := m) (n := 131) (by omega) (by decide), nI_clamp (n := m) (by omega), k99, k99]
    by_cases z : drn R c1 = 0
    · rw [if_pos z, if_pos z]
    · rw [if_neg z, if_neg z]
  have k49 : ∀ V : Nat → Int32, f_M_playNow_J49 L s R V (nI m) (nI o) c1 c2 w = some (w, L, s, (fun Q : Nat → Int32 => upd (upd Q m (if drn R c1 = 0 then Q m else -1)) o (if drn R c2 = 0 then upd Q m (if drn R c1 = 0 then Q m else -1) o else -1)) (if w = 2 then upd V m (V o) else V)) := by
    intro V
    unfold f_M_playNow_J49
    rw [nx_zadd, nx_zadd, oI_nI (j := o) (n := 131) (by omega) (by decide), oI_nI (j := m) (n := 131) (by omega) (by decide), nI_clamp (n := m) (by omega), nI_clamp (n := o) (by omega), oL_eq, k71, k71]
    by_cases z : w = 2
    · rw [if_pos z, if_pos z]
    · rw [if_neg z, if_neg z]
  have hwd : ¬ w = 0 → drn R c1 = 0 ∧ drn R c2 = 0 := by
    rw [hw]
    unfold wnr
    intro h
    by_cases z1 : drn R c1 = 0
    · refine ⟨z1, ?_⟩
      rw [if_pos z1] at h
      by_cases z2 : drn R c2 = 0
      · exact z2
      · rw [if_neg z2] at h
        exact absurd rfl h
    · rw [if_neg z1] at h
      exact absurd rfl h
  have hne' : ¬ o = m := fun e => hne e.symm
  rw [nx_zadd, nx_zadd, oI_nI (j := o) (n := 131) (by omega) (by decide), oI_nI (j := m) (n := 131) (by omega) (by decide), nI_clamp (n := m) (by omega), nI_clamp (n := o) (by omega), oL_eq, k49, k49]
  by_cases w1 : w = 1
  · obtain ⟨z1, z2⟩ := hwd (by rw [w1]; decide)
    rw [if_pos w1]
    refine ⟨_, rfl, fun j => ?_⟩
    unfold plO
    subst w1
    dsimp only
    rw [if_neg d12, if_pos z1, if_pos z2, if_pos rfl, if_neg d12, if_pos z1]
    by_cases a : j = o
    · rw [a, upd_at, if_pos rfl, upd_ne hne', upd_at]
    · rw [upd_ne a, if_neg a]
      by_cases b : j = m
      · rw [b, upd_at, if_pos rfl, upd_ne hne]
      · rw [upd_ne b, upd_ne a, if_neg b]
  · rw [if_neg w1]
    refine ⟨_, rfl, fun j => ?_⟩
    unfold plO
    dsimp only
    rw [if_neg w1]
    by_cases w2 : w = 2
    · obtain ⟨z1, z2⟩ := hwd (by rw [w2]; decide)
      rw [if_pos w2, if_pos z1, if_pos z2, if_pos w2, if_pos z2]
      by_cases a : j = o
      · rw [a, upd_at, if_pos rfl, upd_ne hne', upd_ne hne']
      · rw [upd_ne a, if_neg a]
        by_cases b : j = m
        · rw [b, upd_at, if_pos rfl, upd_at]
        · rw [upd_ne b, upd_ne b, if_neg b]
    · rw [if_neg w2, if_neg w2]
      by_cases a : j = o
      · rw [a, upd_at, if_pos rfl, upd_ne hne']
      · rw [upd_ne a, if_neg a]
        by_cases b : j = m
        · rw [b, upd_at, if_pos rfl]
        · rw [upd_ne b, if_neg b]
theorem plO_own {R W : Nat → Int32} {m o nb nm : Nat} {c1 c2 w : Int32} (hW : owA W nb nm) (hm : m < nm) (ho : o < nm) : owA (plO R W m o c1 c2 w) nb nm := by
  intro j hj
  unfold plO
  split
  · split
    · exact hW m hm
    · split
      · exact hW o ho
      · exact Or.inl rfl
  · split
    · split
      · exact hW o ho
      · split
        · exact hW m hm
        · exact Or.inl rfl
    · exact hW j hj
theorem p_carry {Y C R B M F O W : Nat → Int32} {mb mm mf : Int32} {nb nm nf : Nat} {As Ac Mh : Int32} {Ad Al Kc Kv Kl Kt Kf Ku : Nat → Int32} {w : Option ((Nat → Int32) → Int32)} {s L s2 L2 : Nat → Int32} {m o b b' : Nat} {a a' : Int32} (x : cx Y C R B M F O W mb mm mf nb nm nf As Ac Mh Ad Al Kc Kv Kl Kt Kf Ku w) (hm : m < nm) (ho : o < nm) (hne : m ≠ o) (hb : b < nb) (hb' : b' < nb) (hmb : W m = nI b) (hob : W o = nI b') (ha : mil a) (ha' : mil a') : ∃ v s1 O1 L1 L3 s3 W1, f_Lane_carryOut As Ac Ad Al s Y (nI nm) (W 6) (W 9) O L (nI m) a (nI o) a' = some (v, s1, O1, L1) ∧ f_M_playNow (nI nm) Mh Kc Kv Kl Kt Kf Ku L2 s2 R B M W (nI m) a (nI o) a' = some (v, L3, s3, W1) ∧ (∀ m, m < nm → O1 m = W1 m) ∧ owA W1 nb nm ∧ ∀ j, nm ≤ j → W1 j = W j := by
  have hx := x
  obtain ⟨h, hO, hW, hc, hsw, hsv, hd, hw⟩ := x
  have hY := h
  obtain ⟨⟨h5, h6, h6'⟩, ⟨c1, c2, c3⟩, ⟨e1, e2, e3⟩, hr, hbo, hma, hfa, rb, rm, rf, r0, r1, r2⟩ := h
  obtain ⟨⟨u1, u1'⟩, f1⟩ := cx_flick (s := s) (L := L) hx ha hb hm
  obtain ⟨⟨u2, u2'⟩, f2⟩ := cx_flick (s := u1) (L := u1') hx ha' hb' ho
  obtain ⟨⟨t1, t1'⟩, g1⟩ := cx_cell (s := s2) (L := L2) hx ha hb hm hmb
  obtain ⟨⟨t2, t2'⟩, g2⟩ := cx_cell (s := t1') (L := t1) hx ha' hb' ho hob
  have hc := c_carry (R := R) (Y := Y) (O := O) (s := u2) (L := u2') (m := m) (o := o) (c1 := cel w B M W nm b m a) (c2 := cel w B M W nm b' o a') (w := wnr R (cel w B M W nm b m a) (cel w B M W nm b' o a')) (l_isDrain hx) (l_isDrain hx) h6 hm ho hne
  obtain ⟨W1, w1, w2⟩ := m_carry (R := R) (W := W) (s := t2') (L := t2) (m := m) (o := o) (c1 := cel w B M W nm b m a) (c2 := cel w B M W nm b' o a') (by omega) (by omega) hne rfl
  unfold f_Lane_carryOut f_M_playNow
  rw [n_ownerOf hm h6, bind_some', n_ownerOf ho h6, bind_some', hO m hm, hO o ho, hmb, hob, f1, bind_some', g1, bind_some']
  dsimp only
  rw [f2, bind_some', g2, bind_some']
  dsimp only
  rw [l_nearerOf hx, bind_some', m_winner, bind_some', w1, ← hmb, ← hob, ← hO m hm, ← hO o ho, hc]
  refine ⟨_, _, _, _, _, _, W1, rfl, rfl, fun j hj => ?_, fun j hj => ?_, fun j hj => ?_⟩
  · rw [w2]
    unfold plO
    rw [hO m hm, hO o ho, hO j hj]
  · rw [w2]
    exact plO_own hW hm ho j hj
  · rw [w2]
    unfold plO
    rw [if_neg (by omega), if_neg (by omega)]
