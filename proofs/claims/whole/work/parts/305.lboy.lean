variable {B : gB} {fr : va_W} {W_spillsNow : Int32} {W_drawn : Int64} {T_length : Int32} {T_at : Int32} {T_bytes : Nat → Int32} {D_cells : Nat → Int32} {D_clauses : Nat → Int32} {G_length : Int32} {G_code : Nat → Int32} {A_size : Int32} {A_chosen : Int32} {A_codes : Nat → Int32} {A_lengths : Nat → Int32} {A_stack : Nat → Int32} {Y_cells : Nat → Int32} {Y_clauses : Nat → Int32} {N_marbles : Int32} {N_chipped : Int32} {N_swallowed : Int32} {N_sweets : Int32} {N_day : Int32} {N_owners : Nat → Int32} {P_next : Int32} {P_kept : Int32} {P_hasImage : Int32} {P_image : Int64} {P_acts : Nat → Int64} {P_entries : Nat → Int32} {P_imageEntries : Nat → Int32} {S_fewest : Int32} {S_row : Int32} {S_strengths : Nat → Int32} {U_size : Int32} {U_found : Int32} {U_places : Nat → Int32} {U_kinds : Nat → Int32} {U_holds : Nat → Int32} {U_fitting : Nat → Int32} {U_tally : Nat → Int32} {L_letters : Nat → Int32} {L_firstCells : Nat → Int32} {L_secondCells : Nat → Int32} {L_firstBest : Nat → Int32} {L_secondBest : Nat → Int32} {W_refusals : Nat → Int32}
set_option maxRecDepth 4000 in
theorem lb_norm {sa qo : Nat} {ov : Nat → Int64} {p0 p1 r1 : Int32} (h1 : f_Main_boy Y_cells Y_clauses N_marbles N_owners p0 p1 = some r1) (sz : Nat) : Met B.1 yL_boy (.codeWith yL_boy cL_boy 5 (some .int) [(0, 10, 13, 13)] :: gT) { frames := 10, cells := 1, slots := 6, locals := 640 } (gPcE B sa [.ref (aC B 0), .int p0, .int p1, .ref qo] (wdC B W_spillsNow W_drawn T_length T_at T_bytes D_cells D_clauses G_length G_code A_size A_chosen A_codes A_lengths A_stack Y_cells Y_clauses N_marbles N_chipped N_swallowed N_sweets N_day N_owners P_next P_kept P_hasImage P_image P_acts P_entries P_imageEntries S_fewest S_row S_strengths U_size U_found U_places U_kinds U_holds U_fitting U_tally L_letters L_firstCells L_secondCells L_firstBest L_secondBest W_refusals ++ ((qo, .inl (B.2.2.1.2.1, (1, .inr (.inl ov)))) :: fr)) sz) (gQ B (wdC B W_spillsNow W_drawn T_length T_at T_bytes D_cells D_clauses G_length G_code A_size A_chosen A_codes A_lengths A_stack Y_cells Y_clauses N_marbles N_chipped N_swallowed N_sweets N_day N_owners P_next P_kept P_hasImage P_image P_acts P_entries P_imageEntries S_fewest S_row S_strengths U_size U_found U_places U_kinds U_holds U_fitting U_tally L_letters L_firstCells L_secondCells L_firstBest L_secondBest W_refusals ++ ((qo, .inl (B.2.2.1.2.1, (1, .inr (.inl ov)))) :: fr)) sz (some (.int 0)) (wdC B W_spillsNow W_drawn T_length T_at T_bytes D_cells D_clauses G_length G_code A_size A_chosen A_codes A_lengths A_stack Y_cells Y_clauses N_marbles N_chipped N_swallowed N_sweets N_day N_owners P_next P_kept P_hasImage P_image P_acts P_entries P_imageEntries S_fewest S_row S_strengths U_size U_found U_places U_kinds U_holds U_fitting U_tally L_letters L_firstCells L_secondCells L_firstBest L_secondBest W_refusals ++ ((qo, .inl (B.2.2.1.2.1, (1, .inr (.inl (vp_updL ov 0 (Int32.toInt64 r1))))) ) :: fr))) 1 6 (va_A (wdC B W_spillsNow W_drawn T_length T_at T_bytes D_cells D_clauses G_length G_code A_size A_chosen A_codes A_lengths A_stack Y_cells Y_clauses N_marbles N_chipped N_swallowed N_sweets N_day N_owners P_next P_kept P_hasImage P_image P_acts P_entries P_imageEntries S_fewest S_row S_strengths U_size U_found U_places U_kinds U_holds U_fitting U_tally L_letters L_firstCells L_secondCells L_firstBest L_secondBest W_refusals ++ ((qo, .inl (B.2.2.1.2.1, (1, .inr (.inl ov)))) :: fr)) sz) := by
  generalize hWe : (wdC B W_spillsNow W_drawn T_length T_at T_bytes D_cells D_clauses G_length G_code A_size A_chosen A_codes A_lengths A_stack Y_cells Y_clauses N_marbles N_chipped N_swallowed N_sweets N_day N_owners P_next P_kept P_hasImage P_image P_acts P_entries P_imageEntries S_fewest S_row S_strengths U_size U_found U_places U_kinds U_holds U_fitting U_tally L_letters L_firstCells L_secondCells L_firstBest L_secondBest W_refusals ++ ((qo, .inl (B.2.2.1.2.1, (1, .inr (.inl ov)))) :: fr)) = ws
  generalize hWf : (wdC B W_spillsNow W_drawn T_length T_at T_bytes D_cells D_clauses G_length G_code A_size A_chosen A_codes A_lengths A_stack Y_cells Y_clauses N_marbles N_chipped N_swallowed N_sweets N_day N_owners P_next P_kept P_hasImage P_image P_acts P_entries P_imageEntries S_fewest S_row S_strengths U_size U_found U_places U_kinds U_holds U_fitting U_tally L_letters L_firstCells L_secondCells L_firstBest L_secondBest W_refusals ++ ((qo, .inl (B.2.2.1.2.1, (1, .inr (.inl (vp_updL ov 0 (Int32.toInt64 r1))))) ) :: fr)) = ws'
  refine va_MetW (cc := cL_boy) (maxL := 5) (ret := some .int) (hh := [(0, 10, 13, 13)]) rfl rfl ?_
  intro p e s m args below meth c s₁ Bd hml hv
  obtain ⟨⟨rfl, hsz, hP, hK, hD0, hSt⟩, hE⟩ := hv
  subst hsz
  have hD := hD0.self (sz := s.heap.size)
  have hl9 := lv_entry [.ref (aC B 0), .int p0, .int p1, .ref qo] (n := 5) (Nat.le_of_ble_eq_true rfl)
  rw [lg_entry_eq]
  generalize (lg_sl [.ref (aC B 0), .int p0, .int p1, .ref qo] ++ List.replicate (5 - (lg_sl [.ref (aC B 0), .int p0, .int p1, .ref qo]).length) Slot.unset).toArray = ls at hl9 ⊢
  have hts0 := atoms_spec (ws := .codeWith yL_boy cL_boy 5 (some .int) [(0, 10, 13, 13)] :: gT) Bd.pre
  have hts : ∀ w ∈ gT, w.before [.ref (aC B 0), .int p0, .int p1, .ref qo].toArray s = true := fun w hw => hts0 w (List.mem_cons_of_mem _ hw)
  have hx := Bd.exec
  have hb := Bd.bytes
  have hr := Bd.returns
  have hown : s.vm.findClass RL = some m.cls := findClass_of_methodNamed Bd.named
  have hlocks := Bd.notSynchronized
  obtain ⟨X, hXe⟩ : ∃ X : gX, X = (p, e, (headSpec (.codeWith yL_boy cL_boy 5 (some .int) [(0, 10, 13, 13)] :: gT) { frames := 10, cells := 1, slots := 6, locals := 640 }).room, s, m, [.ref (aC B 0), .int p0, .int p1, .ref qo].toArray, below, meth, c, 0, 0, MQ below (gQ B ws s.heap.size (some (.int 0)) ws') [.ref (aC B 0), .int p0, .int p1, .ref qo].toArray s 1 6 (va_A ws s.heap.size), va_A ws s.heap.size, fun _ _ => False) := ⟨_, rfl⟩
  have hX : gOkI B X RL cL_boy 5 10 1 6 := by
    rw [hXe]
    exact ⟨hx, hb, hml, hown, hts, hK, fun q hq => Or.inr hq, ⟨Nat.le_refl _, Nat.le_refl _, Nat.le_refl _, Nat.le_refl _⟩, hSt⟩
  have hend : ∀ (n w pc : Nat) (lv : List (Nat × Value)), n ≤ 1 → w ≤ 6 → decode cL_boy pc = .ok (.ireturn, 1) → gG B (gXc X n w) pc lv [.int 0] ws' := by
    intro n w pc lv hn hw hd
    rw [hXe]
    intro H locs ls hP hD hS hl2
    exact W.widen hn hw (W.iret hx hb hr (fun t ht _ => ⟨rfl, by rw [ht]; exact hP, hD, hS.F ht⟩) hS.2.2 hd)
  have hgo : gG B (gXc X 0 0) 0 [(0, .ref (aC B 0)), (1, .int p0), (2, .int p1), (3, .ref qo)] [] ws := by
    subst hWe
    subst hWf
    refine gH.toG (h_aload_n (hX.ok (rt := some .int) (by decide) (by decide)) dL_boy_0 rfl rfl (gG.toH ?_))
    refine gH.toG (h_iconst (hX.ok (rt := some .int) (by decide) (by decide)) dL_boy_1 ki_0 (gG.toH ?_))
    refine gH.toG (h_aload_n (hX.ok (rt := some .int) (by decide) (by decide)) dL_boy_2 rfl rfl (gG.toH ?_))
    refine gH.toG (h_iload_n (hX.ok (rt := some .int) (by decide) (by decide)) dL_boy_3 rfl rfl (gG.toH ?_))
    refine gH.toG (h_iload_n (hX.ok (rt := some .int) (by decide) (by decide)) dL_boy_4 rfl rfl (gG.toH ?_))
    refine gG.callVi (hX.ok (rt := some .int) (by decide) (by decide)) dL_boy_5 cv_RL_7 (As := [.int p0, .int p1]) (st := [.int 0, .ref qo]) (c_Main_boy h1) rc_C0 rfl rfl (by decide) (Nat.le_of_ble_eq_true rfl) ?_
    refine gH.toG (h_i2l (hX.ok (rt := some .int) (by decide) (by decide)) dL_boy_8 (gG.toH ?_))
    refine h_last (K := fun _ : Unit => True) (E := some ()) (hX.ok (rt := some .int) (by decide) (by decide)) 37 rfl (ws' := wdC B W_spillsNow W_drawn T_length T_at T_bytes D_cells D_clauses G_length G_code A_size A_chosen A_codes A_lengths A_stack Y_cells Y_clauses N_marbles N_chipped N_swallowed N_sweets N_day N_owners P_next P_kept P_hasImage P_image P_acts P_entries P_imageEntries S_fewest S_row S_strengths U_size U_found U_places U_kinds U_holds U_fitting U_tally L_letters L_firstCells L_secondCells L_firstBest L_secondBest W_refusals ++ ((qo, .inl (B.2.2.1.2.1, (1, .inr (.inl (vp_updL ov 0 (Int32.toInt64 r1))))) ) :: fr)) rfl dL_boy_9 (gG.toH ?_) () rfl trivial
    refine gH.toG (h_goto (hX.ok (rt := some .int) (by decide) (by decide)) dL_boy_10 (tgt := 17) (by decide) (gG.toH ?_))
    refine gH.toG (h_iconst (hX.ok (rt := some .int) (by decide) (by decide)) dL_boy_17 ki_0 (gG.toH ?_))
    exact hend 0 0 _ _ (by decide) (by decide) dL_boy_18
  rw [hXe] at hgo
  exact hgo s.heap [] ls hP hD va_S.rf (by rw [hml]; exact hl9)

set_option maxRecDepth 4000 in
theorem lb_throw {sa qo : Nat} {p0 p1 a1 : Int32} (hl : B.1.stackTraces = false) (h1 : f_Yard_hasBoy Y_clauses p0 = some a1) (hc : a1 = 0 ∨ p1 < 0 ∨ ¬ p1 ≤ 2) (sz : Nat) : Met B.1 yL_boy (.codeWith yL_boy cL_boy 5 (some .int) [(0, 10, 13, 13)] :: gT) { frames := 10, cells := 1, slots := 6, locals := 640 } (gPcE B sa [.ref (aC B 0), .int p0, .int p1, .ref qo] (wdC B W_spillsNow W_drawn T_length T_at T_bytes D_cells D_clauses G_length G_code A_size A_chosen A_codes A_lengths A_stack Y_cells Y_clauses N_marbles N_chipped N_swallowed N_sweets N_day N_owners P_next P_kept P_hasImage P_image P_acts P_entries P_imageEntries S_fewest S_row S_strengths U_size U_found U_places U_kinds U_holds U_fitting U_tally L_letters L_firstCells L_secondCells L_firstBest L_secondBest W_refusals ++ fr) sz) (gQ B (wdC B W_spillsNow W_drawn T_length T_at T_bytes D_cells D_clauses G_length G_code A_size A_chosen A_codes A_lengths A_stack Y_cells Y_clauses N_marbles N_chipped N_swallowed N_sweets N_day N_owners P_next P_kept P_hasImage P_image P_acts P_entries P_imageEntries S_fewest S_row S_strengths U_size U_found U_places U_kinds U_holds U_fitting U_tally L_letters L_firstCells L_secondCells L_firstBest L_secondBest W_refusals ++ fr) sz (some (.int 1)) (wdC B W_spillsNow W_drawn T_length T_at T_bytes D_cells D_clauses G_length G_code A_size A_chosen A_codes A_lengths A_stack Y_cells Y_clauses N_marbles N_chipped N_swallowed N_sweets N_day N_owners P_next P_kept P_hasImage P_image P_acts P_entries P_imageEntries S_fewest S_row S_strengths U_size U_found U_places U_kinds U_holds U_fitting U_tally L_letters L_firstCells L_secondCells L_firstBest L_secondBest W_refusals ++ fr)) 1 6 (va_A (wdC B W_spillsNow W_drawn T_length T_at T_bytes D_cells D_clauses G_length G_code A_size A_chosen A_codes A_lengths A_stack Y_cells Y_clauses N_marbles N_chipped N_swallowed N_sweets N_day N_owners P_next P_kept P_hasImage P_image P_acts P_entries P_imageEntries S_fewest S_row S_strengths U_size U_found U_places U_kinds U_holds U_fitting U_tally L_letters L_firstCells L_secondCells L_firstBest L_secondBest W_refusals ++ fr) sz) := by
  generalize hWe : (wdC B W_spillsNow W_drawn T_length T_at T_bytes D_cells D_clauses G_length G_code A_size A_chosen A_codes A_lengths A_stack Y_cells Y_clauses N_marbles N_chipped N_swallowed N_sweets N_day N_owners P_next P_kept P_hasImage P_image P_acts P_entries P_imageEntries S_fewest S_row S_strengths U_size U_found U_places U_kinds U_holds U_fitting U_tally L_letters L_firstCells L_secondCells L_firstBest L_secondBest W_refusals ++ fr) = ws
  refine va_MetW (cc := cL_boy) (maxL := 5) (ret := some .int) (hh := [(0, 10, 13, 13)]) rfl rfl ?_
  intro p e s m args below meth c s₁ Bd hml hv
  obtain ⟨⟨rfl, hsz, hP, hK, hD0, hSt⟩, hE⟩ := hv
  subst hsz
  have hD := hD0.self (sz := s.heap.size)
  have hl9 := lv_entry [.ref (aC B 0), .int p0, .int p1, .ref qo] (n := 5) (Nat.le_of_ble_eq_true rfl)
  rw [lg_entry_eq]
  generalize (lg_sl [.ref (aC B 0), .int p0, .int p1, .ref qo] ++ List.replicate (5 - (lg_sl [.ref (aC B 0), .int p0, .int p1, .ref qo]).length) Slot.unset).toArray = ls at hl9 ⊢
  have hts0 := atoms_spec (ws := .codeWith yL_boy cL_boy 5 (some .int) [(0, 10, 13, 13)] :: gT) Bd.pre
  have hts : ∀ w ∈ gT, w.before [.ref (aC B 0), .int p0, .int p1, .ref qo].toArray s = true := fun w hw => hts0 w (List.mem_cons_of_mem _ hw)
  have hx := Bd.exec
  have hb := Bd.bytes
  have hr := Bd.returns
  have hown : s.vm.findClass RL = some m.cls := findClass_of_methodNamed Bd.named
  have hlocks := Bd.notSynchronized
  obtain ⟨X, hXe⟩ : ∃ X : gX, X = (p, e, (headSpec (.codeWith yL_boy cL_boy 5 (some .int) [(0, 10, 13, 13)] :: gT) { frames := 10, cells := 1, slots := 6, locals := 640 }).room, s, m, [.ref (aC B 0), .int p0, .int p1, .ref qo].toArray, below, meth, c, 0, 0, MQ below (gQ B ws s.heap.size (some (.int 1)) ws) [.ref (aC B 0), .int p0, .int p1, .ref qo].toArray s 1 6 (va_A ws s.heap.size), va_A ws s.heap.size, fun _ _ => False) := ⟨_, rfl⟩
  have hX : gOkI B X RL cL_boy 5 10 1 6 := by
    rw [hXe]
    exact ⟨hx, hb, hml, hown, hts, hK, fun q hq => Or.inr hq, ⟨Nat.le_refl _, Nat.le_refl _, Nat.le_refl _, Nat.le_refl _⟩, hSt⟩
  have hend : ∀ (n w pc : Nat) (lv : List (Nat × Value)), n ≤ 1 → w ≤ 6 → decode cL_boy pc = .ok (.ireturn, 1) → gG B (gXc X n w) pc lv [.int 1] ws := by
    intro n w pc lv hn hw hd
    rw [hXe]
    intro H locs ls hP hD hS hl2
    exact W.widen hn hw (W.iret hx hb hr (fun t ht _ => ⟨rfl, by rw [ht]; exact hP, hD, hS.F ht⟩) hS.2.2 hd)
  have htab : c.exceptionTable.toList = tableOf [(0, 10, 13, 13)] := vx_table (x := yL_boy) Bd (hts0 _ List.mem_cons_self)
  have hgo : gG B (gXc X 0 0) 0 [(0, .ref (aC B 0)), (1, .int p0), (2, .int p1), (3, .ref qo)] [] ws := by
    refine gH.toG (h_aload_n (hX.ok (rt := some .int) (by decide) (by decide)) dL_boy_0 rfl rfl (gG.toH ?_))
    refine gH.toG (h_iconst (hX.ok (rt := some .int) (by decide) (by decide)) dL_boy_1 ki_0 (gG.toH ?_))
    refine gH.toG (h_aload_n (hX.ok (rt := some .int) (by decide) (by decide)) dL_boy_2 rfl rfl (gG.toH ?_))
    refine gH.toG (h_iload_n (hX.ok (rt := some .int) (by decide) (by decide)) dL_boy_3 rfl rfl (gG.toH ?_))
    refine gH.toG (h_iload_n (hX.ok (rt := some .int) (by decide) (by decide)) dL_boy_4 rfl rfl (gG.toH ?_))
    have hcatch : ∀ (q : Nat), gG B (gXc X 1 6) 13 [(0, .ref (aC B 0)), (1, .int p0), (2, .int p1), (3, .ref qo)] [.ref q] ws := by
      intro q
      refine gH.toG (h_astore (hX.ok (rt := some .int) (by decide) (by decide)) dL_boy_13 (by decide) (lv' := [(0, .ref (aC B 0)), (1, .int p0), (2, .int p1), (3, .ref qo), (4, .ref q)]) rfl (gG.toH ?_))
      refine gH.toG (h_iconst (hX.ok (rt := some .int) (by decide) (by decide)) dL_boy_15 ki_1 (gG.toH ?_))
      exact hend 1 6 16 [(0, .ref (aC B 0)), (1, .int p0), (2, .int p1), (3, .ref qo), (4, .ref q)] (by decide) (by decide) dL_boy_16
    have hM := boy_throws (B := B) (fr := fr) (W_spillsNow := W_spillsNow) (W_drawn := W_drawn) (T_length := T_length) (T_at := T_at) (T_bytes := T_bytes) (D_cells := D_cells) (D_clauses := D_clauses) (G_length := G_length) (G_code := G_code) (A_size := A_size) (A_chosen := A_chosen) (A_codes := A_codes) (A_lengths := A_lengths) (A_stack := A_stack) (Y_cells := Y_cells) (Y_clauses := Y_clauses) (N_marbles := N_marbles) (N_chipped := N_chipped) (N_swallowed := N_swallowed) (N_sweets := N_sweets) (N_day := N_day) (N_owners := N_owners) (P_next := P_next) (P_kept := P_kept) (P_hasImage := P_hasImage) (P_image := P_image) (P_acts := P_acts) (P_entries := P_entries) (P_imageEntries := P_imageEntries) (S_fewest := S_fewest) (S_row := S_row) (S_strengths := S_strengths) (U_size := U_size) (U_found := U_found) (U_places := U_places) (U_kinds := U_kinds) (U_holds := U_holds) (U_fitting := U_fitting) (U_tally := U_tally) (L_letters := L_letters) (L_firstCells := L_firstCells) (L_secondCells := L_secondCells) (L_firstBest := L_firstBest) (L_secondBest := L_secondBest) (W_refusals := W_refusals) (sa := sa) (p0 := p0) (p1 := p1) hl h1 hc
    rw [hWe] at hM
    have hrv : gRv ws (aC B 0) RX10 := by rw [← hWe]; exact rc_C0
    rw [hXe] at hcatch ⊢
    intro H locs ls hP hD hS hl2
    obtain ⟨w1, w2, w3, w4, w5, w6, w7⟩ := cv_RL_7
    obtain ⟨q0, ci, fs, rc, r1, r2, r3⟩ := hrv
    have hA : ∀ q, s.heap.size ≤ q → va_A ws s.heap.size q := fun q hq => Or.inr hq
    have hF : ∀ q, va_A ws H.size q → va_A ws s.heap.size q := by
      rintro q (⟨i, x, hi⟩ | h)
      · exact hD.2 i _ hi
      · exact hA q (Nat.le_trans hS.1 h)
    have hrun := vx_runV (C := RX10) (index := 7) (bytes := cX10_boy) (maxL := 3) (ret := some .int) (n := 2) (As := [.int p0, .int p1]) (rest := [.int 0, .ref qo]) (g := F0 m 5 ls [.int p1, .int p0, .ref (aC B 0), .int 0, .ref qo]) (cells := 0) (slots := 0) (H := H) (locs := locs) (Ts := gT) (R := (headSpec (.codeWith yL_boy cL_boy 5 (some .int) [(0, 10, 13, 13)] :: gT) { frames := 10, cells := 1, slots := 6, locals := 640 }).room) (e := e) (below := below) (meth := meth)
      ⟨hx, hb, hml, hown, hts⟩ (hM H.size) ⟨callB_of 2 hts (gIn w5) rfl rfl rfl (hts _ w4) (hts _ w1) (gNm_spec w7) ⟨by decide, by decide⟩, hts _ w2, hts _ w3⟩ ⟨gPcE_blind, by rw [← r3]; exact va_recv hK hP r2 r1, gPreE hP hK hD hS hA hSt hE⟩ rfl rfl (by rw [← hml]; exact hl2.1) rfl (lv_room (Nat.le_of_ble_eq_true rfl)) dL_boy_5 ⟨by decide, by decide⟩
    intro T hT Xs
    rcases hrun T hT Xs with ⟨v, st₀, t, T', L, h0, X', hL, e1, e2, hfalse, -⟩ | ⟨q, st₀, t, T', L, E, ce, h0, X', hL, e1, e2, ⟨hE1, hP1, hz, hk⟩, hce, hcv, hcl, stp⟩
    · exact hfalse.elim
    · subst hE1
      rw [h0] at hz hk
      have hS1 : va_S (va_A ws s.heap.size) s.heap T'.heap (locs ++ L) := ⟨Nat.le_trans hS.1 (by rw [e1]; exact hz), fun q h1 h2 => by rw [e1, hk q (Nat.lt_of_lt_of_le h1 hS.1) (fun z => h2 (hF q z))]; exact hS.2.1 q h1 h2, fun q hq => by
        rcases List.mem_append.mp hq with h | h
        · exact hS.2.2 q h
        · exact hF _ (hL q h)⟩
      have hcx := vx_catch (pc := 5) (ls := ls) (rest := [.int 0, .ref qo]) (own := RL) (name := nse) (E := nse) (ce := ce) (q := q) (H := T'.heap) (locs := locs ++ L) (cells := 0 + 1) (slots := 0 + 6) (R := (headSpec (.codeWith yL_boy cL_boy 5 (some .int) [(0, 10, 13, 13)] :: gT) { frames := 10, cells := 1, slots := 6, locals := 640 }).room) (p := p) (l := B.1) (e := e) (below := below) (meth := meth) hown [] _ [] htab (fun z hz => by cases hz) rfl (by decide) (hts _ wcl_RL_13) (va_Nw.use rfl hE.2.2.2.1) (by rw [e1]; exact hce) hcv hcl (hcatch q T'.heap (locs ++ L) ls (by rw [e1]; exact hP1) hD hS1 hl2)
      obtain ⟨t2, a1, b1⟩ := hcx T' rfl X'
      exact ⟨t2, stp.trans a1, b1⟩
  rw [hXe] at hgo
  exact hgo s.heap [] ls hP hD va_S.rf (by rw [hml]; exact hl9)
