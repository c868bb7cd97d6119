noncomputable def f_J_bitCount (p0 : Int32) : Option Int32 :=
  oL (p0 - (((p0.toUInt32 >>> ((1 : Int32).toUInt32 &&& Int32.toUInt32 31)).toInt32) &&& 1431655765)) fun v0_1 => oL ((v0_1 &&& 858993459) + (((v0_1.toUInt32 >>> ((2 : Int32).toUInt32 &&& Int32.toUInt32 31)).toInt32) &&& 858993459)) fun v0_2 => oL ((v0_2 + ((v0_2.toUInt32 >>> ((4 : Int32).toUInt32 &&& Int32.toUInt32 31)).toInt32)) &&& 252645135) fun v0_3 => oL (v0_3 + ((v0_3.toUInt32 >>> ((8 : Int32).toUInt32 &&& Int32.toUInt32 31)).toInt32)) fun v0_4 => oL (v0_4 + ((v0_4.toUInt32 >>> ((16 : Int32).toUInt32 &&& Int32.toUInt32 31)).toInt32)) fun v0_5 => some (v0_5 &&& 63)
noncomputable def f_Lane_isPower (p0 : Int32) : Option Int32 :=
  if p0 < 1 then
  (some 0)
  else (if 9 < p0 then
  (some 0)
  else (some 1))
noncomputable def f_Lane_partsOf (p0 : Int32) (p1 : Int32) (p2 : Int32) : Option Int32 :=
  oL (((((p0 : Int32).toInt64) * ((p2 : Int32).toInt64)) / 100 : Int64).toInt32) fun v3_1 => oL (v3_1 / 2) fun v4_2 => if p1 = 0 then
  (some (p0 - v3_1))
  else (if 0 ≤ p1 then
  (some (v3_1 - v4_2))
  else (some v4_2))
noncomputable def f_M_bounded (p0 : Int64) : Option Int32 :=
  some ((jmaxl ((-1000000)) (jminl 1000000 p0) : Int64).toInt32)
noncomputable def f_M_byteOf_J45 (v5 : Int32) (k0 : Int32) : Option Int32 :=
  some ((k0 >>> ((24 - (8 * (v5 - v5 / 4 * 4))) &&& 31)) &&& 255)
noncomputable def f_M_byteOf (p0 : Int32) (p1 : Int32) (p2 : Int32) (p3 : Int32) (p4 : Int32) (p5 : Int32) : Option Int32 :=
  if 4 ≤ p5 then
  (if 8 ≤ p5 then
  (if 12 ≤ p5 then
  (if 16 ≤ p5 then
  (f_M_byteOf_J45 p5 p4)
  else (f_M_byteOf_J45 p5 p3))
  else (f_M_byteOf_J45 p5 p2))
  else (f_M_byteOf_J45 p5 p1))
  else (f_M_byteOf_J45 p5 p0)
noncomputable def f_M_cellBy (p0 : Int32) (p1 : Int32) : Option Int32 :=
  if p1 = 0 then
  (some p0)
  else (if p1 = 1 then
  (some (jmax 0 (p0 - 1)))
  else (some (p0 + 1)))
noncomputable def f_M_has (p0 : Int32) (p1 : Int32) : Option Int32 :=
  if ((p0 >>> (p1 &&& 31)) &&& 1) = 1 then
  (some 1)
  else (some 0)
noncomputable def f_M_highest (p0 : Int32) (p1 : Int32) : Option Int32 :=
  if p0 = 98 then
  (some 9)
  else (if p0 = 109 then
  (if p1 = 0 then
  (some 4)
  else (if p1 = 1 then
  (some 5)
  else (some 9)))
  else (if p0 = 115 then
  (if p1 = 0 then
  (some 30)
  else (if p1 = 1 then
  (some 9)
  else (some 99)))
  else (if p1 = 1 then
  (some 5)
  else (some 9))))
noncomputable def f_M_in (p0 : Int32) (p1 : Int32) (p2 : Int32) : Option Int32 :=
  if p0 < p1 then
  (some 0)
  else (if p2 < p0 then
  (some 0)
  else (some 1))
noncomputable def f_M_isDigit (p0 : Int32) : Option Int32 :=
  if p0 < 48 then
  (some 0)
  else (if 57 < p0 then
  (some 0)
  else (some 1))
noncomputable def f_M_isKind (p0 : Int32) : Option Int32 :=
  (f_M_in p0 0 5).bind fun a_1 =>
  oZ a_1 (some a_1)
noncomputable def f_M_isPlace (p0 : Int32) : Option Int32 :=
  (f_M_in p0 0 9).bind fun a_1 =>
  oZ a_1 (some a_1)
noncomputable def f_M_isPower (p0 : Int32) : Option Int32 :=
  (f_M_in p0 1 9).bind fun a_1 =>
  oZ a_1 (some a_1)
noncomputable def f_M_isSign (p0 : Int32) : Option Int32 :=
  if p0 = 61 then
  (some 1)
  else (if p0 = 60 then
  (some 1)
  else (if p0 = 62 then
  (some 1)
  else (some 0)))
noncomputable def f_M_itemOf (p0 : Int32) (p1 : Int32) : Option Int32 :=
  if p0 = 98 then
  (if p1 = 107 then
  (some 0)
  else (if p1 = 112 then
  (some 1)
  else (some (-1))))
  else (if p0 = 109 then
  (if p1 = 111 then
  (some 0)
  else (if p1 = 119 then
  (some 1)
  else (if p1 = 115 then
  (some 2)
  else (some (-1)))))
  else (if p0 = 115 then
  (if p1 = 108 then
  (some 0)
  else (if p1 = 114 then
  (some 1)
  else (if p1 = 99 then
  (some 2)
  else (some (-1)))))
  else (if p1 = 112 then
  (some 0)
  else (if p1 = 119 then
  (some 1)
  else (if p1 = 110 then
  (some 2)
  else (some (-1)))))))
noncomputable def f_M_letterOf (p0 : Int32) : Option Int32 :=
  if p0 = 112 then
  (some 0)
  else (if p0 = 107 then
  (some 1)
  else (if p0 = 115 then
  (some 2)
  else (if p0 = 99 then
  (some 3)
  else (if p0 = 104 then
  (some 4)
  else (if p0 = 100 then
  (some 5)
  else (some (-1)))))))
noncomputable def f_M_lowest (p0 : Int32) (p1 : Int32) : Option Int32 :=
  if p0 = 98 then
  (if p1 = 0 then
  (some 1)
  else (some 0))
  else (if p0 = 109 then
  (if p1 = 2 then
  (some 1)
  else (some 0))
  else (if p0 = 115 then
  (if p1 = 0 then
  (some 3)
  else (if p1 = 1 then
  (some 1)
  else (some 0)))
  else (some 0)))
noncomputable def f_M_partBy (p0 : Int32) (p1 : Int32) (p2 : Int32) : Option Int32 :=
  oL (((((p0 : Int32).toInt64) * ((p1 : Int32).toInt64)) / 100 : Int64).toInt32) fun v3_1 => if p2 = 0 then
  (some (p0 - v3_1))
  else (if p2 = 1 then
  (some (v3_1 / 2))
  else (some (v3_1 - (v3_1 / 2))))
noncomputable def f_M_usual (p0 : Int32) (p1 : Int32) : Option Int32 :=
  if p0 = 98 then
  (if p1 = 0 then
  (some 5)
  else (some 0))
  else (if p0 = 109 then
  (if p1 = 2 then
  (some 3)
  else (some 0))
  else (if p0 = 115 then
  (if p1 = 0 then
  (some 12)
  else (if p1 = 1 then
  (some 3)
  else (some 10)))
  else (if p1 = 2 then
  (some 2)
  else (some 0))))
noncomputable def f_M_worked (p0 : Int32) (p1 : Int64) (p2 : Int64) : Option Int32 :=
  if p0 = 2 then
  ((f_M_bounded (p1 + p2)).bind fun a_1 =>
  some a_1)
  else (if p0 = 3 then
  ((f_M_bounded (p1 - p2)).bind fun a_2 =>
  some a_2)
  else (if p0 = 4 then
  ((f_M_bounded (p1 * p2)).bind fun a_3 =>
  some a_3)
  else (if p0 = 5 then
  (if (lg_cmp p2 (0 : Int64)) = 0 then
  (some 0)
  else (oDl (p2) ((f_M_bounded (p1 / p2)).bind fun a_4 =>
  some a_4)))
  else (if p0 = 6 then
  (if (lg_cmp p1 p2) = 0 then
  (some 1)
  else (some 0))
  else (if p0 = 7 then
  (if 0 ≤ (lg_cmp p1 p2) then
  (some 0)
  else (some 1))
  else (if p0 = 8 then
  (if (lg_cmp p1 p2) ≤ 0 then
  (some 0)
  else (some 1))
  else (if p0 = 10 then
  (if (lg_cmp p1 (0 : Int64)) = 0 then
  (some 0)
  else (if (lg_cmp p2 (0 : Int64)) = 0 then
  (some 0)
  else (some 1)))
  else (if (lg_cmp p1 (0 : Int64)) = 0 then
  (if (lg_cmp p2 (0 : Int64)) = 0 then
  (some 0)
  else (some 1))
  else (some 1)))))))))
noncomputable def f_LawR_isComparison (p0 : Int32) : Option Int32 :=
  if p0 = 61 then
  (some 1)
  else (if p0 = 60 then
  (some 1)
  else (if p0 = 62 then
  (some 1)
  else (some 0)))
noncomputable def f_Laws_held (p0 : Int64) : Option Int32 :=
  some ((jmaxl ((-1000000)) (jminl 1000000 p0) : Int64).toInt32)
noncomputable def f_Laws_joined (p0 : Int32) (p1 : Int32) (p2 : Int32) : Option Int32 :=
  if p0 = 38 then
  (some (p1 &&& p2))
  else (if p0 = 42 then
  ((f_Laws_held (((p1 : Int32).toInt64) * ((p2 : Int32).toInt64))).bind fun a_1 =>
  some a_1)
  else (if p0 = 43 then
  ((f_Laws_held (((p1 : Int32).toInt64) + ((p2 : Int32).toInt64))).bind fun a_2 =>
  some a_2)
  else (if p0 = 45 then
  ((f_Laws_held (((p1 : Int32).toInt64) - ((p2 : Int32).toInt64))).bind fun a_3 =>
  some a_3)
  else (if p0 = 47 then
  (if p2 = 0 then
  (some 0)
  else (oD (p2) (some (p1 / p2))))
  else (if p0 = 60 then
  (if p2 ≤ p1 then
  (some 0)
  else (some 1))
  else (if p0 = 61 then
  (if p1 = p2 then
  (some 1)
  else (some 0))
  else (if p0 = 62 then
  (if p1 ≤ p2 then
  (some 0)
  else (some 1))
  else (some (p1 ||| p2)))))))))
noncomputable def f_Tape_bytesIn_J25 (v2 : Int32) (k0 : Int32) (k1 : Int32) : Option ((Int32 × Int32) ⊕ Int32) :=
  oL (k0 + k1) fun v1_1 => some (.inl (v1_1, v2 + (-8)))
noncomputable def f_Tape_bytesIn_L5 (v0 : Int32) (s : (Int32 × Int32)) : Option ((Int32 × Int32) ⊕ Int32) :=
  if s.2 < 0 then
  (some (.inr s.1))
  else (if (((v0.toUInt32 >>> (s.2.toUInt32 &&& Int32.toUInt32 31)).toInt32) &&& 255) = 0 then
  (f_Tape_bytesIn_J25 s.2 s.1 0)
  else (f_Tape_bytesIn_J25 s.2 s.1 1))
noncomputable def f_Tape_bytesIn (p0 : Int32) : Option Int32 :=
  oLp (f_Tape_bytesIn_L5 p0) (0, 24)
noncomputable def f_YardR_itemOf_L2 (v0 : Int32) (v1 : Int32) (s : Int32) : Option (Int32 ⊕ Int32) :=
  if 3 ≤ s then
  (some (.inr (-1)))
  else (oI ((v0 * 3) + s) tab3.length (if (tab3.getD ((v0 * 3) + s : Int32).toNatClampNeg 0) = v1 then
  (some (.inr s))
  else (some (.inl (s + 1)))))
noncomputable def f_YardR_itemOf (p0 : Int32) (p1 : Int32) : Option Int32 :=
  oLp (f_YardR_itemOf_L2 p0 p1) 0
noncomputable def f_YardR_sortOf_L2 (v0 : Int32) (s : Int32) : Option (Int32 ⊕ Int32) :=
  if 4 ≤ s then
  (some (.inr (-1)))
  else (oI s tab0.length (if (tab0.getD s.toNatClampNeg 0) = v0 then
  (some (.inr s))
  else (some (.inl (s + 1)))))
noncomputable def f_YardR_sortOf (p0 : Int32) : Option Int32 :=
  oLp (f_YardR_sortOf_L2 p0) 0
noncomputable def f_J_fill_C6_L5 (v1 : Int32) (v3 : Int32) (s : (Int32 × (Nat → Int32))) : Option ((Int32 × (Nat → Int32)) ⊕ (Nat → Int32)) :=
  if v3 ≤ s.1 then
  (some (.inr s.2))
  else (oI s.1 4 (oL (upd s.2 s.1.toNatClampNeg v1) fun D_clauses_1 =>
  some (.inl (s.1 + 1, D_clauses_1))))
noncomputable def f_J_fill_C6 (D_clauses : Nat → Int32) (p0 : Int32) : Option (Nat → Int32) :=
  oLp (f_J_fill_C6_L5 p0 4) (0, D_clauses)
noncomputable def f_J_fill_C23_L5 (v1 : Int32) (v3 : Int32) (s : (Int32 × (Nat → Int32))) : Option ((Int32 × (Nat → Int32)) ⊕ (Nat → Int32)) :=
  if v3 ≤ s.1 then
  (some (.inr s.2))
  else (oI s.1 60 (oL (upd s.2 s.1.toNatClampNeg v1) fun S_strengths_1 =>
  some (.inl (s.1 + 1, S_strengths_1))))
noncomputable def f_J_fill_C23 (S_strengths : Nat → Int32) (p0 : Int32) : Option (Nat → Int32) :=
  oLp (f_J_fill_C23_L5 p0 60) (0, S_strengths)
noncomputable def f_J_fill_C29_L5 (v1 : Int32) (v3 : Int32) (s : (Int32 × (Nat → Int32))) : Option ((Int32 × (Nat → Int32)) ⊕ (Nat → Int32)) :=
  if v3 ≤ s.1 then
  (some (.inr s.2))
  else (oI s.1 70 (oL (upd s.2 s.1.toNatClampNeg v1) fun U_tally_1 =>
  some (.inl (s.1 + 1, U_tally_1))))
noncomputable def f_J_fill_C29 (U_tally : Nat → Int32) (p0 : Int32) : Option (Nat → Int32) :=
  oLp (f_J_fill_C29_L5 p0 70) (0, U_tally)
noncomputable def f_Clues_add (U_size : Int32) (U_places : Nat → Int32) (U_kinds : Nat → Int32) (U_holds : Nat → Int32) (p0 : Int32) (p1 : Int32) (p2 : Int32) : Option (Int32 × (Nat → Int32) × (Nat → Int32) × (Nat → Int32)) :=
  if 10 ≤ U_size then
  (some (U_size, U_places, U_kinds, U_holds))
  else (oI U_size 10 (oL (upd U_places U_size.toNatClampNeg p0) fun U_places_1 =>
  oI U_size 10 (oL (upd U_kinds U_size.toNatClampNeg p1) fun U_kinds_2 =>
  oI U_size 10 (oL (upd U_holds U_size.toNatClampNeg (vp_nar .boolean p2)) fun U_holds_3 =>
  oL (U_size + 1) fun U_size_4 =>
  some (U_size_4, U_places_1, U_kinds_2, U_holds_3)))))
noncomputable def f_Sky_strengthOf (S_strengths : Nat → Int32) (p0 : Int32) (p1 : Int32) : Option Int32 :=
  oI ((p0 * 6) + p1) 60 (some (S_strengths ((p0 * 6) + p1 : Int32).toNatClampNeg))
noncomputable def f_Sky_strongestKind_J36 (v2 : Int32) (v3 : Int32) (v4 : Int32) : Option ((Int32 × Int32 × Int32) ⊕ Int32) :=
  some (.inl (v2, v3, v4 + 1))
noncomputable def f_Sky_strongestKind_L7 (S_strengths : Nat → Int32) (v1 : Int32) (s : (Int32 × Int32 × Int32)) : Option ((Int32 × Int32 × Int32) ⊕ Int32) :=
  if 6 ≤ s.2.2 then
  (some (.inr s.1))
  else ((f_Sky_strengthOf S_strengths v1 s.2.2).bind fun a_1 =>
  if a_1 ≤ s.2.1 then
  (f_Sky_strongestKind_J36 s.1 s.2.1 s.2.2)
  else ((f_Sky_strengthOf S_strengths v1 s.2.2).bind fun a_3 =>
  f_Sky_strongestKind_J36 s.2.2 a_3 s.2.2))
noncomputable def f_Sky_strongestKind (S_strengths : Nat → Int32) (p0 : Int32) : Option Int32 :=
  oLp (f_Sky_strongestKind_L7 S_strengths p0) ((-1), 0, 0)
noncomputable def f_Clues_areAllSo_J37 (U_holds : Nat → Int32) (v1 : Int32) (k0 : Int32) : Option (Int32 ⊕ Int32) :=
  oI v1 10 (if k0 = (U_holds v1.toNatClampNeg) then
  (some (.inl (v1 + 1)))
  else (some (.inr 0)))
noncomputable def f_Clues_areAllSo_L2 (S_strengths : Nat → Int32) (U_size : Int32) (U_places : Nat → Int32) (U_kinds : Nat → Int32) (U_holds : Nat → Int32) (s : Int32) : Option (Int32 ⊕ Int32) :=
  if U_size ≤ s then
  (some (.inr 1))
  else (oI s 10 ((f_Sky_strongestKind S_strengths (U_places s.toNatClampNeg)).bind fun a_1 =>
  oI s 10 (if a_1 = (U_kinds s.toNatClampNeg) then
  (f_Clues_areAllSo_J37 U_holds s 1)
  else (f_Clues_areAllSo_J37 U_holds s 0))))
noncomputable def f_Clues_areAllSo (S_strengths : Nat → Int32) (U_size : Int32) (U_places : Nat → Int32) (U_kinds : Nat → Int32) (U_holds : Nat → Int32) : Option Int32 :=
  oLp (f_Clues_areAllSo_L2 S_strengths U_size U_places U_kinds U_holds) 0
noncomputable def f_Now_ownerOf (N_marbles : Int32) (N_owners : Nat → Int32) (p0 : Int32) : Option Int32 :=
  if p0 < 0 then
  (some (-1))
  else (if N_marbles ≤ p0 then
  (some (-1))
  else (oI p0 6 (some (N_owners p0.toNatClampNeg))))
noncomputable def f_Yard_cell (Y_cells : Nat → Int32) (p0 : Int32) (p1 : Int32) (p2 : Int32) : Option Int32 :=
  if p1 < 0 then
  (some 0)
  else (oI p0 tab2.length (if (tab2.getD p0.toNatClampNeg 0) ≤ p1 then
  (some 0)
  else (oI p0 tab1.length (oI ((((tab1.getD p0.toNatClampNeg 0) + p1) * 3) + p2) 54 (some (Y_cells ((((tab1.getD p0.toNatClampNeg 0) + p1) * 3) + p2 : Int32).toNatClampNeg))))))
noncomputable def f_Yard_boyPlace (Y_cells : Nat → Int32) (p0 : Int32) : Option Int32 :=
  (f_Yard_cell Y_cells 1 p0 1).bind fun a_1 =>
  some a_1
noncomputable def f_Yard_kind (Y_cells : Nat → Int32) (p0 : Int32) : Option Int32 :=
  (f_Yard_cell Y_cells 2 p0 1).bind fun a_1 =>
  some a_1
noncomputable def f_Sky_indexOf (Y_cells : Nat → Int32) (p0 : Int32) (p1 : Int32) : Option Int32 :=
  (f_Yard_boyPlace Y_cells p0).bind fun a_1 =>
  (f_Yard_kind Y_cells p1).bind fun a_2 =>
  some ((a_1 * 6) + a_2)
noncomputable def f_Yard_size (Y_cells : Nat → Int32) (p0 : Int32) : Option Int32 :=
  (f_Yard_cell Y_cells 2 p0 2).bind fun a_1 =>
  some a_1
noncomputable def f_Now_isChipped (N_chipped : Int32) (p0 : Int32) : Option Int32 :=
  if ((N_chipped >>> (p0 &&& 31)) &&& 1) = 0 then
  (some 0)
  else (some 1)
noncomputable def f_Now_soundSize_C13 (Y_cells : Nat → Int32) (N_chipped : Int32) (p0 : Int32) : Option Int32 :=
  (f_Yard_size Y_cells p0).bind fun a_1 =>
  (f_Now_isChipped N_chipped p0).bind fun a_2 =>
  if a_2 = 0 then
  (some a_1)
  else (some (jmax 0 (a_1 - 2)))
noncomputable def f_Sky_lift (Y_cells : Nat → Int32) (N_chipped : Int32) (S_strengths : Nat → Int32) (p0 : Int32) (p1 : Int32) : Option (Nat → Int32) :=
  (f_Sky_indexOf Y_cells p1 p0).bind fun a_1 =>
  oI a_1 60 ((f_Now_soundSize_C13 Y_cells N_chipped p0).bind fun a_2 =>
  oI a_1 60 (oL (upd S_strengths a_1.toNatClampNeg ((S_strengths a_1.toNatClampNeg) - a_2)) fun S_strengths_3 =>
  some S_strengths_3))
noncomputable def f_Sky_put (Y_cells : Nat → Int32) (N_chipped : Int32) (S_strengths : Nat → Int32) (p0 : Int32) (p1 : Int32) : Option (Nat → Int32) :=
  (f_Sky_indexOf Y_cells p1 p0).bind fun a_1 =>
  oI a_1 60 ((f_Now_soundSize_C13 Y_cells N_chipped p0).bind fun a_2 =>
  oI a_1 60 (oL (upd S_strengths a_1.toNatClampNeg ((S_strengths a_1.toNatClampNeg) + a_2)) fun S_strengths_3 =>
  some S_strengths_3))
noncomputable def f_Sky_move (Y_cells : Nat → Int32) (N_chipped : Int32) (S_strengths : Nat → Int32) (p0 : Int32) (p1 : Int32) (p2 : Int32) : Option (Nat → Int32) :=
  (f_Sky_lift Y_cells N_chipped S_strengths p0 p1).bind fun a_1 =>
  (f_Sky_put Y_cells N_chipped a_1 p0 p2).bind fun a_2 =>
  some a_2
noncomputable def f_Clues_countTold_L48 (Y_cells : Nat → Int32) (N_chipped : Int32) (S_strengths : Nat → Int32) (v1 : Int32) (v2 : Int32) (v3 : Int32) (v4 : Int32) (s : (Int32 × (Nat → Int32))) : Option ((Int32 × (Nat → Int32)) ⊕ ((Nat → Int32) × (Nat → Int32))) :=
  if 10 ≤ s.1 then
  ((if v4 = 0 then
  (some (S_strengths, s.2))
  else ((f_Sky_move Y_cells N_chipped S_strengths v2 (v1 - v1 / 10 * 10) v3).bind fun a_3 =>
  some (a_3, s.2))).map .inr)
  else ((f_Sky_strongestKind S_strengths s.1).bind fun a_4 =>
  oI (((s.1 * 7) + a_4) + 1) 70 (oI (((s.1 * 7) + a_4) + 1) 70 (oL (upd s.2 ((((s.1 * 7) + a_4) + 1 : Int32).toNatClampNeg) ((s.2 (((s.1 * 7) + a_4) + 1 : Int32).toNatClampNeg) + 1)) fun U_tally_5 =>
  some (.inl (s.1 + 1, U_tally_5)))))
noncomputable def f_Clues_countTold_J45 (Y_cells : Nat → Int32) (N_chipped : Int32) (S_strengths : Nat → Int32) (U_tally : Nat → Int32) (v1 : Int32) (v2 : Int32) (v3 : Int32) (v4 : Int32) : Option ((Nat → Int32) × (Nat → Int32)) :=
  oLp (f_Clues_countTold_L48 Y_cells N_chipped S_strengths v1 v2 v3 v4) (0, U_tally)
noncomputable def f_Clues_countTold_J25 (Y_cells : Nat → Int32) (N_chipped : Int32) (S_strengths : Nat → Int32) (U_tally : Nat → Int32) (v1 : Int32) (v2 : Int32) (v3 : Int32) (k0 : Int32) : Option ((Nat → Int32) × (Nat → Int32)) :=
  if k0 = 0 then
  (f_Clues_countTold_J45 Y_cells N_chipped S_strengths U_tally v1 v2 v3 k0)
  else ((f_Sky_move Y_cells N_chipped S_strengths v2 v3 (v1 - v1 / 10 * 10)).bind fun a_7 =>
  f_Clues_countTold_J45 Y_cells N_chipped a_7 U_tally v1 v2 v3 k0)
noncomputable def f_Clues_countTold (Y_cells : Nat → Int32) (N_marbles : Int32) (N_chipped : Int32) (N_owners : Nat → Int32) (S_strengths : Nat → Int32) (U_tally : Nat → Int32) (p0 : Int32) : Option ((Nat → Int32) × (Nat → Int32)) :=
  oL (p0 / 10) fun v2_1 => (f_Now_ownerOf N_marbles N_owners v2_1).bind fun a_2 =>
  if p0 = 99 then
  (f_Clues_countTold_J25 Y_cells N_chipped S_strengths U_tally p0 v2_1 a_2 0)
  else (f_Clues_countTold_J25 Y_cells N_chipped S_strengths U_tally p0 v2_1 a_2 1)
noncomputable def f_Clues_fittingAt (U_found : Int32) (U_fitting : Nat → Int32) (p0 : Int32) : Option Int32 :=
  if p0 < 0 then
  (some (-1))
  else (if U_found ≤ p0 then
  (some (-1))
  else (oI p0 31 (some (U_fitting p0.toNatClampNeg))))
noncomputable def f_Clues_forgetAll (U_size : Int32) : Option Int32 :=
  some 0
noncomputable def f_Clues_keepIfSo (S_strengths : Nat → Int32) (U_size : Int32) (U_found : Int32) (U_places : Nat → Int32) (U_kinds : Nat → Int32) (U_holds : Nat → Int32) (U_fitting : Nat → Int32) (p0 : Int32) : Option (Int32 × (Nat → Int32)) :=
  if 31 ≤ U_found then
  (some (U_found, U_fitting))
  else ((f_Clues_areAllSo S_strengths U_size U_places U_kinds U_holds).bind fun a_1 =>
  if a_1 = 0 then
  (some (U_found, U_fitting))
  else (oI U_found 31 (oL (upd U_fitting U_found.toNatClampNeg p0) fun U_fitting_2 =>
  oL (U_found + 1) fun U_found_3 =>
  some (U_found_3, U_fitting_2))))
noncomputable def f_Clues_mostTold_L4 (U_tally : Nat → Int32) (v1 : Int32) (s : (Int32 × Int32)) : Option ((Int32 × Int32) ⊕ Int32) :=
  if 7 ≤ s.2 then
  (some (.inr s.1))
  else (oI ((v1 * 7) + s.2) 70 (oL (jmax s.1 (U_tally ((v1 * 7) + s.2 : Int32).toNatClampNeg)) fun v2_1 => some (.inl (v2_1, s.2 + 1))))
noncomputable def f_Clues_mostTold (U_tally : Nat → Int32) (p0 : Int32) : Option Int32 :=
  oLp (f_Clues_mostTold_L4 U_tally p0) (0, 0)
noncomputable def f_Yard_marbles (Y_clauses : Nat → Int32) : Option Int32 :=
  oI 2 4 (some (Y_clauses (2 : Int32).toNatClampNeg))
noncomputable def f_Now_isDrained (N_marbles : Int32) (N_owners : Nat → Int32) (p0 : Int32) : Option Int32 :=
  (f_Now_ownerOf N_marbles N_owners p0).bind fun a_1 =>
  if a_1 = (-1) then
  (some 1)
  else (some 0)
noncomputable def f_Sky_measure_J65 (S_strengths : Nat → Int32) (v1 : Int32) : Option ((Int32 × (Nat → Int32)) ⊕ (Nat → Int32)) :=
  some (.inl (v1 + 1, S_strengths))
noncomputable def f_Sky_measure_L10 (Y_cells : Nat → Int32) (Y_clauses : Nat → Int32) (N_marbles : Int32) (N_chipped : Int32) (N_owners : Nat → Int32) (s : (Int32 × (Nat → Int32))) : Option ((Int32 × (Nat → Int32)) ⊕ (Nat → Int32)) :=
  (f_Yard_marbles Y_clauses).bind fun a_2 =>
  if a_2 ≤ s.1 then
  (some (.inr s.2))
  else ((f_Now_isDrained N_marbles N_owners s.1).bind fun a_3 =>
  if a_3 = 0 then
  ((f_Now_ownerOf N_marbles N_owners s.1).bind fun a_5 =>
  (f_Sky_indexOf Y_cells a_5 s.1).bind fun a_6 =>
  oI a_6 60 ((f_Now_soundSize_C13 Y_cells N_chipped s.1).bind fun a_7 =>
  oI a_6 60 (oL (upd s.2 a_6.toNatClampNeg ((s.2 a_6.toNatClampNeg) + a_7)) fun S_strengths_8 =>
  f_Sky_measure_J65 S_strengths_8 s.1)))
  else (f_Sky_measure_J65 s.2 s.1))
noncomputable def f_Sky_measure (Y_cells : Nat → Int32) (Y_clauses : Nat → Int32) (N_marbles : Int32) (N_chipped : Int32) (N_owners : Nat → Int32) (S_strengths : Nat → Int32) : Option (Nat → Int32) :=
  (f_J_fill_C23 S_strengths 0).bind fun a_1 =>
  oLp (f_Sky_measure_L10 Y_cells Y_clauses N_marbles N_chipped N_owners) (0, a_1)
noncomputable def f_Yard_boys (Y_clauses : Nat → Int32) : Option Int32 :=
  oI 1 4 (some (Y_clauses (1 : Int32).toNatClampNeg))
noncomputable def f_Clues_search_J93 (S_strengths : Nat → Int32) (U_found : Int32) (U_fitting : Nat → Int32) (v1 : Int32) : Option ((Int32 × (Nat → Int32) × Int32 × (Nat → Int32)) ⊕ (Int32 × (Nat → Int32) × Int32 × (Nat → Int32))) :=
  some (.inl (v1 + 1, S_strengths, U_found, U_fitting))
noncomputable def f_Clues_search_J87 (S_strengths : Nat → Int32) (U_found : Int32) (U_fitting : Nat → Int32) (v3 : Int32) : Option ((Int32 × (Nat → Int32) × Int32 × (Nat → Int32)) ⊕ ((Int32 × (Nat → Int32) × Int32 × (Nat → Int32)) ⊕ (Int32 × (Nat → Int32) × Int32 × (Nat → Int32)))) :=
  some (.inl (v3 + 1, S_strengths, U_found, U_fitting))
noncomputable def f_Clues_search_L36 (Y_cells : Nat → Int32) (Y_clauses : Nat → Int32) (N_chipped : Int32) (U_size : Int32) (U_places : Nat → Int32) (U_kinds : Nat → Int32) (U_holds : Nat → Int32) (v1 : Int32) (v2 : Int32) (s : (Int32 × (Nat → Int32) × Int32 × (Nat → Int32))) : Option ((Int32 × (Nat → Int32) × Int32 × (Nat → Int32)) ⊕ ((Int32 × (Nat → Int32) × Int32 × (Nat → Int32)) ⊕ (Int32 × (Nat → Int32) × Int32 × (Nat → Int32)))) :=
  (f_Yard_boys Y_clauses).bind fun a_5 =>
  if a_5 ≤ s.1 then
  ((f_Clues_search_J93 s.2.1 s.2.2.1 s.2.2.2 v1).map .inr)
  else (if v2 = (-1) then
  ((f_Clues_search_J93 s.2.1 s.2.2.1 s.2.2.2 v1).map .inr)
  else (if s.1 = v2 then
  (f_Clues_search_J87 s.2.1 s.2.2.1 s.2.2.2 s.1)
  else ((f_Sky_move Y_cells N_chipped s.2.1 v1 v2 s.1).bind fun a_8 =>
  (f_Clues_keepIfSo a_8 U_size s.2.2.1 U_places U_kinds U_holds s.2.2.2 ((10 * v1) + s.1)).bind fun a_9 =>
  (f_Sky_move Y_cells N_chipped a_8 v1 s.1 v2).bind fun a_10 =>
  f_Clues_search_J87 a_10 a_9.1 a_9.2 s.1)))
noncomputable def f_Clues_search_L14 (Y_cells : Nat → Int32) (Y_clauses : Nat → Int32) (N_marbles : Int32) (N_chipped : Int32) (N_owners : Nat → Int32) (U_size : Int32) (U_places : Nat → Int32) (U_kinds : Nat → Int32) (U_holds : Nat → Int32) (s : (Int32 × (Nat → Int32) × Int32 × (Nat → Int32))) : Option ((Int32 × (Nat → Int32) × Int32 × (Nat → Int32)) ⊕ (Int32 × (Nat → Int32) × Int32 × (Nat → Int32))) :=
  (f_Yard_marbles Y_clauses).bind fun a_2 =>
  if a_2 ≤ s.1 then
  (((f_Clues_keepIfSo s.2.1 U_size s.2.2.1 U_places U_kinds U_holds s.2.2.2 99).bind fun a_3 =>
  some (a_3.1, s.2.1, a_3.1, a_3.2)).map .inr)
  else ((f_Now_ownerOf N_marbles N_owners s.1).bind fun a_4 =>
  oLp (f_Clues_search_L36 Y_cells Y_clauses N_chipped U_size U_places U_kinds U_holds s.1 a_4) (0, s.2.1, s.2.2.1, s.2.2.2))
noncomputable def f_Clues_search (Y_cells : Nat → Int32) (Y_clauses : Nat → Int32) (N_marbles : Int32) (N_chipped : Int32) (N_owners : Nat → Int32) (S_strengths : Nat → Int32) (U_size : Int32) (U_found : Int32) (U_places : Nat → Int32) (U_kinds : Nat → Int32) (U_holds : Nat → Int32) (U_fitting : Nat → Int32) : Option (Int32 × (Nat → Int32) × Int32 × (Nat → Int32)) :=
  (f_Sky_measure Y_cells Y_clauses N_marbles N_chipped N_owners S_strengths).bind fun a_1 =>
  oLp (f_Clues_search_L14 Y_cells Y_clauses N_marbles N_chipped N_owners U_size U_places U_kinds U_holds) (0, a_1, 0, U_fitting)
noncomputable def f_Clues_placeToLook_J68 (v1 : Int32) (v2 : Int32) : Option ((Int32 × Int32) ⊕ (Int32 × (Nat → Int32) × Int32 × (Nat → Int32) × (Nat → Int32))) :=
  some (.inl (v1, v2 + 1))
noncomputable def f_Clues_placeToLook_L47 (S_strengths : Nat → Int32) (U_found : Int32) (U_fitting : Nat → Int32) (U_tally : Nat → Int32) (s : (Int32 × Int32)) : Option ((Int32 × Int32) ⊕ (Int32 × (Nat → Int32) × Int32 × (Nat → Int32) × (Nat → Int32))) :=
  if 10 ≤ s.2 then
  (some (.inr (s.1, S_strengths, U_found, U_fitting, U_tally)))
  else ((f_Clues_mostTold U_tally s.2).bind fun a_3 =>
  (f_Clues_mostTold U_tally s.1).bind fun a_4 =>
  if a_4 ≤ a_3 then
  (f_Clues_placeToLook_J68 s.1 s.2)
  else (f_Clues_placeToLook_J68 s.2 s.2))
noncomputable def f_Clues_placeToLook_L19 (Y_cells : Nat → Int32) (N_marbles : Int32) (N_chipped : Int32) (N_owners : Nat → Int32) (U_found : Int32) (U_fitting : Nat → Int32) (s : (Int32 × (Nat → Int32) × (Nat → Int32))) : Option ((Int32 × (Nat → Int32) × (Nat → Int32)) ⊕ (Int32 × (Nat → Int32) × Int32 × (Nat → Int32) × (Nat → Int32))) :=
  if U_found ≤ s.1 then
  ((oLp (f_Clues_placeToLook_L47 s.2.1 U_found U_fitting s.2.2) (0, 1)).map .inr)
  else (oI s.1 31 ((f_Clues_countTold Y_cells N_marbles N_chipped N_owners s.2.1 s.2.2 (U_fitting s.1.toNatClampNeg)).bind fun a_6 =>
  some (.inl (s.1 + 1, a_6.1, a_6.2))))
noncomputable def f_Clues_placeToLook (Y_cells : Nat → Int32) (Y_clauses : Nat → Int32) (N_marbles : Int32) (N_chipped : Int32) (N_owners : Nat → Int32) (S_strengths : Nat → Int32) (U_size : Int32) (U_found : Int32) (U_places : Nat → Int32) (U_kinds : Nat → Int32) (U_holds : Nat → Int32) (U_fitting : Nat → Int32) (U_tally : Nat → Int32) : Option (Int32 × (Nat → Int32) × Int32 × (Nat → Int32) × (Nat → Int32)) :=
  (f_Clues_search Y_cells Y_clauses N_marbles N_chipped N_owners S_strengths U_size U_found U_places U_kinds U_holds U_fitting).bind fun a_1 =>
  if a_1.1 = 0 then
  (some ((-1), a_1.2.1, a_1.2.2.1, a_1.2.2.2, U_tally))
  else ((f_J_fill_C29 U_tally 0).bind fun a_2 =>
  oLp (f_Clues_placeToLook_L19 Y_cells N_marbles N_chipped N_owners a_1.2.2.1 a_1.2.2.2) (0, a_1.2.1, a_2))
noncomputable def f_Clues_size (U_size : Int32) : Option Int32 :=
  some U_size
noncomputable def f_Yard_skill (Y_cells : Nat → Int32) (p0 : Int32) : Option Int32 :=
  (f_Yard_cell Y_cells 1 p0 0).bind fun a_1 =>
  some a_1
noncomputable def f_Laws_anyHolds (A_size : Int32) (A_chosen : Int32) : Option Int32 :=
  if A_chosen < 0 then
  (some 0)
  else (if A_size ≤ A_chosen then
  (some 0)
  else (some 1))
noncomputable def f_Now_handOf_J30 (v3 : Int32) (k0 : Int32) (k1 : Int32) : Option ((Int32 × Int32) ⊕ Int32) :=
  oL (k0 ||| k1) fun v2_1 => some (.inl (v2_1, v3 + 1))
noncomputable def f_Now_handOf_L4 (N_marbles : Int32) (N_owners : Nat → Int32) (v1 : Int32) (s : (Int32 × Int32)) : Option ((Int32 × Int32) ⊕ Int32) :=
  if N_marbles ≤ s.2 then
  (some (.inr s.1))
  else (oI s.2 6 (if (N_owners s.2.toNatClampNeg) = v1 then
  (f_Now_handOf_J30 s.2 s.1 (1 <<< (s.2 &&& 31)))
  else (f_Now_handOf_J30 s.2 s.1 0)))
noncomputable def f_Now_handOf (N_marbles : Int32) (N_owners : Nat → Int32) (p0 : Int32) : Option Int32 :=
  oLp (f_Now_handOf_L4 N_marbles N_owners p0) (0, 0)
noncomputable def f_Laws_letterOf_C31 (L_letters : Nat → Int32) (p0 : Int32) : Option Int32 :=
  if p0 < 0 then
  (some 0)
  else (if 6 ≤ p0 then
  (some 0)
  else (oI p0 6 (some (L_letters p0.toNatClampNeg))))
noncomputable def f_Laws_worth_C31_J251 (A_stack : Nat → Int32) (v4 : Int32) (v5 : Int32) (v6 : Int32) : Option ((Int32 × Int32 × Int32 × (Nat → Int32)) ⊕ (Int32 × (Nat → Int32))) :=
  some (.inl (v4, v5, v6 + 1, A_stack))
noncomputable def f_Laws_worth_C31_J172 (A_stack : Nat → Int32) (v4 : Int32) (v6 : Int32) (k0 : Int32) : Option ((Int32 × Int32 × Int32 × (Nat → Int32)) ⊕ (Int32 × (Nat → Int32))) :=
  f_Laws_worth_C31_J251 A_stack v4 k0 v6
noncomputable def f_Laws_worth_C31_J110 (A_stack : Nat → Int32) (v4 : Int32) (v5 : Int32) (v6 : Int32) (k1 : Int32) (k2 : Int32) : Option ((Int32 × Int32 × Int32 × (Nat → Int32)) ⊕ (Int32 × (Nat → Int32))) :=
  oI k1 240 (oL (upd A_stack k1.toNatClampNeg k2) fun A_stack_12 =>
  f_Laws_worth_C31_J251 A_stack_12 (v4 + 1) v5 v6)
noncomputable def f_Laws_worth_C31_L39 (A_codes : Nat → Int32) (L_letters : Nat → Int32) (v2 : Int32) (v3 : Int32) (s : (Int32 × Int32 × Int32 × (Nat → Int32))) : Option ((Int32 × Int32 × Int32 × (Nat → Int32)) ⊕ (Int32 × (Nat → Int32))) :=
  if v2 ≤ s.2.2.1 then
  (some (.inr (0, s.2.2.2)))
  else (if v2 ≤ s.2.1 then
  (some (.inr (0, s.2.2.2)))
  else (if 240 ≤ s.1 then
  (some (.inr (0, s.2.2.2)))
  else (oI (v3 + s.2.1) 960 (oL (A_codes (v3 + s.2.1 : Int32).toNatClampNeg) fun v7_3 => if 20000 ≤ v7_3 then
  (if s.1 = 0 then
  (some (.inr (0, s.2.2.2)))
  else (if v7_3 = 30000 then
  ((oI (s.1 - 1) 240 (some (s.2.2.2 (s.1 - 1 : Int32).toNatClampNeg, s.2.2.2))).map .inr)
  else (if v7_3 < 40000 then
  (if v7_3 = 20033 then
  (oI (s.1 - 1) 240 (oI (s.1 - 1) 240 (oL (upd s.2.2.2 ((s.1 - 1 : Int32).toNatClampNeg) (1 - (s.2.2.2 (s.1 - 1 : Int32).toNatClampNeg))) fun A_stack_9 =>
  f_Laws_worth_C31_J251 A_stack_9 s.1 (s.2.1 + 1) s.2.2.1)))
  else (if s.1 < 2 then
  (f_Laws_worth_C31_J251 s.2.2.2 s.1 (s.2.1 + 1) s.2.2.1)
  else (oI ((s.1 + (-1)) - 1) 240 (oI (s.1 + (-1)) 240 ((f_Laws_joined (v7_3 - 20000) (s.2.2.2 ((s.1 + (-1)) - 1 : Int32).toNatClampNeg) (s.2.2.2 (s.1 + (-1) : Int32).toNatClampNeg)).bind fun a_7 =>
  oI ((s.1 + (-1)) - 1) 240 (oL (upd s.2.2.2 (((s.1 + (-1)) - 1 : Int32).toNatClampNeg) a_7) fun A_stack_8 =>
  f_Laws_worth_C31_J251 A_stack_8 (s.1 + (-1)) (s.2.1 + 1) s.2.2.1))))))
  else (oI (s.1 + (-1)) 240 (if (s.2.2.2 (s.1 + (-1) : Int32).toNatClampNeg) = 0 then
  (f_Laws_worth_C31_J172 s.2.2.2 (s.1 + (-1)) s.2.2.1 (v7_3 - 40000))
  else (f_Laws_worth_C31_J172 s.2.2.2 (s.1 + (-1)) s.2.2.1 (s.2.1 + 1)))))))
  else (if 10000 ≤ v7_3 then
  ((f_Laws_letterOf_C31 L_letters (v7_3 - 10000)).bind fun a_11 =>
  f_Laws_worth_C31_J110 s.2.2.2 s.1 (s.2.1 + 1) s.2.2.1 s.1 a_11)
  else (f_Laws_worth_C31_J110 s.2.2.2 s.1 (s.2.1 + 1) s.2.2.1 s.1 v7_3))))))
noncomputable def f_Laws_worth_C31_J20 (A_chosen : Int32) (A_codes : Nat → Int32) (A_stack : Nat → Int32) (L_letters : Nat → Int32) (k0 : Int32) : Option (Int32 × (Nat → Int32)) :=
  oL (A_chosen * 240) fun v3_2 => oLp (f_Laws_worth_C31_L39 A_codes L_letters k0 v3_2) (0, 0, 0, A_stack)
noncomputable def f_Laws_worth_C31 (A_size : Int32) (A_chosen : Int32) (A_codes : Nat → Int32) (A_lengths : Nat → Int32) (A_stack : Nat → Int32) (L_letters : Nat → Int32) : Option (Int32 × (Nat → Int32)) :=
  (f_Laws_anyHolds A_size A_chosen).bind fun a_1 =>
  if a_1 = 0 then
  (f_Laws_worth_C31_J20 A_chosen A_codes A_stack L_letters 0)
  else (oI A_chosen 4 (f_Laws_worth_C31_J20 A_chosen A_codes A_stack L_letters (A_lengths A_chosen.toNatClampNeg)))
noncomputable def f_Lane_flick_J137 (A_stack : Nat → Int32) (L_letters : Nat → Int32) (v4 : Int32) : Option (Int32 × (Nat → Int32) × (Nat → Int32)) :=
  some (jmax 0 (jmin 60 v4), A_stack, L_letters)
noncomputable def f_Lane_flick_J93 (A_size : Int32) (A_chosen : Int32) (A_codes : Nat → Int32) (A_lengths : Nat → Int32) (A_stack : Nat → Int32) (N_marbles : Int32) (N_day : Int32) (N_owners : Nat → Int32) (L_letters : Nat → Int32) (v1 : Int32) (k1 : Int32) (k2 : Int32) : Option (Int32 × (Nat → Int32) × (Nat → Int32)) :=
  oI k1 6 (oL (upd L_letters k1.toNatClampNeg k2) fun L_letters_11 =>
  (f_Now_handOf N_marbles N_owners v1).bind fun a_12 =>
  (f_J_bitCount a_12).bind fun a_13 =>
  oI 4 6 (oL (upd L_letters_11 ((4 : Int32).toNatClampNeg) a_13) fun L_letters_14 =>
  oI 5 6 (oL (upd L_letters_14 ((5 : Int32).toNatClampNeg) N_day) fun L_letters_15 =>
  (f_Laws_worth_C31 A_size A_chosen A_codes A_lengths A_stack L_letters_15).bind fun a_16 =>
  f_Lane_flick_J137 a_16.2 L_letters_15 a_16.1)))
noncomputable def f_Lane_flick (A_size : Int32) (A_chosen : Int32) (A_codes : Nat → Int32) (A_lengths : Nat → Int32) (A_stack : Nat → Int32) (Y_cells : Nat → Int32) (N_marbles : Int32) (N_chipped : Int32) (N_day : Int32) (N_owners : Nat → Int32) (L_letters : Nat → Int32) (p0 : Int32) (p1 : Int32) (p2 : Int32) : Option (Int32 × (Nat → Int32) × (Nat → Int32)) :=
  (f_Yard_skill Y_cells p0).bind fun a_1 =>
  (f_Yard_size Y_cells p1).bind fun a_2 =>
  oL (((2 * p2) + (a_1 / 2)) - (a_2 / 3)) fun v4_3 => (f_Laws_anyHolds A_size A_chosen).bind fun a_4 =>
  if a_4 = 0 then
  (f_Lane_flick_J137 A_stack L_letters v4_3)
  else (oI 0 6 (oL (upd L_letters ((0 : Int32).toNatClampNeg) p2) fun L_letters_5 =>
  (f_Yard_skill Y_cells p0).bind fun a_6 =>
  oI 1 6 (oL (upd L_letters_5 ((1 : Int32).toNatClampNeg) a_6) fun L_letters_7 =>
  (f_Yard_size Y_cells p1).bind fun a_8 =>
  oI 2 6 (oL (upd L_letters_7 ((2 : Int32).toNatClampNeg) a_8) fun L_letters_9 =>
  (f_Now_isChipped N_chipped p1).bind fun a_10 =>
  if a_10 = 0 then
  (f_Lane_flick_J93 A_size A_chosen A_codes A_lengths A_stack N_marbles N_day N_owners L_letters_9 p0 3 0)
  else (f_Lane_flick_J93 A_size A_chosen A_codes A_lengths A_stack N_marbles N_day N_owners L_letters_9 p0 3 1)))))
noncomputable def f_Yard_hole (Y_cells : Nat → Int32) : Option Int32 :=
  (f_Yard_cell Y_cells 0 0 0).bind fun a_1 =>
  some a_1
noncomputable def f_Yard_behind (Y_cells : Nat → Int32) : Option Int32 :=
  (f_Yard_cell Y_cells 0 0 1).bind fun a_1 =>
  some a_1
noncomputable def f_Lane_isDrain (Y_cells : Nat → Int32) (p0 : Int32) : Option Int32 :=
  (f_Yard_hole Y_cells).bind fun a_1 =>
  (f_Yard_behind Y_cells).bind fun a_2 =>
  if p0 < (a_1 + a_2) then
  (some 0)
  else (some 1)
noncomputable def f_Lane_distance (Y_cells : Nat → Int32) (p0 : Int32) : Option Int32 :=
  (f_Yard_hole Y_cells).bind fun a_1 =>
  some (jabs (p0 - a_1))
noncomputable def f_Lane_nearerOf (Y_cells : Nat → Int32) (p0 : Int32) (p1 : Int32) : Option Int32 :=
  (f_Lane_isDrain Y_cells p0).bind fun a_1 =>
  if a_1 = 0 then
  ((f_Lane_isDrain Y_cells p1).bind fun a_2 =>
  if a_2 = 0 then
  ((f_Lane_distance Y_cells p0).bind fun a_3 =>
  (f_Lane_distance Y_cells p1).bind fun a_4 =>
  if a_3 = a_4 then
  (some 0)
  else ((f_Lane_distance Y_cells p0).bind fun a_5 =>
  (f_Lane_distance Y_cells p1).bind fun a_6 =>
  if a_6 ≤ a_5 then
  (some 2)
  else (some 1)))
  else (some 0))
  else (some 0)
noncomputable def f_Now_hand (N_marbles : Int32) (N_owners : Nat → Int32) (p0 : Int32) (p1 : Int32) : Option (Nat → Int32) :=
  if p0 < 0 then
  (some N_owners)
  else (if N_marbles ≤ p0 then
  (some N_owners)
  else (oI p0 6 (oL (upd N_owners p0.toNatClampNeg p1) fun N_owners_1 =>
  some N_owners_1)))
noncomputable def f_Lane_carryOut_J87 (A_stack : Nat → Int32) (N_marbles : Int32) (N_owners : Nat → Int32) (L_letters : Nat → Int32) (v1 : Int32) (v3 : Int32) (v5 : Int32) (v6 : Int32) (v9 : Int32) : Option (Int32 × (Nat → Int32) × (Nat → Int32) × (Nat → Int32)) :=
  if v9 = 1 then
  ((f_Now_hand N_marbles N_owners v3 v5).bind fun a_9 =>
  some (v9, A_stack, a_9, L_letters))
  else (if v9 = 2 then
  ((f_Now_hand N_marbles N_owners v1 v6).bind fun a_8 =>
  some (v9, A_stack, a_8, L_letters))
  else (some (v9, A_stack, N_owners, L_letters)))
noncomputable def f_Lane_carryOut_J69 (A_stack : Nat → Int32) (Y_cells : Nat → Int32) (N_marbles : Int32) (N_owners : Nat → Int32) (L_letters : Nat → Int32) (v1 : Int32) (v3 : Int32) (v5 : Int32) (v6 : Int32) (v8 : Int32) (v9 : Int32) : Option (Int32 × (Nat → Int32) × (Nat → Int32) × (Nat → Int32)) :=
  (f_Lane_isDrain Y_cells v8).bind fun a_7 =>
  if a_7 = 0 then
  (f_Lane_carryOut_J87 A_stack N_marbles N_owners L_letters v1 v3 v5 v6 v9)
  else ((f_Now_hand N_marbles N_owners v3 ((-1))).bind fun a_10 =>
  f_Lane_carryOut_J87 A_stack N_marbles a_10 L_letters v1 v3 v5 v6 v9)
noncomputable def f_Lane_carryOut (A_size : Int32) (A_chosen : Int32) (A_codes : Nat → Int32) (A_lengths : Nat → Int32) (A_stack : Nat → Int32) (Y_cells : Nat → Int32) (N_marbles : Int32) (N_chipped : Int32) (N_day : Int32) (N_owners : Nat → Int32) (L_letters : Nat → Int32) (p0 : Int32) (p1 : Int32) (p2 : Int32) (p3 : Int32) : Option (Int32 × (Nat → Int32) × (Nat → Int32) × (Nat → Int32)) :=
  (f_Now_ownerOf N_marbles N_owners p0).bind fun a_1 =>
  (f_Now_ownerOf N_marbles N_owners p2).bind fun a_2 =>
  (f_Lane_flick A_size A_chosen A_codes A_lengths A_stack Y_cells N_marbles N_chipped N_day N_owners L_letters a_1 p0 p1).bind fun a_3 =>
  (f_Lane_flick A_size A_chosen A_codes A_lengths a_3.2.1 Y_cells N_marbles N_chipped N_day N_owners a_3.2.2 a_2 p2 p3).bind fun a_4 =>
  (f_Lane_nearerOf Y_cells a_3.1 a_4.1).bind fun a_5 =>
  (f_Lane_isDrain Y_cells a_3.1).bind fun a_6 =>
  if a_6 = 0 then
  (f_Lane_carryOut_J69 a_4.2.1 Y_cells N_marbles N_owners a_4.2.2 p0 p2 a_1 a_2 a_4.1 a_5)
  else ((f_Now_hand N_marbles N_owners p0 ((-1))).bind fun a_11 =>
  f_Lane_carryOut_J69 a_4.2.1 Y_cells N_marbles a_11 a_4.2.2 p0 p2 a_1 a_2 a_4.1 a_5)
noncomputable def f_Lane_gain (Y_cells : Nat → Int32) (p0 : Int32) (p1 : Int32) (p2 : Int32) (p3 : Int32) : Option Int32 :=
  (f_Lane_nearerOf Y_cells p0 p1).bind fun a_1 =>
  if a_1 = 1 then
  (some p3)
  else (if a_1 = 2 then
  (some (-p2))
  else ((f_Lane_isDrain Y_cells p0).bind fun a_2 =>
  if a_2 = 0 then
  (some 0)
  else (some (-p2))))
noncomputable def f_Lane_findBestAnswers_L111 (Y_cells : Nat → Int32) (L_firstCells : Nat → Int32) (L_secondCells : Nat → Int32) (v3 : Int32) (v4 : Int32) (v5 : Int32) (s : (Int32 × (Nat → Int32) × (Nat → Int32))) : Option ((Int32 × (Nat → Int32) × (Nat → Int32)) ⊕ ((Int32 × (Nat → Int32) × (Nat → Int32)) ⊕ ((Nat → Int32) × (Nat → Int32) × (Nat → Int32) × (Nat → Int32) × (Nat → Int32) × (Nat → Int32)))) :=
  if 9 < s.1 then
  ((some (.inl (v5 + 1, s.2.1, s.2.2))).map .inr)
  else (oI v5 10 (oI s.1 10 ((f_Lane_gain Y_cells (L_firstCells v5.toNatClampNeg) (L_secondCells s.1.toNatClampNeg) v3 v4).bind fun a_4 =>
  oI s.1 10 (oI v5 10 ((f_Lane_gain Y_cells (L_secondCells s.1.toNatClampNeg) (L_firstCells v5.toNatClampNeg) v4 v3).bind fun a_5 =>
  oI s.1 10 (oI s.1 10 (oL (upd s.2.1 s.1.toNatClampNeg (jmax (s.2.1 s.1.toNatClampNeg) a_4)) fun L_firstBest_6 =>
  oI v5 10 (oI v5 10 (oL (upd s.2.2 v5.toNatClampNeg (jmax (s.2.2 v5.toNatClampNeg) a_5)) fun L_secondBest_7 =>
  some (.inl (s.1 + 1, L_firstBest_6, L_secondBest_7)))))))))))
noncomputable def f_Lane_findBestAnswers_L101 (A_stack : Nat → Int32) (Y_cells : Nat → Int32) (L_letters : Nat → Int32) (L_firstCells : Nat → Int32) (L_secondCells : Nat → Int32) (v3 : Int32) (v4 : Int32) (s : (Int32 × (Nat → Int32) × (Nat → Int32))) : Option ((Int32 × (Nat → Int32) × (Nat → Int32)) ⊕ ((Nat → Int32) × (Nat → Int32) × (Nat → Int32) × (Nat → Int32) × (Nat → Int32) × (Nat → Int32))) :=
  if 9 < s.1 then
  (some (.inr (A_stack, L_letters, L_firstCells, L_secondCells, s.2.1, s.2.2)))
  else (oLp (f_Lane_findBestAnswers_L111 Y_cells L_firstCells L_secondCells v3 v4 s.1) (1, s.2.1, s.2.2))
noncomputable def f_Lane_findBestAnswers_L22 (A_size : Int32) (A_chosen : Int32) (A_codes : Nat → Int32) (A_lengths : Nat → Int32) (Y_cells : Nat → Int32) (N_marbles : Int32) (N_chipped : Int32) (N_day : Int32) (N_owners : Nat → Int32) (v1 : Int32) (v2 : Int32) (v3 : Int32) (v4 : Int32) (s : (Int32 × (Nat → Int32) × (Nat → Int32) × (Nat → Int32) × (Nat → Int32) × (Nat → Int32) × (Nat → Int32))) : Option ((Int32 × (Nat → Int32) × (Nat → Int32) × (Nat → Int32) × (Nat → Int32) × (Nat → Int32) × (Nat → Int32)) ⊕ ((Nat → Int32) × (Nat → Int32) × (Nat → Int32) × (Nat → Int32) × (Nat → Int32) × (Nat → Int32))) :=
  if 9 < s.1 then
  ((oLp (f_Lane_findBestAnswers_L101 s.2.1 Y_cells s.2.2.1 s.2.2.2.1 s.2.2.2.2.1 v3 v4) (1, s.2.2.2.2.2.1, s.2.2.2.2.2.2)).map .inr)
  else ((f_Now_ownerOf N_marbles N_owners v1).bind fun a_9 =>
  (f_Lane_flick A_size A_chosen A_codes A_lengths s.2.1 Y_cells N_marbles N_chipped N_day N_owners s.2.2.1 a_9 v1 s.1).bind fun a_10 =>
  oI s.1 10 (oL (upd s.2.2.2.1 s.1.toNatClampNeg a_10.1) fun L_firstCells_11 =>
  (f_Now_ownerOf N_marbles N_owners v2).bind fun a_12 =>
  (f_Lane_flick A_size A_chosen A_codes A_lengths a_10.2.1 Y_cells N_marbles N_chipped N_day N_owners a_10.2.2 a_12 v2 s.1).bind fun a_13 =>
  oI s.1 10 (oL (upd s.2.2.2.2.1 s.1.toNatClampNeg a_13.1) fun L_secondCells_14 =>
  oI s.1 10 (oL (upd s.2.2.2.2.2.1 s.1.toNatClampNeg (-v3)) fun L_firstBest_15 =>
  oI s.1 10 (oL (upd s.2.2.2.2.2.2 s.1.toNatClampNeg (-v4)) fun L_secondBest_16 =>
  some (.inl (s.1 + 1, a_13.2.1, a_13.2.2, L_firstCells_11, L_secondCells_14, L_firstBest_15, L_secondBest_16)))))))
noncomputable def f_Lane_findBestAnswers (A_size : Int32) (A_chosen : Int32) (A_codes : Nat → Int32) (A_lengths : Nat → Int32) (A_stack : Nat → Int32) (Y_cells : Nat → Int32) (N_marbles : Int32) (N_chipped : Int32) (N_day : Int32) (N_owners : Nat → Int32) (L_letters : Nat → Int32) (L_firstCells : Nat → Int32) (L_secondCells : Nat → Int32) (L_firstBest : Nat → Int32) (L_secondBest : Nat → Int32) (p0 : Int32) (p1 : Int32) : Option ((Nat → Int32) × (Nat → Int32) × (Nat → Int32) × (Nat → Int32) × (Nat → Int32) × (Nat → Int32)) :=
  (f_Yard_size Y_cells p0).bind fun a_1 =>
  (f_Yard_size Y_cells p1).bind fun a_2 =>
  oLp (f_Lane_findBestAnswers_L22 A_size A_chosen A_codes A_lengths Y_cells N_marbles N_chipped N_day N_owners p0 p1 a_1 a_2) (1, A_stack, L_letters, L_firstCells, L_secondCells, L_firstBest, L_secondBest)
noncomputable def f_Lane_nearestPower_J61 (A_stack : Nat → Int32) (L_letters : Nat → Int32) (v3 : Int32) (v4 : Int32) (v5 : Int32) : Option ((Int32 × Int32 × Int32 × (Nat → Int32) × (Nat → Int32)) ⊕ (Int32 × (Nat → Int32) × (Nat → Int32))) :=
  some (.inl (v3, v4, v5 + 1, A_stack, L_letters))
noncomputable def f_Lane_nearestPower_J50 (A_stack : Nat → Int32) (Y_cells : Nat → Int32) (L_letters : Nat → Int32) (v5 : Int32) (v6 : Int32) : Option ((Int32 × Int32 × Int32 × (Nat → Int32) × (Nat → Int32)) ⊕ (Int32 × (Nat → Int32) × (Nat → Int32))) :=
  (f_Lane_distance Y_cells v6).bind fun a_4 =>
  f_Lane_nearestPower_J61 A_stack L_letters v5 a_4 v5
noncomputable def f_Lane_nearestPower_L8 (A_size : Int32) (A_chosen : Int32) (A_codes : Nat → Int32) (A_lengths : Nat → Int32) (Y_cells : Nat → Int32) (N_marbles : Int32) (N_chipped : Int32) (N_day : Int32) (N_owners : Nat → Int32) (v1 : Int32) (v2 : Int32) (s : (Int32 × Int32 × Int32 × (Nat → Int32) × (Nat → Int32))) : Option ((Int32 × Int32 × Int32 × (Nat → Int32) × (Nat → Int32)) ⊕ (Int32 × (Nat → Int32) × (Nat → Int32))) :=
  if 9 < s.2.2.1 then
  (some (.inr (s.1, s.2.2.2.1, s.2.2.2.2)))
  else ((f_Lane_flick A_size A_chosen A_codes A_lengths s.2.2.2.1 Y_cells N_marbles N_chipped N_day N_owners s.2.2.2.2 v1 v2 s.2.2.1).bind fun a_1 =>
  (f_Lane_isDrain Y_cells a_1.1).bind fun a_2 =>
  if a_2 = 0 then
  (if s.1 = (-1) then
  (f_Lane_nearestPower_J50 a_1.2.1 Y_cells a_1.2.2 s.2.2.1 a_1.1)
  else ((f_Lane_distance Y_cells a_1.1).bind fun a_5 =>
  if s.2.1 ≤ a_5 then
  (f_Lane_nearestPower_J61 a_1.2.1 a_1.2.2 s.1 s.2.1 s.2.2.1)
  else (f_Lane_nearestPower_J50 a_1.2.1 Y_cells a_1.2.2 s.2.2.1 a_1.1)))
  else (f_Lane_nearestPower_J61 a_1.2.1 a_1.2.2 s.1 s.2.1 s.2.2.1))
noncomputable def f_Lane_nearestPower (A_size : Int32) (A_chosen : Int32) (A_codes : Nat → Int32) (A_lengths : Nat → Int32) (A_stack : Nat → Int32) (Y_cells : Nat → Int32) (N_marbles : Int32) (N_chipped : Int32) (N_day : Int32) (N_owners : Nat → Int32) (L_letters : Nat → Int32) (p0 : Int32) (p1 : Int32) : Option (Int32 × (Nat → Int32) × (Nat → Int32)) :=
  oLp (f_Lane_nearestPower_L8 A_size A_chosen A_codes A_lengths Y_cells N_marbles N_chipped N_day N_owners p0 p1) ((-1), 0, 1, A_stack, L_letters)
noncomputable def f_Yard_hasMarble (Y_clauses : Nat → Int32) (p0 : Int32) : Option Int32 :=
  if p0 < 0 then
  (some 0)
  else ((f_Yard_marbles Y_clauses).bind fun a_1 =>
  if a_1 ≤ p0 then
  (some 0)
  else (some 1))
noncomputable def f_Now_isSwallowed (N_swallowed : Int32) (p0 : Int32) : Option Int32 :=
  if ((N_swallowed >>> (p0 &&& 31)) &&& 1) = 0 then
  (some 0)
  else (some 1)
noncomputable def f_Now_isFree (N_marbles : Int32) (N_swallowed : Int32) (N_owners : Nat → Int32) (p0 : Int32) : Option Int32 :=
  (f_Now_isDrained N_marbles N_owners p0).bind fun a_1 =>
  if a_1 = 0 then
  ((f_Now_isSwallowed N_swallowed p0).bind fun a_2 =>
  if a_2 = 0 then
  (some 1)
  else (some 0))
  else (some 0)
noncomputable def f_Lane_refusalOf_J92 (k0 : Int32) : Option Int32 :=
  if k0 = 0 then
  (some 2)
  else (some (-1))
noncomputable def f_Lane_refusalOf_J91 : Option Int32 :=
  f_Lane_refusalOf_J92 0
noncomputable def f_Lane_refusalOf (Y_clauses : Nat → Int32) (N_marbles : Int32) (N_swallowed : Int32) (N_owners : Nat → Int32) (p0 : Int32) (p1 : Int32) (p2 : Int32) (p3 : Int32) : Option Int32 :=
  (f_Yard_hasMarble Y_clauses p0).bind fun a_1 =>
  if a_1 = 0 then
  (some 0)
  else ((f_Yard_hasMarble Y_clauses p2).bind fun a_2 =>
  if a_2 = 0 then
  (some 0)
  else (if p0 = p2 then
  (some 1)
  else ((f_Lane_isPower p1).bind fun a_3 =>
  if a_3 = 0 then
  (some 1)
  else ((f_Lane_isPower p3).bind fun a_4 =>
  if a_4 = 0 then
  (some 1)
  else ((f_Now_isFree N_marbles N_swallowed N_owners p0).bind fun a_5 =>
  if a_5 = 0 then
  (f_Lane_refusalOf_J91)
  else ((f_Now_isFree N_marbles N_swallowed N_owners p2).bind fun a_6 =>
  if a_6 = 0 then
  (f_Lane_refusalOf_J91)
  else ((f_Now_ownerOf N_marbles N_owners p0).bind fun a_7 =>
  (f_Now_ownerOf N_marbles N_owners p2).bind fun a_8 =>
  if a_7 = a_8 then
  (f_Lane_refusalOf_J91)
  else (f_Lane_refusalOf_J92 1))))))))
noncomputable def f_Lane_restingPowers_J131 (v6 : Int32) (v8 : Int32) : Option ((Int32 × Int32) ⊕ ((Int32 × Int32) ⊕ (Int32 × (Nat → Int32) × (Nat → Int32) × (Nat → Int32) × (Nat → Int32) × (Nat → Int32) × (Nat → Int32)))) :=
  some (.inl (v6, v8 + 1))
noncomputable def f_Lane_restingPowers_L42 (A_stack : Nat → Int32) (Y_cells : Nat → Int32) (L_letters : Nat → Int32) (L_firstCells : Nat → Int32) (L_secondCells : Nat → Int32) (L_firstBest : Nat → Int32) (L_secondBest : Nat → Int32) (v3 : Int32) (v4 : Int32) (v5 : Int32) (v7 : Int32) (s : (Int32 × Int32)) : Option ((Int32 × Int32) ⊕ ((Int32 × Int32) ⊕ (Int32 × (Nat → Int32) × (Nat → Int32) × (Nat → Int32) × (Nat → Int32) × (Nat → Int32) × (Nat → Int32)))) :=
  if 9 < s.2 then
  ((some (.inl (s.1, v7 + 1))).map .inr)
  else (oI v7 10 (oI s.2 10 ((f_Lane_gain Y_cells (L_firstCells v7.toNatClampNeg) (L_secondCells s.2.toNatClampNeg) v4 v5).bind fun a_5 =>
  oI s.2 10 (if a_5 = (L_firstBest s.2.toNatClampNeg) then
  (oI s.2 10 (oI v7 10 ((f_Lane_gain Y_cells (L_secondCells s.2.toNatClampNeg) (L_firstCells v7.toNatClampNeg) v5 v4).bind fun a_7 =>
  oI v7 10 (if a_7 = (L_secondBest v7.toNatClampNeg) then
  (if s.1 = v3 then
  (some (.inr (.inr ((10 * v7) + s.2, A_stack, L_letters, L_firstCells, L_secondCells, L_firstBest, L_secondBest))))
  else (f_Lane_restingPowers_J131 (s.1 + 1) s.2))
  else (f_Lane_restingPowers_J131 s.1 s.2)))))
  else (f_Lane_restingPowers_J131 s.1 s.2)))))
noncomputable def f_Lane_restingPowers_L32 (A_stack : Nat → Int32) (Y_cells : Nat → Int32) (L_letters : Nat → Int32) (L_firstCells : Nat → Int32) (L_secondCells : Nat → Int32) (L_firstBest : Nat → Int32) (L_secondBest : Nat → Int32) (v3 : Int32) (v4 : Int32) (v5 : Int32) (s : (Int32 × Int32)) : Option ((Int32 × Int32) ⊕ (Int32 × (Nat → Int32) × (Nat → Int32) × (Nat → Int32) × (Nat → Int32) × (Nat → Int32) × (Nat → Int32))) :=
  if 9 < s.2 then
  ((if v3 = (-1) then
  (some (s.1, A_stack, L_letters, L_firstCells, L_secondCells, L_firstBest, L_secondBest))
  else (some ((-1), A_stack, L_letters, L_firstCells, L_secondCells, L_firstBest, L_secondBest))).map .inr)
  else (oLp (f_Lane_restingPowers_L42 A_stack Y_cells L_letters L_firstCells L_secondCells L_firstBest L_secondBest v3 v4 v5 s.2) (s.1, 1))
noncomputable def f_Lane_restingPowers (A_size : Int32) (A_chosen : Int32) (A_codes : Nat → Int32) (A_lengths : Nat → Int32) (A_stack : Nat → Int32) (Y_cells : Nat → Int32) (N_marbles : Int32) (N_chipped : Int32) (N_day : Int32) (N_owners : Nat → Int32) (L_letters : Nat → Int32) (L_firstCells : Nat → Int32) (L_secondCells : Nat → Int32) (L_firstBest : Nat → Int32) (L_secondBest : Nat → Int32) (p0 : Int32) (p1 : Int32) (p2 : Int32) : Option (Int32 × (Nat → Int32) × (Nat → Int32) × (Nat → Int32) × (Nat → Int32) × (Nat → Int32) × (Nat → Int32)) :=
  (f_Yard_size Y_cells p0).bind fun a_1 =>
  (f_Yard_size Y_cells p1).bind fun a_2 =>
  (f_Lane_findBestAnswers A_size A_chosen A_codes A_lengths A_stack Y_cells N_marbles N_chipped N_day N_owners L_letters L_firstCells L_secondCells L_firstBest L_secondBest p0 p1).bind fun a_3 =>
  oLp (f_Lane_restingPowers_L32 a_3.1 Y_cells a_3.2.1 a_3.2.2.1 a_3.2.2.2.1 a_3.2.2.2.2.1 a_3.2.2.2.2.2 p2 a_1 a_2) (0, 1)
noncomputable def f_Lane_winnerOf (A_size : Int32) (A_chosen : Int32) (A_codes : Nat → Int32) (A_lengths : Nat → Int32) (A_stack : Nat → Int32) (Y_cells : Nat → Int32) (N_marbles : Int32) (N_chipped : Int32) (N_day : Int32) (N_owners : Nat → Int32) (L_letters : Nat → Int32) (p0 : Int32) (p1 : Int32) (p2 : Int32) (p3 : Int32) : Option (Int32 × (Nat → Int32) × (Nat → Int32)) :=
  (f_Now_ownerOf N_marbles N_owners p0).bind fun a_1 =>
  (f_Lane_flick A_size A_chosen A_codes A_lengths A_stack Y_cells N_marbles N_chipped N_day N_owners L_letters a_1 p0 p1).bind fun a_2 =>
  (f_Now_ownerOf N_marbles N_owners p2).bind fun a_3 =>
  (f_Lane_flick A_size A_chosen A_codes A_lengths a_2.2.1 Y_cells N_marbles N_chipped N_day N_owners a_2.2.2 a_3 p2 p3).bind fun a_4 =>
  (f_Lane_nearerOf Y_cells a_2.1 a_4.1).bind fun a_5 =>
  some (a_5, a_4.2.1, a_4.2.2)
noncomputable def f_Lane_winningParts_J68 (v4 : Int32) (v7 : Int32) : Option ((Int32 × Int32) ⊕ ((Int32 × Int32) ⊕ Int32)) :=
  some (.inl (v4, v7 + 1))
noncomputable def f_Lane_winningParts_L25 (Y_cells : Nat → Int32) (v1 : Int32) (v2 : Int32) (v3 : Int32) (v5 : Int32) (v6 : Int32) (s : (Int32 × Int32)) : Option ((Int32 × Int32) ⊕ ((Int32 × Int32) ⊕ Int32)) :=
  if 1 < s.2 then
  ((some (.inl (s.1, v5 + 1))).map .inr)
  else ((f_Lane_nearerOf Y_cells (jmax 0 (v1 + v5)) (jmax 0 (v2 + s.2))).bind fun a_3 =>
  if a_3 = 1 then
  ((f_Lane_partsOf v6 s.2 v3).bind fun a_5 =>
  oL (s.1 + a_5) fun v4_6 => f_Lane_winningParts_J68 v4_6 s.2)
  else (f_Lane_winningParts_J68 s.1 s.2))
noncomputable def f_Lane_winningParts_L6 (Y_cells : Nat → Int32) (v1 : Int32) (v2 : Int32) (v3 : Int32) (s : (Int32 × Int32)) : Option ((Int32 × Int32) ⊕ Int32) :=
  if 1 < s.2 then
  (some (.inr s.1))
  else ((f_Lane_partsOf 1000000000 s.2 v3).bind fun a_1 =>
  oLp (f_Lane_winningParts_L25 Y_cells v1 v2 v3 s.2 a_1) (s.1, (-1)))
noncomputable def f_Lane_winningParts (Y_cells : Nat → Int32) (p0 : Int32) (p1 : Int32) (p2 : Int32) : Option Int32 :=
  oLp (f_Lane_winningParts_L6 Y_cells p0 p1 p2) (0, (-1))
noncomputable def f_Yard_hasBoy (Y_clauses : Nat → Int32) (p0 : Int32) : Option Int32 :=
  if p0 < 0 then
  (some 0)
  else ((f_Yard_boys Y_clauses).bind fun a_1 =>
  if a_1 ≤ p0 then
  (some 0)
  else (some 1))
noncomputable def f_Main_aim (A_size : Int32) (A_chosen : Int32) (A_codes : Nat → Int32) (A_lengths : Nat → Int32) (A_stack : Nat → Int32) (Y_cells : Nat → Int32) (Y_clauses : Nat → Int32) (N_marbles : Int32) (N_chipped : Int32) (N_day : Int32) (N_owners : Nat → Int32) (L_letters : Nat → Int32) (p0 : Int32) (p1 : Int32) : Option (Int32 × (Nat → Int32) × (Nat → Int32)) :=
  (f_Yard_hasBoy Y_clauses p0).bind fun a_1 =>
  if a_1 = 0 then
  (some ((-1), A_stack, L_letters))
  else ((f_Yard_hasMarble Y_clauses p1).bind fun a_2 =>
  if a_2 = 0 then
  (some ((-1), A_stack, L_letters))
  else ((f_Lane_nearestPower A_size A_chosen A_codes A_lengths A_stack Y_cells N_marbles N_chipped N_day N_owners L_letters p0 p1).bind fun a_3 =>
  some (a_3.1, a_3.2.1, a_3.2.2)))
noncomputable def f_Yard_stands (Y_clauses : Nat → Int32) : Option Int32 :=
  (f_Yard_marbles Y_clauses).bind fun a_1 =>
  if a_1 ≤ 0 then
  (some 0)
  else (some 1)
noncomputable def f_Yard_farms (Y_clauses : Nat → Int32) : Option Int32 :=
  oI 3 4 (some (Y_clauses (3 : Int32).toNatClampNeg))
noncomputable def f_Yard_farmPlace (Y_cells : Nat → Int32) (p0 : Int32) : Option Int32 :=
  (f_Yard_cell Y_cells 3 p0 0).bind fun a_1 =>
  some a_1
noncomputable def f_Sky_isInhabited_L2 (Y_cells : Nat → Int32) (Y_clauses : Nat → Int32) (v1 : Int32) (s : Int32) : Option (Int32 ⊕ Int32) :=
  (f_Yard_boys Y_clauses).bind fun a_1 =>
  if a_1 ≤ s then
  (some (.inr 0))
  else ((f_Yard_boyPlace Y_cells s).bind fun a_2 =>
  if a_2 = v1 then
  (some (.inr 1))
  else (some (.inl (s + 1))))
noncomputable def f_Sky_isInhabited (Y_cells : Nat → Int32) (Y_clauses : Nat → Int32) (p0 : Int32) : Option Int32 :=
  oLp (f_Sky_isInhabited_L2 Y_cells Y_clauses p0) 0
noncomputable def f_Yard_wanted (Y_cells : Nat → Int32) (p0 : Int32) : Option Int32 :=
  (f_Yard_cell Y_cells 3 p0 1).bind fun a_1 =>
  some a_1
noncomputable def f_Sky_isTorn_J53 (v2 : Int32) : Option (Int32 ⊕ Int32) :=
  some (.inl (v2 + 1))
noncomputable def f_Sky_isTorn_L2 (Y_cells : Nat → Int32) (Y_clauses : Nat → Int32) (v1 : Int32) (s : Int32) : Option (Int32 ⊕ Int32) :=
  (f_Yard_farms Y_clauses).bind fun a_1 =>
  if a_1 ≤ s then
  (some (.inr 0))
  else ((f_Yard_farmPlace Y_cells s).bind fun a_2 =>
  (f_Yard_farmPlace Y_cells v1).bind fun a_3 =>
  if a_2 = a_3 then
  ((f_Yard_wanted Y_cells s).bind fun a_5 =>
  (f_Yard_wanted Y_cells v1).bind fun a_6 =>
  if a_5 = a_6 then
  (f_Sky_isTorn_J53 s)
  else (some (.inr 1)))
  else (f_Sky_isTorn_J53 s))
noncomputable def f_Sky_isTorn (Y_cells : Nat → Int32) (Y_clauses : Nat → Int32) (p0 : Int32) : Option Int32 :=
  oLp (f_Sky_isTorn_L2 Y_cells Y_clauses p0) 0
noncomputable def f_Sky_isTooRare_J114 (v4 : Int32) (k0 : Int32) (k1 : Int32) : Option ((Int32 × Int32) ⊕ Int32) :=
  oL (k0 + k1) fun v3_5 => some (.inl (v3_5, v4 + 1))
noncomputable def f_Sky_isTooRare_J113 (v4 : Int32) (k0 : Int32) : Option ((Int32 × Int32) ⊕ Int32) :=
  f_Sky_isTooRare_J114 v4 k0 0
noncomputable def f_Sky_isTooRare_L55 (Y_cells : Nat → Int32) (Y_clauses : Nat → Int32) (N_marbles : Int32) (N_chipped : Int32) (N_owners : Nat → Int32) (v1 : Int32) (v2 : Int32) (s : (Int32 × Int32)) : Option ((Int32 × Int32) ⊕ Int32) :=
  (f_Yard_marbles Y_clauses).bind fun a_2 =>
  if a_2 ≤ s.2 then
  (((f_J_bitCount v2).bind fun a_3 =>
  if a_3 ≤ s.1 then
  (some 0)
  else (some 1)).map .inr)
  else ((f_Yard_kind Y_cells s.2).bind fun a_4 =>
  if a_4 = v1 then
  ((f_Now_isDrained N_marbles N_owners s.2).bind fun a_7 =>
  if a_7 = 0 then
  ((f_Now_soundSize_C13 Y_cells N_chipped s.2).bind fun a_8 =>
  if a_8 ≤ 0 then
  (f_Sky_isTooRare_J113 s.2 s.1)
  else (f_Sky_isTooRare_J114 s.2 s.1 1))
  else (f_Sky_isTooRare_J113 s.2 s.1))
  else (f_Sky_isTooRare_J113 s.2 s.1))
noncomputable def f_Sky_isTooRare_J42 (v3 : Int32) (k0 : Int32) (k1 : Int32) : Option ((Int32 × Int32) ⊕ Int32) :=
  oL (k0 ||| k1) fun v2_10 => some (.inl (v2_10, v3 + 1))
noncomputable def f_Sky_isTooRare_L4 (Y_cells : Nat → Int32) (Y_clauses : Nat → Int32) (N_marbles : Int32) (N_chipped : Int32) (N_owners : Nat → Int32) (v1 : Int32) (s : (Int32 × Int32)) : Option ((Int32 × Int32) ⊕ Int32) :=
  (f_Yard_farms Y_clauses).bind fun a_1 =>
  if a_1 ≤ s.2 then
  ((oLp (f_Sky_isTooRare_L55 Y_cells Y_clauses N_marbles N_chipped N_owners v1 s.1) (0, 0)).map .inr)
  else ((f_Yard_wanted Y_cells s.2).bind fun a_9 =>
  if a_9 = v1 then
  ((f_Yard_farmPlace Y_cells s.2).bind fun a_12 =>
  f_Sky_isTooRare_J42 s.2 s.1 (1 <<< (a_12 &&& 31)))
  else (f_Sky_isTooRare_J42 s.2 s.1 0))
noncomputable def f_Sky_isTooRare (Y_cells : Nat → Int32) (Y_clauses : Nat → Int32) (N_marbles : Int32) (N_chipped : Int32) (N_owners : Nat → Int32) (p0 : Int32) : Option Int32 :=
  oLp (f_Sky_isTooRare_L4 Y_cells Y_clauses N_marbles N_chipped N_owners p0) (0, 0)
noncomputable def f_Sky_isHopeless_L2 (Y_cells : Nat → Int32) (Y_clauses : Nat → Int32) (N_marbles : Int32) (N_chipped : Int32) (N_owners : Nat → Int32) (s : Int32) : Option (Int32 ⊕ Int32) :=
  (f_Yard_farms Y_clauses).bind fun a_1 =>
  if a_1 ≤ s then
  (some (.inr 0))
  else ((f_Yard_farmPlace Y_cells s).bind fun a_2 =>
  (f_Sky_isInhabited Y_cells Y_clauses a_2).bind fun a_3 =>
  if a_3 = 0 then
  (some (.inr 1))
  else ((f_Sky_isTorn Y_cells Y_clauses s).bind fun a_4 =>
  if a_4 = 0 then
  ((f_Yard_wanted Y_cells s).bind fun a_5 =>
  (f_Sky_isTooRare Y_cells Y_clauses N_marbles N_chipped N_owners a_5).bind fun a_6 =>
  if a_6 = 0 then
  (some (.inl (s + 1)))
  else (some (.inr 1)))
  else (some (.inr 1))))
noncomputable def f_Sky_isHopeless (Y_cells : Nat → Int32) (Y_clauses : Nat → Int32) (N_marbles : Int32) (N_chipped : Int32) (N_owners : Nat → Int32) : Option Int32 :=
  oLp (f_Sky_isHopeless_L2 Y_cells Y_clauses N_marbles N_chipped N_owners) 0
noncomputable def f_Sky_areAllContent_L2 (Y_cells : Nat → Int32) (Y_clauses : Nat → Int32) (S_strengths : Nat → Int32) (s : Int32) : Option (Int32 ⊕ Int32) :=
  (f_Yard_farms Y_clauses).bind fun a_1 =>
  if a_1 ≤ s then
  (some (.inr 1))
  else ((f_Yard_farmPlace Y_cells s).bind fun a_2 =>
  (f_Sky_strongestKind S_strengths a_2).bind fun a_3 =>
  (f_Yard_wanted Y_cells s).bind fun a_4 =>
  if a_3 = a_4 then
  (some (.inl (s + 1)))
  else (some (.inr 0)))
noncomputable def f_Sky_areAllContent (Y_cells : Nat → Int32) (Y_clauses : Nat → Int32) (S_strengths : Nat → Int32) : Option Int32 :=
  oLp (f_Sky_areAllContent_L2 Y_cells Y_clauses S_strengths) 0
noncomputable def f_Sky_isFirstElsewhere_L2 (Y_cells : Nat → Int32) (v1 : Int32) (v2 : Int32) (s : Int32) : Option (Int32 ⊕ Int32) :=
  if v1 ≤ s then
  (((f_Yard_boyPlace Y_cells v1).bind fun a_1 =>
  if a_1 = v2 then
  (some 0)
  else (some 1)).map .inr)
  else ((f_Yard_boyPlace Y_cells s).bind fun a_2 =>
  (f_Yard_boyPlace Y_cells v1).bind fun a_3 =>
  if a_2 = a_3 then
  (some (.inr 0))
  else (some (.inl (s + 1))))
noncomputable def f_Sky_isFirstElsewhere (Y_cells : Nat → Int32) (p0 : Int32) (p1 : Int32) : Option Int32 :=
  oLp (f_Sky_isFirstElsewhere_L2 Y_cells p0 p1) 0
noncomputable def f_Sky_tryOwners_J26 (Y_cells : Nat → Int32) (Y_clauses : Nat → Int32) (S_fewest : Int32) (S_row : Int32) (S_strengths : Nat → Int32) (v2 : Int32) (v3 : Int32) : Option (Int32 × Int32 × (Nat → Int32)) :=
  (f_Sky_areAllContent Y_cells Y_clauses S_strengths).bind fun a_2 =>
  if a_2 = 0 then
  (some (S_fewest, S_row, S_strengths))
  else (some (v2, v3, S_strengths))
noncomputable def f_Sky_tryOwners_J181 (S_fewest : Int32) (S_row : Int32) (S_strengths : Nat → Int32) (v5 : Int32) : Option ((Int32 × Int32 × Int32 × (Nat → Int32)) ⊕ (Int32 × Int32 × (Nat → Int32))) :=
  some (.inl (v5 + 1, S_fewest, S_row, S_strengths))
noncomputable def f_Sky_tryOwners_J164 (RR : (Nat → Int32) → (Nat → Int32) → Int32 → Int32 → Int32 → (Nat → Int32) → Int32 → Int32 → (Nat → Int32) → Int32 → Int32 → Int32 → Option (Int32 × Int32 × (Nat → Int32))) (Y_cells : Nat → Int32) (Y_clauses : Nat → Int32) (N_marbles : Int32) (N_chipped : Int32) (N_swallowed : Int32) (N_owners : Nat → Int32) (S_fewest : Int32) (S_row : Int32) (S_strengths : Nat → Int32) (v1 : Int32) (v3 : Int32) (v5 : Int32) (k1 : Int32) (k2 : Int32) : Option ((Int32 × Int32 × Int32 × (Nat → Int32)) ⊕ (Int32 × Int32 × (Nat → Int32))) :=
  (RR Y_cells Y_clauses N_marbles N_chipped N_swallowed N_owners S_fewest S_row S_strengths k1 k2 ((v3 * 10) + v5)).bind fun a_9 =>
  (f_Sky_lift Y_cells N_chipped a_9.2.2 v1 v5).bind fun a_10 =>
  f_Sky_tryOwners_J181 a_9.1 a_9.2.1 a_10 v5
noncomputable def f_Sky_tryOwners_J139 (RR : (Nat → Int32) → (Nat → Int32) → Int32 → Int32 → Int32 → (Nat → Int32) → Int32 → Int32 → (Nat → Int32) → Int32 → Int32 → Int32 → Option (Int32 × Int32 × (Nat → Int32))) (Y_cells : Nat → Int32) (Y_clauses : Nat → Int32) (N_marbles : Int32) (N_chipped : Int32) (N_swallowed : Int32) (N_owners : Nat → Int32) (S_fewest : Int32) (S_row : Int32) (S_strengths : Nat → Int32) (v1 : Int32) (v2 : Int32) (v3 : Int32) (v4 : Int32) (v5 : Int32) : Option ((Int32 × Int32 × Int32 × (Nat → Int32)) ⊕ (Int32 × Int32 × (Nat → Int32))) :=
  (f_Sky_put Y_cells N_chipped S_strengths v1 v5).bind fun a_8 =>
  if v5 = v4 then
  (f_Sky_tryOwners_J164 RR Y_cells Y_clauses N_marbles N_chipped N_swallowed N_owners S_fewest S_row a_8 v1 v3 v5 (v1 + 1) v2)
  else (f_Sky_tryOwners_J164 RR Y_cells Y_clauses N_marbles N_chipped N_swallowed N_owners S_fewest S_row a_8 v1 v3 v5 (v1 + 1) (v2 + 1))
noncomputable def f_Sky_tryOwners_L102 (RR : (Nat → Int32) → (Nat → Int32) → Int32 → Int32 → Int32 → (Nat → Int32) → Int32 → Int32 → (Nat → Int32) → Int32 → Int32 → Int32 → Option (Int32 × Int32 × (Nat → Int32))) (Y_cells : Nat → Int32) (Y_clauses : Nat → Int32) (N_marbles : Int32) (N_chipped : Int32) (N_swallowed : Int32) (N_owners : Nat → Int32) (v1 : Int32) (v2 : Int32) (v3 : Int32) (v4 : Int32) (s : (Int32 × Int32 × Int32 × (Nat → Int32))) : Option ((Int32 × Int32 × Int32 × (Nat → Int32)) ⊕ (Int32 × Int32 × (Nat → Int32))) :=
  (f_Yard_boys Y_clauses).bind fun a_6 =>
  if a_6 ≤ s.1 then
  (((f_Sky_put Y_cells N_chipped s.2.2.2 v1 v4).bind fun a_7 =>
  some (s.2.1, s.2.2.1, a_7)).map .inr)
  else (if s.1 = v4 then
  (f_Sky_tryOwners_J139 RR Y_cells Y_clauses N_marbles N_chipped N_swallowed N_owners s.2.1 s.2.2.1 s.2.2.2 v1 v2 v3 v4 s.1)
  else ((f_Yard_boyPlace Y_cells v4).bind fun a_12 =>
  (f_Sky_isFirstElsewhere Y_cells s.1 a_12).bind fun a_13 =>
  if a_13 = 0 then
  (f_Sky_tryOwners_J181 s.2.1 s.2.2.1 s.2.2.2 s.1)
  else (f_Sky_tryOwners_J139 RR Y_cells Y_clauses N_marbles N_chipped N_swallowed N_owners s.2.1 s.2.2.1 s.2.2.2 v1 v2 v3 v4 s.1)))
noncomputable def f_Sky_tryOwners_J87 (RR : (Nat → Int32) → (Nat → Int32) → Int32 → Int32 → Int32 → (Nat → Int32) → Int32 → Int32 → (Nat → Int32) → Int32 → Int32 → Int32 → Option (Int32 × Int32 × (Nat → Int32))) (Y_cells : Nat → Int32) (Y_clauses : Nat → Int32) (N_marbles : Int32) (N_chipped : Int32) (N_swallowed : Int32) (N_owners : Nat → Int32) (S_fewest : Int32) (S_row : Int32) (S_strengths : Nat → Int32) (k1 : Int32) (k2 : Int32) (k3 : Int32) (k4 : Int32) : Option (Int32 × Int32 × (Nat → Int32)) :=
  (RR Y_cells Y_clauses N_marbles N_chipped N_swallowed N_owners S_fewest S_row S_strengths k1 k2 (k3 + k4)).bind fun a_14 =>
  some (a_14.1, a_14.2.1, a_14.2.2)
noncomputable def f_Sky_tryOwnersB (RR : (Nat → Int32) → (Nat → Int32) → Int32 → Int32 → Int32 → (Nat → Int32) → Int32 → Int32 → (Nat → Int32) → Int32 → Int32 → Int32 → Option (Int32 × Int32 × (Nat → Int32))) (Y_cells : Nat → Int32) (Y_clauses : Nat → Int32) (N_marbles : Int32) (N_chipped : Int32) (N_swallowed : Int32) (N_owners : Nat → Int32) (S_fewest : Int32) (S_row : Int32) (S_strengths : Nat → Int32) (p0 : Int32) (p1 : Int32) (p2 : Int32) : Option (Int32 × Int32 × (Nat → Int32)) :=
  if p1 < S_fewest then
  ((f_Yard_marbles Y_clauses).bind fun a_1 =>
  if a_1 ≤ p0 then
  (f_Sky_tryOwners_J26 Y_cells Y_clauses S_fewest S_row S_strengths p1 p2)
  else (if p0 < 6 then
  ((f_Now_ownerOf N_marbles N_owners p0).bind fun a_3 =>
  (f_Now_isFree N_marbles N_swallowed N_owners p0).bind fun a_4 =>
  if a_4 = 0 then
  (if a_3 = (-1) then
  (f_Sky_tryOwners_J87 RR Y_cells Y_clauses N_marbles N_chipped N_swallowed N_owners S_fewest S_row S_strengths (p0 + 1) p1 (p2 * 10) 9)
  else (f_Sky_tryOwners_J87 RR Y_cells Y_clauses N_marbles N_chipped N_swallowed N_owners S_fewest S_row S_strengths (p0 + 1) p1 (p2 * 10) a_3))
  else ((f_Sky_lift Y_cells N_chipped S_strengths p0 a_3).bind fun a_5 =>
  oLp (f_Sky_tryOwners_L102 RR Y_cells Y_clauses N_marbles N_chipped N_swallowed N_owners p0 p1 p2 a_3) (0, S_fewest, S_row, a_5)))
  else (f_Sky_tryOwners_J26 Y_cells Y_clauses S_fewest S_row S_strengths p1 p2)))
  else (some (S_fewest, S_row, S_strengths))
noncomputable def f_Sky_tryOwners : Nat → (Nat → Int32) → (Nat → Int32) → Int32 → Int32 → Int32 → (Nat → Int32) → Int32 → Int32 → (Nat → Int32) → Int32 → Int32 → Int32 → Option (Int32 × Int32 × (Nat → Int32))
  | 0 => fun _ _ _ _ _ _ _ _ _ _ _ _ => none
  | n + 1 => f_Sky_tryOwnersB (f_Sky_tryOwners n)
noncomputable def f_Sky_findArrangement (Y_cells : Nat → Int32) (Y_clauses : Nat → Int32) (N_marbles : Int32) (N_chipped : Int32) (N_swallowed : Int32) (N_owners : Nat → Int32) (S_fewest : Int32) (S_row : Int32) (S_strengths : Nat → Int32) : Option (Int32 × Int32 × Int32 × (Nat → Int32)) :=
  (f_Sky_isHopeless Y_cells Y_clauses N_marbles N_chipped N_owners).bind fun a_1 =>
  if a_1 = 0 then
  ((f_Sky_measure Y_cells Y_clauses N_marbles N_chipped N_owners S_strengths).bind fun a_2 =>
  (f_Sky_tryOwners 8 Y_cells Y_clauses N_marbles N_chipped N_swallowed N_owners 7 ((-1)) a_2 0 0 0).bind fun a_3 =>
  if a_3.2.1 = (-1) then
  (some (0, a_3.1, a_3.2.1, a_3.2.2))
  else (some (1, a_3.1, a_3.2.1, a_3.2.2)))
  else (some (0, 7, (-1), S_strengths))
noncomputable def f_Sky_fewestChanges (S_fewest : Int32) : Option Int32 :=
  some S_fewest
noncomputable def f_Sky_leastRow (S_row : Int32) : Option Int32 :=
  some S_row
noncomputable def f_Main_arrange (Y_cells : Nat → Int32) (Y_clauses : Nat → Int32) (N_marbles : Int32) (N_chipped : Int32) (N_swallowed : Int32) (N_owners : Nat → Int32) (S_fewest : Int32) (S_row : Int32) (S_strengths : Nat → Int32) (p0 : Int32) : Option (Int32 × Int32 × Int32 × (Nat → Int32)) :=
  (f_Yard_stands Y_clauses).bind fun a_1 =>
  if a_1 = 0 then
  (some ((-1), S_fewest, S_row, S_strengths))
  else (if p0 < 0 then
  (some ((-1), S_fewest, S_row, S_strengths))
  else (if p0 ≤ 1 then
  ((f_Sky_findArrangement Y_cells Y_clauses N_marbles N_chipped N_swallowed N_owners S_fewest S_row S_strengths).bind fun a_2 =>
  if a_2.1 = 0 then
  (some ((-1), a_2.2.1, a_2.2.2.1, a_2.2.2.2))
  else (if p0 = 0 then
  ((f_Sky_fewestChanges a_2.2.1).bind fun a_4 =>
  some (a_4, a_2.2.1, a_2.2.2.1, a_2.2.2.2))
  else ((f_Sky_leastRow a_2.2.2.1).bind fun a_3 =>
  some (a_3, a_2.2.1, a_2.2.2.1, a_2.2.2.2))))
  else (some ((-1), S_fewest, S_row, S_strengths))))
noncomputable def f_Now_unpack_L2 (N_marbles : Int32) (v1 : Int64) (s : (Int32 × (Nat → Int32))) : Option ((Int32 × (Nat → Int32)) ⊕ (Int32 × Int32 × Int32 × Int32 × (Nat → Int32))) :=
  if N_marbles ≤ s.1 then
  ((oL ((((v1.toUInt64 >>> ((18 : Int32).toInt64.toUInt64 &&& Int64.toUInt64 63)).toInt64) &&& 63 : Int64).toInt32) fun N_chipped_1 =>
  oL ((((v1.toUInt64 >>> ((24 : Int32).toInt64.toUInt64 &&& Int64.toUInt64 63)).toInt64) &&& 63 : Int64).toInt32) fun N_swallowed_2 =>
  oL ((((v1.toUInt64 >>> ((30 : Int32).toInt64.toUInt64 &&& Int64.toUInt64 63)).toInt64) &&& 1023 : Int64).toInt32) fun N_sweets_3 =>
  oL (((v1.toUInt64 >>> ((40 : Int32).toInt64.toUInt64 &&& Int64.toUInt64 63)).toInt64 : Int64).toInt32) fun N_day_4 =>
  some (N_chipped_1, N_swallowed_2, N_sweets_3, N_day_4, s.2)).map .inr)
  else (oI s.1 6 (oL (upd s.2 s.1.toNatClampNeg (((((v1.toUInt64 >>> ((3 * s.1).toInt64.toUInt64 &&& Int64.toUInt64 63)).toInt64) &&& 7 : Int64).toInt32) - 1)) fun N_owners_5 =>
  some (.inl (s.1 + 1, N_owners_5))))
noncomputable def f_Now_unpack (N_marbles : Int32) (N_chipped : Int32) (N_swallowed : Int32) (N_sweets : Int32) (N_day : Int32) (N_owners : Nat → Int32) (p0 : Int64) : Option (Int32 × Int32 × Int32 × Int32 × (Nat → Int32)) :=
  oLp (f_Now_unpack_L2 N_marbles p0) (0, N_owners)
noncomputable def f_Past_logLength (N_day : Int32) : Option Int32 :=
  some (jmin N_day 60)
noncomputable def f_Past_ringIndex (N_day : Int32) (p0 : Int32) : Option Int32 :=
  some (((N_day - 1) - p0) &&& 127)
noncomputable def f_Past_restoreImage_L22 (N_chipped : Int32) (N_swallowed : Int32) (N_sweets : Int32) (N_day : Int32) (N_owners : Nat → Int32) (P_imageEntries : Nat → Int32) (s : (Int32 × (Nat → Int32))) : Option ((Int32 × (Nat → Int32)) ⊕ (Int32 × Int32 × Int32 × Int32 × Int32 × (Nat → Int32) × Int32 × (Nat → Int32))) :=
  (f_Past_logLength N_day).bind fun a_2 =>
  if a_2 ≤ s.1 then
  ((some (1, N_chipped, N_swallowed, N_sweets, N_day, N_owners, 0, s.2)).map .inr)
  else ((f_Past_ringIndex N_day s.1).bind fun a_3 =>
  oI s.1 60 (oI a_3 128 (oL (upd s.2 a_3.toNatClampNeg (P_imageEntries s.1.toNatClampNeg)) fun P_entries_4 =>
  some (.inl (s.1 + 1, P_entries_4)))))
noncomputable def f_Past_restoreImage (N_marbles : Int32) (N_chipped : Int32) (N_swallowed : Int32) (N_sweets : Int32) (N_day : Int32) (N_owners : Nat → Int32) (P_kept : Int32) (P_hasImage : Int32) (P_image : Int64) (P_entries : Nat → Int32) (P_imageEntries : Nat → Int32) : Option (Int32 × Int32 × Int32 × Int32 × Int32 × (Nat → Int32) × Int32 × (Nat → Int32)) :=
  if P_hasImage = 0 then
  (some (0, N_chipped, N_swallowed, N_sweets, N_day, N_owners, P_kept, P_entries))
  else ((f_Now_unpack N_marbles N_chipped N_swallowed N_sweets N_day N_owners P_image).bind fun a_1 =>
  oLp (f_Past_restoreImage_L22 a_1.1 a_1.2.1 a_1.2.2.1 a_1.2.2.2.1 a_1.2.2.2.2 P_imageEntries) (0, P_entries))
noncomputable def f_Main_back (N_marbles : Int32) (N_chipped : Int32) (N_swallowed : Int32) (N_sweets : Int32) (N_day : Int32) (N_owners : Nat → Int32) (P_kept : Int32) (P_hasImage : Int32) (P_image : Int64) (P_entries : Nat → Int32) (P_imageEntries : Nat → Int32) : Option (Int32 × Int32 × Int32 × Int32 × Int32 × (Nat → Int32) × Int32 × (Nat → Int32)) :=
  (f_Past_restoreImage N_marbles N_chipped N_swallowed N_sweets N_day N_owners P_kept P_hasImage P_image P_entries P_imageEntries).bind fun a_1 =>
  if a_1.1 = 0 then
  (some ((-1), a_1.2.1, a_1.2.2.1, a_1.2.2.2.1, a_1.2.2.2.2.1, a_1.2.2.2.2.2.1, a_1.2.2.2.2.2.2.1, a_1.2.2.2.2.2.2.2))
  else (some (a_1.2.2.2.2.1, a_1.2.1, a_1.2.2.1, a_1.2.2.2.1, a_1.2.2.2.2.1, a_1.2.2.2.2.2.1, a_1.2.2.2.2.2.2.1, a_1.2.2.2.2.2.2.2))
noncomputable def f_Main_best (Y_cells : Nat → Int32) (Y_clauses : Nat → Int32) (N_marbles : Int32) (N_chipped : Int32) (N_owners : Nat → Int32) (S_strengths : Nat → Int32) (U_size : Int32) (U_found : Int32) (U_places : Nat → Int32) (U_kinds : Nat → Int32) (U_holds : Nat → Int32) (U_fitting : Nat → Int32) (U_tally : Nat → Int32) : Option (Int32 × (Nat → Int32) × Int32 × (Nat → Int32) × (Nat → Int32)) :=
  (f_Yard_stands Y_clauses).bind fun a_1 =>
  if a_1 = 0 then
  (some ((-1), S_strengths, U_found, U_fitting, U_tally))
  else ((f_Clues_placeToLook Y_cells Y_clauses N_marbles N_chipped N_owners S_strengths U_size U_found U_places U_kinds U_holds U_fitting U_tally).bind fun a_2 =>
  some (a_2.1, a_2.2.1, a_2.2.2.1, a_2.2.2.2.1, a_2.2.2.2.2))
noncomputable def f_Main_likingFor_J63 (v4 : Int32) (k0 : Int32) (k1 : Int32) : Option ((Int32 × Int32) ⊕ Int32) :=
  oL (k0 ||| k1) fun v3_5 => some (.inl (v3_5, v4 + 1))
noncomputable def f_Main_likingFor_J62 (v4 : Int32) (k0 : Int32) : Option ((Int32 × Int32) ⊕ Int32) :=
  f_Main_likingFor_J63 v4 k0 0
noncomputable def f_Main_likingFor_L5 (Y_cells : Nat → Int32) (Y_clauses : Nat → Int32) (N_chipped : Int32) (v1 : Int32) (v2 : Int32) (s : (Int32 × Int32)) : Option ((Int32 × Int32) ⊕ Int32) :=
  (f_Yard_farms Y_clauses).bind fun a_1 =>
  if a_1 ≤ s.2 then
  (((f_Now_soundSize_C13 Y_cells N_chipped v2).bind fun a_2 =>
  if s.1 = 0 then
  (some (a_2 + 0))
  else (some (a_2 + 5))).map .inr)
  else ((f_Yard_farmPlace Y_cells s.2).bind fun a_3 =>
  (f_Yard_boyPlace Y_cells v1).bind fun a_4 =>
  if a_3 = a_4 then
  ((f_Yard_wanted Y_cells s.2).bind fun a_7 =>
  (f_Yard_kind Y_cells v2).bind fun a_8 =>
  if a_7 = a_8 then
  (f_Main_likingFor_J63 s.2 s.1 1)
  else (f_Main_likingFor_J62 s.2 s.1))
  else (f_Main_likingFor_J62 s.2 s.1))
noncomputable def f_Main_likingFor (Y_cells : Nat → Int32) (Y_clauses : Nat → Int32) (N_chipped : Int32) (p0 : Int32) (p1 : Int32) : Option Int32 :=
  oLp (f_Main_likingFor_L5 Y_cells Y_clauses N_chipped p0 p1) (0, 0)
noncomputable def f_Main_bothWouldSwap (Y_cells : Nat → Int32) (Y_clauses : Nat → Int32) (N_marbles : Int32) (N_chipped : Int32) (N_swallowed : Int32) (N_owners : Nat → Int32) (p0 : Int32) (p1 : Int32) : Option Int32 :=
  (f_Lane_refusalOf Y_clauses N_marbles N_swallowed N_owners p0 1 p1 1).bind fun a_1 =>
  if a_1 = (-1) then
  ((f_Now_ownerOf N_marbles N_owners p0).bind fun a_2 =>
  (f_Now_ownerOf N_marbles N_owners p1).bind fun a_3 =>
  (f_Main_likingFor Y_cells Y_clauses N_chipped a_2 p1).bind fun a_4 =>
  (f_Main_likingFor Y_cells Y_clauses N_chipped a_2 p0).bind fun a_5 =>
  if a_4 ≤ a_5 then
  (some 0)
  else ((f_Main_likingFor Y_cells Y_clauses N_chipped a_3 p0).bind fun a_6 =>
  (f_Main_likingFor Y_cells Y_clauses N_chipped a_3 p1).bind fun a_7 =>
  if a_6 ≤ a_7 then
  (some 0)
  else (some 1)))
  else (some 0)
noncomputable def f_Main_boy_J20 : Option Int32 :=
  none
noncomputable def f_Main_boy (Y_cells : Nat → Int32) (Y_clauses : Nat → Int32) (N_marbles : Int32) (N_owners : Nat → Int32) (p0 : Int32) (p1 : Int32) : Option Int32 :=
  (f_Yard_hasBoy Y_clauses p0).bind fun a_1 =>
  if a_1 = 0 then
  (f_Main_boy_J20)
  else (if p1 < 0 then
  (f_Main_boy_J20)
  else (if p1 ≤ 2 then
  (if p1 = 0 then
  ((f_Yard_skill Y_cells p0).bind fun a_5 =>
  some a_5)
  else (if p1 = 1 then
  ((f_Yard_boyPlace Y_cells p0).bind fun a_4 =>
  some a_4)
  else ((f_Now_handOf N_marbles N_owners p0).bind fun a_2 =>
  (f_J_bitCount a_2).bind fun a_3 =>
  some a_3)))
  else (f_Main_boy_J20)))
noncomputable def f_Main_greatestOf_J64 (v2 : Int32) (v3 : Int32) : Option ((Int32 × Int32) ⊕ Int32) :=
  some (.inl (v2, v3 + 1))
noncomputable def f_Main_greatestOf_J62 (v3 : Int32) : Option ((Int32 × Int32) ⊕ Int32) :=
  f_Main_greatestOf_J64 v3 v3
noncomputable def f_Main_greatestOf_L4 (Y_cells : Nat → Int32) (Y_clauses : Nat → Int32) (N_marbles : Int32) (N_swallowed : Int32) (N_owners : Nat → Int32) (v1 : Int32) (s : (Int32 × Int32)) : Option ((Int32 × Int32) ⊕ Int32) :=
  (f_Yard_marbles Y_clauses).bind fun a_1 =>
  if a_1 ≤ s.2 then
  (some (.inr s.1))
  else ((f_Now_ownerOf N_marbles N_owners s.2).bind fun a_2 =>
  if a_2 = v1 then
  ((f_Now_isSwallowed N_swallowed s.2).bind fun a_4 =>
  if a_4 = 0 then
  (if s.1 = (-1) then
  (f_Main_greatestOf_J62 s.2)
  else ((f_Yard_size Y_cells s.2).bind fun a_5 =>
  (f_Yard_size Y_cells s.1).bind fun a_6 =>
  if a_5 ≤ a_6 then
  (f_Main_greatestOf_J64 s.1 s.2)
  else (f_Main_greatestOf_J62 s.2)))
  else (f_Main_greatestOf_J64 s.1 s.2))
  else (f_Main_greatestOf_J64 s.1 s.2))
noncomputable def f_Main_greatestOf (Y_cells : Nat → Int32) (Y_clauses : Nat → Int32) (N_marbles : Int32) (N_swallowed : Int32) (N_owners : Nat → Int32) (p0 : Int32) : Option Int32 :=
  oLp (f_Main_greatestOf_L4 Y_cells Y_clauses N_marbles N_swallowed N_owners p0) ((-1), 0)
noncomputable def f_Main_champion_J92 (A_stack : Nat → Int32) (L_letters : Nat → Int32) (v1 : Int32) (v2 : Int32) (v3 : Int32) : Option ((Int32 × Int32 × Int32 × (Nat → Int32) × (Nat → Int32)) ⊕ (Int32 × (Nat → Int32) × (Nat → Int32))) :=
  some (.inl (v1, v2, v3 + 1, A_stack, L_letters))
noncomputable def f_Main_champion_J87 (A_stack : Nat → Int32) (L_letters : Nat → Int32) (v3 : Int32) (v6 : Int32) : Option ((Int32 × Int32 × Int32 × (Nat → Int32) × (Nat → Int32)) ⊕ (Int32 × (Nat → Int32) × (Nat → Int32))) :=
  f_Main_champion_J92 A_stack L_letters v3 v6 v3
noncomputable def f_Main_champion_J44 (A_size : Int32) (A_chosen : Int32) (A_codes : Nat → Int32) (A_lengths : Nat → Int32) (A_stack : Nat → Int32) (Y_cells : Nat → Int32) (N_marbles : Int32) (N_chipped : Int32) (N_day : Int32) (N_owners : Nat → Int32) (L_letters : Nat → Int32) (v1 : Int32) (v2 : Int32) (v3 : Int32) (v4 : Int32) (k0 : Int32) : Option ((Int32 × Int32 × Int32 × (Nat → Int32) × (Nat → Int32)) ⊕ (Int32 × (Nat → Int32) × (Nat → Int32))) :=
  if k0 = (-1) then
  (f_Main_champion_J92 A_stack L_letters v1 v2 v3)
  else ((f_Lane_flick A_size A_chosen A_codes A_lengths A_stack Y_cells N_marbles N_chipped N_day N_owners L_letters v3 v4 k0).bind fun a_4 =>
  (f_Lane_distance Y_cells a_4.1).bind fun a_5 =>
  if v1 = (-1) then
  (f_Main_champion_J87 a_4.2.1 a_4.2.2 v3 a_5)
  else (if v2 ≤ a_5 then
  (f_Main_champion_J92 a_4.2.1 a_4.2.2 v1 v2 v3)
  else (f_Main_champion_J87 a_4.2.1 a_4.2.2 v3 a_5)))
noncomputable def f_Main_champion_L6 (A_size : Int32) (A_chosen : Int32) (A_codes : Nat → Int32) (A_lengths : Nat → Int32) (Y_cells : Nat → Int32) (Y_clauses : Nat → Int32) (N_marbles : Int32) (N_chipped : Int32) (N_swallowed : Int32) (N_day : Int32) (N_owners : Nat → Int32) (s : (Int32 × Int32 × Int32 × (Nat → Int32) × (Nat → Int32))) : Option ((Int32 × Int32 × Int32 × (Nat → Int32) × (Nat → Int32)) ⊕ (Int32 × (Nat → Int32) × (Nat → Int32))) :=
  (f_Yard_boys Y_clauses).bind fun a_1 =>
  if a_1 ≤ s.2.2.1 then
  (some (.inr (s.1, s.2.2.2.1, s.2.2.2.2)))
  else ((f_Main_greatestOf Y_cells Y_clauses N_marbles N_swallowed N_owners s.2.2.1).bind fun a_2 =>
  if a_2 = (-1) then
  (f_Main_champion_J44 A_size A_chosen A_codes A_lengths s.2.2.2.1 Y_cells N_marbles N_chipped N_day N_owners s.2.2.2.2 s.1 s.2.1 s.2.2.1 a_2 ((-1)))
  else ((f_Lane_nearestPower A_size A_chosen A_codes A_lengths s.2.2.2.1 Y_cells N_marbles N_chipped N_day N_owners s.2.2.2.2 s.2.2.1 a_2).bind fun a_3 =>
  f_Main_champion_J44 A_size A_chosen A_codes A_lengths a_3.2.1 Y_cells N_marbles N_chipped N_day N_owners a_3.2.2 s.1 s.2.1 s.2.2.1 a_2 a_3.1))
noncomputable def f_Main_champion (A_size : Int32) (A_chosen : Int32) (A_codes : Nat → Int32) (A_lengths : Nat → Int32) (A_stack : Nat → Int32) (Y_cells : Nat → Int32) (Y_clauses : Nat → Int32) (N_marbles : Int32) (N_chipped : Int32) (N_swallowed : Int32) (N_day : Int32) (N_owners : Nat → Int32) (L_letters : Nat → Int32) : Option (Int32 × (Nat → Int32) × (Nat → Int32)) :=
  oLp (f_Main_champion_L6 A_size A_chosen A_codes A_lengths Y_cells Y_clauses N_marbles N_chipped N_swallowed N_day N_owners) ((-1), 0, 0, A_stack, L_letters)
noncomputable def f_Main_refuse (W_refusals : Nat → Int32) (p0 : Int32) : Option (Int32 × (Nat → Int32)) :=
  if p0 < 0 then
  (some ((-1), W_refusals))
  else (if 5 ≤ p0 then
  (some ((-1), W_refusals))
  else (oI p0 5 (oI p0 5 (oL (upd W_refusals p0.toNatClampNeg ((W_refusals p0.toNatClampNeg) + 1)) fun W_refusals_1 =>
  some ((-1), W_refusals_1)))))
noncomputable def f_Now_packed_L38 (N_marbles : Int32) (N_owners : Nat → Int32) (s : (Int64 × Int32)) : Option ((Int64 × Int32) ⊕ Int64) :=
  if N_marbles ≤ s.2 then
  (some (.inr s.1))
  else (oI s.2 6 (oL (s.1 ||| ((((N_owners s.2.toNatClampNeg) + 1 : Int32).toInt64) <<< ((3 * s.2).toInt64 &&& 63))) fun v1_2 => some (.inl (v1_2, s.2 + 1))))
noncomputable def f_Now_packed (N_marbles : Int32) (N_chipped : Int32) (N_swallowed : Int32) (N_sweets : Int32) (N_day : Int32) (N_owners : Nat → Int32) : Option Int64 :=
  oL ((((((N_day : Int32).toInt64) <<< ((40 : Int32).toInt64 &&& 63)) ||| (((N_sweets : Int32).toInt64) <<< ((30 : Int32).toInt64 &&& 63))) ||| (((N_swallowed : Int32).toInt64) <<< ((24 : Int32).toInt64 &&& 63))) ||| (((N_chipped : Int32).toInt64) <<< ((18 : Int32).toInt64 &&& 63))) fun v1_1 => oLp (f_Now_packed_L38 N_marbles N_owners) (v1_1, 0)
noncomputable def f_Past_remember (N_marbles : Int32) (N_chipped : Int32) (N_swallowed : Int32) (N_sweets : Int32) (N_day : Int32) (N_owners : Nat → Int32) (P_next : Int32) (P_kept : Int32) (P_acts : Nat → Int64) : Option (Int32 × Int32 × (Nat → Int64)) :=
  (f_Now_packed N_marbles N_chipped N_swallowed N_sweets N_day N_owners).bind fun a_1 =>
  oI P_next 40 (oL (vp_updL P_acts P_next.toNatClampNeg a_1) fun P_acts_2 =>
  oL ((P_next + 1) - (P_next + 1) / 40 * 40) fun P_next_3 =>
  oL (jmin (P_kept + 1) 40) fun P_kept_4 =>
  some (P_next_3, P_kept_4, P_acts_2))
noncomputable def f_Main_chip_J39 (N_chipped : Int32) (P_next : Int32) (P_kept : Int32) (P_acts : Nat → Int64) (W_refusals : Nat → Int32) : Option (Int32 × Int32 × Int32 × Int32 × (Nat → Int64) × (Nat → Int32)) :=
  (f_Main_refuse W_refusals 2).bind fun a_3 =>
  some (a_3.1, N_chipped, P_next, P_kept, P_acts, a_3.2)
noncomputable def f_Main_chip (Y_clauses : Nat → Int32) (N_marbles : Int32) (N_chipped : Int32) (N_swallowed : Int32) (N_sweets : Int32) (N_day : Int32) (N_owners : Nat → Int32) (P_next : Int32) (P_kept : Int32) (P_acts : Nat → Int64) (W_refusals : Nat → Int32) (p0 : Int32) : Option (Int32 × Int32 × Int32 × Int32 × (Nat → Int64) × (Nat → Int32)) :=
  (f_Yard_hasMarble Y_clauses p0).bind fun a_1 =>
  if a_1 = 0 then
  ((f_Main_refuse W_refusals 0).bind fun a_8 =>
  some (a_8.1, N_chipped, P_next, P_kept, P_acts, a_8.2))
  else ((f_Now_isChipped N_chipped p0).bind fun a_2 =>
  if a_2 = 0 then
  ((f_Now_isDrained N_marbles N_owners p0).bind fun a_4 =>
  if a_4 = 0 then
  ((f_Past_remember N_marbles N_chipped N_swallowed N_sweets N_day N_owners P_next P_kept P_acts).bind fun a_5 =>
  oL (N_chipped ||| (1 <<< (p0 &&& 31))) fun N_chipped_6 =>
  (f_J_bitCount N_chipped_6).bind fun a_7 =>
  some (a_7, N_chipped_6, a_5.1, a_5.2.1, a_5.2.2, W_refusals))
  else (f_Main_chip_J39 N_chipped P_next P_kept P_acts W_refusals))
  else (f_Main_chip_J39 N_chipped P_next P_kept P_acts W_refusals))
noncomputable def f_Sky_contentBits_J46 (v2 : Int32) (k0 : Int32) (k1 : Int32) : Option ((Int32 × Int32) ⊕ Int32) :=
  oL (k0 ||| k1) fun v1_5 => some (.inl (v1_5, v2 + 1))
noncomputable def f_Sky_contentBits_L4 (Y_cells : Nat → Int32) (Y_clauses : Nat → Int32) (S_strengths : Nat → Int32) (s : (Int32 × Int32)) : Option ((Int32 × Int32) ⊕ Int32) :=
  (f_Yard_farms Y_clauses).bind fun a_1 =>
  if a_1 ≤ s.2 then
  (some (.inr s.1))
  else ((f_Yard_farmPlace Y_cells s.2).bind fun a_2 =>
  (f_Sky_strongestKind S_strengths a_2).bind fun a_3 =>
  (f_Yard_wanted Y_cells s.2).bind fun a_4 =>
  if a_3 = a_4 then
  (f_Sky_contentBits_J46 s.2 s.1 (1 <<< (s.2 &&& 31)))
  else (f_Sky_contentBits_J46 s.2 s.1 0))
noncomputable def f_Sky_contentBits (Y_cells : Nat → Int32) (Y_clauses : Nat → Int32) (S_strengths : Nat → Int32) : Option Int32 :=
  oLp (f_Sky_contentBits_L4 Y_cells Y_clauses S_strengths) (0, 0)
noncomputable def f_Main_contentNow (Y_cells : Nat → Int32) (Y_clauses : Nat → Int32) (N_marbles : Int32) (N_chipped : Int32) (N_owners : Nat → Int32) (S_strengths : Nat → Int32) : Option (Int32 × (Nat → Int32)) :=
  (f_Sky_measure Y_cells Y_clauses N_marbles N_chipped N_owners S_strengths).bind fun a_1 =>
  (f_Sky_contentBits Y_cells Y_clauses a_1).bind fun a_2 =>
  some (a_2, a_1)
noncomputable def f_Main_corner_J81 (v2 : Int32) (v3 : Int32) : Option ((Int32 × Int32) ⊕ Int32) :=
  some (.inl (v2, v3 + 1))
noncomputable def f_Main_corner_J72 (N_marbles : Int32) (N_owners : Nat → Int32) (v3 : Int32) : Option ((Int32 × Int32) ⊕ Int32) :=
  (f_Now_ownerOf N_marbles N_owners v3).bind fun a_5 =>
  f_Main_corner_J81 a_5 v3
noncomputable def f_Main_corner_L16 (Y_cells : Nat → Int32) (Y_clauses : Nat → Int32) (N_marbles : Int32) (N_owners : Nat → Int32) (v1 : Int32) (s : (Int32 × Int32)) : Option ((Int32 × Int32) ⊕ Int32) :=
  (f_Yard_marbles Y_clauses).bind fun a_1 =>
  if a_1 ≤ s.2 then
  (some (.inr s.1))
  else ((f_Yard_kind Y_cells s.2).bind fun a_2 =>
  if a_2 = v1 then
  ((f_Now_isDrained N_marbles N_owners s.2).bind fun a_4 =>
  if a_4 = 0 then
  (if s.1 = (-1) then
  (f_Main_corner_J72 N_marbles N_owners s.2)
  else ((f_Now_ownerOf N_marbles N_owners s.2).bind fun a_6 =>
  if s.1 = a_6 then
  (f_Main_corner_J72 N_marbles N_owners s.2)
  else (some (.inr (-1)))))
  else (f_Main_corner_J81 s.1 s.2))
  else (f_Main_corner_J81 s.1 s.2))
noncomputable def f_Main_corner (Y_cells : Nat → Int32) (Y_clauses : Nat → Int32) (N_marbles : Int32) (N_owners : Nat → Int32) (p0 : Int32) : Option Int32 :=
  if p0 < 0 then
  (some (-1))
  else (if p0 < 6 then
  (oLp (f_Main_corner_L16 Y_cells Y_clauses N_marbles N_owners p0) ((-1), 0))
  else (some (-1)))
noncomputable def f_Past_undoable (P_kept : Int32) : Option Int32 :=
  some P_kept
noncomputable def f_Now_drainedBits (N_marbles : Int32) (N_owners : Nat → Int32) : Option Int32 :=
  (f_Now_handOf N_marbles N_owners ((-1))).bind fun a_1 =>
  some a_1
noncomputable def f_Laws_chosen (A_chosen : Int32) : Option Int32 :=
  some A_chosen
noncomputable def f_Tape_size (T_length : Int32) : Option Int32 :=
  some T_length
noncomputable def f_Laws_size (A_size : Int32) : Option Int32 :=
  some A_size
noncomputable def f_Main_count (W_spillsNow : Int32) (T_length : Int32) (A_size : Int32) (A_chosen : Int32) (Y_cells : Nat → Int32) (Y_clauses : Nat → Int32) (N_marbles : Int32) (N_chipped : Int32) (N_day : Int32) (N_owners : Nat → Int32) (P_kept : Int32) (S_strengths : Nat → Int32) (U_size : Int32) (p0 : Int32) : Option (Int32 × (Nat → Int32)) :=
  if p0 = 0 then
  ((f_Yard_marbles Y_clauses).bind fun a_1 =>
  some (a_1, S_strengths))
  else (if p0 = 1 then
  ((f_Yard_boys Y_clauses).bind fun a_2 =>
  some (a_2, S_strengths))
  else (if p0 = 2 then
  ((f_Yard_farms Y_clauses).bind fun a_3 =>
  some (a_3, S_strengths))
  else (if p0 = 3 then
  ((f_Laws_size A_size).bind fun a_4 =>
  some (a_4, S_strengths))
  else (if p0 = 4 then
  ((f_Tape_size T_length).bind fun a_5 =>
  some (a_5, S_strengths))
  else (if p0 = 5 then
  ((f_Laws_chosen A_chosen).bind fun a_6 =>
  some (a_6, S_strengths))
  else (if p0 = 6 then
  (some (N_day, S_strengths))
  else (if p0 = 7 then
  ((f_Main_contentNow Y_cells Y_clauses N_marbles N_chipped N_owners S_strengths).bind fun a_7 =>
  some (a_7.1, a_7.2))
  else (if p0 = 8 then
  ((f_Now_drainedBits N_marbles N_owners).bind fun a_8 =>
  some (a_8, S_strengths))
  else (if p0 = 9 then
  (some (W_spillsNow, S_strengths))
  else (if p0 = 10 then
  ((f_Clues_size U_size).bind fun a_9 =>
  some (a_9, S_strengths))
  else (if p0 = 11 then
  ((f_Past_logLength N_day).bind fun a_10 =>
  some (a_10, S_strengths))
  else (if p0 = 12 then
  ((f_Past_undoable P_kept).bind fun a_11 =>
  some (a_11, S_strengths))
  else (some ((-1000000), S_strengths))))))))))))))
noncomputable def f_Yard_payment (Y_cells : Nat → Int32) (p0 : Int32) : Option Int32 :=
  (f_Yard_cell Y_cells 3 p0 2).bind fun a_1 =>
  some a_1
noncomputable def f_Yard_paymentOf_L4 (Y_cells : Nat → Int32) (Y_clauses : Nat → Int32) (v1 : Int32) (s : (Int32 × Int32)) : Option ((Int32 × Int32) ⊕ Int32) :=
  (f_Yard_farms Y_clauses).bind fun a_1 =>
  if a_1 ≤ s.2 then
  (some (.inr s.1))
  else ((f_Yard_payment Y_cells s.2).bind fun a_2 =>
  oL (s.1 + (((v1 >>> (s.2 &&& 31)) &&& 1) * a_2)) fun v2_3 => some (.inl (v2_3, s.2 + 1)))
noncomputable def f_Yard_paymentOf (Y_cells : Nat → Int32) (Y_clauses : Nat → Int32) (p0 : Int32) : Option Int32 :=
  oLp (f_Yard_paymentOf_L4 Y_cells Y_clauses p0) (0, 0)
noncomputable def f_Past_write (N_sweets : Int32) (N_day : Int32) (P_entries : Nat → Int32) (p0 : Int32) : Option (Nat → Int32) :=
  (f_Past_ringIndex N_day ((-1))).bind fun a_1 =>
  oI a_1 128 (oL (upd P_entries a_1.toNatClampNeg ((N_sweets <<< (6 &&& 31)) ||| p0)) fun P_entries_2 =>
  some P_entries_2)
noncomputable def f_Main_passDay (Y_cells : Nat → Int32) (Y_clauses : Nat → Int32) (N_marbles : Int32) (N_chipped : Int32) (N_sweets : Int32) (N_day : Int32) (N_owners : Nat → Int32) (P_entries : Nat → Int32) (S_strengths : Nat → Int32) : Option (Int32 × Int32 × (Nat → Int32) × (Nat → Int32)) :=
  (f_Main_contentNow Y_cells Y_clauses N_marbles N_chipped N_owners S_strengths).bind fun a_1 =>
  (f_Yard_paymentOf Y_cells Y_clauses a_1.1).bind fun a_2 =>
  oL (jmin 999 (N_sweets + a_2)) fun N_sweets_3 =>
  (f_Past_write N_sweets_3 N_day P_entries a_1.1).bind fun a_4 =>
  oL (N_day + 1) fun N_day_5 =>
  some (N_sweets_3, N_day_5, a_4, a_1.2)
noncomputable def f_Main_days_J27 (N_sweets : Int32) (N_day : Int32) (P_next : Int32) (P_kept : Int32) (P_acts : Nat → Int64) (P_entries : Nat → Int32) (S_strengths : Nat → Int32) (W_refusals : Nat → Int32) : Option (Int32 × Int32 × Int32 × Int32 × Int32 × (Nat → Int64) × (Nat → Int32) × (Nat → Int32) × (Nat → Int32)) :=
  (f_Main_refuse W_refusals 1).bind fun a_2 =>
  some (a_2.1, N_sweets, N_day, P_next, P_kept, P_acts, P_entries, S_strengths, a_2.2)
noncomputable def f_Main_days_L56 (Y_cells : Nat → Int32) (Y_clauses : Nat → Int32) (N_marbles : Int32) (N_chipped : Int32) (N_swallowed : Int32) (N_owners : Nat → Int32) (W_refusals : Nat → Int32) (v1 : Int32) (s : (Int32 × Int32 × Int32 × Int32 × Int32 × (Nat → Int64) × (Nat → Int32) × (Nat → Int32))) : Option ((Int32 × Int32 × Int32 × Int32 × Int32 × (Nat → Int64) × (Nat → Int32) × (Nat → Int32)) ⊕ (Int32 × Int32 × Int32 × Int32 × Int32 × (Nat → Int64) × (Nat → Int32) × (Nat → Int32) × (Nat → Int32))) :=
  if v1 ≤ s.1 then
  (some (.inr (s.2.1, s.2.1, s.2.2.1, s.2.2.2.1, s.2.2.2.2.1, s.2.2.2.2.2.1, s.2.2.2.2.2.2.1, s.2.2.2.2.2.2.2, W_refusals)))
  else ((f_Past_remember N_marbles N_chipped N_swallowed s.2.1 s.2.2.1 N_owners s.2.2.2.1 s.2.2.2.2.1 s.2.2.2.2.2.1).bind fun a_3 =>
  (f_Main_passDay Y_cells Y_clauses N_marbles N_chipped s.2.1 s.2.2.1 N_owners s.2.2.2.2.2.2.1 s.2.2.2.2.2.2.2).bind fun a_4 =>
  some (.inl (s.1 + 1, a_4.1, a_4.2.1, a_3.1, a_3.2.1, a_3.2.2, a_4.2.2.1, a_4.2.2.2)))
noncomputable def f_Main_days (Y_cells : Nat → Int32) (Y_clauses : Nat → Int32) (N_marbles : Int32) (N_chipped : Int32) (N_swallowed : Int32) (N_sweets : Int32) (N_day : Int32) (N_owners : Nat → Int32) (P_next : Int32) (P_kept : Int32) (P_acts : Nat → Int64) (P_entries : Nat → Int32) (S_strengths : Nat → Int32) (W_refusals : Nat → Int32) (p0 : Int32) : Option (Int32 × Int32 × Int32 × Int32 × Int32 × (Nat → Int64) × (Nat → Int32) × (Nat → Int32) × (Nat → Int32)) :=
  (f_Yard_stands Y_clauses).bind fun a_1 =>
  if a_1 = 0 then
  ((f_Main_refuse W_refusals 0).bind fun a_7 =>
  some (a_7.1, N_sweets, N_day, P_next, P_kept, P_acts, P_entries, S_strengths, a_7.2))
  else (if p0 < 1 then
  (f_Main_days_J27 N_sweets N_day P_next P_kept P_acts P_entries S_strengths W_refusals)
  else (if p0 ≤ 60 then
  (if (N_day + p0) ≤ 9999 then
  (oLp (f_Main_days_L56 Y_cells Y_clauses N_marbles N_chipped N_swallowed N_owners W_refusals p0) (0, N_sweets, N_day, P_next, P_kept, P_acts, P_entries, S_strengths))
  else ((f_Main_refuse W_refusals 4).bind fun a_6 =>
  some (a_6.1, N_sweets, N_day, P_next, P_kept, P_acts, P_entries, S_strengths, a_6.2)))
  else (f_Main_days_J27 N_sweets N_day P_next P_kept P_acts P_entries S_strengths W_refusals)))
noncomputable def f_Main_draw (W_drawn : Int64) (p0 : Int32) : Option (Int32 × Int64) :=
  oL ((W_drawn * 6364136223846793005) + 1442695040888963407) fun W_drawn_1 =>
  if p0 ≤ 0 then
  (some (0, W_drawn_1))
  else (oDl ((p0 : Int32).toInt64) (some ((((W_drawn_1.toUInt64 >>> ((33 : Int32).toInt64.toUInt64 &&& Int64.toUInt64 63)).toInt64) - ((W_drawn_1.toUInt64 >>> ((33 : Int32).toInt64.toUInt64 &&& Int64.toUInt64 63)).toInt64) / ((p0 : Int32).toInt64) * ((p0 : Int32).toInt64) : Int64).toInt32, W_drawn_1)))
noncomputable def f_Tape_cutTo (T_length : Int32) (p0 : Int32) : Option Int32 :=
  some p0
noncomputable def f_Main_end (T_length : Int32) (p0 : Int32) : Option (Int32 × Int32) :=
  if p0 < 0 then
  (some (0, T_length))
  else ((f_Tape_size T_length).bind fun a_1 =>
  if p0 ≤ a_1 then
  ((f_Tape_cutTo T_length p0).bind fun a_2 =>
  some (1, a_2))
  else (some (0, T_length)))
noncomputable def f_Yard_hasFarm (Y_clauses : Nat → Int32) (p0 : Int32) : Option Int32 :=
  if p0 < 0 then
  (some 0)
  else ((f_Yard_farms Y_clauses).bind fun a_1 =>
  if a_1 ≤ p0 then
  (some 0)
  else (some 1))
noncomputable def f_Main_farm (Y_cells : Nat → Int32) (Y_clauses : Nat → Int32) (N_marbles : Int32) (N_chipped : Int32) (N_owners : Nat → Int32) (S_strengths : Nat → Int32) (p0 : Int32) (p1 : Int32) : Option (Int32 × (Nat → Int32)) :=
  (f_Yard_hasFarm Y_clauses p0).bind fun a_1 =>
  if a_1 = 0 then
  (some ((-1), S_strengths))
  else (if p1 = 0 then
  ((f_Yard_farmPlace Y_cells p0).bind fun a_2 =>
  some (a_2, S_strengths))
  else (if p1 = 1 then
  ((f_Yard_wanted Y_cells p0).bind fun a_3 =>
  some (a_3, S_strengths))
  else (if p1 = 2 then
  ((f_Yard_payment Y_cells p0).bind fun a_4 =>
  some (a_4, S_strengths))
  else (if p1 = 3 then
  ((f_Main_contentNow Y_cells Y_clauses N_marbles N_chipped N_owners S_strengths).bind fun a_5 =>
  some ((a_5.1 >>> (p0 &&& 31)) &&& 1, a_5.2))
  else (some ((-1), S_strengths))))))
noncomputable def f_Yard_fillUsual_C4_L2 (v1 : Int32) (v2 : Int32) (s : (Int32 × (Nat → Int32))) : Option ((Int32 × (Nat → Int32)) ⊕ (Nat → Int32)) :=
  if 3 ≤ s.1 then
  (some (.inr s.2))
  else (oI v1 tab1.length (oI ((v1 * 3) + s.1) tab6.length (oI ((((tab1.getD v1.toNatClampNeg 0) + v2) * 3) + s.1) 54 (oL (upd s.2 (((((tab1.getD v1.toNatClampNeg 0) + v2) * 3) + s.1 : Int32).toNatClampNeg) (tab6.getD ((v1 * 3) + s.1 : Int32).toNatClampNeg 0)) fun D_cells_1 =>
  some (.inl (s.1 + 1, D_cells_1))))))
noncomputable def f_Yard_fillUsual_C4 (D_cells : Nat → Int32) (p0 : Int32) (p1 : Int32) : Option (Nat → Int32) :=
  oLp (f_Yard_fillUsual_C4_L2 p0 p1) (0, D_cells)
noncomputable def f_Yard_clear_C4 (D_cells : Nat → Int32) (D_clauses : Nat → Int32) : Option ((Nat → Int32) × (Nat → Int32)) :=
  (f_J_fill_C6 D_clauses 0).bind fun a_1 =>
  (f_Yard_fillUsual_C4 D_cells 0 0).bind fun a_2 =>
  some (a_2, a_1)
noncomputable def f_Tape_rewind (T_at : Int32) : Option Int32 :=
  some 0
noncomputable def f_Tape_sign_J38 (T_length : Int32) (T_at : Int32) (T_bytes : Nat → Int32) : Option (Int32 × Int32) :=
  if T_length ≤ T_at then
  (some ((-1), T_at))
  else (oI T_at 240 (some (T_bytes T_at.toNatClampNeg, T_at)))
noncomputable def f_Tape_sign_L0 (T_length : Int32) (T_bytes : Nat → Int32) (s : Int32) : Option (Int32 ⊕ (Int32 × Int32)) :=
  if T_length ≤ s then
  ((f_Tape_sign_J38 T_length s T_bytes).map .inr)
  else (oI s 240 (if (T_bytes s.toNatClampNeg) = 32 then
  (oL (s + 1) fun T_at_1 =>
  some (.inl T_at_1))
  else ((f_Tape_sign_J38 T_length s T_bytes).map .inr)))
noncomputable def f_Tape_sign (T_length : Int32) (T_at : Int32) (T_bytes : Nat → Int32) : Option (Int32 × Int32) :=
  oLp (f_Tape_sign_L0 T_length T_bytes) T_at
noncomputable def f_Yard_opens_C4 (D_cells : Nat → Int32) (D_clauses : Nat → Int32) (p0 : Int32) : Option (Int32 × (Nat → Int32) × (Nat → Int32)) :=
  oI p0 4 (oI p0 tab2.length (if (D_clauses p0.toNatClampNeg) < (tab2.getD p0.toNatClampNeg 0) then
  (oI p0 4 ((f_Yard_fillUsual_C4 D_cells p0 (D_clauses p0.toNatClampNeg)).bind fun a_1 =>
  oI p0 4 (oI p0 4 (oL (upd D_clauses p0.toNatClampNeg ((D_clauses p0.toNatClampNeg) + 1)) fun D_clauses_2 =>
  some (1, a_1, D_clauses_2)))))
  else (some (0, D_cells, D_clauses))))
noncomputable def f_Tape_step (T_at : Int32) : Option Int32 :=
  oL (T_at + 1) fun T_at_1 =>
  some T_at_1
noncomputable def f_Tape_isAtDigit (T_length : Int32) (T_at : Int32) (T_bytes : Nat → Int32) : Option Int32 :=
  if T_length ≤ T_at then
  (some 0)
  else (oI T_at 240 (if (T_bytes T_at.toNatClampNeg) < 48 then
  (some 0)
  else (oI T_at 240 (if 57 < (T_bytes T_at.toNatClampNeg) then
  (some 0)
  else (some 1)))))
noncomputable def f_Tape_number_J64 (T_length : Int32) (T_at : Int32) (T_bytes : Nat → Int32) (v2 : Int32) : Option (Int32 × Int32) :=
  (f_Tape_isAtDigit T_length T_at T_bytes).bind fun a_3 =>
  if a_3 = 0 then
  (some (v2, T_at))
  else (some ((-1), T_at))
noncomputable def f_Tape_number_L18 (T_length : Int32) (T_bytes : Nat → Int32) (v1 : Int32) (s : (Int32 × Int32 × Int32)) : Option ((Int32 × Int32 × Int32) ⊕ (Int32 × Int32)) :=
  if v1 ≤ s.2.1 then
  ((f_Tape_number_J64 T_length s.2.2 T_bytes s.1).map .inr)
  else ((f_Tape_isAtDigit T_length s.2.2 T_bytes).bind fun a_4 =>
  if a_4 = 0 then
  ((f_Tape_number_J64 T_length s.2.2 T_bytes s.1).map .inr)
  else (oI s.2.2 240 (oL (((s.1 * 10) + (T_bytes s.2.2.toNatClampNeg)) - 48) fun v2_5 => oL (s.2.2 + 1) fun T_at_6 =>
  some (.inl (v2_5, s.2.1 + 1, T_at_6)))))
noncomputable def f_Tape_number (T_length : Int32) (T_at : Int32) (T_bytes : Nat → Int32) (p0 : Int32) : Option (Int32 × Int32) :=
  (f_Tape_sign T_length T_at T_bytes).bind fun a_1 =>
  (f_Tape_isAtDigit T_length a_1.2 T_bytes).bind fun a_2 =>
  if a_2 = 0 then
  (some ((-1), a_1.2))
  else (oLp (f_Tape_number_L18 T_length T_bytes p0) (0, 0, a_1.2))
noncomputable def f_Tape_stepBack (T_at : Int32) : Option Int32 :=
  oL (T_at - 1) fun T_at_1 =>
  some T_at_1
noncomputable def f_Yard_tellLatest_C4 (D_cells : Nat → Int32) (D_clauses : Nat → Int32) (p0 : Int32) (p1 : Int32) (p2 : Int32) : Option (Nat → Int32) :=
  oI p0 4 (if (D_clauses p0.toNatClampNeg) ≤ 0 then
  (some D_cells)
  else (oI p0 tab1.length (oI p0 4 (oI (((((tab1.getD p0.toNatClampNeg 0) + (D_clauses p0.toNatClampNeg)) - 1) * 3) + p1) 54 (oL (upd D_cells ((((((tab1.getD p0.toNatClampNeg 0) + (D_clauses p0.toNatClampNeg)) - 1) * 3) + p1 : Int32).toNatClampNeg) p2) fun D_cells_1 =>
  some D_cells_1)))))
noncomputable def f_YardR_readValue_J42 (T_at : Int32) (D_cells : Nat → Int32) : Option (Int32 × Int32 × (Nat → Int32)) :=
  (f_Tape_stepBack T_at).bind fun a_2 =>
  some (0, a_2, D_cells)
noncomputable def f_YardR_readValue (T_length : Int32) (T_at : Int32) (T_bytes : Nat → Int32) (D_cells : Nat → Int32) (D_clauses : Nat → Int32) (p0 : Int32) (p1 : Int32) : Option (Int32 × Int32 × (Nat → Int32)) :=
  (f_Tape_number T_length T_at T_bytes 2).bind fun a_1 =>
  if a_1.1 = (-1) then
  (some (0, a_1.2, D_cells))
  else (oI ((p0 * 3) + p1) tab4.length (if a_1.1 < (tab4.getD ((p0 * 3) + p1 : Int32).toNatClampNeg 0) then
  (f_YardR_readValue_J42 a_1.2 D_cells)
  else (oI ((p0 * 3) + p1) tab5.length (if a_1.1 ≤ (tab5.getD ((p0 * 3) + p1 : Int32).toNatClampNeg 0) then
  ((f_Yard_tellLatest_C4 D_cells D_clauses p0 p1 a_1.1).bind fun a_3 =>
  some (1, a_1.2, a_3))
  else (f_YardR_readValue_J42 a_1.2 D_cells)))))
noncomputable def f_YardR_readClause_L40 (T_length : Int32) (T_bytes : Nat → Int32) (D_clauses : Nat → Int32) (v1 : Int32) (s : (Int32 × Int32 × Int32 × (Nat → Int32))) : Option ((Int32 × Int32 × Int32 × (Nat → Int32)) ⊕ (Int32 × Int32 × (Nat → Int32) × (Nat → Int32))) :=
  if 3 ≤ s.2.1 then
  (some (.inr (1, s.2.2.1, s.2.2.2, D_clauses)))
  else ((f_Tape_sign T_length s.2.2.1 T_bytes).bind fun a_5 =>
  (f_YardR_itemOf v1 a_5.1).bind fun a_6 =>
  if a_6 = (-1) then
  (some (.inr (1, a_5.2, s.2.2.2, D_clauses)))
  else (if ((s.1 >>> (a_6 &&& 31)) &&& 1) = 0 then
  (oL (s.1 ||| (1 <<< (a_6 &&& 31))) fun v2_7 => (f_Tape_step a_5.2).bind fun a_8 =>
  (f_YardR_readValue T_length a_8 T_bytes s.2.2.2 D_clauses v1 a_6).bind fun a_9 =>
  if a_9.1 = 0 then
  (some (.inr (0, a_9.2.1, a_9.2.2, D_clauses)))
  else (some (.inl (v2_7, s.2.1 + 1, a_9.2.1, a_9.2.2))))
  else (some (.inr (1, a_5.2, s.2.2.2, D_clauses)))))
noncomputable def f_YardR_readClause (T_length : Int32) (T_at : Int32) (T_bytes : Nat → Int32) (D_cells : Nat → Int32) (D_clauses : Nat → Int32) : Option (Int32 × Int32 × (Nat → Int32) × (Nat → Int32)) :=
  (f_Tape_sign T_length T_at T_bytes).bind fun a_1 =>
  (f_YardR_sortOf a_1.1).bind fun a_2 =>
  if a_2 = (-1) then
  (some (0, a_1.2, D_cells, D_clauses))
  else ((f_Yard_opens_C4 D_cells D_clauses a_2).bind fun a_3 =>
  if a_3.1 = 0 then
  (some (0, a_1.2, a_3.2.1, a_3.2.2))
  else ((f_Tape_step a_1.2).bind fun a_4 =>
  oLp (f_YardR_readClause_L40 T_length T_bytes a_3.2.2 a_2) (0, 0, a_4, a_3.2.1)))
noncomputable def f_Tape_takes (T_length : Int32) (T_at : Int32) (T_bytes : Nat → Int32) (p0 : Int32) : Option (Int32 × Int32) :=
  (f_Tape_sign T_length T_at T_bytes).bind fun a_1 =>
  if a_1.1 = p0 then
  (oL (a_1.2 + 1) fun T_at_2 =>
  some (1, T_at_2))
  else (some (0, a_1.2))
noncomputable def f_Yard_boys_C4 (D_clauses : Nat → Int32) : Option Int32 :=
  oI 1 4 (some (D_clauses (1 : Int32).toNatClampNeg))
noncomputable def f_Yard_marbles_C4 (D_clauses : Nat → Int32) : Option Int32 :=
  oI 2 4 (some (D_clauses (2 : Int32).toNatClampNeg))
noncomputable def f_Yard_cell_C4 (D_cells : Nat → Int32) (p0 : Int32) (p1 : Int32) (p2 : Int32) : Option Int32 :=
  if p1 < 0 then
  (some 0)
  else (oI p0 tab2.length (if (tab2.getD p0.toNatClampNeg 0) ≤ p1 then
  (some 0)
  else (oI p0 tab1.length (oI ((((tab1.getD p0.toNatClampNeg 0) + p1) * 3) + p2) 54 (some (D_cells ((((tab1.getD p0.toNatClampNeg 0) + p1) * 3) + p2 : Int32).toNatClampNeg))))))
noncomputable def f_Yard_firstOwner_C4 (D_cells : Nat → Int32) (p0 : Int32) : Option Int32 :=
  (f_Yard_cell_C4 D_cells 2 p0 0).bind fun a_1 =>
  some a_1
noncomputable def f_Yard_isWhole_C4_L18 (D_cells : Nat → Int32) (D_clauses : Nat → Int32) (s : Int32) : Option (Int32 ⊕ Int32) :=
  (f_Yard_marbles_C4 D_clauses).bind fun a_3 =>
  if a_3 ≤ s then
  (some (.inr 1))
  else ((f_Yard_firstOwner_C4 D_cells s).bind fun a_4 =>
  (f_Yard_boys_C4 D_clauses).bind fun a_5 =>
  if a_4 < a_5 then
  (some (.inl (s + 1)))
  else (some (.inr 0)))
noncomputable def f_Yard_isWhole_C4 (D_cells : Nat → Int32) (D_clauses : Nat → Int32) : Option Int32 :=
  (f_Yard_boys_C4 D_clauses).bind fun a_1 =>
  if a_1 = 0 then
  (some 0)
  else ((f_Yard_marbles_C4 D_clauses).bind fun a_2 =>
  if a_2 = 0 then
  (some 0)
  else (oLp (f_Yard_isWhole_C4_L18 D_cells D_clauses) 0))
noncomputable def f_YardR_reads_J54 (T_length : Int32) (T_at : Int32) (T_bytes : Nat → Int32) (D_cells : Nat → Int32) (D_clauses : Nat → Int32) : Option (Int32 × Int32 × (Nat → Int32) × (Nat → Int32)) :=
  (f_Tape_sign T_length T_at T_bytes).bind fun a_3 =>
  if a_3.1 = (-1) then
  ((f_Yard_isWhole_C4 D_cells D_clauses).bind fun a_4 =>
  if a_4 = 0 then
  (some (0, a_3.2, D_cells, D_clauses))
  else (some (1, a_3.2, D_cells, D_clauses)))
  else (some (0, a_3.2, D_cells, D_clauses))
noncomputable def f_YardR_reads_L18 (T_length : Int32) (T_bytes : Nat → Int32) (s : (Int32 × Int32 × Int32 × (Nat → Int32) × (Nat → Int32))) : Option ((Int32 × Int32 × Int32 × (Nat → Int32) × (Nat → Int32)) ⊕ (Int32 × Int32 × (Nat → Int32) × (Nat → Int32))) :=
  if 240 ≤ s.2.1 then
  ((f_YardR_reads_J54 T_length s.2.2.1 T_bytes s.2.2.2.1 s.2.2.2.2).map .inr)
  else (if s.1 = 0 then
  ((f_YardR_reads_J54 T_length s.2.2.1 T_bytes s.2.2.2.1 s.2.2.2.2).map .inr)
  else ((f_YardR_readClause T_length s.2.2.1 T_bytes s.2.2.2.1 s.2.2.2.2).bind fun a_5 =>
  if a_5.1 = 0 then
  (some (.inr (0, a_5.2.1, a_5.2.2.1, a_5.2.2.2)))
  else ((f_Tape_takes T_length a_5.2.1 T_bytes 59).bind fun a_6 =>
  some (.inl (a_6.1, s.2.1 + 1, a_6.2, a_5.2.2.1, a_5.2.2.2)))))
noncomputable def f_YardR_reads (T_length : Int32) (T_at : Int32) (T_bytes : Nat → Int32) (D_cells : Nat → Int32) (D_clauses : Nat → Int32) : Option (Int32 × Int32 × (Nat → Int32) × (Nat → Int32)) :=
  (f_Yard_clear_C4 D_cells D_clauses).bind fun a_1 =>
  (f_Tape_rewind T_at).bind fun a_2 =>
  oLp (f_YardR_reads_L18 T_length T_bytes) (1, 0, a_2, a_1.1, a_1.2)
noncomputable def f_Tape_position (T_at : Int32) : Option Int32 :=
  some T_at
noncomputable def f_LawR_emit (G_length : Int32) (G_code : Nat → Int32) (p0 : Int32) : Option (Int32 × (Nat → Int32)) :=
  if 240 ≤ G_length then
  (some (G_length, G_code))
  else (oI G_length 240 (oL (upd G_code G_length.toNatClampNeg p0) fun G_code_1 =>
  oL (G_length + 1) fun G_length_2 =>
  some (G_length_2, G_code_1)))
noncomputable def f_LawR_readAtom_L59 (T_length : Int32) (T_at : Int32) (T_bytes : Nat → Int32) (G_length : Int32) (G_code : Nat → Int32) (v2 : Int32) (s : Int32) : Option (Int32 ⊕ (Int32 × Int32 × Int32 × (Nat → Int32))) :=
  if 6 ≤ s then
  (((f_Tape_number T_length T_at T_bytes 4).bind fun a_2 =>
  if a_2.1 = (-1) then
  (some (0, a_2.2, G_length, G_code))
  else ((f_LawR_emit G_length G_code a_2.1).bind fun a_3 =>
  some (1, a_2.2, a_3.1, a_3.2))).map .inr)
  else (oI s tab7.length (if (tab7.getD s.toNatClampNeg 0) = v2 then
  (((f_Tape_step T_at).bind fun a_5 =>
  (f_LawR_emit G_length G_code (10000 + s)).bind fun a_6 =>
  some (1, a_5, a_6.1, a_6.2)).map .inr)
  else (some (.inl (s + 1)))))
noncomputable def f_LawR_readAtomB (RR : Int32 → Int32 → (Nat → Int32) → Int32 → (Nat → Int32) → Int32 → Option (Int32 × Int32 × Int32 × (Nat → Int32))) (T_length : Int32) (T_at : Int32) (T_bytes : Nat → Int32) (G_length : Int32) (G_code : Nat → Int32) (p0 : Int32) : Option (Int32 × Int32 × Int32 × (Nat → Int32)) :=
  (f_Tape_sign T_length T_at T_bytes).bind fun a_1 =>
  if a_1.1 = 91 then
  (if p0 < 6 then
  ((f_Tape_step a_1.2).bind fun a_7 =>
  (RR T_length a_7 T_bytes G_length G_code (p0 + 1)).bind fun a_8 =>
  if a_8.1 = 0 then
  (some (0, a_8.2.1, a_8.2.2.1, a_8.2.2.2))
  else ((f_Tape_takes T_length a_8.2.1 T_bytes 93).bind fun a_9 =>
  if a_9.1 = 0 then
  (some (0, a_9.2, a_8.2.2.1, a_8.2.2.2))
  else (some (1, a_9.2, a_8.2.2.1, a_8.2.2.2))))
  else (some (0, a_1.2, G_length, G_code)))
  else (oLp (f_LawR_readAtom_L59 T_length a_1.2 T_bytes G_length G_code a_1.1) 0)
noncomputable def f_LawR_readTerm_J41 (RR : Int32 → Int32 → (Nat → Int32) → Int32 → (Nat → Int32) → Int32 → Option (Int32 × Int32 × Int32 × (Nat → Int32))) (T_length : Int32) (T_at : Int32) (T_bytes : Nat → Int32) (G_length : Int32) (G_code : Nat → Int32) (v1 : Int32) (v2 : Int32) (v3 : Int32) : Option ((Int32 × Int32 × Int32 × (Nat → Int32)) ⊕ (Int32 × Int32 × Int32 × (Nat → Int32))) :=
  (f_Tape_step T_at).bind fun a_3 =>
  (f_LawR_readAtomB RR T_length a_3 T_bytes G_length G_code v1).bind fun a_4 =>
  if a_4.1 = 0 then
  (some (.inr (0, a_4.2.1, a_4.2.2.1, a_4.2.2.2)))
  else ((f_LawR_emit a_4.2.2.1 a_4.2.2.2 (20000 + v3)).bind fun a_5 =>
  some (.inl (v2 + 1, a_4.2.1, a_5.1, a_5.2)))
noncomputable def f_LawR_readTerm_L12 (RR : Int32 → Int32 → (Nat → Int32) → Int32 → (Nat → Int32) → Int32 → Option (Int32 × Int32 × Int32 × (Nat → Int32))) (T_length : Int32) (T_bytes : Nat → Int32) (v1 : Int32) (s : (Int32 × Int32 × Int32 × (Nat → Int32))) : Option ((Int32 × Int32 × Int32 × (Nat → Int32)) ⊕ (Int32 × Int32 × Int32 × (Nat → Int32))) :=
  if 240 ≤ s.1 then
  (some (.inr (1, s.2.1, s.2.2.1, s.2.2.2)))
  else ((f_Tape_sign T_length s.2.1 T_bytes).bind fun a_2 =>
  if a_2.1 = 42 then
  (f_LawR_readTerm_J41 RR T_length a_2.2 T_bytes s.2.2.1 s.2.2.2 v1 s.1 a_2.1)
  else (if a_2.1 = 47 then
  (f_LawR_readTerm_J41 RR T_length a_2.2 T_bytes s.2.2.1 s.2.2.2 v1 s.1 a_2.1)
  else (some (.inr (1, a_2.2, s.2.2.1, s.2.2.2)))))
noncomputable def f_LawR_readTermB (RR : Int32 → Int32 → (Nat → Int32) → Int32 → (Nat → Int32) → Int32 → Option (Int32 × Int32 × Int32 × (Nat → Int32))) (T_length : Int32) (T_at : Int32) (T_bytes : Nat → Int32) (G_length : Int32) (G_code : Nat → Int32) (p0 : Int32) : Option (Int32 × Int32 × Int32 × (Nat → Int32)) :=
  (f_LawR_readAtomB RR T_length T_at T_bytes G_length G_code p0).bind fun a_1 =>
  if a_1.1 = 0 then
  (some (0, a_1.2.1, a_1.2.2.1, a_1.2.2.2))
  else (oLp (f_LawR_readTerm_L12 RR T_length T_bytes p0) (0, a_1.2.1, a_1.2.2.1, a_1.2.2.2))
noncomputable def f_LawR_readSum_J41 (RR : Int32 → Int32 → (Nat → Int32) → Int32 → (Nat → Int32) → Int32 → Option (Int32 × Int32 × Int32 × (Nat → Int32))) (T_length : Int32) (T_at : Int32) (T_bytes : Nat → Int32) (G_length : Int32) (G_code : Nat → Int32) (v1 : Int32) (v2 : Int32) (v3 : Int32) : Option ((Int32 × Int32 × Int32 × (Nat → Int32)) ⊕ (Int32 × Int32 × Int32 × (Nat → Int32))) :=
  (f_Tape_step T_at).bind fun a_3 =>
  (f_LawR_readTermB RR T_length a_3 T_bytes G_length G_code v1).bind fun a_4 =>
  if a_4.1 = 0 then
  (some (.inr (0, a_4.2.1, a_4.2.2.1, a_4.2.2.2)))
  else ((f_LawR_emit a_4.2.2.1 a_4.2.2.2 (20000 + v3)).bind fun a_5 =>
  some (.inl (v2 + 1, a_4.2.1, a_5.1, a_5.2)))
noncomputable def f_LawR_readSum_L12 (RR : Int32 → Int32 → (Nat → Int32) → Int32 → (Nat → Int32) → Int32 → Option (Int32 × Int32 × Int32 × (Nat → Int32))) (T_length : Int32) (T_bytes : Nat → Int32) (v1 : Int32) (s : (Int32 × Int32 × Int32 × (Nat → Int32))) : Option ((Int32 × Int32 × Int32 × (Nat → Int32)) ⊕ (Int32 × Int32 × Int32 × (Nat → Int32))) :=
  if 240 ≤ s.1 then
  (some (.inr (1, s.2.1, s.2.2.1, s.2.2.2)))
  else ((f_Tape_sign T_length s.2.1 T_bytes).bind fun a_2 =>
  if a_2.1 = 43 then
  (f_LawR_readSum_J41 RR T_length a_2.2 T_bytes s.2.2.1 s.2.2.2 v1 s.1 a_2.1)
  else (if a_2.1 = 45 then
  (f_LawR_readSum_J41 RR T_length a_2.2 T_bytes s.2.2.1 s.2.2.2 v1 s.1 a_2.1)
  else (some (.inr (1, a_2.2, s.2.2.1, s.2.2.2)))))
noncomputable def f_LawR_readSumB (RR : Int32 → Int32 → (Nat → Int32) → Int32 → (Nat → Int32) → Int32 → Option (Int32 × Int32 × Int32 × (Nat → Int32))) (T_length : Int32) (T_at : Int32) (T_bytes : Nat → Int32) (G_length : Int32) (G_code : Nat → Int32) (p0 : Int32) : Option (Int32 × Int32 × Int32 × (Nat → Int32)) :=
  (f_LawR_readTermB RR T_length T_at T_bytes G_length G_code p0).bind fun a_1 =>
  if a_1.1 = 0 then
  (some (0, a_1.2.1, a_1.2.2.1, a_1.2.2.2))
  else (oLp (f_LawR_readSum_L12 RR T_length T_bytes p0) (0, a_1.2.1, a_1.2.2.1, a_1.2.2.2))
noncomputable def f_LawR_readSum : Nat → Int32 → Int32 → (Nat → Int32) → Int32 → (Nat → Int32) → Int32 → Option (Int32 × Int32 × Int32 × (Nat → Int32))
  | 0 => fun _ _ _ _ _ _ => none
  | n + 1 => f_LawR_readSumB (f_LawR_readSum n)
noncomputable def f_LawR_readRightOfComparison (T_length : Int32) (T_at : Int32) (T_bytes : Nat → Int32) (G_length : Int32) (G_code : Nat → Int32) (p0 : Int32) : Option (Int32 × Int32 × Int32 × (Nat → Int32)) :=
  (f_Tape_sign T_length T_at T_bytes).bind fun a_1 =>
  (f_LawR_isComparison a_1.1).bind fun a_2 =>
  if a_2 = 0 then
  (some (0, a_1.2, G_length, G_code))
  else ((f_Tape_step a_1.2).bind fun a_3 =>
  (f_LawR_readSum 8 T_length a_3 T_bytes G_length G_code p0).bind fun a_4 =>
  if a_4.1 = 0 then
  (some (0, a_4.2.1, a_4.2.2.1, a_4.2.2.2))
  else ((f_LawR_emit a_4.2.2.1 a_4.2.2.2 (20000 + a_1.1)).bind fun a_5 =>
  some (1, a_4.2.1, a_5.1, a_5.2)))
noncomputable def f_LawR_readTruth_L27 (RR : Int32 → Int32 → (Nat → Int32) → Int32 → (Nat → Int32) → Int32 → Option (Int32 × Int32 × Int32 × (Nat → Int32))) (T_length : Int32) (T_bytes : Nat → Int32) (v1 : Int32) (s : (Int32 × Int32 × Int32 × (Nat → Int32))) : Option ((Int32 × Int32 × Int32 × (Nat → Int32)) ⊕ (Int32 × Int32 × Int32 × (Nat → Int32))) :=
  if 240 ≤ s.1 then
  (some (.inr (1, s.2.1, s.2.2.1, s.2.2.2)))
  else ((f_Tape_takes T_length s.2.1 T_bytes 38).bind fun a_2 =>
  if a_2.1 = 0 then
  (some (.inr (1, a_2.2, s.2.2.1, s.2.2.2)))
  else ((RR T_length a_2.2 T_bytes s.2.2.1 s.2.2.2 v1).bind fun a_3 =>
  if a_3.1 = 0 then
  (some (.inr (0, a_3.2.1, a_3.2.2.1, a_3.2.2.2)))
  else ((f_LawR_emit a_3.2.2.1 a_3.2.2.2 20038).bind fun a_4 =>
  some (.inl (s.1 + 1, a_3.2.1, a_4.1, a_4.2)))))
noncomputable def f_LawR_readTruth_J17 (RR : Int32 → Int32 → (Nat → Int32) → Int32 → (Nat → Int32) → Int32 → Option (Int32 × Int32 × Int32 × (Nat → Int32))) (T_length : Int32) (T_at : Int32) (T_bytes : Nat → Int32) (G_length : Int32) (G_code : Nat → Int32) (v1 : Int32) (k0 : Int32) : Option (Int32 × Int32 × Int32 × (Nat → Int32)) :=
  if k0 = 0 then
  (some (0, T_at, G_length, G_code))
  else (oLp (f_LawR_readTruth_L27 RR T_length T_bytes v1) (0, T_at, G_length, G_code))
noncomputable def f_LawR_readTruthB (RR : Int32 → Int32 → (Nat → Int32) → Int32 → (Nat → Int32) → Int32 → Option (Int32 × Int32 × Int32 × (Nat → Int32))) (T_length : Int32) (T_at : Int32) (T_bytes : Nat → Int32) (G_length : Int32) (G_code : Nat → Int32) (p0 : Int32) (p1 : Int32) : Option (Int32 × Int32 × Int32 × (Nat → Int32)) :=
  if p1 = 0 then
  ((RR T_length T_at T_bytes G_length G_code p0).bind fun a_1 =>
  f_LawR_readTruth_J17 RR T_length a_1.2.1 T_bytes a_1.2.2.1 a_1.2.2.2 p0 a_1.1)
  else ((f_LawR_readRightOfComparison T_length T_at T_bytes G_length G_code p0).bind fun a_6 =>
  f_LawR_readTruth_J17 RR T_length a_6.2.1 T_bytes a_6.2.2.1 a_6.2.2.2 p0 a_6.1)
noncomputable def f_LawR_readCondition_L13 (RR : Int32 → Int32 → (Nat → Int32) → Int32 → (Nat → Int32) → Int32 → Option (Int32 × Int32 × Int32 × (Nat → Int32))) (T_length : Int32) (T_bytes : Nat → Int32) (v1 : Int32) (s : (Int32 × Int32 × Int32 × (Nat → Int32))) : Option ((Int32 × Int32 × Int32 × (Nat → Int32)) ⊕ (Int32 × Int32 × Int32 × (Nat → Int32))) :=
  if 240 ≤ s.1 then
  (some (.inr (1, s.2.1, s.2.2.1, s.2.2.2)))
  else ((f_Tape_takes T_length s.2.1 T_bytes 124).bind fun a_2 =>
  if a_2.1 = 0 then
  (some (.inr (1, a_2.2, s.2.2.1, s.2.2.2)))
  else ((f_LawR_readTruthB RR T_length a_2.2 T_bytes s.2.2.1 s.2.2.2 v1 0).bind fun a_3 =>
  if a_3.1 = 0 then
  (some (.inr (0, a_3.2.1, a_3.2.2.1, a_3.2.2.2)))
  else ((f_LawR_emit a_3.2.2.1 a_3.2.2.2 20124).bind fun a_4 =>
  some (.inl (s.1 + 1, a_3.2.1, a_4.1, a_4.2)))))
noncomputable def f_LawR_readConditionB (RR : Int32 → Int32 → (Nat → Int32) → Int32 → (Nat → Int32) → Int32 → Option (Int32 × Int32 × Int32 × (Nat → Int32))) (T_length : Int32) (T_at : Int32) (T_bytes : Nat → Int32) (G_length : Int32) (G_code : Nat → Int32) (p0 : Int32) (p1 : Int32) : Option (Int32 × Int32 × Int32 × (Nat → Int32)) :=
  (f_LawR_readTruthB RR T_length T_at T_bytes G_length G_code p0 p1).bind fun a_1 =>
  if a_1.1 = 0 then
  (some (0, a_1.2.1, a_1.2.2.1, a_1.2.2.2))
  else (oLp (f_LawR_readCondition_L13 RR T_length T_bytes p0) (0, a_1.2.1, a_1.2.2.1, a_1.2.2.2))
noncomputable def f_LawR_readUnit_J42 (RR : Int32 → Int32 → (Nat → Int32) → Int32 → (Nat → Int32) → Int32 → Option (Int32 × Int32 × Int32 × (Nat → Int32))) (T_length : Int32) (T_at : Int32) (T_bytes : Nat → Int32) (G_length : Int32) (G_code : Nat → Int32) (v1 : Int32) (v2 : Int32) : Option (Int32 × Int32 × Int32 × (Nat → Int32)) :=
  if v1 < 6 then
  ((f_Tape_step T_at).bind fun a_2 =>
  if v2 = 40 then
  ((f_LawR_readConditionB RR T_length a_2 T_bytes G_length G_code (v1 + 1) 0).bind fun a_5 =>
  if a_5.1 = 0 then
  (some (0, a_5.2.1, a_5.2.2.1, a_5.2.2.2))
  else ((f_Tape_takes T_length a_5.2.1 T_bytes 41).bind fun a_6 =>
  if a_6.1 = 0 then
  (some (0, a_6.2, a_5.2.2.1, a_5.2.2.2))
  else (some (1, a_6.2, a_5.2.2.1, a_5.2.2.2))))
  else ((RR T_length a_2 T_bytes G_length G_code (v1 + 1)).bind fun a_3 =>
  if a_3.1 = 0 then
  (some (0, a_3.2.1, a_3.2.2.1, a_3.2.2.2))
  else ((f_LawR_emit a_3.2.2.1 a_3.2.2.2 20033).bind fun a_4 =>
  some (1, a_3.2.1, a_4.1, a_4.2))))
  else (some (0, T_at, G_length, G_code))
noncomputable def f_LawR_readUnitB (RR : Int32 → Int32 → (Nat → Int32) → Int32 → (Nat → Int32) → Int32 → Option (Int32 × Int32 × Int32 × (Nat → Int32))) (T_length : Int32) (T_at : Int32) (T_bytes : Nat → Int32) (G_length : Int32) (G_code : Nat → Int32) (p0 : Int32) : Option (Int32 × Int32 × Int32 × (Nat → Int32)) :=
  (f_Tape_sign T_length T_at T_bytes).bind fun a_1 =>
  if a_1.1 = 33 then
  (f_LawR_readUnit_J42 RR T_length a_1.2 T_bytes G_length G_code p0 a_1.1)
  else (if a_1.1 = 40 then
  (f_LawR_readUnit_J42 RR T_length a_1.2 T_bytes G_length G_code p0 a_1.1)
  else ((f_LawR_readSum 8 T_length a_1.2 T_bytes G_length G_code p0).bind fun a_7 =>
  if a_7.1 = 0 then
  (some (0, a_7.2.1, a_7.2.2.1, a_7.2.2.2))
  else ((f_LawR_readRightOfComparison T_length a_7.2.1 T_bytes a_7.2.2.1 a_7.2.2.2 p0).bind fun a_8 =>
  if a_8.1 = 0 then
  (some (0, a_8.2.1, a_8.2.2.1, a_8.2.2.2))
  else (some (1, a_8.2.1, a_8.2.2.1, a_8.2.2.2)))))
noncomputable def f_LawR_readUnit : Nat → Int32 → Int32 → (Nat → Int32) → Int32 → (Nat → Int32) → Int32 → Option (Int32 × Int32 × Int32 × (Nat → Int32))
  | 0 => fun _ _ _ _ _ _ => none
  | n + 1 => f_LawR_readUnitB (f_LawR_readUnit n)
noncomputable def f_LawR_aimJump (G_length : Int32) (G_code : Nat → Int32) (p0 : Int32) : Option (Nat → Int32) :=
  if 240 ≤ p0 then
  (some G_code)
  else (oI p0 240 (oL (upd G_code p0.toNatClampNeg (40000 + G_length)) fun G_code_1 =>
  some G_code_1))
noncomputable def f_LawR_readClause_J88 (T_length : Int32) (T_at : Int32) (T_bytes : Nat → Int32) (G_length : Int32) (G_code : Nat → Int32) (v2 : Int32) : Option (Int32 × Int32 × Int32 × (Nat → Int32)) :=
  (f_LawR_readConditionB (f_LawR_readUnit 8) T_length T_at T_bytes G_length G_code 0 v2).bind fun a_4 =>
  if a_4.1 = 0 then
  (some (0, a_4.2.1, a_4.2.2.1, a_4.2.2.2))
  else ((f_Tape_takes T_length a_4.2.1 T_bytes 63).bind fun a_5 =>
  if a_5.1 = 0 then
  (some (0, a_5.2, a_4.2.2.1, a_4.2.2.2))
  else ((f_LawR_emit a_4.2.2.1 a_4.2.2.2 40000).bind fun a_6 =>
  (f_LawR_readSum 8 T_length a_5.2 T_bytes a_6.1 a_6.2 0).bind fun a_7 =>
  if a_7.1 = 0 then
  (some (0, a_7.2.1, a_7.2.2.1, a_7.2.2.2))
  else ((f_LawR_emit a_7.2.2.1 a_7.2.2.2 30000).bind fun a_8 =>
  (f_LawR_aimJump a_8.1 a_8.2 a_4.2.2.1).bind fun a_9 =>
  some (1, a_7.2.1, a_8.1, a_9))))
noncomputable def f_LawR_readClause_J51 (T_length : Int32) (T_at : Int32) (T_bytes : Nat → Int32) (G_length : Int32) (G_code : Nat → Int32) (k0 : Int32) : Option (Int32 × Int32 × Int32 × (Nat → Int32)) :=
  if k0 = 0 then
  (f_LawR_readClause_J88 T_length T_at T_bytes G_length G_code k0)
  else ((f_LawR_readSum 8 T_length T_at T_bytes G_length G_code 0).bind fun a_10 =>
  if a_10.1 = 0 then
  (some (0, a_10.2.1, a_10.2.2.1, a_10.2.2.2))
  else ((f_Tape_sign T_length a_10.2.1 T_bytes).bind fun a_11 =>
  (f_LawR_isComparison a_11.1).bind fun a_12 =>
  if a_12 = 0 then
  ((f_LawR_emit a_10.2.2.1 a_10.2.2.2 30000).bind fun a_13 =>
  some (1, a_11.2, a_13.1, a_13.2))
  else (f_LawR_readClause_J88 T_length a_11.2 T_bytes a_10.2.2.1 a_10.2.2.2 k0)))
noncomputable def f_LawR_readClause_J50 (T_length : Int32) (T_at : Int32) (T_bytes : Nat → Int32) (G_length : Int32) (G_code : Nat → Int32) : Option (Int32 × Int32 × Int32 × (Nat → Int32)) :=
  f_LawR_readClause_J51 T_length T_at T_bytes G_length G_code 0
noncomputable def f_LawR_readClause (T_length : Int32) (T_at : Int32) (T_bytes : Nat → Int32) (G_length : Int32) (G_code : Nat → Int32) : Option (Int32 × Int32 × Int32 × (Nat → Int32)) :=
  (f_Tape_takes T_length T_at T_bytes 121).bind fun a_1 =>
  if a_1.1 = 0 then
  (some (0, a_1.2, G_length, G_code))
  else ((f_Tape_takes T_length a_1.2 T_bytes 58).bind fun a_2 =>
  if a_2.1 = 0 then
  (some (0, a_2.2, G_length, G_code))
  else ((f_Tape_sign T_length a_2.2 T_bytes).bind fun a_3 =>
  if a_3.1 = 33 then
  (f_LawR_readClause_J50 T_length a_3.2 T_bytes G_length G_code)
  else (if a_3.1 = 40 then
  (f_LawR_readClause_J50 T_length a_3.2 T_bytes G_length G_code)
  else (f_LawR_readClause_J51 T_length a_3.2 T_bytes G_length G_code 1))))
noncomputable def f_LawR_reads_J52 (T_length : Int32) (T_at : Int32) (T_bytes : Nat → Int32) (G_length : Int32) (G_code : Nat → Int32) : Option (Int32 × Int32 × Int32 × (Nat → Int32)) :=
  (f_Tape_sign T_length T_at T_bytes).bind fun a_2 =>
  if a_2.1 = (-1) then
  (some (1, a_2.2, G_length, G_code))
  else (some (0, a_2.2, G_length, G_code))
noncomputable def f_LawR_reads_L16 (T_length : Int32) (T_bytes : Nat → Int32) (s : (Int32 × Int32 × Int32 × Int32 × (Nat → Int32))) : Option ((Int32 × Int32 × Int32 × Int32 × (Nat → Int32)) ⊕ (Int32 × Int32 × Int32 × (Nat → Int32))) :=
  if 240 ≤ s.2.1 then
  ((f_LawR_reads_J52 T_length s.2.2.1 T_bytes s.2.2.2.1 s.2.2.2.2).map .inr)
  else (if s.1 = 0 then
  ((f_LawR_reads_J52 T_length s.2.2.1 T_bytes s.2.2.2.1 s.2.2.2.2).map .inr)
  else ((f_LawR_readClause T_length s.2.2.1 T_bytes s.2.2.2.1 s.2.2.2.2).bind fun a_3 =>
  if a_3.1 = 0 then
  (some (.inr (0, a_3.2.1, a_3.2.2.1, a_3.2.2.2)))
  else ((f_Tape_takes T_length a_3.2.1 T_bytes 59).bind fun a_4 =>
  some (.inl (a_4.1, s.2.1 + 1, a_4.2, a_3.2.2.1, a_3.2.2.2)))))
noncomputable def f_LawR_reads (T_length : Int32) (T_at : Int32) (T_bytes : Nat → Int32) (G_length : Int32) (G_code : Nat → Int32) : Option (Int32 × Int32 × Int32 × (Nat → Int32)) :=
  (f_Tape_rewind T_at).bind fun a_1 =>
  oLp (f_LawR_reads_L16 T_length T_bytes) (1, 0, a_1, 0, G_code)
noncomputable def f_Main_fault (T_length : Int32) (T_at : Int32) (T_bytes : Nat → Int32) (D_cells : Nat → Int32) (D_clauses : Nat → Int32) (G_length : Int32) (G_code : Nat → Int32) (p0 : Int32) : Option (Int32 × Int32 × (Nat → Int32) × (Nat → Int32) × Int32 × (Nat → Int32)) :=
  if p0 = 0 then
  ((f_YardR_reads T_length T_at T_bytes D_cells D_clauses).bind fun a_3 =>
  if a_3.1 = 0 then
  ((f_Tape_position a_3.2.1).bind fun a_4 =>
  some (a_4, a_3.2.1, a_3.2.2.1, a_3.2.2.2, G_length, G_code))
  else (some ((-1), a_3.2.1, a_3.2.2.1, a_3.2.2.2, G_length, G_code)))
  else (if p0 = 1 then
  ((f_LawR_reads T_length T_at T_bytes G_length G_code).bind fun a_1 =>
  if a_1.1 = 0 then
  ((f_Tape_position a_1.2.1).bind fun a_2 =>
  some (a_2, a_1.2.1, D_cells, D_clauses, a_1.2.2.1, a_1.2.2.2))
  else (some ((-1), a_1.2.1, D_cells, D_clauses, a_1.2.2.1, a_1.2.2.2)))
  else (some ((-2), T_at, D_cells, D_clauses, G_length, G_code)))
noncomputable def f_Tape_append_J49 (T_length : Int32) (T_bytes : Nat → Int32) (v2 : Int32) : Option ((Int32 × Int32 × (Nat → Int32)) ⊕ (Int32 × (Nat → Int32))) :=
  some (.inl (v2 + (-8), T_length, T_bytes))
noncomputable def f_Tape_append_L3 (v1 : Int32) (s : (Int32 × Int32 × (Nat → Int32))) : Option ((Int32 × Int32 × (Nat → Int32)) ⊕ (Int32 × (Nat → Int32))) :=
  if s.1 < 0 then
  (some (.inr (s.2.1, s.2.2)))
  else (oL (((v1.toUInt32 >>> (s.1.toUInt32 &&& Int32.toUInt32 31)).toInt32) &&& 255) fun v3_1 => if v3_1 = 0 then
  (f_Tape_append_J49 s.2.1 s.2.2 s.1)
  else (if 240 ≤ s.2.1 then
  (f_Tape_append_J49 s.2.1 s.2.2 s.1)
  else (oI s.2.1 240 (oL (upd s.2.2 s.2.1.toNatClampNeg v3_1) fun T_bytes_3 =>
  oL (s.2.1 + 1) fun T_length_4 =>
  f_Tape_append_J49 T_length_4 T_bytes_3 s.1))))
noncomputable def f_Tape_append (T_length : Int32) (T_bytes : Nat → Int32) (p0 : Int32) : Option (Int32 × (Nat → Int32)) :=
  oLp (f_Tape_append_L3 p0) (24, T_length, T_bytes)
noncomputable def f_Main_feed (T_length : Int32) (T_bytes : Nat → Int32) (p0 : Int32) (p1 : Int32) (p2 : Int32) (p3 : Int32) (p4 : Int32) : Option (Int32 × Int32 × (Nat → Int32)) :=
  (f_Tape_bytesIn p0).bind fun a_1 =>
  (f_Tape_bytesIn p1).bind fun a_2 =>
  (f_Tape_bytesIn p2).bind fun a_3 =>
  (f_Tape_bytesIn p3).bind fun a_4 =>
  (f_Tape_bytesIn p4).bind fun a_5 =>
  oL ((((a_1 + a_2) + a_3) + a_4) + a_5) fun v6_6 => (f_Tape_size T_length).bind fun a_7 =>
  if (a_7 + v6_6) ≤ 240 then
  ((f_Tape_append T_length T_bytes p0).bind fun a_8 =>
  (f_Tape_append a_8.1 a_8.2 p1).bind fun a_9 =>
  (f_Tape_append a_9.1 a_9.2 p2).bind fun a_10 =>
  (f_Tape_append a_10.1 a_10.2 p3).bind fun a_11 =>
  (f_Tape_append a_11.1 a_11.2 p4).bind fun a_12 =>
  (f_Tape_size a_12.1).bind fun a_13 =>
  some (a_13, a_12.1, a_12.2))
  else (some ((-1), T_length, T_bytes))
noncomputable def f_Main_game (A_size : Int32) (A_chosen : Int32) (A_codes : Nat → Int32) (A_lengths : Nat → Int32) (A_stack : Nat → Int32) (Y_cells : Nat → Int32) (Y_clauses : Nat → Int32) (N_marbles : Int32) (N_chipped : Int32) (N_swallowed : Int32) (N_day : Int32) (N_owners : Nat → Int32) (L_letters : Nat → Int32) (p0 : Int32) (p1 : Int32) (p2 : Int32) (p3 : Int32) (p4 : Int32) : Option (Int32 × (Nat → Int32) × (Nat → Int32)) :=
  if p4 < 0 then
  (some ((-1000000), A_stack, L_letters))
  else (if 1 < p4 then
  (some ((-1000000), A_stack, L_letters))
  else ((f_Lane_refusalOf Y_clauses N_marbles N_swallowed N_owners p0 p1 p2 p3).bind fun a_1 =>
  if a_1 = (-1) then
  ((f_Now_ownerOf N_marbles N_owners p0).bind fun a_2 =>
  (f_Lane_flick A_size A_chosen A_codes A_lengths A_stack Y_cells N_marbles N_chipped N_day N_owners L_letters a_2 p0 p1).bind fun a_3 =>
  (f_Now_ownerOf N_marbles N_owners p2).bind fun a_4 =>
  (f_Lane_flick A_size A_chosen A_codes A_lengths a_3.2.1 Y_cells N_marbles N_chipped N_day N_owners a_3.2.2 a_4 p2 p3).bind fun a_5 =>
  if p4 = 0 then
  ((f_Yard_size Y_cells p0).bind fun a_9 =>
  (f_Yard_size Y_cells p2).bind fun a_10 =>
  (f_Lane_gain Y_cells a_3.1 a_5.1 a_9 a_10).bind fun a_11 =>
  some (a_11, a_5.2.1, a_5.2.2))
  else ((f_Yard_size Y_cells p2).bind fun a_6 =>
  (f_Yard_size Y_cells p0).bind fun a_7 =>
  (f_Lane_gain Y_cells a_5.1 a_3.1 a_6 a_7).bind fun a_8 =>
  some (a_8, a_5.2.1, a_5.2.2)))
  else (some ((-1000000), A_stack, L_letters))))
noncomputable def f_Main_give_J22 (N_sweets : Int32) (N_owners : Nat → Int32) (P_next : Int32) (P_kept : Int32) (P_acts : Nat → Int64) (W_refusals : Nat → Int32) : Option (Int32 × Int32 × (Nat → Int32) × Int32 × Int32 × (Nat → Int64) × (Nat → Int32)) :=
  (f_Main_refuse W_refusals 0).bind fun a_2 =>
  some (a_2.1, N_sweets, N_owners, P_next, P_kept, P_acts, a_2.2)
noncomputable def f_Main_give_J51 (N_sweets : Int32) (N_owners : Nat → Int32) (P_next : Int32) (P_kept : Int32) (P_acts : Nat → Int64) (W_refusals : Nat → Int32) : Option (Int32 × Int32 × (Nat → Int32) × Int32 × Int32 × (Nat → Int64) × (Nat → Int32)) :=
  (f_Main_refuse W_refusals 2).bind fun a_5 =>
  some (a_5.1, N_sweets, N_owners, P_next, P_kept, P_acts, a_5.2)
noncomputable def f_Main_give (Y_cells : Nat → Int32) (Y_clauses : Nat → Int32) (N_marbles : Int32) (N_chipped : Int32) (N_swallowed : Int32) (N_sweets : Int32) (N_day : Int32) (N_owners : Nat → Int32) (P_next : Int32) (P_kept : Int32) (P_acts : Nat → Int64) (W_refusals : Nat → Int32) (p0 : Int32) (p1 : Int32) : Option (Int32 × Int32 × (Nat → Int32) × Int32 × Int32 × (Nat → Int64) × (Nat → Int32)) :=
  (f_Yard_hasMarble Y_clauses p0).bind fun a_1 =>
  if a_1 = 0 then
  (f_Main_give_J22 N_sweets N_owners P_next P_kept P_acts W_refusals)
  else ((f_Yard_hasBoy Y_clauses p1).bind fun a_3 =>
  if a_3 = 0 then
  (f_Main_give_J22 N_sweets N_owners P_next P_kept P_acts W_refusals)
  else ((f_Now_isFree N_marbles N_swallowed N_owners p0).bind fun a_4 =>
  if a_4 = 0 then
  (f_Main_give_J51 N_sweets N_owners P_next P_kept P_acts W_refusals)
  else ((f_Now_ownerOf N_marbles N_owners p0).bind fun a_6 =>
  if a_6 = p1 then
  (f_Main_give_J51 N_sweets N_owners P_next P_kept P_acts W_refusals)
  else ((f_Yard_size Y_cells p0).bind fun a_7 =>
  if a_7 ≤ N_sweets then
  ((f_Past_remember N_marbles N_chipped N_swallowed N_sweets N_day N_owners P_next P_kept P_acts).bind fun a_8 =>
  (f_Yard_size Y_cells p0).bind fun a_9 =>
  oL (N_sweets - a_9) fun N_sweets_10 =>
  (f_Now_hand N_marbles N_owners p0 p1).bind fun a_11 =>
  some (N_sweets_10, N_sweets_10, a_11, a_8.1, a_8.2.1, a_8.2.2, W_refusals))
  else ((f_Main_refuse W_refusals 3).bind fun a_12 =>
  some (a_12.1, N_sweets, N_owners, P_next, P_kept, P_acts, a_12.2))))))
noncomputable def f_Main_hands (Y_clauses : Nat → Int32) (N_marbles : Int32) (N_owners : Nat → Int32) (p0 : Int32) : Option Int32 :=
  (f_Yard_hasBoy Y_clauses p0).bind fun a_1 =>
  if a_1 = 0 then
  (some (-1))
  else ((f_Now_handOf N_marbles N_owners p0).bind fun a_2 =>
  some a_2)
noncomputable def f_Past_keepImage_L18 (N_day : Int32) (P_hasImage : Int32) (P_image : Int64) (P_entries : Nat → Int32) (s : (Int32 × (Nat → Int32))) : Option ((Int32 × (Nat → Int32)) ⊕ (Int32 × Int64 × (Nat → Int32))) :=
  (f_Past_logLength N_day).bind fun a_2 =>
  if a_2 ≤ s.1 then
  (some (.inr (P_hasImage, P_image, s.2)))
  else ((f_Past_ringIndex N_day s.1).bind fun a_3 =>
  oI a_3 128 (oI s.1 60 (oL (upd s.2 s.1.toNatClampNeg (P_entries a_3.toNatClampNeg)) fun P_imageEntries_4 =>
  some (.inl (s.1 + 1, P_imageEntries_4)))))
noncomputable def f_Past_keepImage (N_marbles : Int32) (N_chipped : Int32) (N_swallowed : Int32) (N_sweets : Int32) (N_day : Int32) (N_owners : Nat → Int32) (P_hasImage : Int32) (P_image : Int64) (P_entries : Nat → Int32) (P_imageEntries : Nat → Int32) : Option (Int32 × Int64 × (Nat → Int32)) :=
  (f_Now_packed N_marbles N_chipped N_swallowed N_sweets N_day N_owners).bind fun a_1 =>
  oLp (f_Past_keepImage_L18 N_day 1 a_1 P_entries) (0, P_imageEntries)
noncomputable def f_Main_image (Y_clauses : Nat → Int32) (N_marbles : Int32) (N_chipped : Int32) (N_swallowed : Int32) (N_sweets : Int32) (N_day : Int32) (N_owners : Nat → Int32) (P_hasImage : Int32) (P_image : Int64) (P_entries : Nat → Int32) (P_imageEntries : Nat → Int32) : Option (Int32 × Int32 × Int64 × (Nat → Int32)) :=
  (f_Yard_stands Y_clauses).bind fun a_1 =>
  if a_1 = 0 then
  (some ((-1), P_hasImage, P_image, P_imageEntries))
  else ((f_Past_keepImage N_marbles N_chipped N_swallowed N_sweets N_day N_owners P_hasImage P_image P_entries P_imageEntries).bind fun a_2 =>
  some (N_day, a_2.1, a_2.2.1, a_2.2.2))
noncomputable def f_Main_isPlaceAndKind (Y_clauses : Nat → Int32) (p0 : Int32) (p1 : Int32) : Option Int32 :=
  (f_Yard_stands Y_clauses).bind fun a_1 =>
  if a_1 = 0 then
  (some 0)
  else (if p0 < 0 then
  (some 0)
  else (if 10 ≤ p0 then
  (some 0)
  else (if p1 < 0 then
  (some 0)
  else (if 6 ≤ p1 then
  (some 0)
  else (some 1)))))
noncomputable def f_Main_lands (A_size : Int32) (A_chosen : Int32) (A_codes : Nat → Int32) (A_lengths : Nat → Int32) (A_stack : Nat → Int32) (Y_cells : Nat → Int32) (Y_clauses : Nat → Int32) (N_marbles : Int32) (N_chipped : Int32) (N_day : Int32) (N_owners : Nat → Int32) (L_letters : Nat → Int32) (p0 : Int32) (p1 : Int32) (p2 : Int32) : Option (Int32 × (Nat → Int32) × (Nat → Int32)) :=
  (f_Yard_hasBoy Y_clauses p0).bind fun a_1 =>
  if a_1 = 0 then
  (some ((-1), A_stack, L_letters))
  else ((f_Yard_hasMarble Y_clauses p1).bind fun a_2 =>
  if a_2 = 0 then
  (some ((-1), A_stack, L_letters))
  else ((f_Lane_isPower p2).bind fun a_3 =>
  if a_3 = 0 then
  (some ((-1), A_stack, L_letters))
  else ((f_Lane_flick A_size A_chosen A_codes A_lengths A_stack Y_cells N_marbles N_chipped N_day N_owners L_letters p0 p1 p2).bind fun a_4 =>
  some (a_4.1, a_4.2.1, a_4.2.2))))
noncomputable def f_Laws_choose (A_size : Int32) (A_chosen : Int32) (p0 : Int32) : Option (Int32 × Int32) :=
  if p0 < (-1) then
  (some (0, A_chosen))
  else (if p0 < A_size then
  (some (1, p0))
  else (some (0, A_chosen)))
noncomputable def f_Main_law (A_size : Int32) (A_chosen : Int32) (p0 : Int32) : Option (Int32 × Int32) :=
  (f_Laws_choose A_size A_chosen p0).bind fun a_1 =>
  oZ a_1.1 (some (a_1.1, a_1.2))
noncomputable def f_Main_liking (Y_cells : Nat → Int32) (Y_clauses : Nat → Int32) (N_chipped : Int32) (p0 : Int32) (p1 : Int32) : Option Int32 :=
  (f_Yard_hasBoy Y_clauses p0).bind fun a_1 =>
  if a_1 = 0 then
  (some (-1))
  else ((f_Yard_hasMarble Y_clauses p1).bind fun a_2 =>
  if a_2 = 0 then
  (some (-1))
  else ((f_Main_likingFor Y_cells Y_clauses N_chipped p0 p1).bind fun a_3 =>
  some a_3))
noncomputable def f_Past_sweetsThen (N_day : Int32) (P_entries : Nat → Int32) (p0 : Int32) : Option Int32 :=
  (f_Past_ringIndex N_day p0).bind fun a_1 =>
  oI a_1 128 (some ((P_entries a_1.toNatClampNeg) >>> (6 &&& 31)))
noncomputable def f_Past_contentThen (N_day : Int32) (P_entries : Nat → Int32) (p0 : Int32) : Option Int32 :=
  (f_Past_ringIndex N_day p0).bind fun a_1 =>
  oI a_1 128 (some ((P_entries a_1.toNatClampNeg) &&& 63))
noncomputable def f_Main_log (N_day : Int32) (P_entries : Nat → Int32) (p0 : Int32) (p1 : Int32) : Option Int32 :=
  if p0 < 0 then
  (some (-1))
  else ((f_Past_logLength N_day).bind fun a_1 =>
  if p0 < a_1 then
  (if p1 = 0 then
  ((f_Past_sweetsThen N_day P_entries p0).bind fun a_3 =>
  some a_3)
  else (if p1 = 1 then
  ((f_Past_contentThen N_day P_entries p0).bind fun a_2 =>
  some a_2)
  else (some (-1))))
  else (some (-1)))
noncomputable def f_Main_marble (Y_cells : Nat → Int32) (Y_clauses : Nat → Int32) (N_marbles : Int32) (N_chipped : Int32) (N_swallowed : Int32) (N_owners : Nat → Int32) (p0 : Int32) (p1 : Int32) : Option Int32 :=
  (f_Yard_hasMarble Y_clauses p0).bind fun a_1 =>
  if a_1 = 0 then
  (some (-1000000))
  else (if p1 = 0 then
  ((f_Now_ownerOf N_marbles N_owners p0).bind fun a_2 =>
  some a_2)
  else (if p1 = 1 then
  ((f_Yard_kind Y_cells p0).bind fun a_3 =>
  some a_3)
  else (if p1 = 2 then
  ((f_Yard_size Y_cells p0).bind fun a_4 =>
  some a_4)
  else (if p1 = 3 then
  ((f_Now_isChipped N_chipped p0).bind fun a_5 =>
  if a_5 = 0 then
  (some 0)
  else (some 1))
  else (if p1 = 4 then
  ((f_Now_isSwallowed N_swallowed p0).bind fun a_6 =>
  if a_6 = 0 then
  (some 0)
  else (some 1))
  else (some (-1000000)))))))
noncomputable def f_Sky_placesWithout_J27 (v2 : Int32) (k0 : Int32) (k1 : Int32) : Option ((Int32 × Int32) ⊕ Int32) :=
  oL (k0 ||| k1) fun v1_2 => some (.inl (v1_2, v2 + 1))
noncomputable def f_Sky_placesWithout_L4 (S_strengths : Nat → Int32) (s : (Int32 × Int32)) : Option ((Int32 × Int32) ⊕ Int32) :=
  if 10 ≤ s.2 then
  (some (.inr s.1))
  else ((f_Sky_strongestKind S_strengths s.2).bind fun a_1 =>
  if a_1 = (-1) then
  (f_Sky_placesWithout_J27 s.2 s.1 (1 <<< (s.2 &&& 31)))
  else (f_Sky_placesWithout_J27 s.2 s.1 0))
noncomputable def f_Sky_placesWithout (S_strengths : Nat → Int32) : Option Int32 :=
  oLp (f_Sky_placesWithout_L4 S_strengths) (0, 0)
noncomputable def f_Main_strongestMarble_J52 (v1 : Int32) (v2 : Int32) : Option ((Int32 × Int32) ⊕ Int32) :=
  some (.inl (v1, v2 + 1))
noncomputable def f_Main_strongestMarble_J50 (v2 : Int32) : Option ((Int32 × Int32) ⊕ Int32) :=
  f_Main_strongestMarble_J52 v2 v2
noncomputable def f_Main_strongestMarble_L4 (Y_cells : Nat → Int32) (Y_clauses : Nat → Int32) (N_marbles : Int32) (N_owners : Nat → Int32) (s : (Int32 × Int32)) : Option ((Int32 × Int32) ⊕ Int32) :=
  (f_Yard_marbles Y_clauses).bind fun a_1 =>
  if a_1 ≤ s.2 then
  (some (.inr s.1))
  else ((f_Now_isDrained N_marbles N_owners s.2).bind fun a_2 =>
  if a_2 = 0 then
  (if s.1 = (-1) then
  (f_Main_strongestMarble_J50 s.2)
  else ((f_Yard_size Y_cells s.2).bind fun a_4 =>
  (f_Yard_size Y_cells s.1).bind fun a_5 =>
  if a_4 ≤ a_5 then
  (f_Main_strongestMarble_J52 s.1 s.2)
  else (f_Main_strongestMarble_J50 s.2)))
  else (f_Main_strongestMarble_J52 s.1 s.2))
noncomputable def f_Main_strongestMarble (Y_cells : Nat → Int32) (Y_clauses : Nat → Int32) (N_marbles : Int32) (N_owners : Nat → Int32) : Option Int32 :=
  oLp (f_Main_strongestMarble_L4 Y_cells Y_clauses N_marbles N_owners) ((-1), 0)
noncomputable def f_Main_richestBoy_J42 (v1 : Int32) (v2 : Int32) : Option ((Int32 × Int32) ⊕ Int32) :=
  some (.inl (v1, v2 + 1))
noncomputable def f_Main_richestBoy_L4 (Y_clauses : Nat → Int32) (N_marbles : Int32) (N_owners : Nat → Int32) (s : (Int32 × Int32)) : Option ((Int32 × Int32) ⊕ Int32) :=
  (f_Yard_boys Y_clauses).bind fun a_1 =>
  if a_1 ≤ s.2 then
  (some (.inr s.1))
  else ((f_Now_handOf N_marbles N_owners s.2).bind fun a_2 =>
  (f_J_bitCount a_2).bind fun a_3 =>
  (f_Now_handOf N_marbles N_owners s.1).bind fun a_4 =>
  (f_J_bitCount a_4).bind fun a_5 =>
  if a_3 ≤ a_5 then
  (f_Main_richestBoy_J42 s.1 s.2)
  else (f_Main_richestBoy_J42 s.2 s.2))
noncomputable def f_Main_richestBoy (Y_clauses : Nat → Int32) (N_marbles : Int32) (N_owners : Nat → Int32) : Option Int32 :=
  oLp (f_Main_richestBoy_L4 Y_clauses N_marbles N_owners) (0, 1)
noncomputable def f_Main_most (A_size : Int32) (A_chosen : Int32) (A_codes : Nat → Int32) (A_lengths : Nat → Int32) (A_stack : Nat → Int32) (Y_cells : Nat → Int32) (Y_clauses : Nat → Int32) (N_marbles : Int32) (N_chipped : Int32) (N_swallowed : Int32) (N_day : Int32) (N_owners : Nat → Int32) (S_strengths : Nat → Int32) (L_letters : Nat → Int32) (p0 : Int32) : Option (Int32 × (Nat → Int32) × (Nat → Int32) × (Nat → Int32)) :=
  (f_Yard_stands Y_clauses).bind fun a_1 =>
  if a_1 = 0 then
  (some ((-1), A_stack, S_strengths, L_letters))
  else (if p0 = 0 then
  ((f_Main_richestBoy Y_clauses N_marbles N_owners).bind fun a_2 =>
  some (a_2, A_stack, S_strengths, L_letters))
  else (if p0 = 1 then
  ((f_Main_strongestMarble Y_cells Y_clauses N_marbles N_owners).bind fun a_3 =>
  some (a_3, A_stack, S_strengths, L_letters))
  else (if p0 = 2 then
  ((f_Sky_measure Y_cells Y_clauses N_marbles N_chipped N_owners S_strengths).bind fun a_4 =>
  (f_Sky_placesWithout a_4).bind fun a_5 =>
  some (a_5, A_stack, a_4, L_letters))
  else (if p0 = 3 then
  ((f_Main_champion A_size A_chosen A_codes A_lengths A_stack Y_cells Y_clauses N_marbles N_chipped N_swallowed N_day N_owners L_letters).bind fun a_6 =>
  some (a_6.1, a_6.2.1, S_strengths, a_6.2.2))
  else (some ((-1), A_stack, S_strengths, L_letters))))))
noncomputable def f_Main_odds (A_size : Int32) (A_chosen : Int32) (A_codes : Nat → Int32) (A_lengths : Nat → Int32) (A_stack : Nat → Int32) (Y_cells : Nat → Int32) (Y_clauses : Nat → Int32) (N_marbles : Int32) (N_chipped : Int32) (N_swallowed : Int32) (N_day : Int32) (N_owners : Nat → Int32) (L_letters : Nat → Int32) (p0 : Int32) (p1 : Int32) (p2 : Int32) (p3 : Int32) (p4 : Int32) : Option (Int32 × (Nat → Int32) × (Nat → Int32)) :=
  if p4 < 0 then
  (some ((-1), A_stack, L_letters))
  else (if 100 < p4 then
  (some ((-1), A_stack, L_letters))
  else ((f_Lane_refusalOf Y_clauses N_marbles N_swallowed N_owners p0 p1 p2 p3).bind fun a_1 =>
  if a_1 = (-1) then
  ((f_Now_ownerOf N_marbles N_owners p0).bind fun a_2 =>
  (f_Lane_flick A_size A_chosen A_codes A_lengths A_stack Y_cells N_marbles N_chipped N_day N_owners L_letters a_2 p0 p1).bind fun a_3 =>
  (f_Now_ownerOf N_marbles N_owners p2).bind fun a_4 =>
  (f_Lane_flick A_size A_chosen A_codes A_lengths a_3.2.1 Y_cells N_marbles N_chipped N_day N_owners a_3.2.2 a_4 p2 p3).bind fun a_5 =>
  (f_Lane_winningParts Y_cells a_3.1 a_5.1 p4).bind fun a_6 =>
  some (a_6, a_5.2.1, a_5.2.2))
  else (some ((-1), A_stack, L_letters))))
noncomputable def f_Main_pays (Y_cells : Nat → Int32) (Y_clauses : Nat → Int32) (N_marbles : Int32) (N_chipped : Int32) (N_owners : Nat → Int32) (S_strengths : Nat → Int32) : Option (Int32 × (Nat → Int32)) :=
  (f_Yard_stands Y_clauses).bind fun a_1 =>
  if a_1 = 0 then
  (some ((-1), S_strengths))
  else ((f_Main_contentNow Y_cells Y_clauses N_marbles N_chipped N_owners S_strengths).bind fun a_2 =>
  (f_Yard_paymentOf Y_cells Y_clauses a_2.1).bind fun a_3 =>
  some (a_3, a_2.2))
noncomputable def f_Main_play (A_size : Int32) (A_chosen : Int32) (A_codes : Nat → Int32) (A_lengths : Nat → Int32) (A_stack : Nat → Int32) (Y_cells : Nat → Int32) (Y_clauses : Nat → Int32) (N_marbles : Int32) (N_chipped : Int32) (N_swallowed : Int32) (N_sweets : Int32) (N_day : Int32) (N_owners : Nat → Int32) (P_next : Int32) (P_kept : Int32) (P_acts : Nat → Int64) (L_letters : Nat → Int32) (W_refusals : Nat → Int32) (p0 : Int32) (p1 : Int32) (p2 : Int32) (p3 : Int32) : Option (Int32 × (Nat → Int32) × (Nat → Int32) × Int32 × Int32 × (Nat → Int64) × (Nat → Int32) × (Nat → Int32)) :=
  (f_Lane_refusalOf Y_clauses N_marbles N_swallowed N_owners p0 p1 p2 p3).bind fun a_1 =>
  if a_1 = (-1) then
  ((f_Past_remember N_marbles N_chipped N_swallowed N_sweets N_day N_owners P_next P_kept P_acts).bind fun a_2 =>
  (f_Lane_carryOut A_size A_chosen A_codes A_lengths A_stack Y_cells N_marbles N_chipped N_day N_owners L_letters p0 p1 p2 p3).bind fun a_3 =>
  some (a_3.1, a_3.2.1, a_3.2.2.1, a_2.1, a_2.2.1, a_2.2.2, a_3.2.2.2, W_refusals))
  else ((f_Main_refuse W_refusals a_1).bind fun a_4 =>
  some (a_4.1, A_stack, N_owners, P_next, P_kept, P_acts, L_letters, a_4.2))
noncomputable def f_Main_playByDraws (W_drawn : Int64) (A_size : Int32) (A_chosen : Int32) (A_codes : Nat → Int32) (A_lengths : Nat → Int32) (A_stack : Nat → Int32) (Y_cells : Nat → Int32) (Y_clauses : Nat → Int32) (N_marbles : Int32) (N_chipped : Int32) (N_swallowed : Int32) (N_day : Int32) (N_owners : Nat → Int32) (L_letters : Nat → Int32) : Option (Int64 × (Nat → Int32) × (Nat → Int32) × (Nat → Int32)) :=
  (f_Yard_marbles Y_clauses).bind fun a_1 =>
  (f_Main_draw W_drawn a_1).bind fun a_2 =>
  (f_Yard_marbles Y_clauses).bind fun a_3 =>
  (f_Main_draw a_2.2 a_3).bind fun a_4 =>
  (f_Main_draw a_4.2 9).bind fun a_5 =>
  oL (a_5.1 + 1) fun v3_6 => (f_Main_draw a_5.2 9).bind fun a_7 =>
  oL (a_7.1 + 1) fun v4_8 => (f_Lane_refusalOf Y_clauses N_marbles N_swallowed N_owners a_2.1 v3_6 a_4.1 v4_8).bind fun a_9 =>
  if a_9 = (-1) then
  ((f_Lane_carryOut A_size A_chosen A_codes A_lengths A_stack Y_cells N_marbles N_chipped N_day N_owners L_letters a_2.1 v3_6 a_4.1 v4_8).bind fun a_10 =>
  some (a_7.2, a_10.2.1, a_10.2.2.1, a_10.2.2.2))
  else (some (a_7.2, A_stack, N_owners, L_letters))
noncomputable def f_Main_rests (A_size : Int32) (A_chosen : Int32) (A_codes : Nat → Int32) (A_lengths : Nat → Int32) (A_stack : Nat → Int32) (Y_cells : Nat → Int32) (Y_clauses : Nat → Int32) (N_marbles : Int32) (N_chipped : Int32) (N_swallowed : Int32) (N_day : Int32) (N_owners : Nat → Int32) (L_letters : Nat → Int32) (L_firstCells : Nat → Int32) (L_secondCells : Nat → Int32) (L_firstBest : Nat → Int32) (L_secondBest : Nat → Int32) (p0 : Int32) (p1 : Int32) (p2 : Int32) : Option (Int32 × (Nat → Int32) × (Nat → Int32) × (Nat → Int32) × (Nat → Int32) × (Nat → Int32) × (Nat → Int32)) :=
  (f_Lane_refusalOf Y_clauses N_marbles N_swallowed N_owners p0 1 p1 1).bind fun a_1 =>
  if a_1 = (-1) then
  ((f_Lane_restingPowers A_size A_chosen A_codes A_lengths A_stack Y_cells N_marbles N_chipped N_day N_owners L_letters L_firstCells L_secondCells L_firstBest L_secondBest p0 p1 p2).bind fun a_2 =>
  some (a_2.1, a_2.2.1, a_2.2.2.1, a_2.2.2.2.1, a_2.2.2.2.2.1, a_2.2.2.2.2.2.1, a_2.2.2.2.2.2.2))
  else (some ((-1), A_stack, L_letters, L_firstCells, L_secondCells, L_firstBest, L_secondBest))
noncomputable def f_Main_rule (Y_cells : Nat → Int32) (Y_clauses : Nat → Int32) (N_sweets : Int32) (p0 : Int32) : Option Int32 :=
  (f_Yard_stands Y_clauses).bind fun a_1 =>
  if a_1 = 0 then
  (some (-1))
  else (if p0 = 0 then
  ((f_Yard_hole Y_cells).bind fun a_2 =>
  some a_2)
  else (if p0 = 1 then
  ((f_Yard_behind Y_cells).bind fun a_3 =>
  some a_3)
  else (if p0 = 2 then
  (some N_sweets)
  else (some (-1)))))
noncomputable def f_Main_saves_L38 (N_sweets : Int32) (S_strengths : Nat → Int32) (v1 : Int32) (v2 : Int32) (s : Int32) : Option (Int32 ⊕ (Int32 × (Nat → Int32))) :=
  if 60 < s then
  (some (.inr ((-1), S_strengths)))
  else (if (N_sweets + (s * v2)) < v1 then
  (some (.inl (s + 1)))
  else (some (.inr (s, S_strengths))))
noncomputable def f_Main_saves (Y_cells : Nat → Int32) (Y_clauses : Nat → Int32) (N_marbles : Int32) (N_chipped : Int32) (N_sweets : Int32) (N_owners : Nat → Int32) (S_strengths : Nat → Int32) (p0 : Int32) : Option (Int32 × (Nat → Int32)) :=
  (f_Yard_stands Y_clauses).bind fun a_1 =>
  if a_1 = 0 then
  (some ((-1), S_strengths))
  else (if p0 < 1 then
  (some ((-1), S_strengths))
  else (if p0 ≤ 999 then
  ((f_Main_contentNow Y_cells Y_clauses N_marbles N_chipped N_owners S_strengths).bind fun a_2 =>
  (f_Yard_paymentOf Y_cells Y_clauses a_2.1).bind fun a_3 =>
  oLp (f_Main_saves_L38 N_sweets a_2.2 p0 a_3) 0)
  else (some ((-1), S_strengths))))
noncomputable def f_Main_seen (Y_clauses : Nat → Int32) (U_size : Int32) (U_places : Nat → Int32) (U_kinds : Nat → Int32) (U_holds : Nat → Int32) (p0 : Int32) (p1 : Int32) (p2 : Int32) : Option (Int32 × Int32 × (Nat → Int32) × (Nat → Int32) × (Nat → Int32)) :=
  (f_Main_isPlaceAndKind Y_clauses p0 p1).bind fun a_1 =>
  if a_1 = 0 then
  (some ((-1), U_size, U_places, U_kinds, U_holds))
  else ((f_Clues_size U_size).bind fun a_2 =>
  if a_2 < 10 then
  ((f_Clues_add U_size U_places U_kinds U_holds p0 p1 p2).bind fun a_3 =>
  (f_Clues_size a_3.1).bind fun a_4 =>
  some (a_4, a_3.1, a_3.2.1, a_3.2.2.1, a_3.2.2.2))
  else (some ((-1), U_size, U_places, U_kinds, U_holds)))
noncomputable def f_Main_shares_J99 (v3 : Int32) (v4 : Int32) (v5 : Int32) : Option ((Int32 × Int32 × Int32) ⊕ Int32) :=
  some (.inl (v3, v4, v5 + 1))
noncomputable def f_Main_shares_J97 (v4 : Int32) (v5 : Int32) (k0 : Int32) (k1 : Int32) : Option ((Int32 × Int32 × Int32) ⊕ Int32) :=
  oL (k0 + k1) fun v3_8 => f_Main_shares_J99 v3_8 v4 v5
noncomputable def f_Main_shares_L32 (Y_cells : Nat → Int32) (Y_clauses : Nat → Int32) (N_marbles : Int32) (N_owners : Nat → Int32) (v1 : Int32) (v2 : Int32) (s : (Int32 × Int32 × Int32)) : Option ((Int32 × Int32 × Int32) ⊕ Int32) :=
  (f_Yard_marbles Y_clauses).bind fun a_2 =>
  if a_2 ≤ s.2.2 then
  ((if s.2.1 = 0 then
  (some 0)
  else (oD (s.2.1) (some ((v2 * s.1) / s.2.1)))).map .inr)
  else ((f_Now_isDrained N_marbles N_owners s.2.2).bind fun a_3 =>
  if a_3 = 0 then
  ((f_Yard_size Y_cells s.2.2).bind fun a_5 =>
  oL (s.2.1 + a_5) fun v4_6 => (f_Now_ownerOf N_marbles N_owners s.2.2).bind fun a_7 =>
  if a_7 = v1 then
  ((f_Yard_size Y_cells s.2.2).bind fun a_9 =>
  f_Main_shares_J97 v4_6 s.2.2 s.1 a_9)
  else (f_Main_shares_J97 v4_6 s.2.2 s.1 0))
  else (f_Main_shares_J99 s.1 s.2.1 s.2.2))
noncomputable def f_Main_shares (Y_cells : Nat → Int32) (Y_clauses : Nat → Int32) (N_marbles : Int32) (N_owners : Nat → Int32) (p0 : Int32) (p1 : Int32) : Option Int32 :=
  (f_Yard_hasBoy Y_clauses p0).bind fun a_1 =>
  if a_1 = 0 then
  (some (-1))
  else (if p1 < 0 then
  (some (-1))
  else (if p1 ≤ 999 then
  (oLp (f_Main_shares_L32 Y_cells Y_clauses N_marbles N_owners p0 p1) (0, 0, 0))
  else (some (-1))))
noncomputable def f_Main_spell (Y_cells : Nat → Int32) (Y_clauses : Nat → Int32) (N_marbles : Int32) (N_chipped : Int32) (N_owners : Nat → Int32) (S_strengths : Nat → Int32) (p0 : Int32) (p1 : Int32) : Option (Int32 × (Nat → Int32)) :=
  (f_Main_isPlaceAndKind Y_clauses p0 p1).bind fun a_1 =>
  if a_1 = 0 then
  (some ((-1), S_strengths))
  else ((f_Sky_measure Y_cells Y_clauses N_marbles N_chipped N_owners S_strengths).bind fun a_2 =>
  (f_Sky_strengthOf a_2 p0 p1).bind fun a_3 =>
  some (a_3, a_2))
noncomputable def f_Main_spillByDraws (W_spillsNow : Int32) (W_drawn : Int64) (Y_clauses : Nat → Int32) (N_marbles : Int32) (N_chipped : Int32) (N_owners : Nat → Int32) : Option (Int64 × Int32) :=
  (f_Main_draw W_drawn 10).bind fun a_1 =>
  if a_1.1 < W_spillsNow then
  ((f_Yard_marbles Y_clauses).bind fun a_2 =>
  (f_Main_draw a_1.2 a_2).bind fun a_3 =>
  (f_Now_isDrained N_marbles N_owners a_3.1).bind fun a_4 =>
  if a_4 = 0 then
  (oL (N_chipped ||| (1 <<< (a_3.1 &&& 31))) fun N_chipped_5 =>
  some (a_3.2, N_chipped_5))
  else (some (a_3.2, N_chipped)))
  else (some (a_1.2, N_chipped))
noncomputable def f_Main_spills (W_spillsNow : Int32) (p0 : Int32) : Option (Int32 × Int32) :=
  if p0 < 0 then
  (some (0, W_spillsNow))
  else (if 9 < p0 then
  (some (0, W_spillsNow))
  else (if p0 = W_spillsNow then
  (some (0, W_spillsNow))
  else (some (1, p0))))
noncomputable def f_Main_status (W_refusals : Nat → Int32) (p0 : Int32) : Option Int32 :=
  if p0 < 0 then
  (some (-1))
  else (if 5 ≤ p0 then
  (some (-1))
  else (oI p0 5 (some (W_refusals p0.toNatClampNeg))))
noncomputable def f_Main_swallow_J39 (N_swallowed : Int32) (P_next : Int32) (P_kept : Int32) (P_acts : Nat → Int64) (W_refusals : Nat → Int32) : Option (Int32 × Int32 × Int32 × Int32 × (Nat → Int64) × (Nat → Int32)) :=
  (f_Main_refuse W_refusals 2).bind fun a_3 =>
  some (a_3.1, N_swallowed, P_next, P_kept, P_acts, a_3.2)
noncomputable def f_Main_swallow (Y_clauses : Nat → Int32) (N_marbles : Int32) (N_chipped : Int32) (N_swallowed : Int32) (N_sweets : Int32) (N_day : Int32) (N_owners : Nat → Int32) (P_next : Int32) (P_kept : Int32) (P_acts : Nat → Int64) (W_refusals : Nat → Int32) (p0 : Int32) : Option (Int32 × Int32 × Int32 × Int32 × (Nat → Int64) × (Nat → Int32)) :=
  (f_Yard_hasMarble Y_clauses p0).bind fun a_1 =>
  if a_1 = 0 then
  ((f_Main_refuse W_refusals 0).bind fun a_8 =>
  some (a_8.1, N_swallowed, P_next, P_kept, P_acts, a_8.2))
  else ((f_Now_isSwallowed N_swallowed p0).bind fun a_2 =>
  if a_2 = 0 then
  ((f_Now_isDrained N_marbles N_owners p0).bind fun a_4 =>
  if a_4 = 0 then
  ((f_Past_remember N_marbles N_chipped N_swallowed N_sweets N_day N_owners P_next P_kept P_acts).bind fun a_5 =>
  oL (N_swallowed ||| (1 <<< (p0 &&& 31))) fun N_swallowed_6 =>
  (f_J_bitCount N_swallowed_6).bind fun a_7 =>
  some (a_7, N_swallowed_6, a_5.1, a_5.2.1, a_5.2.2, W_refusals))
  else (f_Main_swallow_J39 N_swallowed P_next P_kept P_acts W_refusals))
  else (f_Main_swallow_J39 N_swallowed P_next P_kept P_acts W_refusals))
noncomputable def f_Main_swap (Y_clauses : Nat → Int32) (N_marbles : Int32) (N_chipped : Int32) (N_swallowed : Int32) (N_sweets : Int32) (N_day : Int32) (N_owners : Nat → Int32) (P_next : Int32) (P_kept : Int32) (P_acts : Nat → Int64) (W_refusals : Nat → Int32) (p0 : Int32) (p1 : Int32) : Option (Int32 × (Nat → Int32) × Int32 × Int32 × (Nat → Int64) × (Nat → Int32)) :=
  (f_Lane_refusalOf Y_clauses N_marbles N_swallowed N_owners p0 1 p1 1).bind fun a_1 =>
  if a_1 = (-1) then
  ((f_Past_remember N_marbles N_chipped N_swallowed N_sweets N_day N_owners P_next P_kept P_acts).bind fun a_2 =>
  (f_Now_ownerOf N_marbles N_owners p0).bind fun a_3 =>
  (f_Now_ownerOf N_marbles N_owners p1).bind fun a_4 =>
  (f_Now_hand N_marbles N_owners p0 a_4).bind fun a_5 =>
  (f_Now_hand N_marbles a_5 p1 a_3).bind fun a_6 =>
  (f_Now_ownerOf N_marbles a_6 p0).bind fun a_7 =>
  some (a_7, a_6, a_2.1, a_2.2.1, a_2.2.2, W_refusals))
  else ((f_Main_refuse W_refusals a_1).bind fun a_8 =>
  some (a_8.1, N_owners, P_next, P_kept, P_acts, a_8.2))
noncomputable def f_YardR_draft : Option Unit :=
  some ()
noncomputable def f_Yard_takeOver_C4 (D_cells : Nat → Int32) (D_clauses : Nat → Int32) (Y_cells : Nat → Int32) (Y_clauses : Nat → Int32) : Option ((Nat → Int32) × (Nat → Int32)) :=
  oL (va_cpy D_cells Y_cells 0 0 54) fun Y_cells_1 =>
  oL (va_cpy D_clauses Y_clauses 0 0 4) fun Y_clauses_2 =>
  some (Y_cells_1, Y_clauses_2)
noncomputable def f_Yard_firstOwner (Y_cells : Nat → Int32) (p0 : Int32) : Option Int32 :=
  (f_Yard_cell Y_cells 2 p0 0).bind fun a_1 =>
  some a_1
noncomputable def f_Yard_firstSweets (Y_cells : Nat → Int32) : Option Int32 :=
  (f_Yard_cell Y_cells 0 0 2).bind fun a_1 =>
  some a_1
noncomputable def f_Now_begin_C13_L15 (Y_cells : Nat → Int32) (N_marbles : Int32) (s : (Int32 × (Nat → Int32))) : Option ((Int32 × (Nat → Int32)) ⊕ (Int32 × Int32 × Int32 × Int32 × Int32 × (Nat → Int32))) :=
  if N_marbles ≤ s.1 then
  (((f_Yard_firstSweets Y_cells).bind fun a_3 =>
  some (N_marbles, 0, 0, a_3, 0, s.2)).map .inr)
  else ((f_Yard_firstOwner Y_cells s.1).bind fun a_4 =>
  oI s.1 6 (oL (upd s.2 s.1.toNatClampNeg a_4) fun N_owners_5 =>
  some (.inl (s.1 + 1, N_owners_5))))
noncomputable def f_Now_begin_C13 (Y_cells : Nat → Int32) (Y_clauses : Nat → Int32) (N_marbles : Int32) (N_chipped : Int32) (N_swallowed : Int32) (N_sweets : Int32) (N_day : Int32) (N_owners : Nat → Int32) : Option (Int32 × Int32 × Int32 × Int32 × Int32 × (Nat → Int32)) :=
  (f_Yard_marbles Y_clauses).bind fun a_1 =>
  oL (jmin a_1 6) fun N_marbles_2 =>
  oLp (f_Now_begin_C13_L15 Y_cells N_marbles_2) (0, N_owners)
noncomputable def f_Past_forgetAll (P_kept : Int32) (P_hasImage : Int32) : Option (Int32 × Int32) :=
  some (0, 0)
noncomputable def f_LawR_copyCode_C10_L2 (G_length : Int32) (G_code : Nat → Int32) (v2 : Int32) (s : (Int32 × (Nat → Int32))) : Option ((Int32 × (Nat → Int32)) ⊕ (Int32 × (Nat → Int32))) :=
  if G_length ≤ s.1 then
  (some (.inr (G_length, s.2)))
  else (if 960 ≤ (v2 + s.1) then
  (some (.inr (G_length, s.2)))
  else (oI s.1 240 (oI (v2 + s.1) 960 (oL (upd s.2 ((v2 + s.1 : Int32).toNatClampNeg) (G_code s.1.toNatClampNeg)) fun A_codes_1 =>
  some (.inl (s.1 + 1, A_codes_1))))))
noncomputable def f_LawR_copyCode_C10 (G_length : Int32) (G_code : Nat → Int32) (A_codes : Nat → Int32) (p0 : Int32) : Option (Int32 × (Nat → Int32)) :=
  oLp (f_LawR_copyCode_C10_L2 G_length G_code p0) (0, A_codes)
noncomputable def f_Laws_add_C7 (G_length : Int32) (G_code : Nat → Int32) (A_size : Int32) (A_codes : Nat → Int32) (A_lengths : Nat → Int32) : Option (Int32 × (Nat → Int32) × (Nat → Int32)) :=
  if 4 ≤ A_size then
  (some (A_size, A_codes, A_lengths))
  else ((f_LawR_copyCode_C10 G_length G_code A_codes (A_size * 240)).bind fun a_1 =>
  oI A_size 4 (oL (upd A_lengths A_size.toNatClampNeg a_1.1) fun A_lengths_2 =>
  oL (A_size + 1) fun A_size_3 =>
  some (A_size_3, a_1.2, A_lengths_2)))
noncomputable def f_Main_text_J69 (T_length : Int32) (T_at : Int32) (T_bytes : Nat → Int32) (D_cells : Nat → Int32) (D_clauses : Nat → Int32) (G_length : Int32) (G_code : Nat → Int32) (A_size : Int32) (A_codes : Nat → Int32) (A_lengths : Nat → Int32) (Y_cells : Nat → Int32) (Y_clauses : Nat → Int32) (N_marbles : Int32) (N_chipped : Int32) (N_swallowed : Int32) (N_sweets : Int32) (N_day : Int32) (N_owners : Nat → Int32) (P_kept : Int32) (P_hasImage : Int32) (U_size : Int32) (v1 : Int32) : Option (Int32 × Int32 × Int32 × (Nat → Int32) × (Nat → Int32) × Int32 × (Nat → Int32) × Int32 × (Nat → Int32) × (Nat → Int32) × (Nat → Int32) × (Nat → Int32) × Int32 × Int32 × Int32 × Int32 × Int32 × (Nat → Int32) × Int32 × Int32 × Int32) :=
  if v1 = 1 then
  ((f_Laws_size A_size).bind fun a_1 =>
  if 4 ≤ a_1 then
  (some ((-1), T_length, T_at, D_cells, D_clauses, G_length, G_code, A_size, A_codes, A_lengths, Y_cells, Y_clauses, N_marbles, N_chipped, N_swallowed, N_sweets, N_day, N_owners, P_kept, P_hasImage, U_size))
  else ((f_LawR_reads T_length T_at T_bytes G_length G_code).bind fun a_2 =>
  if a_2.1 = 0 then
  (some ((-1), T_length, a_2.2.1, D_cells, D_clauses, a_2.2.2.1, a_2.2.2.2, A_size, A_codes, A_lengths, Y_cells, Y_clauses, N_marbles, N_chipped, N_swallowed, N_sweets, N_day, N_owners, P_kept, P_hasImage, U_size))
  else ((f_Laws_add_C7 a_2.2.2.1 a_2.2.2.2 A_size A_codes A_lengths).bind fun a_3 =>
  (f_Tape_cutTo T_length 0).bind fun a_4 =>
  (f_Laws_size a_3.1).bind fun a_5 =>
  some (a_5 - 1, a_4, a_2.2.1, D_cells, D_clauses, a_2.2.2.1, a_2.2.2.2, a_3.1, a_3.2.1, a_3.2.2, Y_cells, Y_clauses, N_marbles, N_chipped, N_swallowed, N_sweets, N_day, N_owners, P_kept, P_hasImage, U_size))))
  else (some ((-1), T_length, T_at, D_cells, D_clauses, G_length, G_code, A_size, A_codes, A_lengths, Y_cells, Y_clauses, N_marbles, N_chipped, N_swallowed, N_sweets, N_day, N_owners, P_kept, P_hasImage, U_size))
noncomputable def f_Main_text (T_length : Int32) (T_at : Int32) (T_bytes : Nat → Int32) (D_cells : Nat → Int32) (D_clauses : Nat → Int32) (G_length : Int32) (G_code : Nat → Int32) (A_size : Int32) (A_codes : Nat → Int32) (A_lengths : Nat → Int32) (Y_cells : Nat → Int32) (Y_clauses : Nat → Int32) (N_marbles : Int32) (N_chipped : Int32) (N_swallowed : Int32) (N_sweets : Int32) (N_day : Int32) (N_owners : Nat → Int32) (P_kept : Int32) (P_hasImage : Int32) (U_size : Int32) (p0 : Int32) : Option (Int32 × Int32 × Int32 × (Nat → Int32) × (Nat → Int32) × Int32 × (Nat → Int32) × Int32 × (Nat → Int32) × (Nat → Int32) × (Nat → Int32) × (Nat → Int32) × Int32 × Int32 × Int32 × Int32 × Int32 × (Nat → Int32) × Int32 × Int32 × Int32) :=
  if p0 = 0 then
  ((f_YardR_reads T_length T_at T_bytes D_cells D_clauses).bind fun a_6 =>
  if a_6.1 = 0 then
  (f_Main_text_J69 T_length a_6.2.1 T_bytes a_6.2.2.1 a_6.2.2.2 G_length G_code A_size A_codes A_lengths Y_cells Y_clauses N_marbles N_chipped N_swallowed N_sweets N_day N_owners P_kept P_hasImage U_size p0)
  else ((f_YardR_draft).bind fun a_7 =>
  (f_Yard_takeOver_C4 a_6.2.2.1 a_6.2.2.2 Y_cells Y_clauses).bind fun a_8 =>
  (f_Now_begin_C13 a_8.1 a_8.2 N_marbles N_chipped N_swallowed N_sweets N_day N_owners).bind fun a_9 =>
  (f_Past_forgetAll P_kept P_hasImage).bind fun a_10 =>
  (f_Clues_forgetAll U_size).bind fun a_11 =>
  (f_Tape_cutTo T_length 0).bind fun a_12 =>
  (f_Yard_marbles a_8.2).bind fun a_13 =>
  some (a_13, a_12, a_6.2.1, a_6.2.2.1, a_6.2.2.2, G_length, G_code, A_size, A_codes, A_lengths, a_8.1, a_8.2, a_9.1, a_9.2.1, a_9.2.2.1, a_9.2.2.2.1, a_9.2.2.2.2.1, a_9.2.2.2.2.2, a_10.1, a_10.2, a_11)))
  else (f_Main_text_J69 T_length T_at T_bytes D_cells D_clauses G_length G_code A_size A_codes A_lengths Y_cells Y_clauses N_marbles N_chipped N_swallowed N_sweets N_day N_owners P_kept P_hasImage U_size p0)
noncomputable def f_Main_trades_J70 (v2 : Int32) (v4 : Int32) : Option ((Int32 × Int32) ⊕ ((Int32 × Int32) ⊕ Int32)) :=
  some (.inl (v2, v4 + 1))
noncomputable def f_Main_trades_L32 (Y_cells : Nat → Int32) (Y_clauses : Nat → Int32) (N_marbles : Int32) (N_chipped : Int32) (N_swallowed : Int32) (N_owners : Nat → Int32) (v1 : Int32) (v3 : Int32) (s : (Int32 × Int32)) : Option ((Int32 × Int32) ⊕ ((Int32 × Int32) ⊕ Int32)) :=
  (f_Yard_marbles Y_clauses).bind fun a_4 =>
  if a_4 ≤ s.2 then
  ((some (.inl (s.1, v3 + 1))).map .inr)
  else ((f_Main_bothWouldSwap Y_cells Y_clauses N_marbles N_chipped N_swallowed N_owners v3 s.2).bind fun a_6 =>
  if a_6 = 0 then
  (f_Main_trades_J70 s.1 s.2)
  else (if s.1 = v1 then
  (some (.inr (.inr ((10 * v3) + s.2))))
  else (f_Main_trades_J70 (s.1 + 1) s.2)))
noncomputable def f_Main_trades_L16 (Y_cells : Nat → Int32) (Y_clauses : Nat → Int32) (N_marbles : Int32) (N_chipped : Int32) (N_swallowed : Int32) (N_owners : Nat → Int32) (v1 : Int32) (s : (Int32 × Int32)) : Option ((Int32 × Int32) ⊕ Int32) :=
  (f_Yard_marbles Y_clauses).bind fun a_2 =>
  if a_2 ≤ s.2 then
  ((if v1 = (-1) then
  (some s.1)
  else (some (-1))).map .inr)
  else (oL (s.2 + 1) fun v4_3 => oLp (f_Main_trades_L32 Y_cells Y_clauses N_marbles N_chipped N_swallowed N_owners v1 s.2) (s.1, v4_3))
noncomputable def f_Main_trades (Y_cells : Nat → Int32) (Y_clauses : Nat → Int32) (N_marbles : Int32) (N_chipped : Int32) (N_swallowed : Int32) (N_owners : Nat → Int32) (p0 : Int32) : Option Int32 :=
  (f_Yard_stands Y_clauses).bind fun a_1 =>
  if a_1 = 0 then
  (some (-1))
  else (oLp (f_Main_trades_L16 Y_cells Y_clauses N_marbles N_chipped N_swallowed N_owners p0) (0, 0))
noncomputable def f_Past_goBackOne (N_marbles : Int32) (N_chipped : Int32) (N_swallowed : Int32) (N_sweets : Int32) (N_day : Int32) (N_owners : Nat → Int32) (P_next : Int32) (P_kept : Int32) (P_acts : Nat → Int64) : Option (Int32 × Int32 × Int32 × Int32 × Int32 × (Nat → Int32) × Int32 × Int32) :=
  if P_kept = 0 then
  (some ((-1), N_chipped, N_swallowed, N_sweets, N_day, N_owners, P_next, P_kept))
  else (oL (P_kept - 1) fun P_kept_1 =>
  oL (((P_next + 40) - 1) - ((P_next + 40) - 1) / 40 * 40) fun P_next_2 =>
  oI P_next_2 40 ((f_Now_unpack N_marbles N_chipped N_swallowed N_sweets N_day N_owners (P_acts P_next_2.toNatClampNeg)).bind fun a_3 =>
  some (P_kept_1, a_3.1, a_3.2.1, a_3.2.2.1, a_3.2.2.2.1, a_3.2.2.2.2, P_next_2, P_kept_1)))
noncomputable def f_Main_undo (N_marbles : Int32) (N_chipped : Int32) (N_swallowed : Int32) (N_sweets : Int32) (N_day : Int32) (N_owners : Nat → Int32) (P_next : Int32) (P_kept : Int32) (P_acts : Nat → Int64) : Option (Int32 × Int32 × Int32 × Int32 × Int32 × (Nat → Int32) × Int32 × Int32) :=
  (f_Past_goBackOne N_marbles N_chipped N_swallowed N_sweets N_day N_owners P_next P_kept P_acts).bind fun a_1 =>
  some (a_1.1, a_1.2.1, a_1.2.2.1, a_1.2.2.2.1, a_1.2.2.2.2.1, a_1.2.2.2.2.2.1, a_1.2.2.2.2.2.2.1, a_1.2.2.2.2.2.2.2)
noncomputable def f_Main_weather (Y_cells : Nat → Int32) (Y_clauses : Nat → Int32) (N_marbles : Int32) (N_chipped : Int32) (N_owners : Nat → Int32) (S_strengths : Nat → Int32) (p0 : Int32) : Option (Int32 × (Nat → Int32)) :=
  (f_Yard_stands Y_clauses).bind fun a_1 =>
  if a_1 = 0 then
  (some ((-1000000), S_strengths))
  else (if p0 < 0 then
  (some ((-1000000), S_strengths))
  else (if p0 < 10 then
  ((f_Sky_measure Y_cells Y_clauses N_marbles N_chipped N_owners S_strengths).bind fun a_2 =>
  (f_Sky_strongestKind a_2 p0).bind fun a_3 =>
  some (a_3, a_2))
  else (some ((-1000000), S_strengths))))
noncomputable def f_Main_who (Y_cells : Nat → Int32) (Y_clauses : Nat → Int32) (N_marbles : Int32) (N_chipped : Int32) (N_owners : Nat → Int32) (S_strengths : Nat → Int32) (U_size : Int32) (U_found : Int32) (U_places : Nat → Int32) (U_kinds : Nat → Int32) (U_holds : Nat → Int32) (U_fitting : Nat → Int32) (p0 : Int32) : Option (Int32 × (Nat → Int32) × Int32 × (Nat → Int32)) :=
  (f_Yard_stands Y_clauses).bind fun a_1 =>
  if a_1 = 0 then
  (some ((-1), S_strengths, U_found, U_fitting))
  else ((f_Clues_search Y_cells Y_clauses N_marbles N_chipped N_owners S_strengths U_size U_found U_places U_kinds U_holds U_fitting).bind fun a_2 =>
  if p0 = (-1) then
  (some (a_2.1, a_2.2.1, a_2.2.2.1, a_2.2.2.2))
  else ((f_Clues_fittingAt a_2.2.2.1 a_2.2.2.2 p0).bind fun a_3 =>
  some (a_3, a_2.2.1, a_2.2.2.1, a_2.2.2.2)))
noncomputable def f_Main_wins (A_size : Int32) (A_chosen : Int32) (A_codes : Nat → Int32) (A_lengths : Nat → Int32) (A_stack : Nat → Int32) (Y_cells : Nat → Int32) (Y_clauses : Nat → Int32) (N_marbles : Int32) (N_chipped : Int32) (N_swallowed : Int32) (N_day : Int32) (N_owners : Nat → Int32) (L_letters : Nat → Int32) (p0 : Int32) (p1 : Int32) (p2 : Int32) (p3 : Int32) : Option (Int32 × (Nat → Int32) × (Nat → Int32)) :=
  (f_Lane_refusalOf Y_clauses N_marbles N_swallowed N_owners p0 p1 p2 p3).bind fun a_1 =>
  if a_1 = (-1) then
  ((f_Lane_winnerOf A_size A_chosen A_codes A_lengths A_stack Y_cells N_marbles N_chipped N_day N_owners L_letters p0 p1 p2 p3).bind fun a_2 =>
  some (a_2.1, a_2.2.1, a_2.2.2))
  else (some ((-1000000), A_stack, L_letters))
noncomputable def f_Main_years_L46 (W_spillsNow : Int32) (A_size : Int32) (A_chosen : Int32) (A_codes : Nat → Int32) (A_lengths : Nat → Int32) (Y_cells : Nat → Int32) (Y_clauses : Nat → Int32) (N_marbles : Int32) (N_swallowed : Int32) (v1 : Int32) (s : (Int32 × Int64 × (Nat → Int32) × Int32 × Int32 × Int32 × (Nat → Int32) × Int32 × Int32 × (Nat → Int64) × (Nat → Int32) × (Nat → Int32) × (Nat → Int32))) : Option ((Int32 × Int64 × (Nat → Int32) × Int32 × Int32 × Int32 × (Nat → Int32) × Int32 × Int32 × (Nat → Int64) × (Nat → Int32) × (Nat → Int32) × (Nat → Int32)) ⊕ (Int32 × Int64 × (Nat → Int32) × Int32 × Int32 × Int32 × (Nat → Int32) × Int32 × Int32 × (Nat → Int64) × (Nat → Int32) × (Nat → Int32) × (Nat → Int32))) :=
  if v1 ≤ s.1 then
  (some (.inr (s.2.2.2.2.2.1, s.2.1, s.2.2.1, s.2.2.2.1, s.2.2.2.2.1, s.2.2.2.2.2.1, s.2.2.2.2.2.2.1, s.2.2.2.2.2.2.2.1, s.2.2.2.2.2.2.2.2.1, s.2.2.2.2.2.2.2.2.2.1, s.2.2.2.2.2.2.2.2.2.2.1, s.2.2.2.2.2.2.2.2.2.2.2.1, s.2.2.2.2.2.2.2.2.2.2.2.2)))
  else ((f_Past_remember N_marbles s.2.2.2.1 N_swallowed s.2.2.2.2.1 s.2.2.2.2.2.1 s.2.2.2.2.2.2.1 s.2.2.2.2.2.2.2.1 s.2.2.2.2.2.2.2.2.1 s.2.2.2.2.2.2.2.2.2.1).bind fun a_2 =>
  (f_Main_playByDraws s.2.1 A_size A_chosen A_codes A_lengths s.2.2.1 Y_cells Y_clauses N_marbles s.2.2.2.1 N_swallowed s.2.2.2.2.2.1 s.2.2.2.2.2.2.1 s.2.2.2.2.2.2.2.2.2.2.2.2).bind fun a_3 =>
  (f_Main_spillByDraws W_spillsNow a_3.1 Y_clauses N_marbles s.2.2.2.1 a_3.2.2.1).bind fun a_4 =>
  (f_Main_passDay Y_cells Y_clauses N_marbles a_4.2 s.2.2.2.2.1 s.2.2.2.2.2.1 a_3.2.2.1 s.2.2.2.2.2.2.2.2.2.2.1 s.2.2.2.2.2.2.2.2.2.2.2.1).bind fun a_5 =>
  some (.inl (s.1 + 1, a_4.1, a_3.2.1, a_4.2, a_5.1, a_5.2.1, a_3.2.2.1, a_2.1, a_2.2.1, a_2.2.2, a_5.2.2.1, a_5.2.2.2, a_3.2.2.2)))
noncomputable def f_Main_years (W_spillsNow : Int32) (W_drawn : Int64) (A_size : Int32) (A_chosen : Int32) (A_codes : Nat → Int32) (A_lengths : Nat → Int32) (A_stack : Nat → Int32) (Y_cells : Nat → Int32) (Y_clauses : Nat → Int32) (N_marbles : Int32) (N_chipped : Int32) (N_swallowed : Int32) (N_sweets : Int32) (N_day : Int32) (N_owners : Nat → Int32) (P_next : Int32) (P_kept : Int32) (P_acts : Nat → Int64) (P_entries : Nat → Int32) (S_strengths : Nat → Int32) (L_letters : Nat → Int32) (p0 : Int32) (p1 : Int64) : Option (Int32 × Int64 × (Nat → Int32) × Int32 × Int32 × Int32 × (Nat → Int32) × Int32 × Int32 × (Nat → Int64) × (Nat → Int32) × (Nat → Int32) × (Nat → Int32)) :=
  (f_Yard_stands Y_clauses).bind fun a_1 =>
  if a_1 = 0 then
  (some ((-1), W_drawn, A_stack, N_chipped, N_sweets, N_day, N_owners, P_next, P_kept, P_acts, P_entries, S_strengths, L_letters))
  else (if p0 < 1 then
  (some ((-1), W_drawn, A_stack, N_chipped, N_sweets, N_day, N_owners, P_next, P_kept, P_acts, P_entries, S_strengths, L_letters))
  else (if 60 < p0 then
  (some ((-1), W_drawn, A_stack, N_chipped, N_sweets, N_day, N_owners, P_next, P_kept, P_acts, P_entries, S_strengths, L_letters))
  else (if (N_day + p0) ≤ 9999 then
  (oLp (f_Main_years_L46 W_spillsNow A_size A_chosen A_codes A_lengths Y_cells Y_clauses N_marbles N_swallowed p0) (0, p1, A_stack, N_chipped, N_sweets, N_day, N_owners, P_next, P_kept, P_acts, P_entries, S_strengths, L_letters))
  else (some ((-1), W_drawn, A_stack, N_chipped, N_sweets, N_day, N_owners, P_next, P_kept, P_acts, P_entries, S_strengths, L_letters)))))
noncomputable def f_M_isBoy (m_boys : Int32) (p0 : Int32) : Option Int32 :=
  (f_M_in p0 0 (m_boys - 1)).bind fun a_1 =>
  oZ a_1 (some a_1)
noncomputable def f_M_isMarble (m_marbles : Int32) (p0 : Int32) : Option Int32 :=
  (f_M_in p0 0 (m_marbles - 1)).bind fun a_1 =>
  oZ a_1 (some a_1)
noncomputable def f_M_of (m_marble : Nat → Int32) (p0 : Int32) (p1 : Int32) : Option Int32 :=
  oI ((3 * p0) + p1) 18 (some (m_marble ((3 * p0) + p1 : Int32).toNatClampNeg))
noncomputable def f_M_handsOf_J32 (v3 : Int32) (k0 : Int32) (k1 : Int32) : Option ((Int32 × Int32) ⊕ Int32) :=
  oL (k0 ||| k1) fun v2_1 => some (.inl (v2_1, v3 + 1))
noncomputable def f_M_handsOf_L4 (m_marbles : Int32) (m_now : Nat → Int32) (v1 : Int32) (s : (Int32 × Int32)) : Option ((Int32 × Int32) ⊕ Int32) :=
  if m_marbles ≤ s.2 then
  (some (.inr s.1))
  else (oI (0 + s.2) 131 (if (m_now (0 + s.2 : Int32).toNatClampNeg) = v1 then
  (f_M_handsOf_J32 s.2 s.1 (1 <<< (s.2 &&& 31)))
  else (f_M_handsOf_J32 s.2 s.1 0)))
noncomputable def f_M_handsOf (m_marbles : Int32) (m_now : Nat → Int32) (p0 : Int32) : Option Int32 :=
  oLp (f_M_handsOf_L4 m_marbles m_now p0) (0, 0)
noncomputable def f_M_workOut_J165 (m_stack : Nat → Int32) (v4 : Int32) (v5 : Int32) : Option ((Int32 × Int32 × (Nat → Int32)) ⊕ (Int32 × (Nat → Int32))) :=
  some (.inl (v4, v5 + 1, m_stack))
noncomputable def f_M_workOut_J83 (m_stack : Nat → Int32) (v4 : Int32) (v5 : Int32) (k1 : Int32) (k2 : Int32) : Option ((Int32 × Int32 × (Nat → Int32)) ⊕ (Int32 × (Nat → Int32))) :=
  oI k1 80 (oL (upd m_stack k1.toNatClampNeg k2) fun m_stack_2 =>
  f_M_workOut_J165 m_stack_2 (v4 + 1) v5)
noncomputable def f_M_workOut_J45 (m_code : Nat → Int32) (m_value : Nat → Int32) (m_letters : Nat → Int32) (m_stack : Nat → Int32) (v4 : Int32) (v5 : Int32) : Option ((Int32 × Int32 × (Nat → Int32)) ⊕ (Int32 × (Nat → Int32))) :=
  oI v5 2600 (if (m_code v5.toNatClampNeg) = 0 then
  (oI v5 2600 (f_M_workOut_J83 m_stack v4 v5 v4 (m_value v5.toNatClampNeg)))
  else (oI v5 2600 (oI (m_value v5.toNatClampNeg) 6 (f_M_workOut_J83 m_stack v4 v5 v4 (m_letters (m_value v5.toNatClampNeg : Int32).toNatClampNeg)))))
noncomputable def f_M_workOut_L12 (m_code : Nat → Int32) (m_value : Nat → Int32) (m_letters : Nat → Int32) (v1 : Int32) (v3 : Int32) (s : (Int32 × Int32 × (Nat → Int32))) : Option ((Int32 × Int32 × (Nat → Int32)) ⊕ (Int32 × (Nat → Int32))) :=
  if ((520 * v1) + v3) ≤ s.2.1 then
  ((oI 0 80 (some (s.2.2 (0 : Int32).toNatClampNeg, s.2.2))).map .inr)
  else (oI s.2.1 2600 (if (m_code s.2.1.toNatClampNeg) = 0 then
  (f_M_workOut_J45 m_code m_value m_letters s.2.2 s.1 s.2.1)
  else (oI s.2.1 2600 (if (m_code s.2.1.toNatClampNeg) = 1 then
  (f_M_workOut_J45 m_code m_value m_letters s.2.2 s.1 s.2.1)
  else (oI s.2.1 2600 (if (m_code s.2.1.toNatClampNeg) = 9 then
  (oI (s.1 - 1) 80 (oI (s.1 - 1) 80 (oL (upd s.2.2 ((s.1 - 1 : Int32).toNatClampNeg) (1 - (s.2.2 (s.1 - 1 : Int32).toNatClampNeg))) fun m_stack_8 =>
  f_M_workOut_J165 m_stack_8 s.1 s.2.1)))
  else (oI s.2.1 2600 (oI ((s.1 + (-1)) - 1) 80 (oI (s.1 + (-1)) 80 ((f_M_worked (m_code s.2.1.toNatClampNeg) ((s.2.2 ((s.1 + (-1)) - 1 : Int32).toNatClampNeg : Int32).toInt64) ((s.2.2 (s.1 + (-1) : Int32).toNatClampNeg : Int32).toInt64)).bind fun a_6 =>
  oI ((s.1 + (-1)) - 1) 80 (oL (upd s.2.2 (((s.1 + (-1)) - 1 : Int32).toNatClampNeg) a_6) fun m_stack_7 =>
  f_M_workOut_J165 m_stack_7 (s.1 + (-1)) s.2.1)))))))))))
noncomputable def f_M_workOut (m_code : Nat → Int32) (m_value : Nat → Int32) (m_letters : Nat → Int32) (m_stack : Nat → Int32) (p0 : Int32) (p1 : Int32) (p2 : Int32) : Option (Int32 × (Nat → Int32)) :=
  oL ((520 * p0) + p1) fun v5_1 => oLp (f_M_workOut_L12 m_code m_value m_letters p0 p2) (0, v5_1, m_stack)
noncomputable def f_M_worthOf_J57 (m_code : Nat → Int32) (m_value : Nat → Int32) (m_sumFrom : Nat → Int32) (m_sumTo : Nat → Int32) (m_letters : Nat → Int32) (m_stack : Nat → Int32) (v1 : Int32) (v2 : Int32) : Option (Int32 × (Nat → Int32)) :=
  oI v2 700 (oI v2 700 ((f_M_workOut m_code m_value m_letters m_stack v1 (m_sumFrom v2.toNatClampNeg) (m_sumTo v2.toNatClampNeg)).bind fun a_2 =>
  some (a_2.1, a_2.2)))
noncomputable def f_M_worthOf_L6 (m_code : Nat → Int32) (m_value : Nat → Int32) (m_clauses : Nat → Int32) (m_testFrom : Nat → Int32) (m_sumFrom : Nat → Int32) (m_sumTo : Nat → Int32) (m_letters : Nat → Int32) (v1 : Int32) (s : (Int32 × (Nat → Int32))) : Option ((Int32 × (Nat → Int32)) ⊕ (Int32 × (Nat → Int32))) :=
  oI v1 5 (if ((140 * v1) + (m_clauses v1.toNatClampNeg)) ≤ s.1 then
  (some (.inr (0, s.2)))
  else (oI s.1 700 (oI s.1 700 (if (m_testFrom s.1.toNatClampNeg) = (m_sumFrom s.1.toNatClampNeg) then
  ((f_M_worthOf_J57 m_code m_value m_sumFrom m_sumTo m_letters s.2 v1 s.1).map .inr)
  else (oI s.1 700 (oI s.1 700 ((f_M_workOut m_code m_value m_letters s.2 v1 (m_testFrom s.1.toNatClampNeg) (m_sumFrom s.1.toNatClampNeg)).bind fun a_3 =>
  if a_3.1 = 0 then
  (some (.inl (s.1 + 1, a_3.2)))
  else ((f_M_worthOf_J57 m_code m_value m_sumFrom m_sumTo m_letters a_3.2 v1 s.1).map .inr))))))))
noncomputable def f_M_worthOf (m_code : Nat → Int32) (m_value : Nat → Int32) (m_clauses : Nat → Int32) (m_testFrom : Nat → Int32) (m_sumFrom : Nat → Int32) (m_sumTo : Nat → Int32) (m_letters : Nat → Int32) (m_stack : Nat → Int32) (p0 : Int32) : Option (Int32 × (Nat → Int32)) :=
  oL (140 * p0) fun v2_1 => oLp (f_M_worthOf_L6 m_code m_value m_clauses m_testFrom m_sumFrom m_sumTo m_letters p0) (v2_1, m_stack)
noncomputable def f_M_landsAt_J124 (m_letters : Nat → Int32) (m_stack : Nat → Int32) (v4 : Int32) : Option (Int32 × (Nat → Int32) × (Nat → Int32)) :=
  some (jmax 0 (jmin 60 v4), m_letters, m_stack)
noncomputable def f_M_landsAt (m_marbles : Int32) (m_holding : Int32) (m_code : Nat → Int32) (m_value : Nat → Int32) (m_clauses : Nat → Int32) (m_testFrom : Nat → Int32) (m_sumFrom : Nat → Int32) (m_sumTo : Nat → Int32) (m_letters : Nat → Int32) (m_stack : Nat → Int32) (m_boy : Nat → Int32) (m_marble : Nat → Int32) (m_now : Nat → Int32) (p0 : Int32) (p1 : Int32) (p2 : Int32) : Option (Int32 × (Nat → Int32) × (Nat → Int32)) :=
  oI ((2 * p0) + 0) 10 ((f_M_of m_marble p1 2).bind fun a_1 =>
  oL (((2 * p2) + ((m_boy ((2 * p0) + 0 : Int32).toNatClampNeg) / 2)) - (a_1 / 3)) fun v4_2 => if m_holding = (-1) then
  (f_M_landsAt_J124 m_letters m_stack v4_2)
  else (oI 0 6 (oL (upd m_letters ((0 : Int32).toNatClampNeg) p2) fun m_letters_3 =>
  oI ((2 * p0) + 0) 10 (oI 1 6 (oL (upd m_letters_3 ((1 : Int32).toNatClampNeg) (m_boy ((2 * p0) + 0 : Int32).toNatClampNeg)) fun m_letters_4 =>
  (f_M_of m_marble p1 2).bind fun a_5 =>
  oI 2 6 (oL (upd m_letters_4 ((2 : Int32).toNatClampNeg) a_5) fun m_letters_6 =>
  oI 6 131 (oI 3 6 (oL (upd m_letters_6 ((3 : Int32).toNatClampNeg) (((m_now (6 : Int32).toNatClampNeg) >>> (p1 &&& 31)) &&& 1)) fun m_letters_7 =>
  (f_M_handsOf m_marbles m_now p0).bind fun a_8 =>
  (f_J_bitCount a_8).bind fun a_9 =>
  oI 4 6 (oL (upd m_letters_7 ((4 : Int32).toNatClampNeg) a_9) fun m_letters_10 =>
  oI 9 131 (oI 5 6 (oL (upd m_letters_10 ((5 : Int32).toNatClampNeg) (m_now (9 : Int32).toNatClampNeg)) fun m_letters_11 =>
  (f_M_worthOf m_code m_value m_clauses m_testFrom m_sumFrom m_sumTo m_letters_11 m_stack m_holding).bind fun a_12 =>
  f_M_landsAt_J124 m_letters_11 a_12.2 a_12.1)))))))))))
noncomputable def f_M_isDrain (m_rule : Nat → Int32) (p0 : Int32) : Option Int32 :=
  oI 0 3 (oI 1 3 (if p0 < ((m_rule (0 : Int32).toNatClampNeg) + (m_rule (1 : Int32).toNatClampNeg)) then
  (some 0)
  else (some 1)))
noncomputable def f_M_offHole (m_rule : Nat → Int32) (p0 : Int32) : Option Int32 :=
  oI 0 3 (some (jabs (p0 - (m_rule (0 : Int32).toNatClampNeg))))
noncomputable def f_M_aimOf_J62 (m_letters : Nat → Int32) (m_stack : Nat → Int32) (v4 : Int32) (k0 : Int32) : Option ((Int32 × Int32 × (Nat → Int32) × (Nat → Int32)) ⊕ (Int32 × (Nat → Int32) × (Nat → Int32))) :=
  some (.inl (k0, v4 + 1, m_letters, m_stack))
noncomputable def f_M_aimOf_J61 (m_letters : Nat → Int32) (m_stack : Nat → Int32) (v3 : Int32) (v4 : Int32) : Option ((Int32 × Int32 × (Nat → Int32) × (Nat → Int32)) ⊕ (Int32 × (Nat → Int32) × (Nat → Int32))) :=
  f_M_aimOf_J62 m_letters m_stack v4 v3
noncomputable def f_M_aimOf_J56 (m_letters : Nat → Int32) (m_stack : Nat → Int32) (v4 : Int32) : Option ((Int32 × Int32 × (Nat → Int32) × (Nat → Int32)) ⊕ (Int32 × (Nat → Int32) × (Nat → Int32))) :=
  f_M_aimOf_J62 m_letters m_stack v4 v4
noncomputable def f_M_aimOf_L5 (m_marbles : Int32) (m_holding : Int32) (m_code : Nat → Int32) (m_value : Nat → Int32) (m_clauses : Nat → Int32) (m_testFrom : Nat → Int32) (m_sumFrom : Nat → Int32) (m_sumTo : Nat → Int32) (m_rule : Nat → Int32) (m_boy : Nat → Int32) (m_marble : Nat → Int32) (m_now : Nat → Int32) (v1 : Int32) (v2 : Int32) (s : (Int32 × Int32 × (Nat → Int32) × (Nat → Int32))) : Option ((Int32 × Int32 × (Nat → Int32) × (Nat → Int32)) ⊕ (Int32 × (Nat → Int32) × (Nat → Int32))) :=
  if 9 < s.2.1 then
  (some (.inr (s.1, s.2.2.1, s.2.2.2)))
  else ((f_M_landsAt m_marbles m_holding m_code m_value m_clauses m_testFrom m_sumFrom m_sumTo s.2.2.1 s.2.2.2 m_boy m_marble m_now v1 v2 s.2.1).bind fun a_1 =>
  (f_M_isDrain m_rule a_1.1).bind fun a_2 =>
  if a_2 = 0 then
  (if s.1 = (-1) then
  (f_M_aimOf_J56 a_1.2.1 a_1.2.2 s.2.1)
  else ((f_M_offHole m_rule a_1.1).bind fun a_4 =>
  (f_M_landsAt m_marbles m_holding m_code m_value m_clauses m_testFrom m_sumFrom m_sumTo a_1.2.1 a_1.2.2 m_boy m_marble m_now v1 v2 s.1).bind fun a_5 =>
  (f_M_offHole m_rule a_5.1).bind fun a_6 =>
  if a_6 ≤ a_4 then
  (f_M_aimOf_J61 a_5.2.1 a_5.2.2 s.1 s.2.1)
  else (f_M_aimOf_J56 a_5.2.1 a_5.2.2 s.2.1)))
  else (f_M_aimOf_J61 a_1.2.1 a_1.2.2 s.1 s.2.1))
noncomputable def f_M_aimOf (m_marbles : Int32) (m_holding : Int32) (m_code : Nat → Int32) (m_value : Nat → Int32) (m_clauses : Nat → Int32) (m_testFrom : Nat → Int32) (m_sumFrom : Nat → Int32) (m_sumTo : Nat → Int32) (m_letters : Nat → Int32) (m_stack : Nat → Int32) (m_rule : Nat → Int32) (m_boy : Nat → Int32) (m_marble : Nat → Int32) (m_now : Nat → Int32) (p0 : Int32) (p1 : Int32) : Option (Int32 × (Nat → Int32) × (Nat → Int32)) :=
  oLp (f_M_aimOf_L5 m_marbles m_holding m_code m_value m_clauses m_testFrom m_sumFrom m_sumTo m_rule m_boy m_marble m_now p0 p1) ((-1), 1, m_letters, m_stack)
noncomputable def f_M_aim (m_boys : Int32) (m_marbles : Int32) (m_holding : Int32) (m_code : Nat → Int32) (m_value : Nat → Int32) (m_clauses : Nat → Int32) (m_testFrom : Nat → Int32) (m_sumFrom : Nat → Int32) (m_sumTo : Nat → Int32) (m_letters : Nat → Int32) (m_stack : Nat → Int32) (m_rule : Nat → Int32) (m_boy : Nat → Int32) (m_marble : Nat → Int32) (m_now : Nat → Int32) (p0 : Int32) (p1 : Int32) : Option (Int32 × (Nat → Int32) × (Nat → Int32)) :=
  (f_M_isBoy m_boys p0).bind fun a_1 =>
  if a_1 = 0 then
  (some ((-1), m_letters, m_stack))
  else ((f_M_isMarble m_marbles p1).bind fun a_2 =>
  if a_2 = 0 then
  (some ((-1), m_letters, m_stack))
  else ((f_M_aimOf m_marbles m_holding m_code m_value m_clauses m_testFrom m_sumFrom m_sumTo m_letters m_stack m_rule m_boy m_marble m_now p0 p1).bind fun a_3 =>
  some (a_3.1, a_3.2.1, a_3.2.2)))
noncomputable def f_M_areDays (m_now : Nat → Int32) (p0 : Int32) : Option Int32 :=
  (f_M_in p0 1 60).bind fun a_1 =>
  if a_1 = 0 then
  (some 0)
  else (oI 9 131 (if 9999 < ((m_now (9 : Int32).toNatClampNeg) + p0) then
  (some 0)
  else (some 1)))
noncomputable def f_M_ofFarm (m_farm : Nat → Int32) (p0 : Int32) (p1 : Int32) : Option Int32 :=
  oI ((3 * p0) + p1) 18 (some (m_farm ((3 * p0) + p1 : Int32).toNatClampNeg))
noncomputable def f_M_worthNow_J26 (k0 : Int32) (k1 : Int32) (k2 : Int32) : Option Int32 :=
  some (jmax k0 (k1 - k2))
noncomputable def f_M_worthNow (m_marble : Nat → Int32) (m_now : Nat → Int32) (p0 : Int32) : Option Int32 :=
  (f_M_of m_marble p0 2).bind fun a_1 =>
  oI 6 131 ((f_M_has (m_now (6 : Int32).toNatClampNeg) p0).bind fun a_2 =>
  if a_2 = 0 then
  (f_M_worthNow_J26 0 a_1 0)
  else (f_M_worthNow_J26 0 a_1 2))
noncomputable def f_M_strengthOf_J68 (v4 : Int32) (k0 : Int32) (k1 : Int32) : Option ((Int32 × Int32) ⊕ Int32) :=
  oL (k0 + k1) fun v3_2 => some (.inl (v3_2, v4 + 1))
noncomputable def f_M_strengthOf_J67 (v4 : Int32) (k0 : Int32) : Option ((Int32 × Int32) ⊕ Int32) :=
  f_M_strengthOf_J68 v4 k0 0
noncomputable def f_M_strengthOf_L5 (m_marbles : Int32) (m_boy : Nat → Int32) (m_marble : Nat → Int32) (m_now : Nat → Int32) (v1 : Int32) (v2 : Int32) (s : (Int32 × Int32)) : Option ((Int32 × Int32) ⊕ Int32) :=
  if m_marbles ≤ s.2 then
  (some (.inr s.1))
  else (oI (0 + s.2) 131 (oL (m_now (0 + s.2 : Int32).toNatClampNeg) fun v5_1 => if v5_1 = (-1) then
  (f_M_strengthOf_J67 s.2 s.1)
  else ((f_M_of m_marble s.2 1).bind fun a_4 =>
  if a_4 = v2 then
  (oI ((2 * v5_1) + 1) 10 (if (m_boy ((2 * v5_1) + 1 : Int32).toNatClampNeg) = v1 then
  ((f_M_worthNow m_marble m_now s.2).bind fun a_5 =>
  f_M_strengthOf_J68 s.2 s.1 a_5)
  else (f_M_strengthOf_J67 s.2 s.1)))
  else (f_M_strengthOf_J67 s.2 s.1))))
noncomputable def f_M_strengthOf (m_marbles : Int32) (m_boy : Nat → Int32) (m_marble : Nat → Int32) (m_now : Nat → Int32) (p0 : Int32) (p1 : Int32) : Option Int32 :=
  oLp (f_M_strengthOf_L5 m_marbles m_boy m_marble m_now p0 p1) (0, 0)
noncomputable def f_M_weatherOf_J35 (v3 : Int32) (v4 : Int32) (v5 : Int32) (k0 : Int32) : Option ((Int32 × Int32 × Int32) ⊕ Int32) :=
  oL (jmax v3 v5) fun v3_2 => some (.inl (k0, v3_2, v4 + 1))
noncomputable def f_M_weatherOf_L7 (m_marbles : Int32) (m_boy : Nat → Int32) (m_marble : Nat → Int32) (m_now : Nat → Int32) (v1 : Int32) (s : (Int32 × Int32 × Int32)) : Option ((Int32 × Int32 × Int32) ⊕ Int32) :=
  if 6 ≤ s.2.2 then
  (some (.inr s.1))
  else ((f_M_strengthOf m_marbles m_boy m_marble m_now v1 s.2.2).bind fun a_1 =>
  if a_1 ≤ s.2.1 then
  (f_M_weatherOf_J35 s.2.1 s.2.2 a_1 s.1)
  else (f_M_weatherOf_J35 s.2.1 s.2.2 a_1 s.2.2))
noncomputable def f_M_weatherOf (m_marbles : Int32) (m_boy : Nat → Int32) (m_marble : Nat → Int32) (m_now : Nat → Int32) (p0 : Int32) : Option Int32 :=
  oLp (f_M_weatherOf_L7 m_marbles m_boy m_marble m_now p0) ((-1), 0, 0)
noncomputable def f_M_isContent (m_marbles : Int32) (m_boy : Nat → Int32) (m_marble : Nat → Int32) (m_farm : Nat → Int32) (m_now : Nat → Int32) (p0 : Int32) : Option Int32 :=
  (f_M_ofFarm m_farm p0 0).bind fun a_1 =>
  (f_M_weatherOf m_marbles m_boy m_marble m_now a_1).bind fun a_2 =>
  (f_M_ofFarm m_farm p0 1).bind fun a_3 =>
  if a_2 = a_3 then
  (some 1)
  else (some 0)
noncomputable def f_M_contents_J28 (v2 : Int32) (k0 : Int32) (k1 : Int32) : Option ((Int32 × Int32) ⊕ Int32) :=
  oL (k0 ||| k1) fun v1_2 => some (.inl (v1_2, v2 + 1))
noncomputable def f_M_contents_L4 (m_marbles : Int32) (m_farms : Int32) (m_boy : Nat → Int32) (m_marble : Nat → Int32) (m_farm : Nat → Int32) (m_now : Nat → Int32) (s : (Int32 × Int32)) : Option ((Int32 × Int32) ⊕ Int32) :=
  if m_farms ≤ s.2 then
  (some (.inr s.1))
  else ((f_M_isContent m_marbles m_boy m_marble m_farm m_now s.2).bind fun a_1 =>
  if a_1 = 0 then
  (f_M_contents_J28 s.2 s.1 0)
  else (f_M_contents_J28 s.2 s.1 (1 <<< (s.2 &&& 31))))
noncomputable def f_M_contents (m_marbles : Int32) (m_farms : Int32) (m_boy : Nat → Int32) (m_marble : Nat → Int32) (m_farm : Nat → Int32) (m_now : Nat → Int32) : Option Int32 :=
  oLp (f_M_contents_L4 m_marbles m_farms m_boy m_marble m_farm m_now) (0, 0)
noncomputable def f_M_isLoose (m_now : Nat → Int32) (p0 : Int32) : Option Int32 :=
  oI (0 + p0) 131 (if (m_now (0 + p0 : Int32).toNatClampNeg) = (-1) then
  (some 0)
  else (oI 7 131 ((f_M_has (m_now (7 : Int32).toNatClampNeg) p0).bind fun a_1 =>
  if a_1 = 0 then
  (some 1)
  else (some 0))))
noncomputable def f_M_tryOwners_J179 (RR : Int32 → Int32 → Int32 → Int32 → Int32 → (Nat → Int32) → (Nat → Int32) → (Nat → Int32) → (Nat → Int32) → Int32 → Int32 → Int32 → Option (Int32 × Int32 × (Nat → Int32))) (m_boys : Int32) (m_marbles : Int32) (m_farms : Int32) (m_bestRow : Int32) (m_bestMany : Int32) (m_boy : Nat → Int32) (m_marble : Nat → Int32) (m_farm : Nat → Int32) (m_now : Nat → Int32) (v5 : Int32) (k1 : Int32) (k2 : Int32) (k3 : Int32) : Option ((Int32 × Int32 × Int32 × (Nat → Int32)) ⊕ (Int32 × Int32 × (Nat → Int32))) :=
  (RR m_boys m_marbles m_farms m_bestRow m_bestMany m_boy m_marble m_farm m_now k1 k2 k3).bind fun a_5 =>
  some (.inl (v5 + 1, a_5.1, a_5.2.1, a_5.2.2))
noncomputable def f_M_tryOwners_L135 (RR : Int32 → Int32 → Int32 → Int32 → Int32 → (Nat → Int32) → (Nat → Int32) → (Nat → Int32) → (Nat → Int32) → Int32 → Int32 → Int32 → Option (Int32 × Int32 × (Nat → Int32))) (m_boys : Int32) (m_marbles : Int32) (m_farms : Int32) (m_boy : Nat → Int32) (m_marble : Nat → Int32) (m_farm : Nat → Int32) (v1 : Int32) (v2 : Int32) (v3 : Int32) (v4 : Int32) (s : (Int32 × Int32 × Int32 × (Nat → Int32))) : Option ((Int32 × Int32 × Int32 × (Nat → Int32)) ⊕ (Int32 × Int32 × (Nat → Int32))) :=
  if m_boys ≤ s.1 then
  ((oI (0 + v1) 131 (oL (upd s.2.2.2 ((0 + v1 : Int32).toNatClampNeg) v4) fun m_now_3 =>
  some (s.2.1, s.2.2.1, m_now_3))).map .inr)
  else (oI (0 + v1) 131 (oL (upd s.2.2.2 ((0 + v1 : Int32).toNatClampNeg) s.1) fun m_now_4 =>
  if s.1 = v4 then
  (f_M_tryOwners_J179 RR m_boys m_marbles m_farms s.2.1 s.2.2.1 m_boy m_marble m_farm m_now_4 s.1 (v1 + 1) ((10 * v2) + s.1) v3)
  else (f_M_tryOwners_J179 RR m_boys m_marbles m_farms s.2.1 s.2.2.1 m_boy m_marble m_farm m_now_4 s.1 (v1 + 1) ((10 * v2) + s.1) (v3 + 1))))
noncomputable def f_M_tryOwners_J126 (RR : Int32 → Int32 → Int32 → Int32 → Int32 → (Nat → Int32) → (Nat → Int32) → (Nat → Int32) → (Nat → Int32) → Int32 → Int32 → Int32 → Option (Int32 × Int32 × (Nat → Int32))) (m_boys : Int32) (m_marbles : Int32) (m_farms : Int32) (m_bestRow : Int32) (m_bestMany : Int32) (m_boy : Nat → Int32) (m_marble : Nat → Int32) (m_farm : Nat → Int32) (m_now : Nat → Int32) (v3 : Int32) (k1 : Int32) (k2 : Int32) (k3 : Int32) : Option (Int32 × Int32 × (Nat → Int32)) :=
  (RR m_boys m_marbles m_farms m_bestRow m_bestMany m_boy m_marble m_farm m_now k1 (k2 + k3) v3).bind fun a_7 =>
  some (a_7.1, a_7.2.1, a_7.2.2)
noncomputable def f_M_tryOwners_J76 (m_now : Nat → Int32) (v2 : Int32) (v3 : Int32) : Option (Int32 × Int32 × (Nat → Int32)) :=
  some (v2, v3, m_now)
noncomputable def f_M_tryOwners_J45 (m_bestRow : Int32) (m_bestMany : Int32) (m_now : Nat → Int32) (v2 : Int32) (v3 : Int32) (k0 : Int32) : Option (Int32 × Int32 × (Nat → Int32)) :=
  if k0 = 0 then
  (some (m_bestRow, m_bestMany, m_now))
  else (if m_bestRow = (-1) then
  (f_M_tryOwners_J76 m_now v2 v3)
  else (if v3 < m_bestMany then
  (f_M_tryOwners_J76 m_now v2 v3)
  else (if m_bestRow ≤ v2 then
  (some (m_bestRow, m_bestMany, m_now))
  else (f_M_tryOwners_J76 m_now v2 v3))))
noncomputable def f_M_tryOwners_J17 (RR : Int32 → Int32 → Int32 → Int32 → Int32 → (Nat → Int32) → (Nat → Int32) → (Nat → Int32) → (Nat → Int32) → Int32 → Int32 → Int32 → Option (Int32 × Int32 × (Nat → Int32))) (m_boys : Int32) (m_marbles : Int32) (m_farms : Int32) (m_bestRow : Int32) (m_bestMany : Int32) (m_boy : Nat → Int32) (m_marble : Nat → Int32) (m_farm : Nat → Int32) (m_now : Nat → Int32) (v1 : Int32) (v2 : Int32) (v3 : Int32) : Option (Int32 × Int32 × (Nat → Int32)) :=
  if v1 = m_marbles then
  ((f_M_contents m_marbles m_farms m_boy m_marble m_farm m_now).bind fun a_8 =>
  if a_8 = ((1 <<< (m_farms &&& 31)) - 1) then
  (f_M_tryOwners_J45 m_bestRow m_bestMany m_now v2 v3 1)
  else (f_M_tryOwners_J45 m_bestRow m_bestMany m_now v2 v3 0))
  else (oI (0 + v1) 131 (oL (m_now (0 + v1 : Int32).toNatClampNeg) fun v4_1 => (f_M_isLoose m_now v1).bind fun a_2 =>
  if a_2 = 0 then
  (if v4_1 = (-1) then
  (f_M_tryOwners_J126 RR m_boys m_marbles m_farms m_bestRow m_bestMany m_boy m_marble m_farm m_now v3 (v1 + 1) (10 * v2) 9)
  else (f_M_tryOwners_J126 RR m_boys m_marbles m_farms m_bestRow m_bestMany m_boy m_marble m_farm m_now v3 (v1 + 1) (10 * v2) v4_1))
  else (oLp (f_M_tryOwners_L135 RR m_boys m_marbles m_farms m_boy m_marble m_farm v1 v2 v3 v4_1) (0, m_bestRow, m_bestMany, m_now))))
noncomputable def f_M_tryOwnersB (RR : Int32 → Int32 → Int32 → Int32 → Int32 → (Nat → Int32) → (Nat → Int32) → (Nat → Int32) → (Nat → Int32) → Int32 → Int32 → Int32 → Option (Int32 × Int32 × (Nat → Int32))) (m_boys : Int32) (m_marbles : Int32) (m_farms : Int32) (m_bestRow : Int32) (m_bestMany : Int32) (m_boy : Nat → Int32) (m_marble : Nat → Int32) (m_farm : Nat → Int32) (m_now : Nat → Int32) (p0 : Int32) (p1 : Int32) (p2 : Int32) : Option (Int32 × Int32 × (Nat → Int32)) :=
  if m_bestRow = (-1) then
  (f_M_tryOwners_J17 RR m_boys m_marbles m_farms m_bestRow m_bestMany m_boy m_marble m_farm m_now p0 p1 p2)
  else (if p2 ≤ m_bestMany then
  (f_M_tryOwners_J17 RR m_boys m_marbles m_farms m_bestRow m_bestMany m_boy m_marble m_farm m_now p0 p1 p2)
  else (some (m_bestRow, m_bestMany, m_now)))
noncomputable def f_M_tryOwners : Nat → Int32 → Int32 → Int32 → Int32 → Int32 → (Nat → Int32) → (Nat → Int32) → (Nat → Int32) → (Nat → Int32) → Int32 → Int32 → Int32 → Option (Int32 × Int32 × (Nat → Int32))
  | 0 => fun _ _ _ _ _ _ _ _ _ _ _ _ => none
  | n + 1 => f_M_tryOwnersB (f_M_tryOwners n)
noncomputable def f_M_arrange (m_boys : Int32) (m_marbles : Int32) (m_farms : Int32) (m_bestRow : Int32) (m_bestMany : Int32) (m_boy : Nat → Int32) (m_marble : Nat → Int32) (m_farm : Nat → Int32) (m_now : Nat → Int32) (p0 : Int32) : Option (Int32 × Int32 × Int32 × (Nat → Int32)) :=
  if m_marbles = 0 then
  (some ((-1), m_bestRow, m_bestMany, m_now))
  else ((f_M_in p0 0 1).bind fun a_1 =>
  if a_1 = 0 then
  (some ((-1), m_bestRow, m_bestMany, m_now))
  else ((f_M_tryOwners 8 m_boys m_marbles m_farms ((-1)) 0 m_boy m_marble m_farm m_now 0 0 0).bind fun a_2 =>
  if a_2.1 = (-1) then
  (some (a_2.1, a_2.1, a_2.2.1, a_2.2.2))
  else (if p0 = 1 then
  (some (a_2.1, a_2.1, a_2.2.1, a_2.2.2))
  else (some (a_2.2.1, a_2.1, a_2.2.1, a_2.2.2)))))
noncomputable def f_M_here (m_size : Int32) (m_at : Int32) (m_tape : Nat → Int32) : Option Int32 :=
  if m_size ≤ m_at then
  (some (-1))
  else (oI m_at 240 (some (m_tape m_at.toNatClampNeg)))
noncomputable def f_M_look_L0 (m_size : Int32) (m_tape : Nat → Int32) (s : Int32) : Option (Int32 ⊕ (Int32 × Int32)) :=
  (f_M_here m_size s m_tape).bind fun a_1 =>
  if a_1 = 32 then
  (oL (s + 1) fun m_at_3 =>
  some (.inl m_at_3))
  else (((f_M_here m_size s m_tape).bind fun a_2 =>
  some (a_2, s)).map .inr)
noncomputable def f_M_look (m_size : Int32) (m_at : Int32) (m_tape : Nat → Int32) : Option (Int32 × Int32) :=
  oLp (f_M_look_L0 m_size m_tape) m_at
noncomputable def f_M_bad_J20 (k1 : Int32) : Option Int32 :=
  some k1
noncomputable def f_M_bad (m_at : Int32) (m_wrong : Int32) : Option Int32 :=
  if m_wrong = (-1) then
  (f_M_bad_J20 m_at)
  else (f_M_bad_J20 m_wrong)
noncomputable def f_M_atEnd (m_size : Int32) (m_at : Int32) (m_wrong : Int32) (m_tape : Nat → Int32) : Option (Int32 × Int32 × Int32) :=
  if m_wrong = (-1) then
  ((f_M_look m_size m_at m_tape).bind fun a_1 =>
  if a_1.1 = (-1) then
  (some (m_wrong, a_1.2, m_wrong))
  else ((f_M_bad a_1.2 m_wrong).bind fun a_2 =>
  some (a_2, a_1.2, a_2)))
  else (some (m_wrong, m_at, m_wrong))
noncomputable def f_M_plainNumber_J48 (m_size : Int32) (m_at : Int32) (m_wrong : Int32) (m_tape : Nat → Int32) (v1 : Int32) : Option (Int32 × Int32 × Int32) :=
  (f_M_here m_size m_at m_tape).bind fun a_1 =>
  (f_M_isDigit a_1).bind fun a_2 =>
  if a_2 = 0 then
  (some (v1, m_at, m_wrong))
  else ((f_M_bad m_at m_wrong).bind fun a_3 =>
  some (v1, m_at, a_3))
noncomputable def f_M_plainNumber_L4 (m_size : Int32) (m_wrong : Int32) (m_tape : Nat → Int32) (s : (Int32 × Int32 × Int32)) : Option ((Int32 × Int32 × Int32) ⊕ (Int32 × Int32 × Int32)) :=
  if 4 ≤ s.2.1 then
  ((f_M_plainNumber_J48 m_size s.2.2 m_wrong m_tape s.1).map .inr)
  else ((f_M_here m_size s.2.2 m_tape).bind fun a_4 =>
  (f_M_isDigit a_4).bind fun a_5 =>
  if a_5 = 0 then
  ((f_M_plainNumber_J48 m_size s.2.2 m_wrong m_tape s.1).map .inr)
  else ((f_M_here m_size s.2.2 m_tape).bind fun a_6 =>
  oL (((10 * s.1) + a_6) - 48) fun v1_7 => oL (s.2.2 + 1) fun m_at_8 =>
  some (.inl (v1_7, s.2.1 + 1, m_at_8))))
noncomputable def f_M_plainNumber (m_size : Int32) (m_at : Int32) (m_wrong : Int32) (m_tape : Nat → Int32) : Option (Int32 × Int32 × Int32) :=
  oLp (f_M_plainNumber_L4 m_size m_wrong m_tape) (0, 0, m_at)
noncomputable def f_M_put (m_text : Int32) (m_code : Nat → Int32) (m_value : Nat → Int32) (m_codes : Nat → Int32) (p0 : Int32) (p1 : Int32) : Option ((Nat → Int32) × (Nat → Int32) × (Nat → Int32)) :=
  oI m_text 5 (oI ((520 * m_text) + (m_codes m_text.toNatClampNeg)) 2600 (oL (upd m_code (((520 * m_text) + (m_codes m_text.toNatClampNeg) : Int32).toNatClampNeg) p0) fun m_code_1 =>
  oI m_text 5 (oI ((520 * m_text) + (m_codes m_text.toNatClampNeg)) 2600 (oL (upd m_value (((520 * m_text) + (m_codes m_text.toNatClampNeg) : Int32).toNatClampNeg) p1) fun m_value_2 =>
  oI m_text 5 (oI m_text 5 (oL (upd m_codes m_text.toNatClampNeg ((m_codes m_text.toNatClampNeg) + 1)) fun m_codes_3 =>
  some (m_code_1, m_value_2, m_codes_3)))))))
noncomputable def f_M_opens_J13 (m_at : Int32) (m_wrong : Int32) (m_deep : Int32) : Option (Int32 × Int32 × Int32) :=
  oL (m_deep + 1) fun m_deep_1 =>
  oL (m_at + 1) fun m_at_2 =>
  some (m_at_2, m_wrong, m_deep_1)
noncomputable def f_M_opens (m_at : Int32) (m_wrong : Int32) (m_deep : Int32) : Option (Int32 × Int32 × Int32) :=
  if m_deep = 6 then
  ((f_M_bad m_at m_wrong).bind fun a_3 =>
  f_M_opens_J13 m_at a_3 m_deep)
  else (f_M_opens_J13 m_at m_wrong m_deep)
noncomputable def f_M_closes_J20 (m_at : Int32) (m_wrong : Int32) (m_deep : Int32) : Option (Int32 × Int32 × Int32) :=
  oL (m_at + 1) fun m_at_1 =>
  oL (m_deep - 1) fun m_deep_2 =>
  some (m_at_1, m_wrong, m_deep_2)
noncomputable def f_M_closes (m_size : Int32) (m_at : Int32) (m_wrong : Int32) (m_deep : Int32) (m_tape : Nat → Int32) (p0 : Int32) : Option (Int32 × Int32 × Int32) :=
  if m_wrong = (-1) then
  ((f_M_look m_size m_at m_tape).bind fun a_3 =>
  if a_3.1 = p0 then
  (f_M_closes_J20 a_3.2 m_wrong m_deep)
  else ((f_M_bad a_3.2 m_wrong).bind fun a_4 =>
  f_M_closes_J20 a_3.2 a_4 m_deep))
  else (f_M_closes_J20 m_at m_wrong m_deep)
noncomputable def f_M_atomB (RR : Int32 → Int32 → Int32 → Int32 → Int32 → (Nat → Int32) → (Nat → Int32) → (Nat → Int32) → (Nat → Int32) → Option (Int32 × Int32 × Int32 × (Nat → Int32) × (Nat → Int32) × (Nat → Int32))) (m_size : Int32) (m_at : Int32) (m_wrong : Int32) (m_deep : Int32) (m_text : Int32) (m_tape : Nat → Int32) (m_code : Nat → Int32) (m_value : Nat → Int32) (m_codes : Nat → Int32) : Option (Int32 × Int32 × Int32 × (Nat → Int32) × (Nat → Int32) × (Nat → Int32)) :=
  (f_M_look m_size m_at m_tape).bind fun a_1 =>
  (f_M_isDigit a_1.1).bind fun a_2 =>
  if a_2 = 0 then
  ((f_M_letterOf a_1.1).bind fun a_3 =>
  if a_3 = (-1) then
  (if a_1.1 = 91 then
  ((f_M_opens a_1.2 m_wrong m_deep).bind fun a_5 =>
  if a_5.2.1 = (-1) then
  ((RR m_size a_5.1 a_5.2.1 a_5.2.2 m_text m_tape m_code m_value m_codes).bind fun a_6 =>
  (f_M_closes m_size a_6.1 a_6.2.1 a_6.2.2.1 m_tape 93).bind fun a_7 =>
  some (a_7.1, a_7.2.1, a_7.2.2, a_6.2.2.2.1, a_6.2.2.2.2.1, a_6.2.2.2.2.2))
  else (some (a_5.1, a_5.2.1, a_5.2.2, m_code, m_value, m_codes)))
  else ((f_M_bad a_1.2 m_wrong).bind fun a_4 =>
  some (a_1.2, a_4, m_deep, m_code, m_value, m_codes)))
  else (oL (a_1.2 + 1) fun m_at_8 =>
  (f_M_letterOf a_1.1).bind fun a_9 =>
  (f_M_put m_text m_code m_value m_codes 1 a_9).bind fun a_10 =>
  some (m_at_8, m_wrong, m_deep, a_10.1, a_10.2.1, a_10.2.2)))
  else ((f_M_plainNumber m_size a_1.2 m_wrong m_tape).bind fun a_11 =>
  (f_M_put m_text m_code m_value m_codes 0 a_11.1).bind fun a_12 =>
  some (a_11.2.1, a_11.2.2, m_deep, a_12.1, a_12.2.1, a_12.2.2))
noncomputable def f_M_back_L11 (m_image : Nat → Int32) (s : (Int32 × (Nat → Int32))) : Option ((Int32 × (Nat → Int32)) ⊕ (Int32 × Int32 × (Nat → Int32))) :=
  if 131 ≤ s.1 then
  ((oI 9 131 (some (s.2 (9 : Int32).toNatClampNeg, 0, s.2))).map .inr)
  else (oI s.1 131 (oI s.1 131 (oL (upd s.2 s.1.toNatClampNeg (m_image s.1.toNatClampNeg)) fun m_now_1 =>
  some (.inl (s.1 + 1, m_now_1)))))
noncomputable def f_M_back (m_acts : Int32) (m_hasImage : Int32) (m_now : Nat → Int32) (m_image : Nat → Int32) : Option (Int32 × Int32 × (Nat → Int32)) :=
  if m_hasImage = 0 then
  (some ((-1), m_acts, m_now))
  else (oLp (f_M_back_L11 m_image) (0, m_now))
noncomputable def f_M_isCase (m_boys : Int32) (m_marbles : Int32) (m_now : Nat → Int32) (p0 : Int32) : Option Int32 :=
  oL (p0 / 10) fun v2_1 => oL (p0 - p0 / 10 * 10) fun v3_2 => if p0 = 99 then
  (some 1)
  else ((f_M_isMarble m_marbles v2_1).bind fun a_3 =>
  if a_3 = 0 then
  (some 0)
  else ((f_M_isBoy m_boys v3_2).bind fun a_4 =>
  if a_4 = 0 then
  (some 0)
  else (oI (0 + v2_1) 131 (if (m_now (0 + v2_1 : Int32).toNatClampNeg) = (-1) then
  (some 0)
  else (oI (0 + v2_1) 131 (if (m_now (0 + v2_1 : Int32).toNatClampNeg) = v3_2 then
  (some 0)
  else (some 1)))))))
noncomputable def f_M_layCase (m_now : Nat → Int32) (p0 : Int32) : Option (Int32 × (Nat → Int32)) :=
  if p0 = 99 then
  (some ((-1), m_now))
  else (oI (0 + (p0 / 10)) 131 (oL (m_now (0 + (p0 / 10) : Int32).toNatClampNeg) fun v2_1 => oI (0 + (p0 / 10)) 131 (oL (upd m_now ((0 + (p0 / 10) : Int32).toNatClampNeg) (p0 - p0 / 10 * 10)) fun m_now_2 =>
  some (v2_1, m_now_2))))
noncomputable def f_M_takeCase (m_now : Nat → Int32) (p0 : Int32) (p1 : Int32) : Option (Nat → Int32) :=
  if p0 = 99 then
  (some m_now)
  else (oI (0 + (p0 / 10)) 131 (oL (upd m_now ((0 + (p0 / 10) : Int32).toNatClampNeg) p1) fun m_now_1 =>
  some m_now_1))
noncomputable def f_M_isSo_J82 (m_now : Nat → Int32) (v1 : Int32) (v2 : Int32) (v3 : Int32) : Option (Int32 × (Nat → Int32)) :=
  (f_M_takeCase m_now v1 v2).bind fun a_3 =>
  oZ v3 (some (v3, a_3))
noncomputable def f_M_isSo_J75 (v4 : Int32) (k0 : Int32) : Option ((Int32 × Int32) ⊕ (Int32 × (Nat → Int32))) :=
  some (.inl (k0, v4 + 1))
noncomputable def f_M_isSo_J60 (m_noteIs : Nat → Int32) (v4 : Int32) (k0 : Int32) : Option ((Int32 × Int32) ⊕ (Int32 × (Nat → Int32))) :=
  oI v4 10 (if k0 = (m_noteIs v4.toNatClampNeg) then
  (f_M_isSo_J75 v4 1)
  else (f_M_isSo_J75 v4 0))
noncomputable def f_M_isSo_L21 (m_marbles : Int32) (m_noted : Int32) (m_boy : Nat → Int32) (m_marble : Nat → Int32) (m_now : Nat → Int32) (m_notePlace : Nat → Int32) (m_noteKind : Nat → Int32) (m_noteIs : Nat → Int32) (v1 : Int32) (v2 : Int32) (s : (Int32 × Int32)) : Option ((Int32 × Int32) ⊕ (Int32 × (Nat → Int32))) :=
  if m_noted ≤ s.2 then
  ((f_M_isSo_J82 m_now v1 v2 s.1).map .inr)
  else (if s.1 = 0 then
  ((f_M_isSo_J82 m_now v1 v2 s.1).map .inr)
  else (oI s.2 10 ((f_M_weatherOf m_marbles m_boy m_marble m_now (m_notePlace s.2.toNatClampNeg)).bind fun a_4 =>
  oI s.2 10 (if a_4 = (m_noteKind s.2.toNatClampNeg) then
  (f_M_isSo_J60 m_noteIs s.2 1)
  else (f_M_isSo_J60 m_noteIs s.2 0)))))
noncomputable def f_M_isSo (m_boys : Int32) (m_marbles : Int32) (m_noted : Int32) (m_boy : Nat → Int32) (m_marble : Nat → Int32) (m_now : Nat → Int32) (m_notePlace : Nat → Int32) (m_noteKind : Nat → Int32) (m_noteIs : Nat → Int32) (p0 : Int32) : Option (Int32 × (Nat → Int32)) :=
  (f_M_isCase m_boys m_marbles m_now p0).bind fun a_1 =>
  if a_1 = 0 then
  (some (0, m_now))
  else ((f_M_layCase m_now p0).bind fun a_2 =>
  oLp (f_M_isSo_L21 m_marbles m_noted m_boy m_marble a_2.2 m_notePlace m_noteKind m_noteIs p0 a_2.1) (1, 0))
noncomputable def f_M_who_J42 (m_now : Nat → Int32) (v2 : Int32) (v3 : Int32) : Option ((Int32 × Int32 × (Nat → Int32)) ⊕ (Int32 × (Nat → Int32))) :=
  some (.inl (v2, v3 + 1, m_now))
noncomputable def f_M_who_L18 (m_boys : Int32) (m_marbles : Int32) (m_noted : Int32) (m_boy : Nat → Int32) (m_marble : Nat → Int32) (m_notePlace : Nat → Int32) (m_noteKind : Nat → Int32) (m_noteIs : Nat → Int32) (v1 : Int32) (s : (Int32 × Int32 × (Nat → Int32))) : Option ((Int32 × Int32 × (Nat → Int32)) ⊕ (Int32 × (Nat → Int32))) :=
  if 99 < s.2.1 then
  ((if v1 = (-1) then
  (some (s.1, s.2.2))
  else (some ((-1), s.2.2))).map .inr)
  else ((f_M_isSo m_boys m_marbles m_noted m_boy m_marble s.2.2 m_notePlace m_noteKind m_noteIs s.2.1).bind fun a_1 =>
  if a_1.1 = 0 then
  (f_M_who_J42 a_1.2 s.1 s.2.1)
  else (if s.1 = v1 then
  (some (.inr (s.2.1, a_1.2)))
  else (f_M_who_J42 a_1.2 (s.1 + 1) s.2.1)))
noncomputable def f_M_who (m_boys : Int32) (m_marbles : Int32) (m_noted : Int32) (m_boy : Nat → Int32) (m_marble : Nat → Int32) (m_now : Nat → Int32) (m_notePlace : Nat → Int32) (m_noteKind : Nat → Int32) (m_noteIs : Nat → Int32) (p0 : Int32) : Option (Int32 × (Nat → Int32)) :=
  if m_marbles = 0 then
  (some ((-1), m_now))
  else (if (-1) ≤ p0 then
  (oLp (f_M_who_L18 m_boys m_marbles m_noted m_boy m_marble m_notePlace m_noteKind m_noteIs p0) (0, 0, m_now))
  else (some ((-1), m_now)))
noncomputable def f_M_best_J177 (v1 : Int32) (v2 : Int32) (v3 : Int32) : Option ((Int32 × Int32 × Int32) ⊕ (Int32 × (Nat → Int32) × (Nat → Int32))) :=
  some (.inl (v1, v2, v3 + 1))
noncomputable def f_M_best_J172 (v3 : Int32) (v4 : Int32) : Option ((Int32 × Int32 × Int32) ⊕ (Int32 × (Nat → Int32) × (Nat → Int32))) :=
  f_M_best_J177 v3 v4 v3
noncomputable def f_M_best_L129 (m_toldBy : Nat → Int32) (v1 : Int32) (v2 : Int32) (v3 : Int32) (s : (Int32 × Int32)) : Option ((Int32 × Int32) ⊕ ((Int32 × Int32 × Int32) ⊕ (Int32 × (Nat → Int32) × (Nat → Int32)))) :=
  if 6 < s.2 then
  ((if v1 = (-1) then
  (f_M_best_J172 v3 s.1)
  else (if v2 ≤ s.1 then
  (f_M_best_J177 v1 v2 v3)
  else (f_M_best_J172 v3 s.1))).map .inr)
  else (oI ((7 * v3) + s.2) 70 (oL (jmax s.1 (m_toldBy ((7 * v3) + s.2 : Int32).toNatClampNeg)) fun v4_3 => some (.inl (v4_3, s.2 + 1))))
noncomputable def f_M_best_L117 (m_now : Nat → Int32) (m_toldBy : Nat → Int32) (s : (Int32 × Int32 × Int32)) : Option ((Int32 × Int32 × Int32) ⊕ (Int32 × (Nat → Int32) × (Nat → Int32))) :=
  if 10 ≤ s.2.2 then
  (some (.inr (s.1, m_now, m_toldBy)))
  else (oLp (f_M_best_L129 m_toldBy s.1 s.2.1 s.2.2) (0, 0))
noncomputable def f_M_best_J105 (m_now : Nat → Int32) (m_toldBy : Nat → Int32) (v1 : Int32) : Option ((Int32 × (Nat → Int32) × (Nat → Int32)) ⊕ (Int32 × (Nat → Int32) × (Nat → Int32))) :=
  some (.inl (v1 + 1, m_now, m_toldBy))
noncomputable def f_M_best_L66 (m_marbles : Int32) (m_boy : Nat → Int32) (m_marble : Nat → Int32) (m_now : Nat → Int32) (v1 : Int32) (v2 : Int32) (s : (Int32 × (Nat → Int32))) : Option ((Int32 × (Nat → Int32)) ⊕ ((Int32 × (Nat → Int32) × (Nat → Int32)) ⊕ (Int32 × (Nat → Int32) × (Nat → Int32)))) :=
  if 10 ≤ s.1 then
  (((f_M_takeCase m_now v1 v2).bind fun a_8 =>
  f_M_best_J105 a_8 s.2 v1).map .inr)
  else ((f_M_weatherOf m_marbles m_boy m_marble m_now s.1).bind fun a_9 =>
  oI (((7 * s.1) + a_9) + 1) 70 (oI (((7 * s.1) + a_9) + 1) 70 (oL (upd s.2 ((((7 * s.1) + a_9) + 1 : Int32).toNatClampNeg) ((s.2 (((7 * s.1) + a_9) + 1 : Int32).toNatClampNeg) + 1)) fun m_toldBy_10 =>
  some (.inl (s.1 + 1, m_toldBy_10)))))
noncomputable def f_M_best_L44 (m_boys : Int32) (m_marbles : Int32) (m_noted : Int32) (m_boy : Nat → Int32) (m_marble : Nat → Int32) (m_notePlace : Nat → Int32) (m_noteKind : Nat → Int32) (m_noteIs : Nat → Int32) (s : (Int32 × (Nat → Int32) × (Nat → Int32))) : Option ((Int32 × (Nat → Int32) × (Nat → Int32)) ⊕ (Int32 × (Nat → Int32) × (Nat → Int32))) :=
  if 99 < s.1 then
  ((oLp (f_M_best_L117 s.2.1 s.2.2) ((-1), 0, 0)).map .inr)
  else ((f_M_isSo m_boys m_marbles m_noted m_boy m_marble s.2.1 m_notePlace m_noteKind m_noteIs s.1).bind fun a_5 =>
  if a_5.1 = 0 then
  (f_M_best_J105 a_5.2 s.2.2 s.1)
  else ((f_M_layCase a_5.2 s.1).bind fun a_7 =>
  oLp (f_M_best_L66 m_marbles m_boy m_marble a_7.2 s.1 a_7.1) (0, s.2.2)))
noncomputable def f_M_best_L20 (m_boys : Int32) (m_marbles : Int32) (m_noted : Int32) (m_boy : Nat → Int32) (m_marble : Nat → Int32) (m_now : Nat → Int32) (m_notePlace : Nat → Int32) (m_noteKind : Nat → Int32) (m_noteIs : Nat → Int32) (s : (Int32 × (Nat → Int32))) : Option ((Int32 × (Nat → Int32)) ⊕ (Int32 × (Nat → Int32) × (Nat → Int32))) :=
  if 70 ≤ s.1 then
  ((oLp (f_M_best_L44 m_boys m_marbles m_noted m_boy m_marble m_notePlace m_noteKind m_noteIs) (0, m_now, s.2)).map .inr)
  else (oI s.1 70 (oL (upd s.2 s.1.toNatClampNeg 0) fun m_toldBy_12 =>
  some (.inl (s.1 + 1, m_toldBy_12))))
noncomputable def f_M_best (m_boys : Int32) (m_marbles : Int32) (m_noted : Int32) (m_boy : Nat → Int32) (m_marble : Nat → Int32) (m_now : Nat → Int32) (m_notePlace : Nat → Int32) (m_noteKind : Nat → Int32) (m_noteIs : Nat → Int32) (m_toldBy : Nat → Int32) : Option (Int32 × (Nat → Int32) × (Nat → Int32)) :=
  if m_marbles = 0 then
  (some ((-1), m_now, m_toldBy))
  else ((f_M_who m_boys m_marbles m_noted m_boy m_marble m_now m_notePlace m_noteKind m_noteIs 0).bind fun a_1 =>
  if a_1.1 = (-1) then
  (some ((-1), a_1.2, m_toldBy))
  else (oLp (f_M_best_L20 m_boys m_marbles m_noted m_boy m_marble a_1.2 m_notePlace m_noteKind m_noteIs) (0, m_toldBy)))
noncomputable def f_M_boy_J23 (m_marbles : Int32) (m_boy : Nat → Int32) (m_now : Nat → Int32) (v1 : Int32) (v2 : Int32) (k1 : Int32) : Option (Int32 × Int32) :=
  if k1 = 1 then
  (some (0, k1))
  else (if 2 ≤ v2 then
  ((f_M_handsOf m_marbles m_now v1).bind fun a_2 =>
  (f_J_bitCount a_2).bind fun a_3 =>
  some (a_3, k1))
  else (oI ((2 * v1) + v2) 10 (some (m_boy ((2 * v1) + v2 : Int32).toNatClampNeg, k1))))
noncomputable def f_M_boy_J22 (m_marbles : Int32) (m_boy : Nat → Int32) (m_now : Nat → Int32) (v1 : Int32) (v2 : Int32) : Option (Int32 × Int32) :=
  f_M_boy_J23 m_marbles m_boy m_now v1 v2 1
noncomputable def f_M_boy (m_thrown : Int32) (m_boys : Int32) (m_marbles : Int32) (m_boy : Nat → Int32) (m_now : Nat → Int32) (p0 : Int32) (p1 : Int32) : Option (Int32 × Int32) :=
  (f_M_isBoy m_boys p0).bind fun a_1 =>
  if a_1 = 0 then
  (f_M_boy_J22 m_marbles m_boy m_now p0 p1)
  else ((f_M_in p1 0 2).bind fun a_4 =>
  if a_4 = 0 then
  (f_M_boy_J22 m_marbles m_boy m_now p0 p1)
  else (f_M_boy_J23 m_marbles m_boy m_now p0 p1 0))
noncomputable def f_M_cellOf (m_marbles : Int32) (m_holding : Int32) (m_code : Nat → Int32) (m_value : Nat → Int32) (m_clauses : Nat → Int32) (m_testFrom : Nat → Int32) (m_sumFrom : Nat → Int32) (m_sumTo : Nat → Int32) (m_letters : Nat → Int32) (m_stack : Nat → Int32) (m_boy : Nat → Int32) (m_marble : Nat → Int32) (m_now : Nat → Int32) (p0 : Int32) (p1 : Int32) : Option (Int32 × (Nat → Int32) × (Nat → Int32)) :=
  oI (0 + p0) 131 ((f_M_landsAt m_marbles m_holding m_code m_value m_clauses m_testFrom m_sumFrom m_sumTo m_letters m_stack m_boy m_marble m_now (m_now (0 + p0 : Int32).toNatClampNeg) p0 p1).bind fun a_1 =>
  some (a_1.1, a_1.2.1, a_1.2.2))
noncomputable def f_M_strongest_J45 (v3 : Int32) (k0 : Int32) : Option ((Int32 × Int32) ⊕ Int32) :=
  some (.inl (k0, v3 + 1))
noncomputable def f_M_strongest_J44 (v2 : Int32) (v3 : Int32) : Option ((Int32 × Int32) ⊕ Int32) :=
  f_M_strongest_J45 v3 v2
noncomputable def f_M_strongest_J40 (v3 : Int32) : Option ((Int32 × Int32) ⊕ Int32) :=
  f_M_strongest_J45 v3 v3
noncomputable def f_M_strongest_L4 (m_marbles : Int32) (m_marble : Nat → Int32) (v1 : Int32) (s : (Int32 × Int32)) : Option ((Int32 × Int32) ⊕ Int32) :=
  if m_marbles ≤ s.2 then
  (some (.inr s.1))
  else ((f_M_has v1 s.2).bind fun a_1 =>
  if a_1 = 0 then
  (f_M_strongest_J44 s.1 s.2)
  else (if s.1 = (-1) then
  (f_M_strongest_J40 s.2)
  else ((f_M_of m_marble s.2 2).bind fun a_3 =>
  (f_M_of m_marble s.1 2).bind fun a_4 =>
  if a_3 ≤ a_4 then
  (f_M_strongest_J44 s.1 s.2)
  else (f_M_strongest_J40 s.2))))
noncomputable def f_M_strongest (m_marbles : Int32) (m_marble : Nat → Int32) (p0 : Int32) : Option Int32 :=
  oLp (f_M_strongest_L4 m_marbles m_marble p0) ((-1), 0)
noncomputable def f_M_champion_J101 (m_letters : Nat → Int32) (m_stack : Nat → Int32) (v1 : Int32) (v2 : Int32) (v3 : Int32) : Option ((Int32 × Int32 × Int32 × (Nat → Int32) × (Nat → Int32)) ⊕ (Int32 × (Nat → Int32) × (Nat → Int32))) :=
  some (.inl (v1, v2, v3 + 1, m_letters, m_stack))
noncomputable def f_M_champion_J96 (m_letters : Nat → Int32) (m_stack : Nat → Int32) (v3 : Int32) (v6 : Int32) : Option ((Int32 × Int32 × Int32 × (Nat → Int32) × (Nat → Int32)) ⊕ (Int32 × (Nat → Int32) × (Nat → Int32))) :=
  f_M_champion_J101 m_letters m_stack v3 v6 v3
noncomputable def f_M_champion_J77 (m_letters : Nat → Int32) (m_stack : Nat → Int32) (v1 : Int32) (v2 : Int32) (v3 : Int32) (v5 : Int32) (k0 : Int32) : Option ((Int32 × Int32 × Int32 × (Nat → Int32) × (Nat → Int32)) ⊕ (Int32 × (Nat → Int32) × (Nat → Int32))) :=
  if v5 = (-1) then
  (f_M_champion_J101 m_letters m_stack v1 v2 v3)
  else (if v1 = (-1) then
  (f_M_champion_J96 m_letters m_stack v3 k0)
  else (if v2 ≤ k0 then
  (f_M_champion_J101 m_letters m_stack v1 v2 v3)
  else (f_M_champion_J96 m_letters m_stack v3 k0)))
noncomputable def f_M_champion_J52 (m_marbles : Int32) (m_holding : Int32) (m_code : Nat → Int32) (m_value : Nat → Int32) (m_clauses : Nat → Int32) (m_testFrom : Nat → Int32) (m_sumFrom : Nat → Int32) (m_sumTo : Nat → Int32) (m_letters : Nat → Int32) (m_stack : Nat → Int32) (m_rule : Nat → Int32) (m_boy : Nat → Int32) (m_marble : Nat → Int32) (m_now : Nat → Int32) (v1 : Int32) (v2 : Int32) (v3 : Int32) (v4 : Int32) (k0 : Int32) : Option ((Int32 × Int32 × Int32 × (Nat → Int32) × (Nat → Int32)) ⊕ (Int32 × (Nat → Int32) × (Nat → Int32))) :=
  if k0 = (-1) then
  (f_M_champion_J77 m_letters m_stack v1 v2 v3 k0 0)
  else ((f_M_landsAt m_marbles m_holding m_code m_value m_clauses m_testFrom m_sumFrom m_sumTo m_letters m_stack m_boy m_marble m_now v3 v4 k0).bind fun a_4 =>
  (f_M_offHole m_rule a_4.1).bind fun a_5 =>
  f_M_champion_J77 a_4.2.1 a_4.2.2 v1 v2 v3 k0 a_5)
noncomputable def f_M_champion_L6 (m_boys : Int32) (m_marbles : Int32) (m_holding : Int32) (m_code : Nat → Int32) (m_value : Nat → Int32) (m_clauses : Nat → Int32) (m_testFrom : Nat → Int32) (m_sumFrom : Nat → Int32) (m_sumTo : Nat → Int32) (m_rule : Nat → Int32) (m_boy : Nat → Int32) (m_marble : Nat → Int32) (m_now : Nat → Int32) (s : (Int32 × Int32 × Int32 × (Nat → Int32) × (Nat → Int32))) : Option ((Int32 × Int32 × Int32 × (Nat → Int32) × (Nat → Int32)) ⊕ (Int32 × (Nat → Int32) × (Nat → Int32))) :=
  if m_boys ≤ s.2.2.1 then
  (some (.inr (s.1, s.2.2.2.1, s.2.2.2.2)))
  else ((f_M_handsOf m_marbles m_now s.2.2.1).bind fun a_1 =>
  oI 7 131 ((f_M_strongest m_marbles m_marble (a_1 &&& ((m_now (7 : Int32).toNatClampNeg) ^^^ ((-1))))).bind fun a_2 =>
  if a_2 = (-1) then
  (f_M_champion_J52 m_marbles m_holding m_code m_value m_clauses m_testFrom m_sumFrom m_sumTo s.2.2.2.1 s.2.2.2.2 m_rule m_boy m_marble m_now s.1 s.2.1 s.2.2.1 a_2 ((-1)))
  else ((f_M_aimOf m_marbles m_holding m_code m_value m_clauses m_testFrom m_sumFrom m_sumTo s.2.2.2.1 s.2.2.2.2 m_rule m_boy m_marble m_now s.2.2.1 a_2).bind fun a_3 =>
  f_M_champion_J52 m_marbles m_holding m_code m_value m_clauses m_testFrom m_sumFrom m_sumTo a_3.2.1 a_3.2.2 m_rule m_boy m_marble m_now s.1 s.2.1 s.2.2.1 a_2 a_3.1)))
noncomputable def f_M_champion (m_boys : Int32) (m_marbles : Int32) (m_holding : Int32) (m_code : Nat → Int32) (m_value : Nat → Int32) (m_clauses : Nat → Int32) (m_testFrom : Nat → Int32) (m_sumFrom : Nat → Int32) (m_sumTo : Nat → Int32) (m_letters : Nat → Int32) (m_stack : Nat → Int32) (m_rule : Nat → Int32) (m_boy : Nat → Int32) (m_marble : Nat → Int32) (m_now : Nat → Int32) : Option (Int32 × (Nat → Int32) × (Nat → Int32)) :=
  oLp (f_M_champion_L6 m_boys m_marbles m_holding m_code m_value m_clauses m_testFrom m_sumFrom m_sumTo m_rule m_boy m_marble m_now) ((-1), 0, 0, m_letters, m_stack)
noncomputable def f_M_isRefused_J15 (m_refused : Nat → Int32) (v1 : Int32) : Option (Int32 × (Nat → Int32)) :=
  if v1 = (-1) then
  (some (0, m_refused))
  else (some (1, m_refused))
noncomputable def f_M_isRefused (m_refused : Nat → Int32) (p0 : Int32) : Option (Int32 × (Nat → Int32)) :=
  if p0 = (-1) then
  (f_M_isRefused_J15 m_refused p0)
  else (oI p0 5 (oI p0 5 (oL (upd m_refused p0.toNatClampNeg ((m_refused p0.toNatClampNeg) + 1)) fun m_refused_1 =>
  f_M_isRefused_J15 m_refused_1 p0)))
noncomputable def f_M_keep_L54 (m_acts : Int32) (m_now : Nat → Int32) (s : (Int32 × (Nat → Int32))) : Option ((Int32 × (Nat → Int32)) ⊕ (Int32 × (Nat → Int32))) :=
  if 131 ≤ s.1 then
  ((oL (m_acts + 1) fun m_acts_1 =>
  some (m_acts_1, s.2)).map .inr)
  else (oI s.1 131 (oI ((131 * m_acts) + s.1) 5240 (oL (upd s.2 (((131 * m_acts) + s.1 : Int32).toNatClampNeg) (m_now s.1.toNatClampNeg)) fun m_kept_2 =>
  some (.inl (s.1 + 1, m_kept_2)))))
noncomputable def f_M_keep_J52 (m_acts : Int32) (m_now : Nat → Int32) (m_kept : Nat → Int32) : Option (Int32 × (Nat → Int32)) :=
  oLp (f_M_keep_L54 m_acts m_now) (0, m_kept)
noncomputable def f_M_keep_L13 (m_acts : Int32) (m_now : Nat → Int32) (s : (Int32 × (Nat → Int32))) : Option ((Int32 × (Nat → Int32)) ⊕ (Int32 × (Nat → Int32))) :=
  if 5240 ≤ s.1 then
  ((oL (m_acts - 1) fun m_acts_4 =>
  f_M_keep_J52 m_acts_4 m_now s.2).map .inr)
  else (oI s.1 5240 (oI (s.1 - 131) 5240 (oL (upd s.2 ((s.1 - 131 : Int32).toNatClampNeg) (s.2 s.1.toNatClampNeg)) fun m_kept_5 =>
  some (.inl (s.1 + 1, m_kept_5)))))
noncomputable def f_M_keep (m_acts : Int32) (m_now : Nat → Int32) (m_kept : Nat → Int32) : Option (Int32 × (Nat → Int32)) :=
  if m_acts = 40 then
  (oLp (f_M_keep_L13 m_acts m_now) (131, m_kept))
  else (f_M_keep_J52 m_acts m_now m_kept)
noncomputable def f_M_mark_J43 (m_acts : Int32) (m_now : Nat → Int32) (m_refused : Nat → Int32) (m_kept : Nat → Int32) (v1 : Int32) (v2 : Int32) (k1 : Int32) : Option (Int32 × Int32 × (Nat → Int32) × (Nat → Int32) × (Nat → Int32)) :=
  (f_M_isRefused m_refused k1).bind fun a_3 =>
  if a_3.1 = 0 then
  ((f_M_keep m_acts m_now m_kept).bind fun a_4 =>
  oI v1 131 (oI v1 131 (oL (upd m_now v1.toNatClampNeg ((m_now v1.toNatClampNeg) ||| (1 <<< (v2 &&& 31)))) fun m_now_5 =>
  oI v1 131 ((f_J_bitCount (m_now_5 v1.toNatClampNeg)).bind fun a_6 =>
  some (a_6, a_4.1, m_now_5, a_3.2, a_4.2)))))
  else (some ((-1), m_acts, m_now, a_3.2, m_kept))
noncomputable def f_M_mark_J38 (m_acts : Int32) (m_now : Nat → Int32) (m_refused : Nat → Int32) (m_kept : Nat → Int32) (v1 : Int32) (v2 : Int32) : Option (Int32 × Int32 × (Nat → Int32) × (Nat → Int32) × (Nat → Int32)) :=
  f_M_mark_J43 m_acts m_now m_refused m_kept v1 v2 2
noncomputable def f_M_mark (m_marbles : Int32) (m_acts : Int32) (m_now : Nat → Int32) (m_refused : Nat → Int32) (m_kept : Nat → Int32) (p0 : Int32) (p1 : Int32) : Option (Int32 × Int32 × (Nat → Int32) × (Nat → Int32) × (Nat → Int32)) :=
  (f_M_isMarble m_marbles p1).bind fun a_1 =>
  if a_1 = 0 then
  (f_M_mark_J43 m_acts m_now m_refused m_kept p0 p1 0)
  else (oI p0 131 ((f_M_has (m_now p0.toNatClampNeg) p1).bind fun a_2 =>
  if a_2 = 0 then
  (oI (0 + p1) 131 (if (m_now (0 + p1 : Int32).toNatClampNeg) = (-1) then
  (f_M_mark_J38 m_acts m_now m_refused m_kept p0 p1)
  else (f_M_mark_J43 m_acts m_now m_refused m_kept p0 p1 ((-1)))))
  else (f_M_mark_J38 m_acts m_now m_refused m_kept p0 p1)))
noncomputable def f_M_chip (m_marbles : Int32) (m_acts : Int32) (m_now : Nat → Int32) (m_refused : Nat → Int32) (m_kept : Nat → Int32) (p0 : Int32) : Option (Int32 × Int32 × (Nat → Int32) × (Nat → Int32) × (Nat → Int32)) :=
  (f_M_mark m_marbles m_acts m_now m_refused m_kept 6 p0).bind fun a_1 =>
  some (a_1.1, a_1.2.1, a_1.2.2.1, a_1.2.2.2.1, a_1.2.2.2.2)
noncomputable def f_M_goOnAnd_L0 (RR : Int32 → Int32 → Int32 → Int32 → Int32 → (Nat → Int32) → (Nat → Int32) → (Nat → Int32) → (Nat → Int32) → Option (Int32 × Int32 × Int32 × (Nat → Int32) × (Nat → Int32) × (Nat → Int32))) (m_size : Int32) (m_text : Int32) (m_tape : Nat → Int32) (s : (Int32 × Int32 × Int32 × (Nat → Int32) × (Nat → Int32) × (Nat → Int32))) : Option ((Int32 × Int32 × Int32 × (Nat → Int32) × (Nat → Int32) × (Nat → Int32)) ⊕ (Int32 × Int32 × Int32 × (Nat → Int32) × (Nat → Int32) × (Nat → Int32))) :=
  if s.2.1 = (-1) then
  ((f_M_look m_size s.1 m_tape).bind fun a_1 =>
  if a_1.1 = 38 then
  (oL (a_1.2 + 1) fun m_at_2 =>
  (RR m_size m_at_2 s.2.1 s.2.2.1 m_text m_tape s.2.2.2.1 s.2.2.2.2.1 s.2.2.2.2.2).bind fun a_3 =>
  (f_M_put m_text a_3.2.2.2.1 a_3.2.2.2.2.1 a_3.2.2.2.2.2 10 0).bind fun a_4 =>
  some (.inl (a_3.1, a_3.2.1, a_3.2.2.1, a_4.1, a_4.2.1, a_4.2.2)))
  else (some (.inr (a_1.2, s.2.1, s.2.2.1, s.2.2.2.1, s.2.2.2.2.1, s.2.2.2.2.2))))
  else (some (.inr (s.1, s.2.1, s.2.2.1, s.2.2.2.1, s.2.2.2.2.1, s.2.2.2.2.2)))
noncomputable def f_M_goOnAndB (RR : Int32 → Int32 → Int32 → Int32 → Int32 → (Nat → Int32) → (Nat → Int32) → (Nat → Int32) → (Nat → Int32) → Option (Int32 × Int32 × Int32 × (Nat → Int32) × (Nat → Int32) × (Nat → Int32))) (m_size : Int32) (m_at : Int32) (m_wrong : Int32) (m_deep : Int32) (m_text : Int32) (m_tape : Nat → Int32) (m_code : Nat → Int32) (m_value : Nat → Int32) (m_codes : Nat → Int32) : Option (Int32 × Int32 × Int32 × (Nat → Int32) × (Nat → Int32) × (Nat → Int32)) :=
  oLp (f_M_goOnAnd_L0 RR m_size m_text m_tape) (m_at, m_wrong, m_deep, m_code, m_value, m_codes)
noncomputable def f_M_goOnOr_L0 (RR : Int32 → Int32 → Int32 → Int32 → Int32 → (Nat → Int32) → (Nat → Int32) → (Nat → Int32) → (Nat → Int32) → Option (Int32 × Int32 × Int32 × (Nat → Int32) × (Nat → Int32) × (Nat → Int32))) (m_size : Int32) (m_text : Int32) (m_tape : Nat → Int32) (s : (Int32 × Int32 × Int32 × (Nat → Int32) × (Nat → Int32) × (Nat → Int32))) : Option ((Int32 × Int32 × Int32 × (Nat → Int32) × (Nat → Int32) × (Nat → Int32)) ⊕ (Int32 × Int32 × Int32 × (Nat → Int32) × (Nat → Int32) × (Nat → Int32))) :=
  if s.2.1 = (-1) then
  ((f_M_look m_size s.1 m_tape).bind fun a_1 =>
  if a_1.1 = 124 then
  (oL (a_1.2 + 1) fun m_at_2 =>
  (RR m_size m_at_2 s.2.1 s.2.2.1 m_text m_tape s.2.2.2.1 s.2.2.2.2.1 s.2.2.2.2.2).bind fun a_3 =>
  (f_M_goOnAndB RR m_size a_3.1 a_3.2.1 a_3.2.2.1 m_text m_tape a_3.2.2.2.1 a_3.2.2.2.2.1 a_3.2.2.2.2.2).bind fun a_4 =>
  (f_M_put m_text a_4.2.2.2.1 a_4.2.2.2.2.1 a_4.2.2.2.2.2 11 0).bind fun a_5 =>
  some (.inl (a_4.1, a_4.2.1, a_4.2.2.1, a_5.1, a_5.2.1, a_5.2.2)))
  else (some (.inr (a_1.2, s.2.1, s.2.2.1, s.2.2.2.1, s.2.2.2.2.1, s.2.2.2.2.2))))
  else (some (.inr (s.1, s.2.1, s.2.2.1, s.2.2.2.1, s.2.2.2.2.1, s.2.2.2.2.2)))
noncomputable def f_M_goOnOrB (RR : Int32 → Int32 → Int32 → Int32 → Int32 → (Nat → Int32) → (Nat → Int32) → (Nat → Int32) → (Nat → Int32) → Option (Int32 × Int32 × Int32 × (Nat → Int32) × (Nat → Int32) × (Nat → Int32))) (m_size : Int32) (m_at : Int32) (m_wrong : Int32) (m_deep : Int32) (m_text : Int32) (m_tape : Nat → Int32) (m_code : Nat → Int32) (m_value : Nat → Int32) (m_codes : Nat → Int32) : Option (Int32 × Int32 × Int32 × (Nat → Int32) × (Nat → Int32) × (Nat → Int32)) :=
  oLp (f_M_goOnOr_L0 RR m_size m_text m_tape) (m_at, m_wrong, m_deep, m_code, m_value, m_codes)
noncomputable def f_M_conditionB (RR : Int32 → Int32 → Int32 → Int32 → Int32 → (Nat → Int32) → (Nat → Int32) → (Nat → Int32) → (Nat → Int32) → Option (Int32 × Int32 × Int32 × (Nat → Int32) × (Nat → Int32) × (Nat → Int32))) (m_size : Int32) (m_at : Int32) (m_wrong : Int32) (m_deep : Int32) (m_text : Int32) (m_tape : Nat → Int32) (m_code : Nat → Int32) (m_value : Nat → Int32) (m_codes : Nat → Int32) : Option (Int32 × Int32 × Int32 × (Nat → Int32) × (Nat → Int32) × (Nat → Int32)) :=
  (RR m_size m_at m_wrong m_deep m_text m_tape m_code m_value m_codes).bind fun a_1 =>
  (f_M_goOnAndB RR m_size a_1.1 a_1.2.1 a_1.2.2.1 m_text m_tape a_1.2.2.2.1 a_1.2.2.2.2.1 a_1.2.2.2.2.2).bind fun a_2 =>
  (f_M_goOnOrB RR m_size a_2.1 a_2.2.1 a_2.2.2.1 m_text m_tape a_2.2.2.2.1 a_2.2.2.2.2.1 a_2.2.2.2.2.2).bind fun a_3 =>
  some (a_3.1, a_3.2.1, a_3.2.2.1, a_3.2.2.2.1, a_3.2.2.2.2.1, a_3.2.2.2.2.2)
noncomputable def f_M_term_J79 (m_at : Int32) (m_wrong : Int32) (m_deep : Int32) (m_code : Nat → Int32) (m_value : Nat → Int32) (m_codes : Nat → Int32) (k0 : Int32) : Option ((Int32 × Int32 × Int32 × Int32 × (Nat → Int32) × (Nat → Int32) × (Nat → Int32)) ⊕ (Int32 × Int32 × Int32 × (Nat → Int32) × (Nat → Int32) × (Nat → Int32))) :=
  some (.inl (k0, m_at, m_wrong, m_deep, m_code, m_value, m_codes))
noncomputable def f_M_term_J59 (m_size : Int32) (m_at : Int32) (m_wrong : Int32) (m_deep : Int32) (m_text : Int32) (m_tape : Nat → Int32) (m_code : Nat → Int32) (m_value : Nat → Int32) (m_codes : Nat → Int32) (k1 : Int32) : Option ((Int32 × Int32 × Int32 × Int32 × (Nat → Int32) × (Nat → Int32) × (Nat → Int32)) ⊕ (Int32 × Int32 × Int32 × (Nat → Int32) × (Nat → Int32) × (Nat → Int32))) :=
  (f_M_put m_text m_code m_value m_codes k1 0).bind fun a_4 =>
  if m_wrong = (-1) then
  ((f_M_look m_size m_at m_tape).bind fun a_5 =>
  f_M_term_J79 a_5.2 m_wrong m_deep a_4.1 a_4.2.1 a_4.2.2 a_5.1)
  else (f_M_term_J79 m_at m_wrong m_deep a_4.1 a_4.2.1 a_4.2.2 ((-1)))
noncomputable def f_M_term_J33 (RR : Int32 → Int32 → Int32 → Int32 → Int32 → (Nat → Int32) → (Nat → Int32) → (Nat → Int32) → (Nat → Int32) → Option (Int32 × Int32 × Int32 × (Nat → Int32) × (Nat → Int32) × (Nat → Int32))) (m_size : Int32) (m_at : Int32) (m_wrong : Int32) (m_deep : Int32) (m_text : Int32) (m_tape : Nat → Int32) (m_code : Nat → Int32) (m_value : Nat → Int32) (m_codes : Nat → Int32) (v1 : Int32) : Option ((Int32 × Int32 × Int32 × Int32 × (Nat → Int32) × (Nat → Int32) × (Nat → Int32)) ⊕ (Int32 × Int32 × Int32 × (Nat → Int32) × (Nat → Int32) × (Nat → Int32))) :=
  oL (m_at + 1) fun m_at_2 =>
  (f_M_atomB RR m_size m_at_2 m_wrong m_deep m_text m_tape m_code m_value m_codes).bind fun a_3 =>
  if v1 = 42 then
  (f_M_term_J59 m_size a_3.1 a_3.2.1 a_3.2.2.1 m_text m_tape a_3.2.2.2.1 a_3.2.2.2.2.1 a_3.2.2.2.2.2 4)
  else (f_M_term_J59 m_size a_3.1 a_3.2.1 a_3.2.2.1 m_text m_tape a_3.2.2.2.1 a_3.2.2.2.2.1 a_3.2.2.2.2.2 5)
noncomputable def f_M_term_L21 (RR : Int32 → Int32 → Int32 → Int32 → Int32 → (Nat → Int32) → (Nat → Int32) → (Nat → Int32) → (Nat → Int32) → Option (Int32 × Int32 × Int32 × (Nat → Int32) × (Nat → Int32) × (Nat → Int32))) (m_size : Int32) (m_text : Int32) (m_tape : Nat → Int32) (s : (Int32 × Int32 × Int32 × Int32 × (Nat → Int32) × (Nat → Int32) × (Nat → Int32))) : Option ((Int32 × Int32 × Int32 × Int32 × (Nat → Int32) × (Nat → Int32) × (Nat → Int32)) ⊕ (Int32 × Int32 × Int32 × (Nat → Int32) × (Nat → Int32) × (Nat → Int32))) :=
  if s.1 = 42 then
  (f_M_term_J33 RR m_size s.2.1 s.2.2.1 s.2.2.2.1 m_text m_tape s.2.2.2.2.1 s.2.2.2.2.2.1 s.2.2.2.2.2.2 s.1)
  else (if s.1 = 47 then
  (f_M_term_J33 RR m_size s.2.1 s.2.2.1 s.2.2.2.1 m_text m_tape s.2.2.2.2.1 s.2.2.2.2.2.1 s.2.2.2.2.2.2 s.1)
  else (some (.inr (s.2.1, s.2.2.1, s.2.2.2.1, s.2.2.2.2.1, s.2.2.2.2.2.1, s.2.2.2.2.2.2))))
noncomputable def f_M_term_J20 (RR : Int32 → Int32 → Int32 → Int32 → Int32 → (Nat → Int32) → (Nat → Int32) → (Nat → Int32) → (Nat → Int32) → Option (Int32 × Int32 × Int32 × (Nat → Int32) × (Nat → Int32) × (Nat → Int32))) (m_size : Int32) (m_at : Int32) (m_wrong : Int32) (m_deep : Int32) (m_text : Int32) (m_tape : Nat → Int32) (m_code : Nat → Int32) (m_value : Nat → Int32) (m_codes : Nat → Int32) (k0 : Int32) : Option (Int32 × Int32 × Int32 × (Nat → Int32) × (Nat → Int32) × (Nat → Int32)) :=
  oLp (f_M_term_L21 RR m_size m_text m_tape) (k0, m_at, m_wrong, m_deep, m_code, m_value, m_codes)
noncomputable def f_M_termB (RR : Int32 → Int32 → Int32 → Int32 → Int32 → (Nat → Int32) → (Nat → Int32) → (Nat → Int32) → (Nat → Int32) → Option (Int32 × Int32 × Int32 × (Nat → Int32) × (Nat → Int32) × (Nat → Int32))) (m_size : Int32) (m_at : Int32) (m_wrong : Int32) (m_deep : Int32) (m_text : Int32) (m_tape : Nat → Int32) (m_code : Nat → Int32) (m_value : Nat → Int32) (m_codes : Nat → Int32) : Option (Int32 × Int32 × Int32 × (Nat → Int32) × (Nat → Int32) × (Nat → Int32)) :=
  (f_M_atomB RR m_size m_at m_wrong m_deep m_text m_tape m_code m_value m_codes).bind fun a_1 =>
  if a_1.2.1 = (-1) then
  ((f_M_look m_size a_1.1 m_tape).bind fun a_6 =>
  f_M_term_J20 RR m_size a_6.2 a_1.2.1 a_1.2.2.1 m_text m_tape a_1.2.2.2.1 a_1.2.2.2.2.1 a_1.2.2.2.2.2 a_6.1)
  else (f_M_term_J20 RR m_size a_1.1 a_1.2.1 a_1.2.2.1 m_text m_tape a_1.2.2.2.1 a_1.2.2.2.2.1 a_1.2.2.2.2.2 ((-1)))
noncomputable def f_M_sum_J79 (m_at : Int32) (m_wrong : Int32) (m_deep : Int32) (m_code : Nat → Int32) (m_value : Nat → Int32) (m_codes : Nat → Int32) (k0 : Int32) : Option ((Int32 × Int32 × Int32 × Int32 × (Nat → Int32) × (Nat → Int32) × (Nat → Int32)) ⊕ (Int32 × Int32 × Int32 × (Nat → Int32) × (Nat → Int32) × (Nat → Int32))) :=
  some (.inl (k0, m_at, m_wrong, m_deep, m_code, m_value, m_codes))
noncomputable def f_M_sum_J59 (m_size : Int32) (m_at : Int32) (m_wrong : Int32) (m_deep : Int32) (m_text : Int32) (m_tape : Nat → Int32) (m_code : Nat → Int32) (m_value : Nat → Int32) (m_codes : Nat → Int32) (k1 : Int32) : Option ((Int32 × Int32 × Int32 × Int32 × (Nat → Int32) × (Nat → Int32) × (Nat → Int32)) ⊕ (Int32 × Int32 × Int32 × (Nat → Int32) × (Nat → Int32) × (Nat → Int32))) :=
  (f_M_put m_text m_code m_value m_codes k1 0).bind fun a_4 =>
  if m_wrong = (-1) then
  ((f_M_look m_size m_at m_tape).bind fun a_5 =>
  f_M_sum_J79 a_5.2 m_wrong m_deep a_4.1 a_4.2.1 a_4.2.2 a_5.1)
  else (f_M_sum_J79 m_at m_wrong m_deep a_4.1 a_4.2.1 a_4.2.2 ((-1)))
noncomputable def f_M_sum_J33 (RR : Int32 → Int32 → Int32 → Int32 → Int32 → (Nat → Int32) → (Nat → Int32) → (Nat → Int32) → (Nat → Int32) → Option (Int32 × Int32 × Int32 × (Nat → Int32) × (Nat → Int32) × (Nat → Int32))) (m_size : Int32) (m_at : Int32) (m_wrong : Int32) (m_deep : Int32) (m_text : Int32) (m_tape : Nat → Int32) (m_code : Nat → Int32) (m_value : Nat → Int32) (m_codes : Nat → Int32) (v1 : Int32) : Option ((Int32 × Int32 × Int32 × Int32 × (Nat → Int32) × (Nat → Int32) × (Nat → Int32)) ⊕ (Int32 × Int32 × Int32 × (Nat → Int32) × (Nat → Int32) × (Nat → Int32))) :=
  oL (m_at + 1) fun m_at_2 =>
  (f_M_termB RR m_size m_at_2 m_wrong m_deep m_text m_tape m_code m_value m_codes).bind fun a_3 =>
  if v1 = 43 then
  (f_M_sum_J59 m_size a_3.1 a_3.2.1 a_3.2.2.1 m_text m_tape a_3.2.2.2.1 a_3.2.2.2.2.1 a_3.2.2.2.2.2 2)
  else (f_M_sum_J59 m_size a_3.1 a_3.2.1 a_3.2.2.1 m_text m_tape a_3.2.2.2.1 a_3.2.2.2.2.1 a_3.2.2.2.2.2 3)
noncomputable def f_M_sum_L21 (RR : Int32 → Int32 → Int32 → Int32 → Int32 → (Nat → Int32) → (Nat → Int32) → (Nat → Int32) → (Nat → Int32) → Option (Int32 × Int32 × Int32 × (Nat → Int32) × (Nat → Int32) × (Nat → Int32))) (m_size : Int32) (m_text : Int32) (m_tape : Nat → Int32) (s : (Int32 × Int32 × Int32 × Int32 × (Nat → Int32) × (Nat → Int32) × (Nat → Int32))) : Option ((Int32 × Int32 × Int32 × Int32 × (Nat → Int32) × (Nat → Int32) × (Nat → Int32)) ⊕ (Int32 × Int32 × Int32 × (Nat → Int32) × (Nat → Int32) × (Nat → Int32))) :=
  if s.1 = 43 then
  (f_M_sum_J33 RR m_size s.2.1 s.2.2.1 s.2.2.2.1 m_text m_tape s.2.2.2.2.1 s.2.2.2.2.2.1 s.2.2.2.2.2.2 s.1)
  else (if s.1 = 45 then
  (f_M_sum_J33 RR m_size s.2.1 s.2.2.1 s.2.2.2.1 m_text m_tape s.2.2.2.2.1 s.2.2.2.2.2.1 s.2.2.2.2.2.2 s.1)
  else (some (.inr (s.2.1, s.2.2.1, s.2.2.2.1, s.2.2.2.2.1, s.2.2.2.2.2.1, s.2.2.2.2.2.2))))
noncomputable def f_M_sum_J20 (RR : Int32 → Int32 → Int32 → Int32 → Int32 → (Nat → Int32) → (Nat → Int32) → (Nat → Int32) → (Nat → Int32) → Option (Int32 × Int32 × Int32 × (Nat → Int32) × (Nat → Int32) × (Nat → Int32))) (m_size : Int32) (m_at : Int32) (m_wrong : Int32) (m_deep : Int32) (m_text : Int32) (m_tape : Nat → Int32) (m_code : Nat → Int32) (m_value : Nat → Int32) (m_codes : Nat → Int32) (k0 : Int32) : Option (Int32 × Int32 × Int32 × (Nat → Int32) × (Nat → Int32) × (Nat → Int32)) :=
  oLp (f_M_sum_L21 RR m_size m_text m_tape) (k0, m_at, m_wrong, m_deep, m_code, m_value, m_codes)
noncomputable def f_M_sumB (RR : Int32 → Int32 → Int32 → Int32 → Int32 → (Nat → Int32) → (Nat → Int32) → (Nat → Int32) → (Nat → Int32) → Option (Int32 × Int32 × Int32 × (Nat → Int32) × (Nat → Int32) × (Nat → Int32))) (m_size : Int32) (m_at : Int32) (m_wrong : Int32) (m_deep : Int32) (m_text : Int32) (m_tape : Nat → Int32) (m_code : Nat → Int32) (m_value : Nat → Int32) (m_codes : Nat → Int32) : Option (Int32 × Int32 × Int32 × (Nat → Int32) × (Nat → Int32) × (Nat → Int32)) :=
  (f_M_termB RR m_size m_at m_wrong m_deep m_text m_tape m_code m_value m_codes).bind fun a_1 =>
  if a_1.2.1 = (-1) then
  ((f_M_look m_size a_1.1 m_tape).bind fun a_6 =>
  f_M_sum_J20 RR m_size a_6.2 a_1.2.1 a_1.2.2.1 m_text m_tape a_1.2.2.2.1 a_1.2.2.2.2.1 a_1.2.2.2.2.2 a_6.1)
  else (f_M_sum_J20 RR m_size a_1.1 a_1.2.1 a_1.2.2.1 m_text m_tape a_1.2.2.2.1 a_1.2.2.2.2.1 a_1.2.2.2.2.2 ((-1)))
noncomputable def f_M_sum : Nat → Int32 → Int32 → Int32 → Int32 → Int32 → (Nat → Int32) → (Nat → Int32) → (Nat → Int32) → (Nat → Int32) → Option (Int32 × Int32 × Int32 × (Nat → Int32) × (Nat → Int32) × (Nat → Int32))
  | 0 => fun _ _ _ _ _ _ _ _ _ => none
  | n + 1 => f_M_sumB (f_M_sum n)
noncomputable def f_M_compare_J68 (m_at : Int32) (m_wrong : Int32) (m_deep : Int32) (m_text : Int32) (m_code : Nat → Int32) (m_value : Nat → Int32) (m_codes : Nat → Int32) (k1 : Int32) : Option (Int32 × Int32 × Int32 × (Nat → Int32) × (Nat → Int32) × (Nat → Int32)) :=
  (f_M_put m_text m_code m_value m_codes k1 0).bind fun a_4 =>
  some (m_at, m_wrong, m_deep, a_4.1, a_4.2.1, a_4.2.2)
noncomputable def f_M_compare_J16 (m_size : Int32) (m_at : Int32) (m_wrong : Int32) (m_deep : Int32) (m_text : Int32) (m_tape : Nat → Int32) (m_code : Nat → Int32) (m_value : Nat → Int32) (m_codes : Nat → Int32) (k0 : Int32) : Option (Int32 × Int32 × Int32 × (Nat → Int32) × (Nat → Int32) × (Nat → Int32)) :=
  (f_M_isSign k0).bind fun a_1 =>
  if a_1 = 0 then
  ((f_M_bad m_at m_wrong).bind fun a_5 =>
  some (m_at, a_5, m_deep, m_code, m_value, m_codes))
  else (oL (m_at + 1) fun m_at_2 =>
  (f_M_sum 8 m_size m_at_2 m_wrong m_deep m_text m_tape m_code m_value m_codes).bind fun a_3 =>
  if k0 = 61 then
  (f_M_compare_J68 a_3.1 a_3.2.1 a_3.2.2.1 m_text a_3.2.2.2.1 a_3.2.2.2.2.1 a_3.2.2.2.2.2 6)
  else (if k0 = 60 then
  (f_M_compare_J68 a_3.1 a_3.2.1 a_3.2.2.1 m_text a_3.2.2.2.1 a_3.2.2.2.2.1 a_3.2.2.2.2.2 7)
  else (f_M_compare_J68 a_3.1 a_3.2.1 a_3.2.2.1 m_text a_3.2.2.2.1 a_3.2.2.2.2.1 a_3.2.2.2.2.2 8)))
noncomputable def f_M_compare (m_size : Int32) (m_at : Int32) (m_wrong : Int32) (m_deep : Int32) (m_text : Int32) (m_tape : Nat → Int32) (m_code : Nat → Int32) (m_value : Nat → Int32) (m_codes : Nat → Int32) : Option (Int32 × Int32 × Int32 × (Nat → Int32) × (Nat → Int32) × (Nat → Int32)) :=
  if m_wrong = (-1) then
  ((f_M_look m_size m_at m_tape).bind fun a_6 =>
  f_M_compare_J16 m_size a_6.2 m_wrong m_deep m_text m_tape m_code m_value m_codes a_6.1)
  else (f_M_compare_J16 m_size m_at m_wrong m_deep m_text m_tape m_code m_value m_codes ((-1)))
noncomputable def f_M_unitB (RR : Int32 → Int32 → Int32 → Int32 → Int32 → (Nat → Int32) → (Nat → Int32) → (Nat → Int32) → (Nat → Int32) → Option (Int32 × Int32 × Int32 × (Nat → Int32) × (Nat → Int32) × (Nat → Int32))) (m_size : Int32) (m_at : Int32) (m_wrong : Int32) (m_deep : Int32) (m_text : Int32) (m_tape : Nat → Int32) (m_code : Nat → Int32) (m_value : Nat → Int32) (m_codes : Nat → Int32) : Option (Int32 × Int32 × Int32 × (Nat → Int32) × (Nat → Int32) × (Nat → Int32)) :=
  (f_M_look m_size m_at m_tape).bind fun a_1 =>
  if a_1.1 = 33 then
  ((f_M_opens a_1.2 m_wrong m_deep).bind fun a_7 =>
  if a_7.2.1 = (-1) then
  ((RR m_size a_7.1 a_7.2.1 a_7.2.2 m_text m_tape m_code m_value m_codes).bind fun a_8 =>
  (f_M_put m_text a_8.2.2.2.1 a_8.2.2.2.2.1 a_8.2.2.2.2.2 9 0).bind fun a_9 =>
  oL (a_8.2.2.1 - 1) fun m_deep_10 =>
  some (a_8.1, a_8.2.1, m_deep_10, a_9.1, a_9.2.1, a_9.2.2))
  else (some (a_7.1, a_7.2.1, a_7.2.2, m_code, m_value, m_codes)))
  else (if a_1.1 = 40 then
  ((f_M_opens a_1.2 m_wrong m_deep).bind fun a_4 =>
  if a_4.2.1 = (-1) then
  ((f_M_conditionB RR m_size a_4.1 a_4.2.1 a_4.2.2 m_text m_tape m_code m_value m_codes).bind fun a_5 =>
  (f_M_closes m_size a_5.1 a_5.2.1 a_5.2.2.1 m_tape 41).bind fun a_6 =>
  some (a_6.1, a_6.2.1, a_6.2.2, a_5.2.2.2.1, a_5.2.2.2.2.1, a_5.2.2.2.2.2))
  else (some (a_4.1, a_4.2.1, a_4.2.2, m_code, m_value, m_codes)))
  else ((f_M_sum 8 m_size a_1.2 m_wrong m_deep m_text m_tape m_code m_value m_codes).bind fun a_2 =>
  if a_2.2.1 = (-1) then
  ((f_M_compare m_size a_2.1 a_2.2.1 a_2.2.2.1 m_text m_tape a_2.2.2.2.1 a_2.2.2.2.2.1 a_2.2.2.2.2.2).bind fun a_3 =>
  some (a_3.1, a_3.2.1, a_3.2.2.1, a_3.2.2.2.1, a_3.2.2.2.2.1, a_3.2.2.2.2.2))
  else (some (a_2.1, a_2.2.1, a_2.2.2.1, a_2.2.2.2.1, a_2.2.2.2.2.1, a_2.2.2.2.2.2))))
noncomputable def f_M_unit : Nat → Int32 → Int32 → Int32 → Int32 → Int32 → (Nat → Int32) → (Nat → Int32) → (Nat → Int32) → (Nat → Int32) → Option (Int32 × Int32 × Int32 × (Nat → Int32) × (Nat → Int32) × (Nat → Int32))
  | 0 => fun _ _ _ _ _ _ _ _ _ => none
  | n + 1 => f_M_unitB (f_M_unit n)
noncomputable def f_M_clause_J251 (m_at : Int32) (m_wrong : Int32) (m_deep : Int32) (m_text : Int32) (m_code : Nat → Int32) (m_value : Nat → Int32) (m_codes : Nat → Int32) (m_clauses : Nat → Int32) (m_testFrom : Nat → Int32) (m_sumFrom : Nat → Int32) (m_sumTo : Nat → Int32) (v1 : Int32) : Option (Int32 × Int32 × Int32 × (Nat → Int32) × (Nat → Int32) × (Nat → Int32) × (Nat → Int32) × (Nat → Int32) × (Nat → Int32) × (Nat → Int32)) :=
  oI m_text 5 (oI v1 700 (oL (upd m_sumTo v1.toNatClampNeg (m_codes m_text.toNatClampNeg)) fun m_sumTo_8 =>
  oI m_text 5 (oI m_text 5 (oL (upd m_clauses m_text.toNatClampNeg ((m_clauses m_text.toNatClampNeg) + 1)) fun m_clauses_9 =>
  some (m_at, m_wrong, m_deep, m_code, m_value, m_codes, m_clauses_9, m_testFrom, m_sumFrom, m_sumTo_8)))))
noncomputable def f_M_clause_J184 (m_size : Int32) (m_at : Int32) (m_wrong : Int32) (m_deep : Int32) (m_text : Int32) (m_tape : Nat → Int32) (m_code : Nat → Int32) (m_value : Nat → Int32) (m_codes : Nat → Int32) (m_clauses : Nat → Int32) (m_testFrom : Nat → Int32) (m_sumFrom : Nat → Int32) (m_sumTo : Nat → Int32) (v1 : Int32) (v2 : Int32) : Option (Int32 × Int32 × Int32 × (Nat → Int32) × (Nat → Int32) × (Nat → Int32) × (Nat → Int32) × (Nat → Int32) × (Nat → Int32) × (Nat → Int32)) :=
  oI v1 700 (oI v1 700 (oL (upd m_sumFrom v1.toNatClampNeg (m_testFrom v1.toNatClampNeg)) fun m_sumFrom_7 =>
  if v2 = 0 then
  (f_M_clause_J251 m_at m_wrong m_deep m_text m_code m_value m_codes m_clauses m_testFrom m_sumFrom_7 m_sumTo v1)
  else (if m_wrong = (-1) then
  ((f_M_look m_size m_at m_tape).bind fun a_10 =>
  if a_10.1 = 63 then
  (oL (a_10.2 + 1) fun m_at_11 =>
  oI m_text 5 (oI v1 700 (oL (upd m_sumFrom_7 v1.toNatClampNeg (m_codes m_text.toNatClampNeg)) fun m_sumFrom_12 =>
  (f_M_sum 8 m_size m_at_11 m_wrong m_deep m_text m_tape m_code m_value m_codes).bind fun a_13 =>
  f_M_clause_J251 a_13.1 a_13.2.1 a_13.2.2.1 m_text a_13.2.2.2.1 a_13.2.2.2.2.1 a_13.2.2.2.2.2 m_clauses m_testFrom m_sumFrom_12 m_sumTo v1)))
  else ((f_M_bad a_10.2 m_wrong).bind fun a_14 =>
  some (a_10.2, a_14, m_deep, m_code, m_value, m_codes, m_clauses, m_testFrom, m_sumFrom_7, m_sumTo)))
  else (f_M_clause_J251 m_at m_wrong m_deep m_text m_code m_value m_codes m_clauses m_testFrom m_sumFrom_7 m_sumTo v1))))
noncomputable def f_M_clause_J167 (m_size : Int32) (m_at : Int32) (m_wrong : Int32) (m_deep : Int32) (m_text : Int32) (m_tape : Nat → Int32) (m_code : Nat → Int32) (m_value : Nat → Int32) (m_codes : Nat → Int32) (m_clauses : Nat → Int32) (m_testFrom : Nat → Int32) (m_sumFrom : Nat → Int32) (m_sumTo : Nat → Int32) (v1 : Int32) (k0 : Int32) : Option (Int32 × Int32 × Int32 × (Nat → Int32) × (Nat → Int32) × (Nat → Int32) × (Nat → Int32) × (Nat → Int32) × (Nat → Int32) × (Nat → Int32)) :=
  if k0 = 0 then
  (f_M_clause_J184 m_size m_at m_wrong m_deep m_text m_tape m_code m_value m_codes m_clauses m_testFrom m_sumFrom m_sumTo v1 k0)
  else ((f_M_compare m_size m_at m_wrong m_deep m_text m_tape m_code m_value m_codes).bind fun a_15 =>
  (f_M_goOnAndB (f_M_unit 8) m_size a_15.1 a_15.2.1 a_15.2.2.1 m_text m_tape a_15.2.2.2.1 a_15.2.2.2.2.1 a_15.2.2.2.2.2).bind fun a_16 =>
  (f_M_goOnOrB (f_M_unit 8) m_size a_16.1 a_16.2.1 a_16.2.2.1 m_text m_tape a_16.2.2.2.1 a_16.2.2.2.2.1 a_16.2.2.2.2.2).bind fun a_17 =>
  f_M_clause_J184 m_size a_17.1 a_17.2.1 a_17.2.2.1 m_text m_tape a_17.2.2.2.1 a_17.2.2.2.2.1 a_17.2.2.2.2.2 m_clauses m_testFrom m_sumFrom m_sumTo v1 k0)
noncomputable def f_M_clause_J166 (m_size : Int32) (m_at : Int32) (m_wrong : Int32) (m_deep : Int32) (m_text : Int32) (m_tape : Nat → Int32) (m_code : Nat → Int32) (m_value : Nat → Int32) (m_codes : Nat → Int32) (m_clauses : Nat → Int32) (m_testFrom : Nat → Int32) (m_sumFrom : Nat → Int32) (m_sumTo : Nat → Int32) (v1 : Int32) : Option (Int32 × Int32 × Int32 × (Nat → Int32) × (Nat → Int32) × (Nat → Int32) × (Nat → Int32) × (Nat → Int32) × (Nat → Int32) × (Nat → Int32)) :=
  f_M_clause_J167 m_size m_at m_wrong m_deep m_text m_tape m_code m_value m_codes m_clauses m_testFrom m_sumFrom m_sumTo v1 0
noncomputable def f_M_clause_J128 (m_size : Int32) (m_at : Int32) (m_wrong : Int32) (m_deep : Int32) (m_text : Int32) (m_tape : Nat → Int32) (m_code : Nat → Int32) (m_value : Nat → Int32) (m_codes : Nat → Int32) (m_clauses : Nat → Int32) (m_testFrom : Nat → Int32) (m_sumFrom : Nat → Int32) (m_sumTo : Nat → Int32) (v1 : Int32) (k0 : Int32) : Option (Int32 × Int32 × Int32 × (Nat → Int32) × (Nat → Int32) × (Nat → Int32) × (Nat → Int32) × (Nat → Int32) × (Nat → Int32) × (Nat → Int32)) :=
  if k0 = 0 then
  ((f_M_sum 8 m_size m_at m_wrong m_deep m_text m_tape m_code m_value m_codes).bind fun a_6 =>
  if a_6.2.1 = (-1) then
  ((f_M_look m_size a_6.1 m_tape).bind fun a_18 =>
  (f_M_isSign a_18.1).bind fun a_19 =>
  if a_19 = 0 then
  (f_M_clause_J166 m_size a_18.2 a_6.2.1 a_6.2.2.1 m_text m_tape a_6.2.2.2.1 a_6.2.2.2.2.1 a_6.2.2.2.2.2 m_clauses m_testFrom m_sumFrom m_sumTo v1)
  else (f_M_clause_J167 m_size a_18.2 a_6.2.1 a_6.2.2.1 m_text m_tape a_6.2.2.2.1 a_6.2.2.2.2.1 a_6.2.2.2.2.2 m_clauses m_testFrom m_sumFrom m_sumTo v1 1))
  else (f_M_clause_J166 m_size a_6.1 a_6.2.1 a_6.2.2.1 m_text m_tape a_6.2.2.2.1 a_6.2.2.2.2.1 a_6.2.2.2.2.2 m_clauses m_testFrom m_sumFrom m_sumTo v1))
  else ((f_M_conditionB (f_M_unit 8) m_size m_at m_wrong m_deep m_text m_tape m_code m_value m_codes).bind fun a_20 =>
  f_M_clause_J184 m_size a_20.1 a_20.2.1 a_20.2.2.1 m_text m_tape a_20.2.2.2.1 a_20.2.2.2.2.1 a_20.2.2.2.2.2 m_clauses m_testFrom m_sumFrom m_sumTo v1 k0)
noncomputable def f_M_clause_J123 (m_size : Int32) (m_at : Int32) (m_wrong : Int32) (m_deep : Int32) (m_text : Int32) (m_tape : Nat → Int32) (m_code : Nat → Int32) (m_value : Nat → Int32) (m_codes : Nat → Int32) (m_clauses : Nat → Int32) (m_testFrom : Nat → Int32) (m_sumFrom : Nat → Int32) (m_sumTo : Nat → Int32) (v1 : Int32) : Option (Int32 × Int32 × Int32 × (Nat → Int32) × (Nat → Int32) × (Nat → Int32) × (Nat → Int32) × (Nat → Int32) × (Nat → Int32) × (Nat → Int32)) :=
  f_M_clause_J128 m_size m_at m_wrong m_deep m_text m_tape m_code m_value m_codes m_clauses m_testFrom m_sumFrom m_sumTo v1 1
noncomputable def f_M_clause_J71 (m_size : Int32) (m_at : Int32) (m_wrong : Int32) (m_deep : Int32) (m_text : Int32) (m_tape : Nat → Int32) (m_code : Nat → Int32) (m_value : Nat → Int32) (m_codes : Nat → Int32) (m_clauses : Nat → Int32) (m_testFrom : Nat → Int32) (m_sumFrom : Nat → Int32) (m_sumTo : Nat → Int32) (v1 : Int32) : Option (Int32 × Int32 × Int32 × (Nat → Int32) × (Nat → Int32) × (Nat → Int32) × (Nat → Int32) × (Nat → Int32) × (Nat → Int32) × (Nat → Int32)) :=
  oL (m_at + 1) fun m_at_3 =>
  if m_wrong = (-1) then
  (oI m_text 5 (oI v1 700 (oL (upd m_testFrom v1.toNatClampNeg (m_codes m_text.toNatClampNeg)) fun m_testFrom_4 =>
  (f_M_look m_size m_at_3 m_tape).bind fun a_5 =>
  if a_5.1 = 33 then
  (f_M_clause_J123 m_size a_5.2 m_wrong m_deep m_text m_tape m_code m_value m_codes m_clauses m_testFrom_4 m_sumFrom m_sumTo v1)
  else ((f_M_look m_size a_5.2 m_tape).bind fun a_21 =>
  if a_21.1 = 40 then
  (f_M_clause_J123 m_size a_21.2 m_wrong m_deep m_text m_tape m_code m_value m_codes m_clauses m_testFrom_4 m_sumFrom m_sumTo v1)
  else (f_M_clause_J128 m_size a_21.2 m_wrong m_deep m_text m_tape m_code m_value m_codes m_clauses m_testFrom_4 m_sumFrom m_sumTo v1 0)))))
  else (some (m_at_3, m_wrong, m_deep, m_code, m_value, m_codes, m_clauses, m_testFrom, m_sumFrom, m_sumTo))
noncomputable def f_M_clause_J40 (m_size : Int32) (m_at : Int32) (m_wrong : Int32) (m_deep : Int32) (m_text : Int32) (m_tape : Nat → Int32) (m_code : Nat → Int32) (m_value : Nat → Int32) (m_codes : Nat → Int32) (m_clauses : Nat → Int32) (m_testFrom : Nat → Int32) (m_sumFrom : Nat → Int32) (m_sumTo : Nat → Int32) (v1 : Int32) : Option (Int32 × Int32 × Int32 × (Nat → Int32) × (Nat → Int32) × (Nat → Int32) × (Nat → Int32) × (Nat → Int32) × (Nat → Int32) × (Nat → Int32)) :=
  oL (m_at + 1) fun m_at_2 =>
  if m_wrong = (-1) then
  ((f_M_look m_size m_at_2 m_tape).bind fun a_22 =>
  if a_22.1 = 58 then
  (f_M_clause_J71 m_size a_22.2 m_wrong m_deep m_text m_tape m_code m_value m_codes m_clauses m_testFrom m_sumFrom m_sumTo v1)
  else ((f_M_bad a_22.2 m_wrong).bind fun a_23 =>
  f_M_clause_J71 m_size a_22.2 a_23 m_deep m_text m_tape m_code m_value m_codes m_clauses m_testFrom m_sumFrom m_sumTo v1))
  else (f_M_clause_J71 m_size m_at_2 m_wrong m_deep m_text m_tape m_code m_value m_codes m_clauses m_testFrom m_sumFrom m_sumTo v1)
noncomputable def f_M_clause (m_size : Int32) (m_at : Int32) (m_wrong : Int32) (m_deep : Int32) (m_text : Int32) (m_tape : Nat → Int32) (m_code : Nat → Int32) (m_value : Nat → Int32) (m_codes : Nat → Int32) (m_clauses : Nat → Int32) (m_testFrom : Nat → Int32) (m_sumFrom : Nat → Int32) (m_sumTo : Nat → Int32) : Option (Int32 × Int32 × Int32 × (Nat → Int32) × (Nat → Int32) × (Nat → Int32) × (Nat → Int32) × (Nat → Int32) × (Nat → Int32) × (Nat → Int32)) :=
  oI m_text 5 (oL ((140 * m_text) + (m_clauses m_text.toNatClampNeg)) fun v1_1 => if m_wrong = (-1) then
  ((f_M_look m_size m_at m_tape).bind fun a_24 =>
  if a_24.1 = 121 then
  (f_M_clause_J40 m_size a_24.2 m_wrong m_deep m_text m_tape m_code m_value m_codes m_clauses m_testFrom m_sumFrom m_sumTo v1_1)
  else ((f_M_bad a_24.2 m_wrong).bind fun a_25 =>
  f_M_clause_J40 m_size a_24.2 a_25 m_deep m_text m_tape m_code m_value m_codes m_clauses m_testFrom m_sumFrom m_sumTo v1_1))
  else (f_M_clause_J40 m_size m_at m_wrong m_deep m_text m_tape m_code m_value m_codes m_clauses m_testFrom m_sumFrom m_sumTo v1_1))
noncomputable def f_M_number_J67 (m_size : Int32) (m_at : Int32) (m_wrong : Int32) (m_tape : Nat → Int32) (v1 : Int32) (v2 : Int32) (v3 : Int32) : Option (Int32 × Int32 × Int32) :=
  (f_M_here m_size m_at m_tape).bind fun a_8 =>
  (f_M_isDigit a_8).bind fun a_9 =>
  if a_9 = 0 then
  ((f_M_in v3 v1 v2).bind fun a_10 =>
  if a_10 = 0 then
  (oL (m_at - 1) fun m_at_11 =>
  (f_M_bad m_at_11 m_wrong).bind fun a_12 =>
  some (v3, m_at_11, a_12))
  else (some (v3, m_at, m_wrong)))
  else ((f_M_bad m_at m_wrong).bind fun a_13 =>
  some (v3, m_at, a_13))
noncomputable def f_M_number (m_size : Int32) (m_at : Int32) (m_wrong : Int32) (m_tape : Nat → Int32) (p0 : Int32) (p1 : Int32) : Option (Int32 × Int32 × Int32) :=
  (f_M_look m_size m_at m_tape).bind fun a_1 =>
  (f_M_isDigit a_1.1).bind fun a_2 =>
  if a_2 = 0 then
  ((f_M_bad a_1.2 m_wrong).bind fun a_17 =>
  some (p0, a_1.2, a_17))
  else ((f_M_here m_size a_1.2 m_tape).bind fun a_3 =>
  oL (a_3 - 48) fun v3_4 => oL (a_1.2 + 1) fun m_at_5 =>
  (f_M_here m_size m_at_5 m_tape).bind fun a_6 =>
  (f_M_isDigit a_6).bind fun a_7 =>
  if a_7 = 0 then
  (f_M_number_J67 m_size m_at_5 m_wrong m_tape p0 p1 v3_4)
  else ((f_M_here m_size m_at_5 m_tape).bind fun a_14 =>
  oL (((10 * v3_4) + a_14) - 48) fun v3_15 => oL (m_at_5 + 1) fun m_at_16 =>
  f_M_number_J67 m_size m_at_16 m_wrong m_tape p0 p1 v3_15))
noncomputable def f_M_items_M14_J126 (m_at : Int32) (m_wrong : Int32) (m_readFarm : Nat → Int32) (v5 : Int32) (k0 : Int32) : Option ((Int32 × Int32 × Int32 × Int32 × (Nat → Int32)) ⊕ (Int32 × Int32 × (Nat → Int32))) :=
  some (.inl (v5, k0, m_at, m_wrong, m_readFarm))
noncomputable def f_M_items_M14_L41 (m_size : Int32) (m_tape : Nat → Int32) (v1 : Int32) (v3 : Int32) (s : (Int32 × Int32 × Int32 × Int32 × (Nat → Int32))) : Option ((Int32 × Int32 × Int32 × Int32 × (Nat → Int32)) ⊕ (Int32 × Int32 × (Nat → Int32))) :=
  if s.2.2.2.1 = (-1) then
  (if s.2.1 = (-1) then
  (some (.inr (s.2.2.1, s.2.2.2.1, s.2.2.2.2)))
  else ((f_M_has s.1 s.2.1).bind fun a_3 =>
  if a_3 = 0 then
  (oL (s.1 ||| (1 <<< (s.2.1 &&& 31))) fun v5_4 => oL (s.2.2.1 + 1) fun m_at_5 =>
  (f_M_lowest v1 s.2.1).bind fun a_6 =>
  (f_M_highest v1 s.2.1).bind fun a_7 =>
  (f_M_number m_size m_at_5 s.2.2.2.1 m_tape a_6 a_7).bind fun a_8 =>
  oI (v3 + s.2.1) 18 (oL (upd s.2.2.2.2 ((v3 + s.2.1 : Int32).toNatClampNeg) a_8.1) fun m_readFarm_9 =>
  if a_8.2.2 = (-1) then
  ((f_M_look m_size a_8.2.1 m_tape).bind fun a_10 =>
  (f_M_itemOf v1 a_10.1).bind fun a_11 =>
  f_M_items_M14_J126 a_10.2 a_8.2.2 m_readFarm_9 v5_4 a_11)
  else (f_M_items_M14_J126 a_8.2.1 a_8.2.2 m_readFarm_9 v5_4 ((-1)))))
  else (some (.inr (s.2.2.1, s.2.2.2.1, s.2.2.2.2)))))
  else (some (.inr (s.2.2.1, s.2.2.2.1, s.2.2.2.2)))
noncomputable def f_M_items_M14_L3 (m_size : Int32) (m_at : Int32) (m_wrong : Int32) (m_tape : Nat → Int32) (v1 : Int32) (v3 : Int32) (v4 : Int32) (s : (Int32 × (Nat → Int32))) : Option ((Int32 × (Nat → Int32)) ⊕ (Int32 × Int32 × (Nat → Int32))) :=
  if v4 ≤ s.1 then
  (((f_M_look m_size m_at m_tape).bind fun a_1 =>
  (f_M_itemOf v1 a_1.1).bind fun a_2 =>
  oLp (f_M_items_M14_L41 m_size m_tape v1 v3) (0, a_2, a_1.2, m_wrong, s.2)).map .inr)
  else ((f_M_usual v1 s.1).bind fun a_12 =>
  oI (v3 + s.1) 18 (oL (upd s.2 ((v3 + s.1 : Int32).toNatClampNeg) a_12) fun m_readFarm_13 =>
  some (.inl (s.1 + 1, m_readFarm_13))))
noncomputable def f_M_items_M14 (m_size : Int32) (m_at : Int32) (m_wrong : Int32) (m_tape : Nat → Int32) (m_readFarm : Nat → Int32) (p0 : Int32) (p1 : Int32) (p2 : Int32) : Option (Int32 × Int32 × (Nat → Int32)) :=
  oLp (f_M_items_M14_L3 m_size m_at m_wrong m_tape p0 p1 p2) (0, m_readFarm)
noncomputable def f_M_items_M13_J126 (m_at : Int32) (m_wrong : Int32) (m_readMarble : Nat → Int32) (v5 : Int32) (k0 : Int32) : Option ((Int32 × Int32 × Int32 × Int32 × (Nat → Int32)) ⊕ (Int32 × Int32 × (Nat → Int32))) :=
  some (.inl (v5, k0, m_at, m_wrong, m_readMarble))
noncomputable def f_M_items_M13_L41 (m_size : Int32) (m_tape : Nat → Int32) (v1 : Int32) (v3 : Int32) (s : (Int32 × Int32 × Int32 × Int32 × (Nat → Int32))) : Option ((Int32 × Int32 × Int32 × Int32 × (Nat → Int32)) ⊕ (Int32 × Int32 × (Nat → Int32))) :=
  if s.2.2.2.1 = (-1) then
  (if s.2.1 = (-1) then
  (some (.inr (s.2.2.1, s.2.2.2.1, s.2.2.2.2)))
  else ((f_M_has s.1 s.2.1).bind fun a_3 =>
  if a_3 = 0 then
  (oL (s.1 ||| (1 <<< (s.2.1 &&& 31))) fun v5_4 => oL (s.2.2.1 + 1) fun m_at_5 =>
  (f_M_lowest v1 s.2.1).bind fun a_6 =>
  (f_M_highest v1 s.2.1).bind fun a_7 =>
  (f_M_number m_size m_at_5 s.2.2.2.1 m_tape a_6 a_7).bind fun a_8 =>
  oI (v3 + s.2.1) 18 (oL (upd s.2.2.2.2 ((v3 + s.2.1 : Int32).toNatClampNeg) a_8.1) fun m_readMarble_9 =>
  if a_8.2.2 = (-1) then
  ((f_M_look m_size a_8.2.1 m_tape).bind fun a_10 =>
  (f_M_itemOf v1 a_10.1).bind fun a_11 =>
  f_M_items_M13_J126 a_10.2 a_8.2.2 m_readMarble_9 v5_4 a_11)
  else (f_M_items_M13_J126 a_8.2.1 a_8.2.2 m_readMarble_9 v5_4 ((-1)))))
  else (some (.inr (s.2.2.1, s.2.2.2.1, s.2.2.2.2)))))
  else (some (.inr (s.2.2.1, s.2.2.2.1, s.2.2.2.2)))
noncomputable def f_M_items_M13_L3 (m_size : Int32) (m_at : Int32) (m_wrong : Int32) (m_tape : Nat → Int32) (v1 : Int32) (v3 : Int32) (v4 : Int32) (s : (Int32 × (Nat → Int32))) : Option ((Int32 × (Nat → Int32)) ⊕ (Int32 × Int32 × (Nat → Int32))) :=
  if v4 ≤ s.1 then
  (((f_M_look m_size m_at m_tape).bind fun a_1 =>
  (f_M_itemOf v1 a_1.1).bind fun a_2 =>
  oLp (f_M_items_M13_L41 m_size m_tape v1 v3) (0, a_2, a_1.2, m_wrong, s.2)).map .inr)
  else ((f_M_usual v1 s.1).bind fun a_12 =>
  oI (v3 + s.1) 18 (oL (upd s.2 ((v3 + s.1 : Int32).toNatClampNeg) a_12) fun m_readMarble_13 =>
  some (.inl (s.1 + 1, m_readMarble_13))))
noncomputable def f_M_items_M13 (m_size : Int32) (m_at : Int32) (m_wrong : Int32) (m_tape : Nat → Int32) (m_readMarble : Nat → Int32) (p0 : Int32) (p1 : Int32) (p2 : Int32) : Option (Int32 × Int32 × (Nat → Int32)) :=
  oLp (f_M_items_M13_L3 m_size m_at m_wrong m_tape p0 p1 p2) (0, m_readMarble)
noncomputable def f_M_items_M12_J126 (m_at : Int32) (m_wrong : Int32) (m_readBoy : Nat → Int32) (v5 : Int32) (k0 : Int32) : Option ((Int32 × Int32 × Int32 × Int32 × (Nat → Int32)) ⊕ (Int32 × Int32 × (Nat → Int32))) :=
  some (.inl (v5, k0, m_at, m_wrong, m_readBoy))
noncomputable def f_M_items_M12_L41 (m_size : Int32) (m_tape : Nat → Int32) (v1 : Int32) (v3 : Int32) (s : (Int32 × Int32 × Int32 × Int32 × (Nat → Int32))) : Option ((Int32 × Int32 × Int32 × Int32 × (Nat → Int32)) ⊕ (Int32 × Int32 × (Nat → Int32))) :=
  if s.2.2.2.1 = (-1) then
  (if s.2.1 = (-1) then
  (some (.inr (s.2.2.1, s.2.2.2.1, s.2.2.2.2)))
  else ((f_M_has s.1 s.2.1).bind fun a_3 =>
  if a_3 = 0 then
  (oL (s.1 ||| (1 <<< (s.2.1 &&& 31))) fun v5_4 => oL (s.2.2.1 + 1) fun m_at_5 =>
  (f_M_lowest v1 s.2.1).bind fun a_6 =>
  (f_M_highest v1 s.2.1).bind fun a_7 =>
  (f_M_number m_size m_at_5 s.2.2.2.1 m_tape a_6 a_7).bind fun a_8 =>
  oI (v3 + s.2.1) 10 (oL (upd s.2.2.2.2 ((v3 + s.2.1 : Int32).toNatClampNeg) a_8.1) fun m_readBoy_9 =>
  if a_8.2.2 = (-1) then
  ((f_M_look m_size a_8.2.1 m_tape).bind fun a_10 =>
  (f_M_itemOf v1 a_10.1).bind fun a_11 =>
  f_M_items_M12_J126 a_10.2 a_8.2.2 m_readBoy_9 v5_4 a_11)
  else (f_M_items_M12_J126 a_8.2.1 a_8.2.2 m_readBoy_9 v5_4 ((-1)))))
  else (some (.inr (s.2.2.1, s.2.2.2.1, s.2.2.2.2)))))
  else (some (.inr (s.2.2.1, s.2.2.2.1, s.2.2.2.2)))
noncomputable def f_M_items_M12_L3 (m_size : Int32) (m_at : Int32) (m_wrong : Int32) (m_tape : Nat → Int32) (v1 : Int32) (v3 : Int32) (v4 : Int32) (s : (Int32 × (Nat → Int32))) : Option ((Int32 × (Nat → Int32)) ⊕ (Int32 × Int32 × (Nat → Int32))) :=
  if v4 ≤ s.1 then
  (((f_M_look m_size m_at m_tape).bind fun a_1 =>
  (f_M_itemOf v1 a_1.1).bind fun a_2 =>
  oLp (f_M_items_M12_L41 m_size m_tape v1 v3) (0, a_2, a_1.2, m_wrong, s.2)).map .inr)
  else ((f_M_usual v1 s.1).bind fun a_12 =>
  oI (v3 + s.1) 10 (oL (upd s.2 ((v3 + s.1 : Int32).toNatClampNeg) a_12) fun m_readBoy_13 =>
  some (.inl (s.1 + 1, m_readBoy_13))))
noncomputable def f_M_items_M12 (m_size : Int32) (m_at : Int32) (m_wrong : Int32) (m_tape : Nat → Int32) (m_readBoy : Nat → Int32) (p0 : Int32) (p1 : Int32) (p2 : Int32) : Option (Int32 × Int32 × (Nat → Int32)) :=
  oLp (f_M_items_M12_L3 m_size m_at m_wrong m_tape p0 p1 p2) (0, m_readBoy)
noncomputable def f_M_items_M11_J126 (m_at : Int32) (m_wrong : Int32) (m_readRule : Nat → Int32) (v5 : Int32) (k0 : Int32) : Option ((Int32 × Int32 × Int32 × Int32 × (Nat → Int32)) ⊕ (Int32 × Int32 × (Nat → Int32))) :=
  some (.inl (v5, k0, m_at, m_wrong, m_readRule))
noncomputable def f_M_items_M11_L41 (m_size : Int32) (m_tape : Nat → Int32) (v1 : Int32) (v3 : Int32) (s : (Int32 × Int32 × Int32 × Int32 × (Nat → Int32))) : Option ((Int32 × Int32 × Int32 × Int32 × (Nat → Int32)) ⊕ (Int32 × Int32 × (Nat → Int32))) :=
  if s.2.2.2.1 = (-1) then
  (if s.2.1 = (-1) then
  (some (.inr (s.2.2.1, s.2.2.2.1, s.2.2.2.2)))
  else ((f_M_has s.1 s.2.1).bind fun a_3 =>
  if a_3 = 0 then
  (oL (s.1 ||| (1 <<< (s.2.1 &&& 31))) fun v5_4 => oL (s.2.2.1 + 1) fun m_at_5 =>
  (f_M_lowest v1 s.2.1).bind fun a_6 =>
  (f_M_highest v1 s.2.1).bind fun a_7 =>
  (f_M_number m_size m_at_5 s.2.2.2.1 m_tape a_6 a_7).bind fun a_8 =>
  oI (v3 + s.2.1) 3 (oL (upd s.2.2.2.2 ((v3 + s.2.1 : Int32).toNatClampNeg) a_8.1) fun m_readRule_9 =>
  if a_8.2.2 = (-1) then
  ((f_M_look m_size a_8.2.1 m_tape).bind fun a_10 =>
  (f_M_itemOf v1 a_10.1).bind fun a_11 =>
  f_M_items_M11_J126 a_10.2 a_8.2.2 m_readRule_9 v5_4 a_11)
  else (f_M_items_M11_J126 a_8.2.1 a_8.2.2 m_readRule_9 v5_4 ((-1)))))
  else (some (.inr (s.2.2.1, s.2.2.2.1, s.2.2.2.2)))))
  else (some (.inr (s.2.2.1, s.2.2.2.1, s.2.2.2.2)))
noncomputable def f_M_items_M11_L3 (m_size : Int32) (m_at : Int32) (m_wrong : Int32) (m_tape : Nat → Int32) (v1 : Int32) (v3 : Int32) (v4 : Int32) (s : (Int32 × (Nat → Int32))) : Option ((Int32 × (Nat → Int32)) ⊕ (Int32 × Int32 × (Nat → Int32))) :=
  if v4 ≤ s.1 then
  (((f_M_look m_size m_at m_tape).bind fun a_1 =>
  (f_M_itemOf v1 a_1.1).bind fun a_2 =>
  oLp (f_M_items_M11_L41 m_size m_tape v1 v3) (0, a_2, a_1.2, m_wrong, s.2)).map .inr)
  else ((f_M_usual v1 s.1).bind fun a_12 =>
  oI (v3 + s.1) 3 (oL (upd s.2 ((v3 + s.1 : Int32).toNatClampNeg) a_12) fun m_readRule_13 =>
  some (.inl (s.1 + 1, m_readRule_13))))
noncomputable def f_M_items_M11 (m_size : Int32) (m_at : Int32) (m_wrong : Int32) (m_tape : Nat → Int32) (m_readRule : Nat → Int32) (p0 : Int32) (p1 : Int32) (p2 : Int32) : Option (Int32 × Int32 × (Nat → Int32)) :=
  oLp (f_M_items_M11_L3 m_size m_at m_wrong m_tape p0 p1 p2) (0, m_readRule)
noncomputable def f_M_clauseText (m_size : Int32) (m_at : Int32) (m_wrong : Int32) (m_readBoys : Int32) (m_readMarbles : Int32) (m_readFarms : Int32) (m_tape : Nat → Int32) (m_readRule : Nat → Int32) (m_readBoy : Nat → Int32) (m_readMarble : Nat → Int32) (m_readFarm : Nat → Int32) (p0 : Int32) : Option (Int32 × Int32 × Int32 × Int32 × Int32 × (Nat → Int32) × (Nat → Int32) × (Nat → Int32) × (Nat → Int32)) :=
  oL (m_at + 1) fun m_at_1 =>
  if p0 = 98 then
  ((f_M_items_M12 m_size m_at_1 m_wrong m_tape m_readBoy p0 (2 * m_readBoys) 2).bind fun a_2 =>
  oL (m_readBoys + 1) fun m_readBoys_3 =>
  some (a_2.1, a_2.2.1, m_readBoys_3, m_readMarbles, m_readFarms, m_readRule, a_2.2.2, m_readMarble, m_readFarm))
  else (if p0 = 109 then
  ((f_M_items_M13 m_size m_at_1 m_wrong m_tape m_readMarble p0 (3 * m_readMarbles) 3).bind fun a_4 =>
  oL (m_readMarbles + 1) fun m_readMarbles_5 =>
  some (a_4.1, a_4.2.1, m_readBoys, m_readMarbles_5, m_readFarms, m_readRule, m_readBoy, a_4.2.2, m_readFarm))
  else (if p0 = 115 then
  ((f_M_items_M11 m_size m_at_1 m_wrong m_tape m_readRule p0 0 3).bind fun a_6 =>
  some (a_6.1, a_6.2.1, m_readBoys, m_readMarbles, m_readFarms, a_6.2.2, m_readBoy, m_readMarble, m_readFarm))
  else ((f_M_items_M14 m_size m_at_1 m_wrong m_tape m_readFarm p0 (3 * m_readFarms) 3).bind fun a_7 =>
  oL (m_readFarms + 1) fun m_readFarms_8 =>
  some (a_7.1, a_7.2.1, m_readBoys, m_readMarbles, m_readFarms_8, m_readRule, m_readBoy, m_readMarble, a_7.2.2))))
noncomputable def f_M_corner_J87 (v2 : Int32) (v3 : Int32) : Option Int32 :=
  if v3 = 0 then
  (some (-1))
  else (some v2)
noncomputable def f_M_corner_J81 (v2 : Int32) (v3 : Int32) (v4 : Int32) : Option ((Int32 × Int32 × Int32) ⊕ Int32) :=
  some (.inl (v2, v3, v4 + 1))
noncomputable def f_M_corner_J70 (m_now : Nat → Int32) (v4 : Int32) (k0 : Int32) : Option ((Int32 × Int32 × Int32) ⊕ Int32) :=
  oI (0 + v4) 131 (oL (m_now (0 + v4 : Int32).toNatClampNeg) fun v2_4 => f_M_corner_J81 v2_4 k0 v4)
noncomputable def f_M_corner_J65 (m_now : Nat → Int32) (v4 : Int32) : Option ((Int32 × Int32 × Int32) ⊕ Int32) :=
  f_M_corner_J70 m_now v4 1
noncomputable def f_M_corner_L10 (m_marbles : Int32) (m_marble : Nat → Int32) (m_now : Nat → Int32) (v1 : Int32) (s : (Int32 × Int32 × Int32)) : Option ((Int32 × Int32 × Int32) ⊕ Int32) :=
  if m_marbles ≤ s.2.2 then
  ((f_M_corner_J87 s.1 s.2.1).map .inr)
  else (if s.2.1 = 0 then
  ((f_M_corner_J87 s.1 s.2.1).map .inr)
  else ((f_M_of m_marble s.2.2 1).bind fun a_2 =>
  if a_2 = v1 then
  (oI (0 + s.2.2) 131 (if (m_now (0 + s.2.2 : Int32).toNatClampNeg) = (-1) then
  (f_M_corner_J81 s.1 s.2.1 s.2.2)
  else (if s.1 = (-1) then
  (f_M_corner_J65 m_now s.2.2)
  else (oI (0 + s.2.2) 131 (if s.1 = (m_now (0 + s.2.2 : Int32).toNatClampNeg) then
  (f_M_corner_J65 m_now s.2.2)
  else (f_M_corner_J70 m_now s.2.2 0))))))
  else (f_M_corner_J81 s.1 s.2.1 s.2.2)))
noncomputable def f_M_corner (m_marbles : Int32) (m_marble : Nat → Int32) (m_now : Nat → Int32) (p0 : Int32) : Option Int32 :=
  (f_M_isKind p0).bind fun a_1 =>
  oLp (f_M_corner_L10 m_marbles m_marble m_now p0) ((-1), a_1, 0)
noncomputable def f_M_drained_J32 (v2 : Int32) (k0 : Int32) (k1 : Int32) : Option ((Int32 × Int32) ⊕ Int32) :=
  oL (k0 ||| k1) fun v1_1 => some (.inl (v1_1, v2 + 1))
noncomputable def f_M_drained_L4 (m_marbles : Int32) (m_now : Nat → Int32) (s : (Int32 × Int32)) : Option ((Int32 × Int32) ⊕ Int32) :=
  if m_marbles ≤ s.2 then
  (some (.inr s.1))
  else (oI (0 + s.2) 131 (if (m_now (0 + s.2 : Int32).toNatClampNeg) = (-1) then
  (f_M_drained_J32 s.2 s.1 (1 <<< (s.2 &&& 31)))
  else (f_M_drained_J32 s.2 s.1 0)))
noncomputable def f_M_drained (m_marbles : Int32) (m_now : Nat → Int32) : Option Int32 :=
  oLp (f_M_drained_L4 m_marbles m_now) (0, 0)
noncomputable def f_M_count (m_size : Int32) (m_laws : Int32) (m_boys : Int32) (m_marbles : Int32) (m_farms : Int32) (m_holding : Int32) (m_spills : Int32) (m_acts : Int32) (m_noted : Int32) (m_boy : Nat → Int32) (m_marble : Nat → Int32) (m_farm : Nat → Int32) (m_now : Nat → Int32) (p0 : Int32) : Option Int32 :=
  if p0 = 0 then
  (some m_marbles)
  else (if p0 = 1 then
  (some m_boys)
  else (if p0 = 2 then
  (some m_farms)
  else (if p0 = 3 then
  (some m_laws)
  else (if p0 = 4 then
  (some m_size)
  else (if p0 = 5 then
  (some m_holding)
  else (if p0 = 6 then
  (oI 9 131 (some (m_now (9 : Int32).toNatClampNeg)))
  else (if p0 = 7 then
  ((f_M_contents m_marbles m_farms m_boy m_marble m_farm m_now).bind fun a_1 =>
  some a_1)
  else (if p0 = 8 then
  ((f_M_drained m_marbles m_now).bind fun a_2 =>
  some a_2)
  else (if p0 = 9 then
  (some m_spills)
  else (if p0 = 10 then
  (some m_noted)
  else (if p0 = 11 then
  (oI 10 131 (some (m_now (10 : Int32).toNatClampNeg)))
  else (if p0 = 12 then
  (some m_acts)
  else (some (-1000000))))))))))))))
noncomputable def f_M_payOf_J31 (v3 : Int32) (k0 : Int32) (k1 : Int32) : Option ((Int32 × Int32) ⊕ Int32) :=
  oL (k0 + k1) fun v2_2 => some (.inl (v2_2, v3 + 1))
noncomputable def f_M_payOf_L4 (m_farms : Int32) (m_farm : Nat → Int32) (v1 : Int32) (s : (Int32 × Int32)) : Option ((Int32 × Int32) ⊕ Int32) :=
  if m_farms ≤ s.2 then
  (some (.inr s.1))
  else ((f_M_has v1 s.2).bind fun a_1 =>
  if a_1 = 0 then
  (f_M_payOf_J31 s.2 s.1 0)
  else ((f_M_ofFarm m_farm s.2 2).bind fun a_4 =>
  f_M_payOf_J31 s.2 s.1 a_4))
noncomputable def f_M_payOf (m_farms : Int32) (m_farm : Nat → Int32) (p0 : Int32) : Option Int32 :=
  oLp (f_M_payOf_L4 m_farms m_farm p0) (0, 0)
noncomputable def f_M_passDay_J99 (m_now : Nat → Int32) (v1 : Int32) : Option (Nat → Int32) :=
  oI 10 131 (oI 8 131 (oI (11 + (2 * (m_now (10 : Int32).toNatClampNeg))) 131 (oL (upd m_now ((11 + (2 * (m_now (10 : Int32).toNatClampNeg)) : Int32).toNatClampNeg) (m_now (8 : Int32).toNatClampNeg)) fun m_now_5 =>
  oI 10 131 (oI ((11 + (2 * (m_now_5 (10 : Int32).toNatClampNeg))) + 1) 131 (oL (upd m_now_5 (((11 + (2 * (m_now_5 (10 : Int32).toNatClampNeg))) + 1 : Int32).toNatClampNeg) v1) fun m_now_6 =>
  oI 10 131 (oI 10 131 (oL (upd m_now_6 ((10 : Int32).toNatClampNeg) ((m_now_6 (10 : Int32).toNatClampNeg) + 1)) fun m_now_7 =>
  some m_now_7)))))))
noncomputable def f_M_passDay_L56 (v1 : Int32) (s : (Int32 × (Nat → Int32))) : Option ((Int32 × (Nat → Int32)) ⊕ (Nat → Int32)) :=
  if 120 ≤ s.1 then
  ((oI 10 131 (oI 10 131 (oL (upd s.2 ((10 : Int32).toNatClampNeg) ((s.2 (10 : Int32).toNatClampNeg) - 1)) fun m_now_8 =>
  f_M_passDay_J99 m_now_8 v1))).map .inr)
  else (oI (11 + s.1) 131 (oI ((11 + s.1) - 2) 131 (oL (upd s.2 (((11 + s.1) - 2 : Int32).toNatClampNeg) (s.2 (11 + s.1 : Int32).toNatClampNeg)) fun m_now_9 =>
  some (.inl (s.1 + 1, m_now_9)))))
noncomputable def f_M_passDay (m_marbles : Int32) (m_farms : Int32) (m_boy : Nat → Int32) (m_marble : Nat → Int32) (m_farm : Nat → Int32) (m_now : Nat → Int32) : Option (Nat → Int32) :=
  (f_M_contents m_marbles m_farms m_boy m_marble m_farm m_now).bind fun a_1 =>
  oI 8 131 ((f_M_payOf m_farms m_farm a_1).bind fun a_2 =>
  oI 8 131 (oL (upd m_now ((8 : Int32).toNatClampNeg) (jmin 999 ((m_now (8 : Int32).toNatClampNeg) + a_2))) fun m_now_3 =>
  oI 9 131 (oI 9 131 (oL (upd m_now_3 ((9 : Int32).toNatClampNeg) ((m_now_3 (9 : Int32).toNatClampNeg) + 1)) fun m_now_4 =>
  oI 10 131 (if (m_now_4 (10 : Int32).toNatClampNeg) = 60 then
  (oLp (f_M_passDay_L56 a_1) (2, m_now_4))
  else (f_M_passDay_J99 m_now_4 a_1))))))
noncomputable def f_M_days_L49 (m_marbles : Int32) (m_farms : Int32) (m_boy : Nat → Int32) (m_marble : Nat → Int32) (m_farm : Nat → Int32) (m_refused : Nat → Int32) (v1 : Int32) (s : (Int32 × Int32 × (Nat → Int32) × (Nat → Int32))) : Option ((Int32 × Int32 × (Nat → Int32) × (Nat → Int32)) ⊕ (Int32 × Int32 × (Nat → Int32) × (Nat → Int32) × (Nat → Int32))) :=
  if v1 ≤ s.1 then
  ((oI 8 131 (some (s.2.2.1 (8 : Int32).toNatClampNeg, s.2.1, s.2.2.1, m_refused, s.2.2.2))).map .inr)
  else ((f_M_keep s.2.1 s.2.2.1 s.2.2.2).bind fun a_4 =>
  (f_M_passDay m_marbles m_farms m_boy m_marble m_farm s.2.2.1).bind fun a_5 =>
  some (.inl (s.1 + 1, a_4.1, a_5, a_4.2)))
noncomputable def f_M_days_J39 (m_marbles : Int32) (m_farms : Int32) (m_acts : Int32) (m_boy : Nat → Int32) (m_marble : Nat → Int32) (m_farm : Nat → Int32) (m_now : Nat → Int32) (m_refused : Nat → Int32) (m_kept : Nat → Int32) (v1 : Int32) (k1 : Int32) : Option (Int32 × Int32 × (Nat → Int32) × (Nat → Int32) × (Nat → Int32)) :=
  (f_M_isRefused m_refused k1).bind fun a_3 =>
  if a_3.1 = 0 then
  (oLp (f_M_days_L49 m_marbles m_farms m_boy m_marble m_farm a_3.2 v1) (0, m_acts, m_now, m_kept))
  else (some ((-1), m_acts, m_now, a_3.2, m_kept))
noncomputable def f_M_days (m_marbles : Int32) (m_farms : Int32) (m_acts : Int32) (m_boy : Nat → Int32) (m_marble : Nat → Int32) (m_farm : Nat → Int32) (m_now : Nat → Int32) (m_refused : Nat → Int32) (m_kept : Nat → Int32) (p0 : Int32) : Option (Int32 × Int32 × (Nat → Int32) × (Nat → Int32) × (Nat → Int32)) :=
  if m_marbles = 0 then
  (f_M_days_J39 m_marbles m_farms m_acts m_boy m_marble m_farm m_now m_refused m_kept p0 0)
  else ((f_M_in p0 1 60).bind fun a_1 =>
  if a_1 = 0 then
  (f_M_days_J39 m_marbles m_farms m_acts m_boy m_marble m_farm m_now m_refused m_kept p0 1)
  else ((f_M_areDays m_now p0).bind fun a_2 =>
  if a_2 = 0 then
  (f_M_days_J39 m_marbles m_farms m_acts m_boy m_marble m_farm m_now m_refused m_kept p0 4)
  else (f_M_days_J39 m_marbles m_farms m_acts m_boy m_marble m_farm m_now m_refused m_kept p0 ((-1)))))
noncomputable def f_M_draw (m_draws : Int64) (p0 : Int32) : Option (Int32 × Int64) :=
  oL ((m_draws * 6364136223846793005) + 1442695040888963407) fun m_draws_1 =>
  oDl ((p0 : Int32).toInt64) (some ((((m_draws_1.toUInt64 >>> ((33 : Int32).toInt64.toUInt64 &&& Int64.toUInt64 63)).toInt64) - ((m_draws_1.toUInt64 >>> ((33 : Int32).toInt64.toUInt64 &&& Int64.toUInt64 63)).toInt64) / ((p0 : Int32).toInt64) * ((p0 : Int32).toInt64) : Int64).toInt32, m_draws_1))
noncomputable def f_M_whyNot (m_marbles : Int32) (m_now : Nat → Int32) (p0 : Int32) (p1 : Int32) : Option Int32 :=
  (f_M_isMarble m_marbles p0).bind fun a_1 =>
  if a_1 = 0 then
  (some 0)
  else ((f_M_isMarble m_marbles p1).bind fun a_2 =>
  if a_2 = 0 then
  (some 0)
  else (if p0 = p1 then
  (some 1)
  else ((f_M_isLoose m_now p0).bind fun a_3 =>
  if a_3 = 0 then
  (some 2)
  else ((f_M_isLoose m_now p1).bind fun a_4 =>
  if a_4 = 0 then
  (some 2)
  else (oI (0 + p0) 131 (oI (0 + p1) 131 (if (m_now (0 + p0 : Int32).toNatClampNeg) = (m_now (0 + p1 : Int32).toNatClampNeg) then
  (some 2)
  else (some (-1)))))))))
noncomputable def f_M_winner (m_rule : Nat → Int32) (p0 : Int32) (p1 : Int32) : Option Int32 :=
  (f_M_isDrain m_rule p0).bind fun a_1 =>
  if a_1 = 0 then
  ((f_M_isDrain m_rule p1).bind fun a_2 =>
  if a_2 = 0 then
  ((f_M_offHole m_rule p0).bind fun a_3 =>
  (f_M_offHole m_rule p1).bind fun a_4 =>
  if a_3 = a_4 then
  (some 0)
  else ((f_M_offHole m_rule p0).bind fun a_5 =>
  (f_M_offHole m_rule p1).bind fun a_6 =>
  if a_6 ≤ a_5 then
  (some 2)
  else (some 1)))
  else (some 0))
  else (some 0)
noncomputable def f_M_playNow_J128 (m_letters : Nat → Int32) (m_stack : Nat → Int32) (m_now : Nat → Int32) (v7 : Int32) (k1 : Int32) (k2 : Int32) : Option (Int32 × (Nat → Int32) × (Nat → Int32) × (Nat → Int32)) :=
  oI k1 131 (oL (upd m_now k1.toNatClampNeg k2) fun m_now_7 =>
  some (v7, m_letters, m_stack, m_now_7))
noncomputable def f_M_playNow_J99 (m_letters : Nat → Int32) (m_stack : Nat → Int32) (m_rule : Nat → Int32) (m_now : Nat → Int32) (v3 : Int32) (v6 : Int32) (v7 : Int32) (k1 : Int32) (k2 : Int32) : Option (Int32 × (Nat → Int32) × (Nat → Int32) × (Nat → Int32)) :=
  oI k1 131 (oL (upd m_now k1.toNatClampNeg k2) fun m_now_5 =>
  (f_M_isDrain m_rule v6).bind fun a_6 =>
  if a_6 = 0 then
  (oI (0 + v3) 131 (f_M_playNow_J128 m_letters m_stack m_now_5 v7 (0 + v3) (m_now_5 (0 + v3 : Int32).toNatClampNeg)))
  else (f_M_playNow_J128 m_letters m_stack m_now_5 v7 (0 + v3) ((-1))))
noncomputable def f_M_playNow_J71 (m_letters : Nat → Int32) (m_stack : Nat → Int32) (m_rule : Nat → Int32) (m_now : Nat → Int32) (v1 : Int32) (v3 : Int32) (v5 : Int32) (v6 : Int32) (v7 : Int32) : Option (Int32 × (Nat → Int32) × (Nat → Int32) × (Nat → Int32)) :=
  (f_M_isDrain m_rule v5).bind fun a_4 =>
  if a_4 = 0 then
  (oI (0 + v1) 131 (f_M_playNow_J99 m_letters m_stack m_rule m_now v3 v6 v7 (0 + v1) (m_now (0 + v1 : Int32).toNatClampNeg)))
  else (f_M_playNow_J99 m_letters m_stack m_rule m_now v3 v6 v7 (0 + v1) ((-1)))
noncomputable def f_M_playNow_J49 (m_letters : Nat → Int32) (m_stack : Nat → Int32) (m_rule : Nat → Int32) (m_now : Nat → Int32) (v1 : Int32) (v3 : Int32) (v5 : Int32) (v6 : Int32) (v7 : Int32) : Option (Int32 × (Nat → Int32) × (Nat → Int32) × (Nat → Int32)) :=
  if v7 = 2 then
  (oI (0 + v3) 131 (oI (0 + v1) 131 (oL (upd m_now ((0 + v1 : Int32).toNatClampNeg) (m_now (0 + v3 : Int32).toNatClampNeg)) fun m_now_8 =>
  f_M_playNow_J71 m_letters m_stack m_rule m_now_8 v1 v3 v5 v6 v7)))
  else (f_M_playNow_J71 m_letters m_stack m_rule m_now v1 v3 v5 v6 v7)
noncomputable def f_M_playNow (m_marbles : Int32) (m_holding : Int32) (m_code : Nat → Int32) (m_value : Nat → Int32) (m_clauses : Nat → Int32) (m_testFrom : Nat → Int32) (m_sumFrom : Nat → Int32) (m_sumTo : Nat → Int32) (m_letters : Nat → Int32) (m_stack : Nat → Int32) (m_rule : Nat → Int32) (m_boy : Nat → Int32) (m_marble : Nat → Int32) (m_now : Nat → Int32) (p0 : Int32) (p1 : Int32) (p2 : Int32) (p3 : Int32) : Option (Int32 × (Nat → Int32) × (Nat → Int32) × (Nat → Int32)) :=
  (f_M_cellOf m_marbles m_holding m_code m_value m_clauses m_testFrom m_sumFrom m_sumTo m_letters m_stack m_boy m_marble m_now p0 p1).bind fun a_1 =>
  (f_M_cellOf m_marbles m_holding m_code m_value m_clauses m_testFrom m_sumFrom m_sumTo a_1.2.1 a_1.2.2 m_boy m_marble m_now p2 p3).bind fun a_2 =>
  (f_M_winner m_rule a_1.1 a_2.1).bind fun a_3 =>
  if a_3 = 1 then
  (oI (0 + p0) 131 (oI (0 + p2) 131 (oL (upd m_now ((0 + p2 : Int32).toNatClampNeg) (m_now (0 + p0 : Int32).toNatClampNeg)) fun m_now_9 =>
  f_M_playNow_J49 a_2.2.1 a_2.2.2 m_rule m_now_9 p0 p2 a_1.1 a_2.1 a_3)))
  else (f_M_playNow_J49 a_2.2.1 a_2.2.2 m_rule m_now p0 p2 a_1.1 a_2.1 a_3)
noncomputable def f_M_drawDay_J109 (m_draws : Int64) (m_letters : Nat → Int32) (m_stack : Nat → Int32) (m_now : Nat → Int32) (k1 : Int32) (k2 : Int32) (k3 : Int32) : Option (Int64 × (Nat → Int32) × (Nat → Int32) × (Nat → Int32)) :=
  oI k1 131 (oL (upd m_now k1.toNatClampNeg (k2 ||| k3)) fun m_now_10 =>
  some (m_draws, m_letters, m_stack, m_now_10))
noncomputable def f_M_drawDay_J57 (m_marbles : Int32) (m_spills : Int32) (m_draws : Int64) (m_letters : Nat → Int32) (m_stack : Nat → Int32) (m_now : Nat → Int32) : Option (Int64 × (Nat → Int32) × (Nat → Int32) × (Nat → Int32)) :=
  (f_M_draw m_draws 10).bind fun a_8 =>
  if m_spills ≤ a_8.1 then
  (some (a_8.2, m_letters, m_stack, m_now))
  else ((f_M_draw a_8.2 m_marbles).bind fun a_9 =>
  oI 6 131 (oI (0 + a_9.1) 131 (if (m_now (0 + a_9.1 : Int32).toNatClampNeg) = (-1) then
  (f_M_drawDay_J109 a_9.2 m_letters m_stack m_now 6 (m_now (6 : Int32).toNatClampNeg) 0)
  else (f_M_drawDay_J109 a_9.2 m_letters m_stack m_now 6 (m_now (6 : Int32).toNatClampNeg) (1 <<< (a_9.1 &&& 31))))))
noncomputable def f_M_drawDay (m_marbles : Int32) (m_holding : Int32) (m_spills : Int32) (m_draws : Int64) (m_code : Nat → Int32) (m_value : Nat → Int32) (m_clauses : Nat → Int32) (m_testFrom : Nat → Int32) (m_sumFrom : Nat → Int32) (m_sumTo : Nat → Int32) (m_letters : Nat → Int32) (m_stack : Nat → Int32) (m_rule : Nat → Int32) (m_boy : Nat → Int32) (m_marble : Nat → Int32) (m_now : Nat → Int32) : Option (Int64 × (Nat → Int32) × (Nat → Int32) × (Nat → Int32)) :=
  (f_M_draw m_draws m_marbles).bind fun a_1 =>
  (f_M_draw a_1.2 m_marbles).bind fun a_2 =>
  (f_M_draw a_2.2 9).bind fun a_3 =>
  oL (a_3.1 + 1) fun v3_4 => (f_M_draw a_3.2 9).bind fun a_5 =>
  oL (a_5.1 + 1) fun v4_6 => (f_M_whyNot m_marbles m_now a_1.1 a_2.1).bind fun a_7 =>
  if a_7 = (-1) then
  ((f_M_playNow m_marbles m_holding m_code m_value m_clauses m_testFrom m_sumFrom m_sumTo m_letters m_stack m_rule m_boy m_marble m_now a_1.1 v3_4 a_2.1 v4_6).bind fun a_11 =>
  f_M_drawDay_J57 m_marbles m_spills a_5.2 a_11.2.1 a_11.2.2.1 a_11.2.2.2)
  else (f_M_drawDay_J57 m_marbles m_spills a_5.2 m_letters m_stack m_now)
noncomputable def f_M_end (m_size : Int32) (p0 : Int32) : Option (Int32 × Int32) :=
  if p0 < 0 then
  (some (0, m_size))
  else (if p0 ≤ m_size then
  (some (1, p0))
  else (some (0, m_size)))
noncomputable def f_M_farm (m_marbles : Int32) (m_farms : Int32) (m_boy : Nat → Int32) (m_marble : Nat → Int32) (m_farm : Nat → Int32) (m_now : Nat → Int32) (p0 : Int32) (p1 : Int32) : Option Int32 :=
  (f_M_in p0 0 (m_farms - 1)).bind fun a_1 =>
  if a_1 = 0 then
  (some (-1))
  else ((f_M_in p1 0 3).bind fun a_2 =>
  if a_2 = 0 then
  (some (-1))
  else (if 3 ≤ p1 then
  ((f_M_isContent m_marbles m_boy m_marble m_farm m_now p0).bind fun a_3 =>
  if a_3 = 0 then
  (some 0)
  else (some 1))
  else ((f_M_ofFarm m_farm p0 p1).bind fun a_4 =>
  some a_4)))
noncomputable def f_M_isWhole_J56 (v2 : Int32) (k0 : Int32) : Option ((Int32 × Int32) ⊕ Int32) :=
  some (.inl (k0, v2 + 1))
noncomputable def f_M_isWhole_J55 (v2 : Int32) : Option ((Int32 × Int32) ⊕ Int32) :=
  f_M_isWhole_J56 v2 0
noncomputable def f_M_isWhole_L22 (m_readBoys : Int32) (m_readMarbles : Int32) (m_readMarble : Nat → Int32) (s : (Int32 × Int32)) : Option ((Int32 × Int32) ⊕ Int32) :=
  if m_readMarbles ≤ s.2 then
  (oZ s.1 (some (.inr s.1)))
  else (if s.1 = 0 then
  (f_M_isWhole_J55 s.2)
  else (oI ((3 * s.2) + 0) 18 (if m_readBoys ≤ (m_readMarble ((3 * s.2) + 0 : Int32).toNatClampNeg) then
  (f_M_isWhole_J55 s.2)
  else (f_M_isWhole_J56 s.2 1))))
noncomputable def f_M_isWhole_J19 (m_readBoys : Int32) (m_readMarbles : Int32) (m_readMarble : Nat → Int32) (k0 : Int32) : Option Int32 :=
  oLp (f_M_isWhole_L22 m_readBoys m_readMarbles m_readMarble) (k0, 0)
noncomputable def f_M_isWhole_J18 (m_readBoys : Int32) (m_readMarbles : Int32) (m_readMarble : Nat → Int32) : Option Int32 :=
  f_M_isWhole_J19 m_readBoys m_readMarbles m_readMarble 0
noncomputable def f_M_isWhole (m_readBoys : Int32) (m_readMarbles : Int32) (m_readMarble : Nat → Int32) : Option Int32 :=
  if m_readBoys ≤ 0 then
  (f_M_isWhole_J18 m_readBoys m_readMarbles m_readMarble)
  else (if m_readMarbles ≤ 0 then
  (f_M_isWhole_J18 m_readBoys m_readMarbles m_readMarble)
  else (f_M_isWhole_J19 m_readBoys m_readMarbles m_readMarble 1))
noncomputable def f_M_readYard_J232 (m_at : Int32) (m_wrong : Int32) (m_readBoys : Int32) (m_readMarbles : Int32) (m_readFarms : Int32) (m_readRule : Nat → Int32) (m_readBoy : Nat → Int32) (m_readMarble : Nat → Int32) (m_readFarm : Nat → Int32) : Option (Int32 × Int32 × Int32 × Int32 × Int32 × Int32 × (Nat → Int32) × (Nat → Int32) × (Nat → Int32) × (Nat → Int32)) :=
  (f_M_bad m_at m_wrong).bind fun a_2 =>
  some (a_2, m_at, a_2, m_readBoys, m_readMarbles, m_readFarms, m_readRule, m_readBoy, m_readMarble, m_readFarm)
noncomputable def f_M_readYard_J209 (m_size : Int32) (m_at : Int32) (m_wrong : Int32) (m_readBoys : Int32) (m_readMarbles : Int32) (m_readFarms : Int32) (m_tape : Nat → Int32) (m_readRule : Nat → Int32) (m_readBoy : Nat → Int32) (m_readMarble : Nat → Int32) (m_readFarm : Nat → Int32) : Option (Int32 × Int32 × Int32 × Int32 × Int32 × Int32 × (Nat → Int32) × (Nat → Int32) × (Nat → Int32) × (Nat → Int32)) :=
  if m_wrong = (-1) then
  ((f_M_look m_size m_at m_tape).bind fun a_1 =>
  if a_1.1 = (-1) then
  ((f_M_isWhole m_readBoys m_readMarbles m_readMarble).bind fun a_3 =>
  if a_3 = 0 then
  (f_M_readYard_J232 a_1.2 m_wrong m_readBoys m_readMarbles m_readFarms m_readRule m_readBoy m_readMarble m_readFarm)
  else (some (m_wrong, a_1.2, m_wrong, m_readBoys, m_readMarbles, m_readFarms, m_readRule, m_readBoy, m_readMarble, m_readFarm)))
  else (f_M_readYard_J232 a_1.2 m_wrong m_readBoys m_readMarbles m_readFarms m_readRule m_readBoy m_readMarble m_readFarm))
  else (some (m_wrong, m_at, m_wrong, m_readBoys, m_readMarbles, m_readFarms, m_readRule, m_readBoy, m_readMarble, m_readFarm))
noncomputable def f_M_readYard_J202 (m_wrong : Int32) (m_readBoys : Int32) (m_readMarbles : Int32) (m_readFarms : Int32) (m_readRule : Nat → Int32) (m_readBoy : Nat → Int32) (m_readMarble : Nat → Int32) (m_readFarm : Nat → Int32) (v1 : Int32) (v2 : Int32) (k1 : Int32) (k2 : Int32) : Option ((Int32 × Int32 × Int32 × Int32 × Int32 × Int32 × Int32 × (Nat → Int32) × (Nat → Int32) × (Nat → Int32) × (Nat → Int32)) ⊕ (Int32 × Int32 × Int32 × Int32 × Int32 × Int32 × (Nat → Int32) × (Nat → Int32) × (Nat → Int32) × (Nat → Int32))) :=
  oL (k1 + k2) fun m_at_6 =>
  some (.inl (v1, v2, m_at_6, m_wrong, m_readBoys, m_readMarbles, m_readFarms, m_readRule, m_readBoy, m_readMarble, m_readFarm))
noncomputable def f_M_readYard_J187 (m_at : Int32) (m_wrong : Int32) (m_readBoys : Int32) (m_readMarbles : Int32) (m_readFarms : Int32) (m_readRule : Nat → Int32) (m_readBoy : Nat → Int32) (m_readMarble : Nat → Int32) (m_readFarm : Nat → Int32) (v1 : Int32) (k0 : Int32) : Option ((Int32 × Int32 × Int32 × Int32 × Int32 × Int32 × Int32 × (Nat → Int32) × (Nat → Int32) × (Nat → Int32) × (Nat → Int32)) ⊕ (Int32 × Int32 × Int32 × Int32 × Int32 × Int32 × (Nat → Int32) × (Nat → Int32) × (Nat → Int32) × (Nat → Int32))) :=
  if k0 = 0 then
  (f_M_readYard_J202 m_wrong m_readBoys m_readMarbles m_readFarms m_readRule m_readBoy m_readMarble m_readFarm v1 k0 m_at 0)
  else (f_M_readYard_J202 m_wrong m_readBoys m_readMarbles m_readFarms m_readRule m_readBoy m_readMarble m_readFarm v1 k0 m_at 1)
noncomputable def f_M_readYard_J186 (m_at : Int32) (m_wrong : Int32) (m_readBoys : Int32) (m_readMarbles : Int32) (m_readFarms : Int32) (m_readRule : Nat → Int32) (m_readBoy : Nat → Int32) (m_readMarble : Nat → Int32) (m_readFarm : Nat → Int32) (v1 : Int32) : Option ((Int32 × Int32 × Int32 × Int32 × Int32 × Int32 × Int32 × (Nat → Int32) × (Nat → Int32) × (Nat → Int32) × (Nat → Int32)) ⊕ (Int32 × Int32 × Int32 × Int32 × Int32 × Int32 × (Nat → Int32) × (Nat → Int32) × (Nat → Int32) × (Nat → Int32))) :=
  f_M_readYard_J187 m_at m_wrong m_readBoys m_readMarbles m_readFarms m_readRule m_readBoy m_readMarble m_readFarm v1 0
noncomputable def f_M_readYard_J165 (m_size : Int32) (m_at : Int32) (m_wrong : Int32) (m_readBoys : Int32) (m_readMarbles : Int32) (m_readFarms : Int32) (m_tape : Nat → Int32) (m_readRule : Nat → Int32) (m_readBoy : Nat → Int32) (m_readMarble : Nat → Int32) (m_readFarm : Nat → Int32) (v1 : Int32) : Option ((Int32 × Int32 × Int32 × Int32 × Int32 × Int32 × Int32 × (Nat → Int32) × (Nat → Int32) × (Nat → Int32) × (Nat → Int32)) ⊕ (Int32 × Int32 × Int32 × Int32 × Int32 × Int32 × (Nat → Int32) × (Nat → Int32) × (Nat → Int32) × (Nat → Int32))) :=
  if m_wrong = (-1) then
  ((f_M_look m_size m_at m_tape).bind fun a_7 =>
  if a_7.1 = 59 then
  (f_M_readYard_J187 a_7.2 m_wrong m_readBoys m_readMarbles m_readFarms m_readRule m_readBoy m_readMarble m_readFarm v1 1)
  else (f_M_readYard_J186 a_7.2 m_wrong m_readBoys m_readMarbles m_readFarms m_readRule m_readBoy m_readMarble m_readFarm v1))
  else (f_M_readYard_J186 m_at m_wrong m_readBoys m_readMarbles m_readFarms m_readRule m_readBoy m_readMarble m_readFarm v1)
noncomputable def f_M_readYard_J152 (m_size : Int32) (m_at : Int32) (m_wrong : Int32) (m_readBoys : Int32) (m_readMarbles : Int32) (m_readFarms : Int32) (m_tape : Nat → Int32) (m_readRule : Nat → Int32) (m_readBoy : Nat → Int32) (m_readMarble : Nat → Int32) (m_readFarm : Nat → Int32) (v3 : Int32) (k0 : Int32) : Option ((Int32 × Int32 × Int32 × Int32 × Int32 × Int32 × Int32 × (Nat → Int32) × (Nat → Int32) × (Nat → Int32) × (Nat → Int32)) ⊕ (Int32 × Int32 × Int32 × Int32 × Int32 × Int32 × (Nat → Int32) × (Nat → Int32) × (Nat → Int32) × (Nat → Int32))) :=
  (f_M_clauseText m_size m_at m_wrong m_readBoys m_readMarbles m_readFarms m_tape m_readRule m_readBoy m_readMarble m_readFarm v3).bind fun a_8 =>
  f_M_readYard_J165 m_size a_8.1 a_8.2.1 a_8.2.2.1 a_8.2.2.2.1 a_8.2.2.2.2.1 m_tape a_8.2.2.2.2.2.1 a_8.2.2.2.2.2.2.1 a_8.2.2.2.2.2.2.2.1 a_8.2.2.2.2.2.2.2.2 k0
noncomputable def f_M_readYard_J147 (m_size : Int32) (m_at : Int32) (m_wrong : Int32) (m_readBoys : Int32) (m_readMarbles : Int32) (m_readFarms : Int32) (m_tape : Nat → Int32) (m_readRule : Nat → Int32) (m_readBoy : Nat → Int32) (m_readMarble : Nat → Int32) (m_readFarm : Nat → Int32) (v3 : Int32) : Option ((Int32 × Int32 × Int32 × Int32 × Int32 × Int32 × Int32 × (Nat → Int32) × (Nat → Int32) × (Nat → Int32) × (Nat → Int32)) ⊕ (Int32 × Int32 × Int32 × Int32 × Int32 × Int32 × (Nat → Int32) × (Nat → Int32) × (Nat → Int32) × (Nat → Int32))) :=
  f_M_readYard_J152 m_size m_at m_wrong m_readBoys m_readMarbles m_readFarms m_tape m_readRule m_readBoy m_readMarble m_readFarm v3 1
noncomputable def f_M_readYard_J130 (m_size : Int32) (m_at : Int32) (m_wrong : Int32) (m_readBoys : Int32) (m_readMarbles : Int32) (m_readFarms : Int32) (m_tape : Nat → Int32) (m_readRule : Nat → Int32) (m_readBoy : Nat → Int32) (m_readMarble : Nat → Int32) (m_readFarm : Nat → Int32) (v1 : Int32) (v3 : Int32) (k0 : Int32) : Option ((Int32 × Int32 × Int32 × Int32 × Int32 × Int32 × Int32 × (Nat → Int32) × (Nat → Int32) × (Nat → Int32) × (Nat → Int32)) ⊕ (Int32 × Int32 × Int32 × Int32 × Int32 × Int32 × (Nat → Int32) × (Nat → Int32) × (Nat → Int32) × (Nat → Int32))) :=
  if k0 = 0 then
  ((f_M_bad m_at m_wrong).bind fun a_5 =>
  f_M_readYard_J165 m_size m_at a_5 m_readBoys m_readMarbles m_readFarms m_tape m_readRule m_readBoy m_readMarble m_readFarm v1)
  else (if v1 = 0 then
  (if v3 = 115 then
  (f_M_readYard_J147 m_size m_at m_wrong m_readBoys m_readMarbles m_readFarms m_tape m_readRule m_readBoy m_readMarble m_readFarm v3)
  else (f_M_readYard_J152 m_size m_at m_wrong m_readBoys m_readMarbles m_readFarms m_tape m_readRule m_readBoy m_readMarble m_readFarm v3 0))
  else (f_M_readYard_J147 m_size m_at m_wrong m_readBoys m_readMarbles m_readFarms m_tape m_readRule m_readBoy m_readMarble m_readFarm v3))
noncomputable def f_M_readYard_J129 (m_size : Int32) (m_at : Int32) (m_wrong : Int32) (m_readBoys : Int32) (m_readMarbles : Int32) (m_readFarms : Int32) (m_tape : Nat → Int32) (m_readRule : Nat → Int32) (m_readBoy : Nat → Int32) (m_readMarble : Nat → Int32) (m_readFarm : Nat → Int32) (v1 : Int32) (v3 : Int32) : Option ((Int32 × Int32 × Int32 × Int32 × Int32 × Int32 × Int32 × (Nat → Int32) × (Nat → Int32) × (Nat → Int32) × (Nat → Int32)) ⊕ (Int32 × Int32 × Int32 × Int32 × Int32 × Int32 × (Nat → Int32) × (Nat → Int32) × (Nat → Int32) × (Nat → Int32))) :=
  f_M_readYard_J130 m_size m_at m_wrong m_readBoys m_readMarbles m_readFarms m_tape m_readRule m_readBoy m_readMarble m_readFarm v1 v3 0
noncomputable def f_M_readYard_J125 (m_size : Int32) (m_at : Int32) (m_wrong : Int32) (m_readBoys : Int32) (m_readMarbles : Int32) (m_readFarms : Int32) (m_tape : Nat → Int32) (m_readRule : Nat → Int32) (m_readBoy : Nat → Int32) (m_readMarble : Nat → Int32) (m_readFarm : Nat → Int32) (v1 : Int32) (v3 : Int32) : Option ((Int32 × Int32 × Int32 × Int32 × Int32 × Int32 × Int32 × (Nat → Int32) × (Nat → Int32) × (Nat → Int32) × (Nat → Int32)) ⊕ (Int32 × Int32 × Int32 × Int32 × Int32 × Int32 × (Nat → Int32) × (Nat → Int32) × (Nat → Int32) × (Nat → Int32))) :=
  f_M_readYard_J130 m_size m_at m_wrong m_readBoys m_readMarbles m_readFarms m_tape m_readRule m_readBoy m_readMarble m_readFarm v1 v3 1
noncomputable def f_M_readYard_J110 (m_size : Int32) (m_at : Int32) (m_wrong : Int32) (m_readBoys : Int32) (m_readMarbles : Int32) (m_readFarms : Int32) (m_tape : Nat → Int32) (m_readRule : Nat → Int32) (m_readBoy : Nat → Int32) (m_readMarble : Nat → Int32) (m_readFarm : Nat → Int32) (v1 : Int32) (v3 : Int32) : Option ((Int32 × Int32 × Int32 × Int32 × Int32 × Int32 × Int32 × (Nat → Int32) × (Nat → Int32) × (Nat → Int32) × (Nat → Int32)) ⊕ (Int32 × Int32 × Int32 × Int32 × Int32 × Int32 × (Nat → Int32) × (Nat → Int32) × (Nat → Int32) × (Nat → Int32))) :=
  if v3 = 102 then
  (if 6 ≤ m_readFarms then
  (f_M_readYard_J129 m_size m_at m_wrong m_readBoys m_readMarbles m_readFarms m_tape m_readRule m_readBoy m_readMarble m_readFarm v1 v3)
  else (f_M_readYard_J125 m_size m_at m_wrong m_readBoys m_readMarbles m_readFarms m_tape m_readRule m_readBoy m_readMarble m_readFarm v1 v3))
  else (f_M_readYard_J129 m_size m_at m_wrong m_readBoys m_readMarbles m_readFarms m_tape m_readRule m_readBoy m_readMarble m_readFarm v1 v3)
noncomputable def f_M_readYard_J95 (m_size : Int32) (m_at : Int32) (m_wrong : Int32) (m_readBoys : Int32) (m_readMarbles : Int32) (m_readFarms : Int32) (m_tape : Nat → Int32) (m_readRule : Nat → Int32) (m_readBoy : Nat → Int32) (m_readMarble : Nat → Int32) (m_readFarm : Nat → Int32) (v1 : Int32) (v3 : Int32) : Option ((Int32 × Int32 × Int32 × Int32 × Int32 × Int32 × Int32 × (Nat → Int32) × (Nat → Int32) × (Nat → Int32) × (Nat → Int32)) ⊕ (Int32 × Int32 × Int32 × Int32 × Int32 × Int32 × (Nat → Int32) × (Nat → Int32) × (Nat → Int32) × (Nat → Int32))) :=
  if v3 = 109 then
  (if m_readMarbles < 6 then
  (f_M_readYard_J125 m_size m_at m_wrong m_readBoys m_readMarbles m_readFarms m_tape m_readRule m_readBoy m_readMarble m_readFarm v1 v3)
  else (f_M_readYard_J110 m_size m_at m_wrong m_readBoys m_readMarbles m_readFarms m_tape m_readRule m_readBoy m_readMarble m_readFarm v1 v3))
  else (f_M_readYard_J110 m_size m_at m_wrong m_readBoys m_readMarbles m_readFarms m_tape m_readRule m_readBoy m_readMarble m_readFarm v1 v3)
noncomputable def f_M_readYard_J81 (m_size : Int32) (m_at : Int32) (m_wrong : Int32) (m_readBoys : Int32) (m_readMarbles : Int32) (m_readFarms : Int32) (m_tape : Nat → Int32) (m_readRule : Nat → Int32) (m_readBoy : Nat → Int32) (m_readMarble : Nat → Int32) (m_readFarm : Nat → Int32) (v1 : Int32) (v3 : Int32) : Option ((Int32 × Int32 × Int32 × Int32 × Int32 × Int32 × Int32 × (Nat → Int32) × (Nat → Int32) × (Nat → Int32) × (Nat → Int32)) ⊕ (Int32 × Int32 × Int32 × Int32 × Int32 × Int32 × (Nat → Int32) × (Nat → Int32) × (Nat → Int32) × (Nat → Int32))) :=
  if v3 = 98 then
  (if m_readBoys < 5 then
  (f_M_readYard_J125 m_size m_at m_wrong m_readBoys m_readMarbles m_readFarms m_tape m_readRule m_readBoy m_readMarble m_readFarm v1 v3)
  else (f_M_readYard_J95 m_size m_at m_wrong m_readBoys m_readMarbles m_readFarms m_tape m_readRule m_readBoy m_readMarble m_readFarm v1 v3))
  else (f_M_readYard_J95 m_size m_at m_wrong m_readBoys m_readMarbles m_readFarms m_tape m_readRule m_readBoy m_readMarble m_readFarm v1 v3)
noncomputable def f_M_readYard_L54 (m_size : Int32) (m_tape : Nat → Int32) (s : (Int32 × Int32 × Int32 × Int32 × Int32 × Int32 × Int32 × (Nat → Int32) × (Nat → Int32) × (Nat → Int32) × (Nat → Int32))) : Option ((Int32 × Int32 × Int32 × Int32 × Int32 × Int32 × Int32 × (Nat → Int32) × (Nat → Int32) × (Nat → Int32) × (Nat → Int32)) ⊕ (Int32 × Int32 × Int32 × Int32 × Int32 × Int32 × (Nat → Int32) × (Nat → Int32) × (Nat → Int32) × (Nat → Int32))) :=
  if s.2.1 = 0 then
  ((f_M_readYard_J209 m_size s.2.2.1 s.2.2.2.1 s.2.2.2.2.1 s.2.2.2.2.2.1 s.2.2.2.2.2.2.1 m_tape s.2.2.2.2.2.2.2.1 s.2.2.2.2.2.2.2.2.1 s.2.2.2.2.2.2.2.2.2.1 s.2.2.2.2.2.2.2.2.2.2).map .inr)
  else (if s.2.2.2.1 = (-1) then
  ((f_M_look m_size s.2.2.1 m_tape).bind fun a_4 =>
  if a_4.1 = 115 then
  (if s.1 = 0 then
  (f_M_readYard_J125 m_size a_4.2 s.2.2.2.1 s.2.2.2.2.1 s.2.2.2.2.2.1 s.2.2.2.2.2.2.1 m_tape s.2.2.2.2.2.2.2.1 s.2.2.2.2.2.2.2.2.1 s.2.2.2.2.2.2.2.2.2.1 s.2.2.2.2.2.2.2.2.2.2 s.1 a_4.1)
  else (f_M_readYard_J81 m_size a_4.2 s.2.2.2.1 s.2.2.2.2.1 s.2.2.2.2.2.1 s.2.2.2.2.2.2.1 m_tape s.2.2.2.2.2.2.2.1 s.2.2.2.2.2.2.2.2.1 s.2.2.2.2.2.2.2.2.2.1 s.2.2.2.2.2.2.2.2.2.2 s.1 a_4.1))
  else (f_M_readYard_J81 m_size a_4.2 s.2.2.2.1 s.2.2.2.2.1 s.2.2.2.2.2.1 s.2.2.2.2.2.2.1 m_tape s.2.2.2.2.2.2.2.1 s.2.2.2.2.2.2.2.2.1 s.2.2.2.2.2.2.2.2.2.1 s.2.2.2.2.2.2.2.2.2.2 s.1 a_4.1))
  else ((f_M_readYard_J209 m_size s.2.2.1 s.2.2.2.1 s.2.2.2.2.1 s.2.2.2.2.2.1 s.2.2.2.2.2.2.1 m_tape s.2.2.2.2.2.2.2.1 s.2.2.2.2.2.2.2.2.1 s.2.2.2.2.2.2.2.2.2.1 s.2.2.2.2.2.2.2.2.2.2).map .inr))
noncomputable def f_M_readYard_L29 (m_size : Int32) (m_at : Int32) (m_wrong : Int32) (m_readBoys : Int32) (m_readMarbles : Int32) (m_readFarms : Int32) (m_tape : Nat → Int32) (m_readBoy : Nat → Int32) (m_readMarble : Nat → Int32) (m_readFarm : Nat → Int32) (v1 : Int32) (s : (Int32 × (Nat → Int32))) : Option ((Int32 × (Nat → Int32)) ⊕ (Int32 × Int32 × Int32 × Int32 × Int32 × Int32 × (Nat → Int32) × (Nat → Int32) × (Nat → Int32) × (Nat → Int32))) :=
  if 3 ≤ s.1 then
  ((oLp (f_M_readYard_L54 m_size m_tape) (v1, 1, m_at, m_wrong, m_readBoys, m_readMarbles, m_readFarms, s.2, m_readBoy, m_readMarble, m_readFarm)).map .inr)
  else ((f_M_usual 115 s.1).bind fun a_9 =>
  oI s.1 3 (oL (upd s.2 s.1.toNatClampNeg a_9) fun m_readRule_10 =>
  some (.inl (s.1 + 1, m_readRule_10))))
noncomputable def f_M_readYard (m_size : Int32) (m_at : Int32) (m_wrong : Int32) (m_readBoys : Int32) (m_readMarbles : Int32) (m_readFarms : Int32) (m_tape : Nat → Int32) (m_readRule : Nat → Int32) (m_readBoy : Nat → Int32) (m_readMarble : Nat → Int32) (m_readFarm : Nat → Int32) : Option (Int32 × Int32 × Int32 × Int32 × Int32 × Int32 × (Nat → Int32) × (Nat → Int32) × (Nat → Int32) × (Nat → Int32)) :=
  oLp (f_M_readYard_L29 m_size 0 ((-1)) 0 0 0 m_tape m_readBoy m_readMarble m_readFarm 0) (0, m_readRule)
noncomputable def f_M_open (m_at : Int32) (m_wrong : Int32) (m_deep : Int32) (m_text : Int32) (m_codes : Nat → Int32) (m_clauses : Nat → Int32) (p0 : Int32) : Option (Int32 × Int32 × Int32 × Int32 × (Nat → Int32) × (Nat → Int32)) :=
  oI p0 5 (oL (upd m_codes p0.toNatClampNeg 0) fun m_codes_1 =>
  oI p0 5 (oL (upd m_clauses p0.toNatClampNeg 0) fun m_clauses_2 =>
  some (0, (-1), 0, p0, m_codes_1, m_clauses_2)))
noncomputable def f_M_readLaw_J43 (m_size : Int32) (m_at : Int32) (m_wrong : Int32) (m_deep : Int32) (m_text : Int32) (m_tape : Nat → Int32) (m_code : Nat → Int32) (m_value : Nat → Int32) (m_codes : Nat → Int32) (m_clauses : Nat → Int32) (m_testFrom : Nat → Int32) (m_sumFrom : Nat → Int32) (m_sumTo : Nat → Int32) : Option (Int32 × Int32 × Int32 × Int32 × Int32 × (Nat → Int32) × (Nat → Int32) × (Nat → Int32) × (Nat → Int32) × (Nat → Int32) × (Nat → Int32) × (Nat → Int32)) :=
  (f_M_atEnd m_size m_at m_wrong m_tape).bind fun a_3 =>
  some (a_3.1, a_3.2.1, a_3.2.2, m_deep, m_text, m_code, m_value, m_codes, m_clauses, m_testFrom, m_sumFrom, m_sumTo)
noncomputable def f_M_readLaw_L9 (m_size : Int32) (m_text : Int32) (m_tape : Nat → Int32) (s : (Int32 × Int32 × Int32 × (Nat → Int32) × (Nat → Int32) × (Nat → Int32) × (Nat → Int32) × (Nat → Int32) × (Nat → Int32) × (Nat → Int32))) : Option ((Int32 × Int32 × Int32 × (Nat → Int32) × (Nat → Int32) × (Nat → Int32) × (Nat → Int32) × (Nat → Int32) × (Nat → Int32) × (Nat → Int32)) ⊕ (Int32 × Int32 × Int32 × Int32 × Int32 × (Nat → Int32) × (Nat → Int32) × (Nat → Int32) × (Nat → Int32) × (Nat → Int32) × (Nat → Int32) × (Nat → Int32))) :=
  if s.2.1 = (-1) then
  ((f_M_look m_size s.1 m_tape).bind fun a_4 =>
  if a_4.1 = 59 then
  (oL (a_4.2 + 1) fun m_at_5 =>
  (f_M_clause m_size m_at_5 s.2.1 s.2.2.1 m_text m_tape s.2.2.2.1 s.2.2.2.2.1 s.2.2.2.2.2.1 s.2.2.2.2.2.2.1 s.2.2.2.2.2.2.2.1 s.2.2.2.2.2.2.2.2.1 s.2.2.2.2.2.2.2.2.2).bind fun a_6 =>
  some (.inl (a_6.1, a_6.2.1, a_6.2.2.1, a_6.2.2.2.1, a_6.2.2.2.2.1, a_6.2.2.2.2.2.1, a_6.2.2.2.2.2.2.1, a_6.2.2.2.2.2.2.2.1, a_6.2.2.2.2.2.2.2.2.1, a_6.2.2.2.2.2.2.2.2.2)))
  else ((f_M_readLaw_J43 m_size a_4.2 s.2.1 s.2.2.1 m_text m_tape s.2.2.2.1 s.2.2.2.2.1 s.2.2.2.2.2.1 s.2.2.2.2.2.2.1 s.2.2.2.2.2.2.2.1 s.2.2.2.2.2.2.2.2.1 s.2.2.2.2.2.2.2.2.2).map .inr))
  else ((f_M_readLaw_J43 m_size s.1 s.2.1 s.2.2.1 m_text m_tape s.2.2.2.1 s.2.2.2.2.1 s.2.2.2.2.2.1 s.2.2.2.2.2.2.1 s.2.2.2.2.2.2.2.1 s.2.2.2.2.2.2.2.2.1 s.2.2.2.2.2.2.2.2.2).map .inr)
noncomputable def f_M_readLaw (m_size : Int32) (m_at : Int32) (m_wrong : Int32) (m_deep : Int32) (m_text : Int32) (m_tape : Nat → Int32) (m_code : Nat → Int32) (m_value : Nat → Int32) (m_codes : Nat → Int32) (m_clauses : Nat → Int32) (m_testFrom : Nat → Int32) (m_sumFrom : Nat → Int32) (m_sumTo : Nat → Int32) (p0 : Int32) : Option (Int32 × Int32 × Int32 × Int32 × Int32 × (Nat → Int32) × (Nat → Int32) × (Nat → Int32) × (Nat → Int32) × (Nat → Int32) × (Nat → Int32) × (Nat → Int32)) :=
  (f_M_open m_at m_wrong m_deep m_text m_codes m_clauses p0).bind fun a_1 =>
  (f_M_clause m_size a_1.1 a_1.2.1 a_1.2.2.1 a_1.2.2.2.1 m_tape m_code m_value a_1.2.2.2.2.1 a_1.2.2.2.2.2 m_testFrom m_sumFrom m_sumTo).bind fun a_2 =>
  oLp (f_M_readLaw_L9 m_size a_1.2.2.2.1 m_tape) (a_2.1, a_2.2.1, a_2.2.2.1, a_2.2.2.2.1, a_2.2.2.2.2.1, a_2.2.2.2.2.2.1, a_2.2.2.2.2.2.2.1, a_2.2.2.2.2.2.2.2.1, a_2.2.2.2.2.2.2.2.2.1, a_2.2.2.2.2.2.2.2.2.2)
noncomputable def f_M_fault (m_size : Int32) (m_at : Int32) (m_wrong : Int32) (m_deep : Int32) (m_text : Int32) (m_readBoys : Int32) (m_readMarbles : Int32) (m_readFarms : Int32) (m_tape : Nat → Int32) (m_code : Nat → Int32) (m_value : Nat → Int32) (m_codes : Nat → Int32) (m_clauses : Nat → Int32) (m_testFrom : Nat → Int32) (m_sumFrom : Nat → Int32) (m_sumTo : Nat → Int32) (m_readRule : Nat → Int32) (m_readBoy : Nat → Int32) (m_readMarble : Nat → Int32) (m_readFarm : Nat → Int32) (p0 : Int32) : Option (Int32 × Int32 × Int32 × Int32 × Int32 × Int32 × Int32 × Int32 × (Nat → Int32) × (Nat → Int32) × (Nat → Int32) × (Nat → Int32) × (Nat → Int32) × (Nat → Int32) × (Nat → Int32) × (Nat → Int32) × (Nat → Int32) × (Nat → Int32) × (Nat → Int32)) :=
  if p0 = 0 then
  ((f_M_readYard m_size m_at m_wrong m_readBoys m_readMarbles m_readFarms m_tape m_readRule m_readBoy m_readMarble m_readFarm).bind fun a_2 =>
  some (a_2.1, a_2.2.1, a_2.2.2.1, m_deep, m_text, a_2.2.2.2.1, a_2.2.2.2.2.1, a_2.2.2.2.2.2.1, m_code, m_value, m_codes, m_clauses, m_testFrom, m_sumFrom, m_sumTo, a_2.2.2.2.2.2.2.1, a_2.2.2.2.2.2.2.2.1, a_2.2.2.2.2.2.2.2.2.1, a_2.2.2.2.2.2.2.2.2.2))
  else (if p0 = 1 then
  ((f_M_readLaw m_size m_at m_wrong m_deep m_text m_tape m_code m_value m_codes m_clauses m_testFrom m_sumFrom m_sumTo 4).bind fun a_1 =>
  some (a_1.1, a_1.2.1, a_1.2.2.1, a_1.2.2.2.1, a_1.2.2.2.2.1, m_readBoys, m_readMarbles, m_readFarms, a_1.2.2.2.2.2.1, a_1.2.2.2.2.2.2.1, a_1.2.2.2.2.2.2.2.1, a_1.2.2.2.2.2.2.2.2.1, a_1.2.2.2.2.2.2.2.2.2.1, a_1.2.2.2.2.2.2.2.2.2.2.1, a_1.2.2.2.2.2.2.2.2.2.2.2, m_readRule, m_readBoy, m_readMarble, m_readFarm))
  else (some ((-2), m_at, m_wrong, m_deep, m_text, m_readBoys, m_readMarbles, m_readFarms, m_code, m_value, m_codes, m_clauses, m_testFrom, m_sumFrom, m_sumTo, m_readRule, m_readBoy, m_readMarble, m_readFarm)))
noncomputable def f_M_feed_J109 (m_size : Int32) (m_tape : Nat → Int32) (v7 : Int32) : Option ((Int32 × Int32 × (Nat → Int32)) ⊕ (Int32 × Int32 × (Nat → Int32))) :=
  some (.inl (v7 + 1, m_size, m_tape))
noncomputable def f_M_feed_L62 (v1 : Int32) (v2 : Int32) (v3 : Int32) (v4 : Int32) (v5 : Int32) (s : (Int32 × Int32 × (Nat → Int32))) : Option ((Int32 × Int32 × (Nat → Int32)) ⊕ (Int32 × Int32 × (Nat → Int32))) :=
  if 20 ≤ s.1 then
  (some (.inr (s.2.1, s.2.1, s.2.2)))
  else ((f_M_byteOf v1 v2 v3 v4 v5 s.1).bind fun a_1 =>
  if a_1 = 0 then
  (f_M_feed_J109 s.2.1 s.2.2 s.1)
  else (oI s.2.1 240 (oL (upd s.2.2 s.2.1.toNatClampNeg a_1) fun m_tape_3 =>
  oL (s.2.1 + 1) fun m_size_4 =>
  f_M_feed_J109 m_size_4 m_tape_3 s.1)))
noncomputable def f_M_feed_J35 (v7 : Int32) (k0 : Int32) (k1 : Int32) : Option ((Int32 × Int32) ⊕ (Int32 × Int32 × (Nat → Int32))) :=
  oL (k0 + k1) fun v6_6 => some (.inl (v6_6, v7 + 1))
noncomputable def f_M_feed_L6 (m_size : Int32) (m_tape : Nat → Int32) (v1 : Int32) (v2 : Int32) (v3 : Int32) (v4 : Int32) (v5 : Int32) (s : (Int32 × Int32)) : Option ((Int32 × Int32) ⊕ (Int32 × Int32 × (Nat → Int32))) :=
  if 20 ≤ s.2 then
  ((if (m_size + s.1) ≤ 240 then
  (oLp (f_M_feed_L62 v1 v2 v3 v4 v5) (0, m_size, m_tape))
  else (some ((-1), m_size, m_tape))).map .inr)
  else ((f_M_byteOf v1 v2 v3 v4 v5 s.2).bind fun a_5 =>
  if a_5 = 0 then
  (f_M_feed_J35 s.2 s.1 0)
  else (f_M_feed_J35 s.2 s.1 1))
noncomputable def f_M_feed (m_size : Int32) (m_tape : Nat → Int32) (p0 : Int32) (p1 : Int32) (p2 : Int32) (p3 : Int32) (p4 : Int32) : Option (Int32 × Int32 × (Nat → Int32)) :=
  oLp (f_M_feed_L6 m_size m_tape p0 p1 p2 p3 p4) (0, 0)
noncomputable def f_M_whyNotPlay (m_marbles : Int32) (m_now : Nat → Int32) (p0 : Int32) (p1 : Int32) (p2 : Int32) (p3 : Int32) : Option Int32 :=
  (f_M_whyNot m_marbles m_now p0 p2).bind fun a_1 =>
  if a_1 = 0 then
  (some 0)
  else ((f_M_isPower p1).bind fun a_2 =>
  if a_2 = 0 then
  (some 1)
  else ((f_M_isPower p3).bind fun a_3 =>
  if a_3 = 0 then
  (some 1)
  else (some a_1)))
noncomputable def f_M_gameOf_J38 (m_letters : Nat → Int32) (m_stack : Nat → Int32) (m_marble : Nat → Int32) (v1 : Int32) : Option (Int32 × (Nat → Int32) × (Nat → Int32)) :=
  (f_M_of m_marble v1 2).bind fun a_5 =>
  some (-a_5, m_letters, m_stack)
noncomputable def f_M_gameOf (m_marbles : Int32) (m_holding : Int32) (m_code : Nat → Int32) (m_value : Nat → Int32) (m_clauses : Nat → Int32) (m_testFrom : Nat → Int32) (m_sumFrom : Nat → Int32) (m_sumTo : Nat → Int32) (m_letters : Nat → Int32) (m_stack : Nat → Int32) (m_rule : Nat → Int32) (m_boy : Nat → Int32) (m_marble : Nat → Int32) (m_now : Nat → Int32) (p0 : Int32) (p1 : Int32) (p2 : Int32) (p3 : Int32) : Option (Int32 × (Nat → Int32) × (Nat → Int32)) :=
  (f_M_cellOf m_marbles m_holding m_code m_value m_clauses m_testFrom m_sumFrom m_sumTo m_letters m_stack m_boy m_marble m_now p0 p1).bind fun a_1 =>
  (f_M_cellOf m_marbles m_holding m_code m_value m_clauses m_testFrom m_sumFrom m_sumTo a_1.2.1 a_1.2.2 m_boy m_marble m_now p2 p3).bind fun a_2 =>
  (f_M_winner m_rule a_1.1 a_2.1).bind fun a_3 =>
  (f_M_isDrain m_rule a_1.1).bind fun a_4 =>
  if a_4 = 0 then
  (if a_3 = 2 then
  (f_M_gameOf_J38 a_2.2.1 a_2.2.2 m_marble p0)
  else (if a_3 = 1 then
  ((f_M_of m_marble p2 2).bind fun a_6 =>
  some (a_6, a_2.2.1, a_2.2.2))
  else (some (0, a_2.2.1, a_2.2.2))))
  else (f_M_gameOf_J38 a_2.2.1 a_2.2.2 m_marble p0)
noncomputable def f_M_game (m_marbles : Int32) (m_holding : Int32) (m_code : Nat → Int32) (m_value : Nat → Int32) (m_clauses : Nat → Int32) (m_testFrom : Nat → Int32) (m_sumFrom : Nat → Int32) (m_sumTo : Nat → Int32) (m_letters : Nat → Int32) (m_stack : Nat → Int32) (m_rule : Nat → Int32) (m_boy : Nat → Int32) (m_marble : Nat → Int32) (m_now : Nat → Int32) (p0 : Int32) (p1 : Int32) (p2 : Int32) (p3 : Int32) (p4 : Int32) : Option (Int32 × (Nat → Int32) × (Nat → Int32)) :=
  (f_M_whyNotPlay m_marbles m_now p0 p1 p2 p3).bind fun a_1 =>
  if a_1 = (-1) then
  ((f_M_in p4 0 1).bind fun a_2 =>
  if a_2 = 0 then
  (some ((-1000000), m_letters, m_stack))
  else (if p4 = 0 then
  ((f_M_gameOf m_marbles m_holding m_code m_value m_clauses m_testFrom m_sumFrom m_sumTo m_letters m_stack m_rule m_boy m_marble m_now p0 p1 p2 p3).bind fun a_4 =>
  some (a_4.1, a_4.2.1, a_4.2.2))
  else ((f_M_gameOf m_marbles m_holding m_code m_value m_clauses m_testFrom m_sumFrom m_sumTo m_letters m_stack m_rule m_boy m_marble m_now p2 p3 p0 p1).bind fun a_3 =>
  some (a_3.1, a_3.2.1, a_3.2.2))))
  else (some ((-1000000), m_letters, m_stack))
noncomputable def f_M_give_J66 (m_acts : Int32) (m_marble : Nat → Int32) (m_now : Nat → Int32) (m_refused : Nat → Int32) (m_kept : Nat → Int32) (v1 : Int32) (v2 : Int32) (k1 : Int32) : Option (Int32 × Int32 × (Nat → Int32) × (Nat → Int32) × (Nat → Int32)) :=
  (f_M_isRefused m_refused k1).bind fun a_2 =>
  if a_2.1 = 0 then
  ((f_M_keep m_acts m_now m_kept).bind fun a_3 =>
  oI (0 + v1) 131 (oL (upd m_now ((0 + v1 : Int32).toNatClampNeg) v2) fun m_now_4 =>
  oI 8 131 ((f_M_of m_marble v1 2).bind fun a_5 =>
  oI 8 131 (oL (upd m_now_4 ((8 : Int32).toNatClampNeg) ((m_now_4 (8 : Int32).toNatClampNeg) - a_5)) fun m_now_6 =>
  oI 8 131 (some (m_now_6 (8 : Int32).toNatClampNeg, a_3.1, m_now_6, a_2.2, a_3.2))))))
  else (some ((-1), m_acts, m_now, a_2.2, m_kept))
noncomputable def f_M_give_J17 (m_acts : Int32) (m_marble : Nat → Int32) (m_now : Nat → Int32) (m_refused : Nat → Int32) (m_kept : Nat → Int32) (v1 : Int32) (v2 : Int32) : Option (Int32 × Int32 × (Nat → Int32) × (Nat → Int32) × (Nat → Int32)) :=
  f_M_give_J66 m_acts m_marble m_now m_refused m_kept v1 v2 0
noncomputable def f_M_give_J41 (m_acts : Int32) (m_marble : Nat → Int32) (m_now : Nat → Int32) (m_refused : Nat → Int32) (m_kept : Nat → Int32) (v1 : Int32) (v2 : Int32) : Option (Int32 × Int32 × (Nat → Int32) × (Nat → Int32) × (Nat → Int32)) :=
  f_M_give_J66 m_acts m_marble m_now m_refused m_kept v1 v2 2
noncomputable def f_M_give (m_boys : Int32) (m_marbles : Int32) (m_acts : Int32) (m_marble : Nat → Int32) (m_now : Nat → Int32) (m_refused : Nat → Int32) (m_kept : Nat → Int32) (p0 : Int32) (p1 : Int32) : Option (Int32 × Int32 × (Nat → Int32) × (Nat → Int32) × (Nat → Int32)) :=
  (f_M_isMarble m_marbles p0).bind fun a_1 =>
  if a_1 = 0 then
  (f_M_give_J17 m_acts m_marble m_now m_refused m_kept p0 p1)
  else ((f_M_isBoy m_boys p1).bind fun a_7 =>
  if a_7 = 0 then
  (f_M_give_J17 m_acts m_marble m_now m_refused m_kept p0 p1)
  else ((f_M_isLoose m_now p0).bind fun a_8 =>
  if a_8 = 0 then
  (f_M_give_J41 m_acts m_marble m_now m_refused m_kept p0 p1)
  else (oI (0 + p0) 131 (if (m_now (0 + p0 : Int32).toNatClampNeg) = p1 then
  (f_M_give_J41 m_acts m_marble m_now m_refused m_kept p0 p1)
  else (oI 8 131 ((f_M_of m_marble p0 2).bind fun a_9 =>
  if a_9 ≤ (m_now (8 : Int32).toNatClampNeg) then
  (f_M_give_J66 m_acts m_marble m_now m_refused m_kept p0 p1 ((-1)))
  else (f_M_give_J66 m_acts m_marble m_now m_refused m_kept p0 p1 3)))))))
noncomputable def f_M_hands (m_boys : Int32) (m_marbles : Int32) (m_now : Nat → Int32) (p0 : Int32) : Option Int32 :=
  (f_M_isBoy m_boys p0).bind fun a_1 =>
  if a_1 = 0 then
  (some (-1))
  else ((f_M_handsOf m_marbles m_now p0).bind fun a_2 =>
  some a_2)
noncomputable def f_M_image_L11 (m_now : Nat → Int32) (s : (Int32 × (Nat → Int32))) : Option ((Int32 × (Nat → Int32)) ⊕ (Int32 × Int32 × (Nat → Int32))) :=
  if 131 ≤ s.1 then
  ((oI 9 131 (some (m_now (9 : Int32).toNatClampNeg, 1, s.2))).map .inr)
  else (oI s.1 131 (oI s.1 131 (oL (upd s.2 s.1.toNatClampNeg (m_now s.1.toNatClampNeg)) fun m_image_1 =>
  some (.inl (s.1 + 1, m_image_1)))))
noncomputable def f_M_image (m_marbles : Int32) (m_hasImage : Int32) (m_now : Nat → Int32) (m_image : Nat → Int32) : Option (Int32 × Int32 × (Nat → Int32)) :=
  if m_marbles = 0 then
  (some ((-1), m_hasImage, m_image))
  else (oLp (f_M_image_L11 m_now) (0, m_image))
noncomputable def f_M_isRest_L3 (m_marbles : Int32) (m_holding : Int32) (m_code : Nat → Int32) (m_value : Nat → Int32) (m_clauses : Nat → Int32) (m_testFrom : Nat → Int32) (m_sumFrom : Nat → Int32) (m_sumTo : Nat → Int32) (m_rule : Nat → Int32) (m_boy : Nat → Int32) (m_marble : Nat → Int32) (m_now : Nat → Int32) (v1 : Int32) (v2 : Int32) (v3 : Int32) (v4 : Int32) (s : (Int32 × (Nat → Int32) × (Nat → Int32))) : Option ((Int32 × (Nat → Int32) × (Nat → Int32)) ⊕ (Int32 × (Nat → Int32) × (Nat → Int32))) :=
  if 9 < s.1 then
  (some (.inr (1, s.2.1, s.2.2)))
  else ((f_M_gameOf m_marbles m_holding m_code m_value m_clauses m_testFrom m_sumFrom m_sumTo s.2.1 s.2.2 m_rule m_boy m_marble m_now v1 s.1 v3 v4).bind fun a_1 =>
  (f_M_gameOf m_marbles m_holding m_code m_value m_clauses m_testFrom m_sumFrom m_sumTo a_1.2.1 a_1.2.2 m_rule m_boy m_marble m_now v1 v2 v3 v4).bind fun a_2 =>
  if a_2.1 < a_1.1 then
  (some (.inr (0, a_2.2.1, a_2.2.2)))
  else ((f_M_gameOf m_marbles m_holding m_code m_value m_clauses m_testFrom m_sumFrom m_sumTo a_2.2.1 a_2.2.2 m_rule m_boy m_marble m_now v3 s.1 v1 v2).bind fun a_3 =>
  (f_M_gameOf m_marbles m_holding m_code m_value m_clauses m_testFrom m_sumFrom m_sumTo a_3.2.1 a_3.2.2 m_rule m_boy m_marble m_now v3 v4 v1 v2).bind fun a_4 =>
  if a_3.1 ≤ a_4.1 then
  (some (.inl (s.1 + 1, a_4.2.1, a_4.2.2)))
  else (some (.inr (0, a_4.2.1, a_4.2.2)))))
noncomputable def f_M_isRest (m_marbles : Int32) (m_holding : Int32) (m_code : Nat → Int32) (m_value : Nat → Int32) (m_clauses : Nat → Int32) (m_testFrom : Nat → Int32) (m_sumFrom : Nat → Int32) (m_sumTo : Nat → Int32) (m_letters : Nat → Int32) (m_stack : Nat → Int32) (m_rule : Nat → Int32) (m_boy : Nat → Int32) (m_marble : Nat → Int32) (m_now : Nat → Int32) (p0 : Int32) (p1 : Int32) (p2 : Int32) (p3 : Int32) : Option (Int32 × (Nat → Int32) × (Nat → Int32)) :=
  oLp (f_M_isRest_L3 m_marbles m_holding m_code m_value m_clauses m_testFrom m_sumFrom m_sumTo m_rule m_boy m_marble m_now p0 p1 p2 p3) (1, m_letters, m_stack)
noncomputable def f_M_likingOf_J55 (v4 : Int32) (k0 : Int32) : Option ((Int32 × Int32) ⊕ Int32) :=
  some (.inl (k0, v4 + 1))
noncomputable def f_M_likingOf_J54 (v3 : Int32) (v4 : Int32) : Option ((Int32 × Int32) ⊕ Int32) :=
  f_M_likingOf_J55 v4 v3
noncomputable def f_M_likingOf_L5 (m_farms : Int32) (m_boy : Nat → Int32) (m_marble : Nat → Int32) (m_farm : Nat → Int32) (m_now : Nat → Int32) (v1 : Int32) (v2 : Int32) (s : (Int32 × Int32)) : Option ((Int32 × Int32) ⊕ Int32) :=
  if m_farms ≤ s.2 then
  (((f_M_worthNow m_marble m_now v2).bind fun a_1 =>
  some (a_1 + s.1)).map .inr)
  else ((f_M_ofFarm m_farm s.2 0).bind fun a_2 =>
  oI ((2 * v1) + 1) 10 (if a_2 = (m_boy ((2 * v1) + 1 : Int32).toNatClampNeg) then
  ((f_M_ofFarm m_farm s.2 1).bind fun a_4 =>
  (f_M_of m_marble v2 1).bind fun a_5 =>
  if a_4 = a_5 then
  (f_M_likingOf_J55 s.2 5)
  else (f_M_likingOf_J54 s.1 s.2))
  else (f_M_likingOf_J54 s.1 s.2)))
noncomputable def f_M_likingOf (m_farms : Int32) (m_boy : Nat → Int32) (m_marble : Nat → Int32) (m_farm : Nat → Int32) (m_now : Nat → Int32) (p0 : Int32) (p1 : Int32) : Option Int32 :=
  oLp (f_M_likingOf_L5 m_farms m_boy m_marble m_farm m_now p0 p1) (0, 0)
noncomputable def f_M_isTrade (m_marbles : Int32) (m_farms : Int32) (m_boy : Nat → Int32) (m_marble : Nat → Int32) (m_farm : Nat → Int32) (m_now : Nat → Int32) (p0 : Int32) (p1 : Int32) : Option Int32 :=
  (f_M_whyNot m_marbles m_now p0 p1).bind fun a_1 =>
  if a_1 = (-1) then
  (oI (0 + p0) 131 (oL (m_now (0 + p0 : Int32).toNatClampNeg) fun v3_2 => oI (0 + p1) 131 (oL (m_now (0 + p1 : Int32).toNatClampNeg) fun v4_3 => (f_M_likingOf m_farms m_boy m_marble m_farm m_now v3_2 p1).bind fun a_4 =>
  (f_M_likingOf m_farms m_boy m_marble m_farm m_now v3_2 p0).bind fun a_5 =>
  if a_4 ≤ a_5 then
  (some 0)
  else ((f_M_likingOf m_farms m_boy m_marble m_farm m_now v4_3 p0).bind fun a_6 =>
  (f_M_likingOf m_farms m_boy m_marble m_farm m_now v4_3 p1).bind fun a_7 =>
  if a_6 ≤ a_7 then
  (some 0)
  else (some 1)))))
  else (some 0)
noncomputable def f_M_lands (m_boys : Int32) (m_marbles : Int32) (m_holding : Int32) (m_code : Nat → Int32) (m_value : Nat → Int32) (m_clauses : Nat → Int32) (m_testFrom : Nat → Int32) (m_sumFrom : Nat → Int32) (m_sumTo : Nat → Int32) (m_letters : Nat → Int32) (m_stack : Nat → Int32) (m_boy : Nat → Int32) (m_marble : Nat → Int32) (m_now : Nat → Int32) (p0 : Int32) (p1 : Int32) (p2 : Int32) : Option (Int32 × (Nat → Int32) × (Nat → Int32)) :=
  (f_M_isBoy m_boys p0).bind fun a_1 =>
  if a_1 = 0 then
  (some ((-1), m_letters, m_stack))
  else ((f_M_isMarble m_marbles p1).bind fun a_2 =>
  if a_2 = 0 then
  (some ((-1), m_letters, m_stack))
  else ((f_M_isPower p2).bind fun a_3 =>
  if a_3 = 0 then
  (some ((-1), m_letters, m_stack))
  else ((f_M_landsAt m_marbles m_holding m_code m_value m_clauses m_testFrom m_sumFrom m_sumTo m_letters m_stack m_boy m_marble m_now p0 p1 p2).bind fun a_4 =>
  some (a_4.1, a_4.2.1, a_4.2.2))))
noncomputable def f_M_law (m_laws : Int32) (m_holding : Int32) (p0 : Int32) : Option (Int32 × Int32) :=
  (f_M_in p0 ((-1)) (m_laws - 1)).bind fun a_1 =>
  if a_1 = 0 then
  (some (0, m_holding))
  else (some (1, p0))
noncomputable def f_M_liking (m_boys : Int32) (m_marbles : Int32) (m_farms : Int32) (m_boy : Nat → Int32) (m_marble : Nat → Int32) (m_farm : Nat → Int32) (m_now : Nat → Int32) (p0 : Int32) (p1 : Int32) : Option Int32 :=
  (f_M_isBoy m_boys p0).bind fun a_1 =>
  if a_1 = 0 then
  (some (-1))
  else ((f_M_isMarble m_marbles p1).bind fun a_2 =>
  if a_2 = 0 then
  (some (-1))
  else ((f_M_likingOf m_farms m_boy m_marble m_farm m_now p0 p1).bind fun a_3 =>
  some a_3))
noncomputable def f_M_log (m_now : Nat → Int32) (p0 : Int32) (p1 : Int32) : Option Int32 :=
  oI 10 131 ((f_M_in p0 0 ((m_now (10 : Int32).toNatClampNeg) - 1)).bind fun a_1 =>
  if a_1 = 0 then
  (some (-1))
  else ((f_M_in p1 0 1).bind fun a_2 =>
  if a_2 = 0 then
  (some (-1))
  else (oI 10 131 (oI ((11 + (2 * (((m_now (10 : Int32).toNatClampNeg) - 1) - p0))) + p1) 131 (some (m_now ((11 + (2 * (((m_now (10 : Int32).toNatClampNeg) - 1) - p0))) + p1 : Int32).toNatClampNeg))))))
noncomputable def f_M_marble (m_marbles : Int32) (m_marble : Nat → Int32) (m_now : Nat → Int32) (p0 : Int32) (p1 : Int32) : Option Int32 :=
  (f_M_isMarble m_marbles p0).bind fun a_1 =>
  if a_1 = 0 then
  (some (-1000000))
  else ((f_M_in p1 0 4).bind fun a_2 =>
  if a_2 = 0 then
  (some (-1000000))
  else (if p1 = 0 then
  (oI (0 + p0) 131 (some (m_now (0 + p0 : Int32).toNatClampNeg)))
  else (if p1 = 3 then
  (oI 6 131 (some (((m_now (6 : Int32).toNatClampNeg) >>> (p0 &&& 31)) &&& 1)))
  else (if p1 = 4 then
  (oI 7 131 (some (((m_now (7 : Int32).toNatClampNeg) >>> (p0 &&& 31)) &&& 1)))
  else ((f_M_of m_marble p0 p1).bind fun a_3 =>
  some a_3)))))
noncomputable def f_M_richest_J36 (v2 : Int32) (k0 : Int32) : Option ((Int32 × Int32) ⊕ Int32) :=
  some (.inl (k0, v2 + 1))
noncomputable def f_M_richest_L4 (m_boys : Int32) (m_marbles : Int32) (m_now : Nat → Int32) (s : (Int32 × Int32)) : Option ((Int32 × Int32) ⊕ Int32) :=
  if m_boys ≤ s.2 then
  (some (.inr s.1))
  else ((f_M_handsOf m_marbles m_now s.2).bind fun a_1 =>
  (f_J_bitCount a_1).bind fun a_2 =>
  (f_M_handsOf m_marbles m_now s.1).bind fun a_3 =>
  (f_J_bitCount a_3).bind fun a_4 =>
  if a_2 ≤ a_4 then
  (f_M_richest_J36 s.2 s.1)
  else (f_M_richest_J36 s.2 s.2))
noncomputable def f_M_richest (m_boys : Int32) (m_marbles : Int32) (m_now : Nat → Int32) : Option Int32 :=
  oLp (f_M_richest_L4 m_boys m_marbles m_now) (0, 1)
noncomputable def f_M_most_J45 (v3 : Int32) (k0 : Int32) (k1 : Int32) : Option ((Int32 × Int32) ⊕ (Int32 × (Nat → Int32) × (Nat → Int32))) :=
  oL (k0 ||| k1) fun v2_7 => some (.inl (v2_7, v3 + 1))
noncomputable def f_M_most_L22 (m_boys : Int32) (m_marbles : Int32) (m_holding : Int32) (m_code : Nat → Int32) (m_value : Nat → Int32) (m_clauses : Nat → Int32) (m_testFrom : Nat → Int32) (m_sumFrom : Nat → Int32) (m_sumTo : Nat → Int32) (m_letters : Nat → Int32) (m_stack : Nat → Int32) (m_rule : Nat → Int32) (m_boy : Nat → Int32) (m_marble : Nat → Int32) (m_now : Nat → Int32) (v1 : Int32) (s : (Int32 × Int32)) : Option ((Int32 × Int32) ⊕ (Int32 × (Nat → Int32) × (Nat → Int32))) :=
  if 10 ≤ s.2 then
  ((if v1 = 0 then
  ((f_M_richest m_boys m_marbles m_now).bind fun a_5 =>
  some (a_5, m_letters, m_stack))
  else (if v1 = 1 then
  ((f_M_drained m_marbles m_now).bind fun a_3 =>
  (f_M_strongest m_marbles m_marble (((1 <<< (m_marbles &&& 31)) - 1) &&& (a_3 ^^^ ((-1))))).bind fun a_4 =>
  some (a_4, m_letters, m_stack))
  else (if v1 = 2 then
  (some (s.1, m_letters, m_stack))
  else ((f_M_champion m_boys m_marbles m_holding m_code m_value m_clauses m_testFrom m_sumFrom m_sumTo m_letters m_stack m_rule m_boy m_marble m_now).bind fun a_2 =>
  some (a_2.1, a_2.2.1, a_2.2.2))))).map .inr)
  else ((f_M_weatherOf m_marbles m_boy m_marble m_now s.2).bind fun a_6 =>
  if a_6 = (-1) then
  (f_M_most_J45 s.2 s.1 (1 <<< (s.2 &&& 31)))
  else (f_M_most_J45 s.2 s.1 0))
noncomputable def f_M_most (m_boys : Int32) (m_marbles : Int32) (m_holding : Int32) (m_code : Nat → Int32) (m_value : Nat → Int32) (m_clauses : Nat → Int32) (m_testFrom : Nat → Int32) (m_sumFrom : Nat → Int32) (m_sumTo : Nat → Int32) (m_letters : Nat → Int32) (m_stack : Nat → Int32) (m_rule : Nat → Int32) (m_boy : Nat → Int32) (m_marble : Nat → Int32) (m_now : Nat → Int32) (p0 : Int32) : Option (Int32 × (Nat → Int32) × (Nat → Int32)) :=
  if m_marbles = 0 then
  (some ((-1), m_letters, m_stack))
  else ((f_M_in p0 0 3).bind fun a_1 =>
  if a_1 = 0 then
  (some ((-1), m_letters, m_stack))
  else (oLp (f_M_most_L22 m_boys m_marbles m_holding m_code m_value m_clauses m_testFrom m_sumFrom m_sumTo m_letters m_stack m_rule m_boy m_marble m_now p0) (0, 0)))
noncomputable def f_M_odds_J113 (v11 : Int32) (k0 : Int32) (k1 : Int32) : Option ((Int32 × Int32) ⊕ ((Int32 × Int32) ⊕ (Int32 × (Nat → Int32) × (Nat → Int32)))) :=
  oL (k0 + k1) fun v8_10 => some (.inl (v8_10, v11 + 1))
noncomputable def f_M_odds_L70 (m_rule : Nat → Int32) (v5 : Int32) (v6 : Int32) (v7 : Int32) (v9 : Int32) (v10 : Int32) (s : (Int32 × Int32)) : Option ((Int32 × Int32) ⊕ ((Int32 × Int32) ⊕ (Int32 × (Nat → Int32) × (Nat → Int32)))) :=
  if 3 ≤ s.2 then
  ((some (.inl (s.1, v9 + 1))).map .inr)
  else ((f_M_cellBy v6 v9).bind fun a_7 =>
  (f_M_cellBy v7 s.2).bind fun a_8 =>
  (f_M_winner m_rule a_7 a_8).bind fun a_9 =>
  if a_9 = 1 then
  ((f_M_partBy v10 v5 s.2).bind fun a_12 =>
  f_M_odds_J113 s.2 s.1 a_12)
  else (f_M_odds_J113 s.2 s.1 0))
noncomputable def f_M_odds_L49 (m_letters : Nat → Int32) (m_stack : Nat → Int32) (m_rule : Nat → Int32) (v5 : Int32) (v6 : Int32) (v7 : Int32) (s : (Int32 × Int32)) : Option ((Int32 × Int32) ⊕ (Int32 × (Nat → Int32) × (Nat → Int32))) :=
  if 3 ≤ s.2 then
  (some (.inr (s.1, m_letters, m_stack)))
  else ((f_M_partBy 1000000000 v5 s.2).bind fun a_5 =>
  oLp (f_M_odds_L70 m_rule v5 v6 v7 s.2 a_5) (s.1, 0))
noncomputable def f_M_odds (m_marbles : Int32) (m_holding : Int32) (m_code : Nat → Int32) (m_value : Nat → Int32) (m_clauses : Nat → Int32) (m_testFrom : Nat → Int32) (m_sumFrom : Nat → Int32) (m_sumTo : Nat → Int32) (m_letters : Nat → Int32) (m_stack : Nat → Int32) (m_rule : Nat → Int32) (m_boy : Nat → Int32) (m_marble : Nat → Int32) (m_now : Nat → Int32) (p0 : Int32) (p1 : Int32) (p2 : Int32) (p3 : Int32) (p4 : Int32) : Option (Int32 × (Nat → Int32) × (Nat → Int32)) :=
  (f_M_whyNotPlay m_marbles m_now p0 p1 p2 p3).bind fun a_1 =>
  if a_1 = (-1) then
  ((f_M_in p4 0 100).bind fun a_2 =>
  if a_2 = 0 then
  (some ((-1), m_letters, m_stack))
  else ((f_M_cellOf m_marbles m_holding m_code m_value m_clauses m_testFrom m_sumFrom m_sumTo m_letters m_stack m_boy m_marble m_now p0 p1).bind fun a_3 =>
  (f_M_cellOf m_marbles m_holding m_code m_value m_clauses m_testFrom m_sumFrom m_sumTo a_3.2.1 a_3.2.2 m_boy m_marble m_now p2 p3).bind fun a_4 =>
  oLp (f_M_odds_L49 a_4.2.1 a_4.2.2 m_rule p4 a_3.1 a_4.1) (0, 0)))
  else (some ((-1), m_letters, m_stack))
noncomputable def f_M_pays (m_marbles : Int32) (m_farms : Int32) (m_boy : Nat → Int32) (m_marble : Nat → Int32) (m_farm : Nat → Int32) (m_now : Nat → Int32) : Option Int32 :=
  if m_marbles = 0 then
  (some (-1))
  else ((f_M_contents m_marbles m_farms m_boy m_marble m_farm m_now).bind fun a_1 =>
  (f_M_payOf m_farms m_farm a_1).bind fun a_2 =>
  some a_2)
noncomputable def f_M_play (m_marbles : Int32) (m_holding : Int32) (m_acts : Int32) (m_code : Nat → Int32) (m_value : Nat → Int32) (m_clauses : Nat → Int32) (m_testFrom : Nat → Int32) (m_sumFrom : Nat → Int32) (m_sumTo : Nat → Int32) (m_letters : Nat → Int32) (m_stack : Nat → Int32) (m_rule : Nat → Int32) (m_boy : Nat → Int32) (m_marble : Nat → Int32) (m_now : Nat → Int32) (m_refused : Nat → Int32) (m_kept : Nat → Int32) (p0 : Int32) (p1 : Int32) (p2 : Int32) (p3 : Int32) : Option (Int32 × Int32 × (Nat → Int32) × (Nat → Int32) × (Nat → Int32) × (Nat → Int32) × (Nat → Int32)) :=
  (f_M_whyNotPlay m_marbles m_now p0 p1 p2 p3).bind fun a_1 =>
  (f_M_isRefused m_refused a_1).bind fun a_2 =>
  if a_2.1 = 0 then
  ((f_M_keep m_acts m_now m_kept).bind fun a_3 =>
  (f_M_playNow m_marbles m_holding m_code m_value m_clauses m_testFrom m_sumFrom m_sumTo m_letters m_stack m_rule m_boy m_marble m_now p0 p1 p2 p3).bind fun a_4 =>
  some (a_4.1, a_3.1, a_4.2.1, a_4.2.2.1, a_4.2.2.2, a_2.2, a_3.2))
  else (some ((-1), m_acts, m_letters, m_stack, m_now, a_2.2, m_kept))
noncomputable def f_M_rests_J71 (m_letters : Nat → Int32) (m_stack : Nat → Int32) (v4 : Int32) (v6 : Int32) : Option ((Int32 × Int32 × (Nat → Int32) × (Nat → Int32)) ⊕ ((Int32 × Int32 × (Nat → Int32) × (Nat → Int32)) ⊕ (Int32 × (Nat → Int32) × (Nat → Int32)))) :=
  some (.inl (v4, v6 + 1, m_letters, m_stack))
noncomputable def f_M_rests_L33 (m_marbles : Int32) (m_holding : Int32) (m_code : Nat → Int32) (m_value : Nat → Int32) (m_clauses : Nat → Int32) (m_testFrom : Nat → Int32) (m_sumFrom : Nat → Int32) (m_sumTo : Nat → Int32) (m_rule : Nat → Int32) (m_boy : Nat → Int32) (m_marble : Nat → Int32) (m_now : Nat → Int32) (v1 : Int32) (v2 : Int32) (v3 : Int32) (v5 : Int32) (s : (Int32 × Int32 × (Nat → Int32) × (Nat → Int32))) : Option ((Int32 × Int32 × (Nat → Int32) × (Nat → Int32)) ⊕ ((Int32 × Int32 × (Nat → Int32) × (Nat → Int32)) ⊕ (Int32 × (Nat → Int32) × (Nat → Int32)))) :=
  if 9 < s.2.1 then
  ((some (.inl (s.1, v5 + 1, s.2.2.1, s.2.2.2))).map .inr)
  else ((f_M_isRest m_marbles m_holding m_code m_value m_clauses m_testFrom m_sumFrom m_sumTo s.2.2.1 s.2.2.2 m_rule m_boy m_marble m_now v1 v5 v2 s.2.1).bind fun a_3 =>
  if a_3.1 = 0 then
  (f_M_rests_J71 a_3.2.1 a_3.2.2 s.1 s.2.1)
  else (if s.1 = v3 then
  (some (.inr (.inr ((10 * v5) + s.2.1, a_3.2.1, a_3.2.2))))
  else (f_M_rests_J71 a_3.2.1 a_3.2.2 (s.1 + 1) s.2.1)))
noncomputable def f_M_rests_L23 (m_marbles : Int32) (m_holding : Int32) (m_code : Nat → Int32) (m_value : Nat → Int32) (m_clauses : Nat → Int32) (m_testFrom : Nat → Int32) (m_sumFrom : Nat → Int32) (m_sumTo : Nat → Int32) (m_rule : Nat → Int32) (m_boy : Nat → Int32) (m_marble : Nat → Int32) (m_now : Nat → Int32) (v1 : Int32) (v2 : Int32) (v3 : Int32) (s : (Int32 × Int32 × (Nat → Int32) × (Nat → Int32))) : Option ((Int32 × Int32 × (Nat → Int32) × (Nat → Int32)) ⊕ (Int32 × (Nat → Int32) × (Nat → Int32))) :=
  if 9 < s.2.1 then
  ((if v3 = (-1) then
  (some (s.1, s.2.2.1, s.2.2.2))
  else (some ((-1), s.2.2.1, s.2.2.2))).map .inr)
  else (oLp (f_M_rests_L33 m_marbles m_holding m_code m_value m_clauses m_testFrom m_sumFrom m_sumTo m_rule m_boy m_marble m_now v1 v2 v3 s.2.1) (s.1, 1, s.2.2.1, s.2.2.2))
noncomputable def f_M_rests (m_marbles : Int32) (m_holding : Int32) (m_code : Nat → Int32) (m_value : Nat → Int32) (m_clauses : Nat → Int32) (m_testFrom : Nat → Int32) (m_sumFrom : Nat → Int32) (m_sumTo : Nat → Int32) (m_letters : Nat → Int32) (m_stack : Nat → Int32) (m_rule : Nat → Int32) (m_boy : Nat → Int32) (m_marble : Nat → Int32) (m_now : Nat → Int32) (p0 : Int32) (p1 : Int32) (p2 : Int32) : Option (Int32 × (Nat → Int32) × (Nat → Int32)) :=
  (f_M_whyNot m_marbles m_now p0 p1).bind fun a_1 =>
  if a_1 = (-1) then
  (if (-1) ≤ p2 then
  (oLp (f_M_rests_L23 m_marbles m_holding m_code m_value m_clauses m_testFrom m_sumFrom m_sumTo m_rule m_boy m_marble m_now p0 p1 p2) (0, 1, m_letters, m_stack))
  else (some ((-1), m_letters, m_stack)))
  else (some ((-1), m_letters, m_stack))
noncomputable def f_M_rule (m_marbles : Int32) (m_rule : Nat → Int32) (m_now : Nat → Int32) (p0 : Int32) : Option Int32 :=
  if m_marbles = 0 then
  (some (-1))
  else ((f_M_in p0 0 2).bind fun a_1 =>
  if a_1 = 0 then
  (some (-1))
  else (if p0 = 2 then
  (oI 8 131 (some (m_now (8 : Int32).toNatClampNeg)))
  else (oI p0 3 (some (m_rule p0.toNatClampNeg)))))
noncomputable def f_M_saves_L31 (m_now : Nat → Int32) (v1 : Int32) (v2 : Int32) (s : Int32) : Option (Int32 ⊕ Int32) :=
  if 60 < s then
  (some (.inr (-1)))
  else (oI 8 131 (if ((m_now (8 : Int32).toNatClampNeg) + (s * v2)) < v1 then
  (some (.inl (s + 1)))
  else (some (.inr s))))
noncomputable def f_M_saves (m_marbles : Int32) (m_farms : Int32) (m_boy : Nat → Int32) (m_marble : Nat → Int32) (m_farm : Nat → Int32) (m_now : Nat → Int32) (p0 : Int32) : Option Int32 :=
  if m_marbles = 0 then
  (some (-1))
  else ((f_M_in p0 1 999).bind fun a_1 =>
  if a_1 = 0 then
  (some (-1))
  else ((f_M_contents m_marbles m_farms m_boy m_marble m_farm m_now).bind fun a_2 =>
  (f_M_payOf m_farms m_farm a_2).bind fun a_3 =>
  oLp (f_M_saves_L31 m_now p0 a_3) 0))
noncomputable def f_M_seen (m_marbles : Int32) (m_noted : Int32) (m_notePlace : Nat → Int32) (m_noteKind : Nat → Int32) (m_noteIs : Nat → Int32) (p0 : Int32) (p1 : Int32) (p2 : Int32) : Option (Int32 × Int32 × (Nat → Int32) × (Nat → Int32) × (Nat → Int32)) :=
  if m_marbles = 0 then
  (some ((-1), m_noted, m_notePlace, m_noteKind, m_noteIs))
  else ((f_M_isPlace p0).bind fun a_1 =>
  if a_1 = 0 then
  (some ((-1), m_noted, m_notePlace, m_noteKind, m_noteIs))
  else ((f_M_isKind p1).bind fun a_2 =>
  if a_2 = 0 then
  (some ((-1), m_noted, m_notePlace, m_noteKind, m_noteIs))
  else (if m_noted = 10 then
  (some ((-1), m_noted, m_notePlace, m_noteKind, m_noteIs))
  else (oI m_noted 10 (oL (upd m_notePlace m_noted.toNatClampNeg p0) fun m_notePlace_3 =>
  oI m_noted 10 (oL (upd m_noteKind m_noted.toNatClampNeg p1) fun m_noteKind_4 =>
  oI m_noted 10 (oL (upd m_noteIs m_noted.toNatClampNeg (vp_nar .boolean p2)) fun m_noteIs_5 =>
  oL (m_noted + 1) fun m_noted_6 =>
  some (m_noted_6, m_noted_6, m_notePlace_3, m_noteKind_4, m_noteIs_5))))))))
noncomputable def f_M_sizesOf_J31 (v3 : Int32) (k0 : Int32) (k1 : Int32) : Option ((Int32 × Int32) ⊕ Int32) :=
  oL (k0 + k1) fun v2_2 => some (.inl (v2_2, v3 + 1))
noncomputable def f_M_sizesOf_L4 (m_marbles : Int32) (m_marble : Nat → Int32) (v1 : Int32) (s : (Int32 × Int32)) : Option ((Int32 × Int32) ⊕ Int32) :=
  if m_marbles ≤ s.2 then
  (some (.inr s.1))
  else ((f_M_has v1 s.2).bind fun a_1 =>
  if a_1 = 0 then
  (f_M_sizesOf_J31 s.2 s.1 0)
  else ((f_M_of m_marble s.2 2).bind fun a_4 =>
  f_M_sizesOf_J31 s.2 s.1 a_4))
noncomputable def f_M_sizesOf (m_marbles : Int32) (m_marble : Nat → Int32) (p0 : Int32) : Option Int32 :=
  oLp (f_M_sizesOf_L4 m_marbles m_marble p0) (0, 0)
noncomputable def f_M_shares (m_boys : Int32) (m_marbles : Int32) (m_marble : Nat → Int32) (m_now : Nat → Int32) (p0 : Int32) (p1 : Int32) : Option Int32 :=
  (f_M_isBoy m_boys p0).bind fun a_1 =>
  if a_1 = 0 then
  (some (-1))
  else ((f_M_in p1 0 999).bind fun a_2 =>
  if a_2 = 0 then
  (some (-1))
  else ((f_M_drained m_marbles m_now).bind fun a_3 =>
  (f_M_sizesOf m_marbles m_marble (((1 <<< (m_marbles &&& 31)) - 1) &&& (a_3 ^^^ ((-1))))).bind fun a_4 =>
  if a_4 = 0 then
  (some 0)
  else ((f_M_handsOf m_marbles m_now p0).bind fun a_5 =>
  (f_M_sizesOf m_marbles m_marble a_5).bind fun a_6 =>
  oD (a_4) (some ((p1 * a_6) / a_4)))))
noncomputable def f_M_spell (m_marbles : Int32) (m_boy : Nat → Int32) (m_marble : Nat → Int32) (m_now : Nat → Int32) (p0 : Int32) (p1 : Int32) : Option Int32 :=
  if m_marbles ≤ 0 then
  (some (-1))
  else ((f_M_isPlace p0).bind fun a_1 =>
  if a_1 = 0 then
  (some (-1))
  else ((f_M_isKind p1).bind fun a_2 =>
  if a_2 = 0 then
  (some (-1))
  else ((f_M_strengthOf m_marbles m_boy m_marble m_now p0 p1).bind fun a_3 =>
  some a_3)))
noncomputable def f_M_spills (m_spills : Int32) (p0 : Int32) : Option (Int32 × Int32) :=
  (f_M_in p0 0 9).bind fun a_1 =>
  if a_1 = 0 then
  (some (0, m_spills))
  else (if p0 = m_spills then
  (some (0, m_spills))
  else (some (1, p0)))
noncomputable def f_M_status (m_refused : Nat → Int32) (p0 : Int32) : Option Int32 :=
  (f_M_in p0 0 4).bind fun a_1 =>
  if a_1 = 0 then
  (some (-1))
  else (oI p0 5 (some (m_refused p0.toNatClampNeg)))
noncomputable def f_M_swallow (m_marbles : Int32) (m_acts : Int32) (m_now : Nat → Int32) (m_refused : Nat → Int32) (m_kept : Nat → Int32) (p0 : Int32) : Option (Int32 × Int32 × (Nat → Int32) × (Nat → Int32) × (Nat → Int32)) :=
  (f_M_mark m_marbles m_acts m_now m_refused m_kept 7 p0).bind fun a_1 =>
  some (a_1.1, a_1.2.1, a_1.2.2.1, a_1.2.2.2.1, a_1.2.2.2.2)
noncomputable def f_M_swapNow (m_now : Nat → Int32) (p0 : Int32) (p1 : Int32) : Option (Nat → Int32) :=
  oI (0 + p0) 131 (oL (m_now (0 + p0 : Int32).toNatClampNeg) fun v3_1 => oI (0 + p1) 131 (oI (0 + p0) 131 (oL (upd m_now ((0 + p0 : Int32).toNatClampNeg) (m_now (0 + p1 : Int32).toNatClampNeg)) fun m_now_2 =>
  oI (0 + p1) 131 (oL (upd m_now_2 ((0 + p1 : Int32).toNatClampNeg) v3_1) fun m_now_3 =>
  some m_now_3))))
noncomputable def f_M_swap (m_marbles : Int32) (m_acts : Int32) (m_now : Nat → Int32) (m_refused : Nat → Int32) (m_kept : Nat → Int32) (p0 : Int32) (p1 : Int32) : Option (Int32 × Int32 × (Nat → Int32) × (Nat → Int32) × (Nat → Int32)) :=
  (f_M_whyNot m_marbles m_now p0 p1).bind fun a_1 =>
  (f_M_isRefused m_refused a_1).bind fun a_2 =>
  if a_2.1 = 0 then
  ((f_M_keep m_acts m_now m_kept).bind fun a_3 =>
  (f_M_swapNow m_now p0 p1).bind fun a_4 =>
  oI (0 + p0) 131 (some (a_4 (0 + p0 : Int32).toNatClampNeg, a_3.1, a_4, a_2.2, a_3.2)))
  else (some ((-1), m_acts, m_now, a_2.2, m_kept))
noncomputable def f_M_takeYard_L137 (m_boys : Int32) (m_marbles : Int32) (m_farms : Int32) (m_rule : Nat → Int32) (m_boy : Nat → Int32) (m_marble : Nat → Int32) (m_farm : Nat → Int32) (s : (Int32 × (Nat → Int32))) : Option ((Int32 × (Nat → Int32)) ⊕ (Int32 × Int32 × Int32 × Int32 × Int32 × Int32 × Int32 × (Nat → Int32) × (Nat → Int32) × (Nat → Int32) × (Nat → Int32) × (Nat → Int32))) :=
  if m_marbles ≤ s.1 then
  ((oI 2 3 (oI 8 131 (oL (upd s.2 ((8 : Int32).toNatClampNeg) (m_rule (2 : Int32).toNatClampNeg)) fun m_now_1 =>
  some (m_marbles, m_boys, m_marbles, m_farms, 0, 0, 0, m_rule, m_boy, m_marble, m_farm, m_now_1)))).map .inr)
  else ((f_M_of m_marble s.1 0).bind fun a_2 =>
  oI (0 + s.1) 131 (oL (upd s.2 ((0 + s.1 : Int32).toNatClampNeg) a_2) fun m_now_3 =>
  some (.inl (s.1 + 1, m_now_3))))
noncomputable def f_M_takeYard_L115 (m_boys : Int32) (m_marbles : Int32) (m_farms : Int32) (m_rule : Nat → Int32) (m_boy : Nat → Int32) (m_marble : Nat → Int32) (m_farm : Nat → Int32) (s : (Int32 × (Nat → Int32))) : Option ((Int32 × (Nat → Int32)) ⊕ (Int32 × Int32 × Int32 × Int32 × Int32 × Int32 × Int32 × (Nat → Int32) × (Nat → Int32) × (Nat → Int32) × (Nat → Int32) × (Nat → Int32))) :=
  if 131 ≤ s.1 then
  ((oLp (f_M_takeYard_L137 m_boys m_marbles m_farms m_rule m_boy m_marble m_farm) (0, s.2)).map .inr)
  else (oI s.1 131 (oL (upd s.2 s.1.toNatClampNeg 0) fun m_now_5 =>
  some (.inl (s.1 + 1, m_now_5))))
noncomputable def f_M_takeYard_L77 (m_boys : Int32) (m_marbles : Int32) (m_farms : Int32) (m_readMarble : Nat → Int32) (m_readFarm : Nat → Int32) (m_rule : Nat → Int32) (m_boy : Nat → Int32) (m_now : Nat → Int32) (s : (Int32 × (Nat → Int32) × (Nat → Int32))) : Option ((Int32 × (Nat → Int32) × (Nat → Int32)) ⊕ (Int32 × Int32 × Int32 × Int32 × Int32 × Int32 × Int32 × (Nat → Int32) × (Nat → Int32) × (Nat → Int32) × (Nat → Int32) × (Nat → Int32))) :=
  if 18 ≤ s.1 then
  ((oLp (f_M_takeYard_L115 m_boys m_marbles m_farms m_rule m_boy s.2.1 s.2.2) (0, m_now)).map .inr)
  else (oI s.1 18 (oI s.1 18 (oL (upd s.2.1 s.1.toNatClampNeg (m_readMarble s.1.toNatClampNeg)) fun m_marble_7 =>
  oI s.1 18 (oI s.1 18 (oL (upd s.2.2 s.1.toNatClampNeg (m_readFarm s.1.toNatClampNeg)) fun m_farm_8 =>
  some (.inl (s.1 + 1, m_marble_7, m_farm_8)))))))
noncomputable def f_M_takeYard_L51 (m_boys : Int32) (m_marbles : Int32) (m_farms : Int32) (m_readBoy : Nat → Int32) (m_readMarble : Nat → Int32) (m_readFarm : Nat → Int32) (m_rule : Nat → Int32) (m_marble : Nat → Int32) (m_farm : Nat → Int32) (m_now : Nat → Int32) (s : (Int32 × (Nat → Int32))) : Option ((Int32 × (Nat → Int32)) ⊕ (Int32 × Int32 × Int32 × Int32 × Int32 × Int32 × Int32 × (Nat → Int32) × (Nat → Int32) × (Nat → Int32) × (Nat → Int32) × (Nat → Int32))) :=
  if 10 ≤ s.1 then
  ((oLp (f_M_takeYard_L77 m_boys m_marbles m_farms m_readMarble m_readFarm m_rule s.2 m_now) (0, m_marble, m_farm)).map .inr)
  else (oI s.1 10 (oI s.1 10 (oL (upd s.2 s.1.toNatClampNeg (m_readBoy s.1.toNatClampNeg)) fun m_boy_10 =>
  some (.inl (s.1 + 1, m_boy_10)))))
noncomputable def f_M_takeYard_L26 (m_boys : Int32) (m_marbles : Int32) (m_farms : Int32) (m_readRule : Nat → Int32) (m_readBoy : Nat → Int32) (m_readMarble : Nat → Int32) (m_readFarm : Nat → Int32) (m_boy : Nat → Int32) (m_marble : Nat → Int32) (m_farm : Nat → Int32) (m_now : Nat → Int32) (s : (Int32 × (Nat → Int32))) : Option ((Int32 × (Nat → Int32)) ⊕ (Int32 × Int32 × Int32 × Int32 × Int32 × Int32 × Int32 × (Nat → Int32) × (Nat → Int32) × (Nat → Int32) × (Nat → Int32) × (Nat → Int32))) :=
  if 3 ≤ s.1 then
  ((oLp (f_M_takeYard_L51 m_boys m_marbles m_farms m_readBoy m_readMarble m_readFarm s.2 m_marble m_farm m_now) (0, m_boy)).map .inr)
  else (oI s.1 3 (oI s.1 3 (oL (upd s.2 s.1.toNatClampNeg (m_readRule s.1.toNatClampNeg)) fun m_rule_12 =>
  some (.inl (s.1 + 1, m_rule_12)))))
noncomputable def f_M_takeYard (m_readBoys : Int32) (m_readMarbles : Int32) (m_readFarms : Int32) (m_boys : Int32) (m_marbles : Int32) (m_farms : Int32) (m_acts : Int32) (m_noted : Int32) (m_hasImage : Int32) (m_readRule : Nat → Int32) (m_readBoy : Nat → Int32) (m_readMarble : Nat → Int32) (m_readFarm : Nat → Int32) (m_rule : Nat → Int32) (m_boy : Nat → Int32) (m_marble : Nat → Int32) (m_farm : Nat → Int32) (m_now : Nat → Int32) : Option (Int32 × Int32 × Int32 × Int32 × Int32 × Int32 × Int32 × (Nat → Int32) × (Nat → Int32) × (Nat → Int32) × (Nat → Int32) × (Nat → Int32)) :=
  oLp (f_M_takeYard_L26 m_readBoys m_readMarbles m_readFarms m_readRule m_readBoy m_readMarble m_readFarm m_boy m_marble m_farm m_now) (0, m_rule)
noncomputable def f_M_text_J22 (m_size : Int32) (m_at : Int32) (m_wrong : Int32) (m_deep : Int32) (m_laws : Int32) (m_text : Int32) (m_readBoys : Int32) (m_readMarbles : Int32) (m_readFarms : Int32) (m_boys : Int32) (m_marbles : Int32) (m_farms : Int32) (m_acts : Int32) (m_noted : Int32) (m_hasImage : Int32) (m_tape : Nat → Int32) (m_code : Nat → Int32) (m_value : Nat → Int32) (m_codes : Nat → Int32) (m_clauses : Nat → Int32) (m_testFrom : Nat → Int32) (m_sumFrom : Nat → Int32) (m_sumTo : Nat → Int32) (m_readRule : Nat → Int32) (m_readBoy : Nat → Int32) (m_readMarble : Nat → Int32) (m_readFarm : Nat → Int32) (m_rule : Nat → Int32) (m_boy : Nat → Int32) (m_marble : Nat → Int32) (m_farm : Nat → Int32) (m_now : Nat → Int32) (v1 : Int32) : Option (Int32 × Int32 × Int32 × Int32 × Int32 × Int32 × Int32 × Int32 × Int32 × Int32 × Int32 × Int32 × Int32 × Int32 × Int32 × Int32 × (Nat → Int32) × (Nat → Int32) × (Nat → Int32) × (Nat → Int32) × (Nat → Int32) × (Nat → Int32) × (Nat → Int32) × (Nat → Int32) × (Nat → Int32) × (Nat → Int32) × (Nat → Int32) × (Nat → Int32) × (Nat → Int32) × (Nat → Int32) × (Nat → Int32) × (Nat → Int32)) :=
  if v1 = 1 then
  (if 4 ≤ m_laws then
  (some ((-1), m_size, m_at, m_wrong, m_deep, m_laws, m_text, m_readBoys, m_readMarbles, m_readFarms, m_boys, m_marbles, m_farms, m_acts, m_noted, m_hasImage, m_code, m_value, m_codes, m_clauses, m_testFrom, m_sumFrom, m_sumTo, m_readRule, m_readBoy, m_readMarble, m_readFarm, m_rule, m_boy, m_marble, m_farm, m_now))
  else ((f_M_readLaw m_size m_at m_wrong m_deep m_text m_tape m_code m_value m_codes m_clauses m_testFrom m_sumFrom m_sumTo m_laws).bind fun a_1 =>
  if a_1.1 = (-1) then
  (oL (m_laws + 1) fun m_laws_2 =>
  some (m_laws_2 - 1, 0, a_1.2.1, a_1.2.2.1, a_1.2.2.2.1, m_laws_2, a_1.2.2.2.2.1, m_readBoys, m_readMarbles, m_readFarms, m_boys, m_marbles, m_farms, m_acts, m_noted, m_hasImage, a_1.2.2.2.2.2.1, a_1.2.2.2.2.2.2.1, a_1.2.2.2.2.2.2.2.1, a_1.2.2.2.2.2.2.2.2.1, a_1.2.2.2.2.2.2.2.2.2.1, a_1.2.2.2.2.2.2.2.2.2.2.1, a_1.2.2.2.2.2.2.2.2.2.2.2, m_readRule, m_readBoy, m_readMarble, m_readFarm, m_rule, m_boy, m_marble, m_farm, m_now))
  else (some ((-1), m_size, a_1.2.1, a_1.2.2.1, a_1.2.2.2.1, m_laws, a_1.2.2.2.2.1, m_readBoys, m_readMarbles, m_readFarms, m_boys, m_marbles, m_farms, m_acts, m_noted, m_hasImage, a_1.2.2.2.2.2.1, a_1.2.2.2.2.2.2.1, a_1.2.2.2.2.2.2.2.1, a_1.2.2.2.2.2.2.2.2.1, a_1.2.2.2.2.2.2.2.2.2.1, a_1.2.2.2.2.2.2.2.2.2.2.1, a_1.2.2.2.2.2.2.2.2.2.2.2, m_readRule, m_readBoy, m_readMarble, m_readFarm, m_rule, m_boy, m_marble, m_farm, m_now))))
  else (some ((-1), m_size, m_at, m_wrong, m_deep, m_laws, m_text, m_readBoys, m_readMarbles, m_readFarms, m_boys, m_marbles, m_farms, m_acts, m_noted, m_hasImage, m_code, m_value, m_codes, m_clauses, m_testFrom, m_sumFrom, m_sumTo, m_readRule, m_readBoy, m_readMarble, m_readFarm, m_rule, m_boy, m_marble, m_farm, m_now))
noncomputable def f_M_text (m_size : Int32) (m_at : Int32) (m_wrong : Int32) (m_deep : Int32) (m_laws : Int32) (m_text : Int32) (m_readBoys : Int32) (m_readMarbles : Int32) (m_readFarms : Int32) (m_boys : Int32) (m_marbles : Int32) (m_farms : Int32) (m_acts : Int32) (m_noted : Int32) (m_hasImage : Int32) (m_tape : Nat → Int32) (m_code : Nat → Int32) (m_value : Nat → Int32) (m_codes : Nat → Int32) (m_clauses : Nat → Int32) (m_testFrom : Nat → Int32) (m_sumFrom : Nat → Int32) (m_sumTo : Nat → Int32) (m_readRule : Nat → Int32) (m_readBoy : Nat → Int32) (m_readMarble : Nat → Int32) (m_readFarm : Nat → Int32) (m_rule : Nat → Int32) (m_boy : Nat → Int32) (m_marble : Nat → Int32) (m_farm : Nat → Int32) (m_now : Nat → Int32) (p0 : Int32) : Option (Int32 × Int32 × Int32 × Int32 × Int32 × Int32 × Int32 × Int32 × Int32 × Int32 × Int32 × Int32 × Int32 × Int32 × Int32 × Int32 × (Nat → Int32) × (Nat → Int32) × (Nat → Int32) × (Nat → Int32) × (Nat → Int32) × (Nat → Int32) × (Nat → Int32) × (Nat → Int32) × (Nat → Int32) × (Nat → Int32) × (Nat → Int32) × (Nat → Int32) × (Nat → Int32) × (Nat → Int32) × (Nat → Int32) × (Nat → Int32)) :=
  if p0 = 0 then
  ((f_M_readYard m_size m_at m_wrong m_readBoys m_readMarbles m_readFarms m_tape m_readRule m_readBoy m_readMarble m_readFarm).bind fun a_3 =>
  if a_3.1 = (-1) then
  ((f_M_takeYard a_3.2.2.2.1 a_3.2.2.2.2.1 a_3.2.2.2.2.2.1 m_boys m_marbles m_farms m_acts m_noted m_hasImage a_3.2.2.2.2.2.2.1 a_3.2.2.2.2.2.2.2.1 a_3.2.2.2.2.2.2.2.2.1 a_3.2.2.2.2.2.2.2.2.2 m_rule m_boy m_marble m_farm m_now).bind fun a_4 =>
  some (a_4.1, 0, a_3.2.1, a_3.2.2.1, m_deep, m_laws, m_text, a_3.2.2.2.1, a_3.2.2.2.2.1, a_3.2.2.2.2.2.1, a_4.2.1, a_4.2.2.1, a_4.2.2.2.1, a_4.2.2.2.2.1, a_4.2.2.2.2.2.1, a_4.2.2.2.2.2.2.1, m_code, m_value, m_codes, m_clauses, m_testFrom, m_sumFrom, m_sumTo, a_3.2.2.2.2.2.2.1, a_3.2.2.2.2.2.2.2.1, a_3.2.2.2.2.2.2.2.2.1, a_3.2.2.2.2.2.2.2.2.2, a_4.2.2.2.2.2.2.2.1, a_4.2.2.2.2.2.2.2.2.1, a_4.2.2.2.2.2.2.2.2.2.1, a_4.2.2.2.2.2.2.2.2.2.2.1, a_4.2.2.2.2.2.2.2.2.2.2.2))
  else (f_M_text_J22 m_size a_3.2.1 a_3.2.2.1 m_deep m_laws m_text a_3.2.2.2.1 a_3.2.2.2.2.1 a_3.2.2.2.2.2.1 m_boys m_marbles m_farms m_acts m_noted m_hasImage m_tape m_code m_value m_codes m_clauses m_testFrom m_sumFrom m_sumTo a_3.2.2.2.2.2.2.1 a_3.2.2.2.2.2.2.2.1 a_3.2.2.2.2.2.2.2.2.1 a_3.2.2.2.2.2.2.2.2.2 m_rule m_boy m_marble m_farm m_now p0))
  else (f_M_text_J22 m_size m_at m_wrong m_deep m_laws m_text m_readBoys m_readMarbles m_readFarms m_boys m_marbles m_farms m_acts m_noted m_hasImage m_tape m_code m_value m_codes m_clauses m_testFrom m_sumFrom m_sumTo m_readRule m_readBoy m_readMarble m_readFarm m_rule m_boy m_marble m_farm m_now p0)
noncomputable def f_M_thrown (m_thrown : Int32) : Option Int32 :=
  some m_thrown
noncomputable def f_M_trades_J66 (v2 : Int32) (v4 : Int32) : Option ((Int32 × Int32) ⊕ ((Int32 × Int32) ⊕ Int32)) :=
  some (.inl (v2, v4 + 1))
noncomputable def f_M_trades_L31 (m_marbles : Int32) (m_farms : Int32) (m_boy : Nat → Int32) (m_marble : Nat → Int32) (m_farm : Nat → Int32) (m_now : Nat → Int32) (v1 : Int32) (v3 : Int32) (s : (Int32 × Int32)) : Option ((Int32 × Int32) ⊕ ((Int32 × Int32) ⊕ Int32)) :=
  if m_marbles ≤ s.2 then
  ((some (.inl (s.1, v3 + 1))).map .inr)
  else ((f_M_isTrade m_marbles m_farms m_boy m_marble m_farm m_now v3 s.2).bind fun a_3 =>
  if a_3 = 0 then
  (f_M_trades_J66 s.1 s.2)
  else (if s.1 = v1 then
  (some (.inr (.inr ((10 * v3) + s.2))))
  else (f_M_trades_J66 (s.1 + 1) s.2)))
noncomputable def f_M_trades_L18 (m_marbles : Int32) (m_farms : Int32) (m_boy : Nat → Int32) (m_marble : Nat → Int32) (m_farm : Nat → Int32) (m_now : Nat → Int32) (v1 : Int32) (s : (Int32 × Int32)) : Option ((Int32 × Int32) ⊕ Int32) :=
  if m_marbles ≤ s.2 then
  ((if v1 = (-1) then
  (some s.1)
  else (some (-1))).map .inr)
  else (oL (s.2 + 1) fun v4_1 => oLp (f_M_trades_L31 m_marbles m_farms m_boy m_marble m_farm m_now v1 s.2) (s.1, v4_1))
noncomputable def f_M_trades (m_marbles : Int32) (m_farms : Int32) (m_boy : Nat → Int32) (m_marble : Nat → Int32) (m_farm : Nat → Int32) (m_now : Nat → Int32) (p0 : Int32) : Option Int32 :=
  if m_marbles = 0 then
  (some (-1))
  else (if (-1) ≤ p0 then
  (oLp (f_M_trades_L18 m_marbles m_farms m_boy m_marble m_farm m_now p0) (0, 0))
  else (some (-1)))
noncomputable def f_M_undo_L21 (m_acts : Int32) (m_kept : Nat → Int32) (s : (Int32 × (Nat → Int32))) : Option ((Int32 × (Nat → Int32)) ⊕ (Int32 × Int32 × (Nat → Int32))) :=
  if 131 ≤ s.1 then
  (some (.inr (m_acts, m_acts, s.2)))
  else (oI ((131 * m_acts) + s.1) 5240 (oI s.1 131 (oL (upd s.2 s.1.toNatClampNeg (m_kept ((131 * m_acts) + s.1 : Int32).toNatClampNeg)) fun m_now_2 =>
  some (.inl (s.1 + 1, m_now_2)))))
noncomputable def f_M_undo (m_acts : Int32) (m_now : Nat → Int32) (m_kept : Nat → Int32) : Option (Int32 × Int32 × (Nat → Int32)) :=
  if m_acts = 0 then
  (some ((-1), m_acts, m_now))
  else (oL (m_acts - 1) fun m_acts_1 =>
  oLp (f_M_undo_L21 m_acts_1 m_kept) (0, m_now))
noncomputable def f_M_weather (m_marbles : Int32) (m_boy : Nat → Int32) (m_marble : Nat → Int32) (m_now : Nat → Int32) (p0 : Int32) : Option Int32 :=
  if m_marbles ≤ 0 then
  (some (-1000000))
  else ((f_M_isPlace p0).bind fun a_1 =>
  if a_1 = 0 then
  (some (-1000000))
  else ((f_M_weatherOf m_marbles m_boy m_marble m_now p0).bind fun a_2 =>
  some a_2))
noncomputable def f_M_wins (m_marbles : Int32) (m_holding : Int32) (m_code : Nat → Int32) (m_value : Nat → Int32) (m_clauses : Nat → Int32) (m_testFrom : Nat → Int32) (m_sumFrom : Nat → Int32) (m_sumTo : Nat → Int32) (m_letters : Nat → Int32) (m_stack : Nat → Int32) (m_rule : Nat → Int32) (m_boy : Nat → Int32) (m_marble : Nat → Int32) (m_now : Nat → Int32) (p0 : Int32) (p1 : Int32) (p2 : Int32) (p3 : Int32) : Option (Int32 × (Nat → Int32) × (Nat → Int32)) :=
  (f_M_whyNotPlay m_marbles m_now p0 p1 p2 p3).bind fun a_1 =>
  if a_1 = (-1) then
  ((f_M_cellOf m_marbles m_holding m_code m_value m_clauses m_testFrom m_sumFrom m_sumTo m_letters m_stack m_boy m_marble m_now p0 p1).bind fun a_2 =>
  (f_M_cellOf m_marbles m_holding m_code m_value m_clauses m_testFrom m_sumFrom m_sumTo a_2.2.1 a_2.2.2 m_boy m_marble m_now p2 p3).bind fun a_3 =>
  (f_M_winner m_rule a_2.1 a_3.1).bind fun a_4 =>
  some (a_4, a_3.2.1, a_3.2.2))
  else (some ((-1000000), m_letters, m_stack))
noncomputable def f_M_years_L25 (m_marbles : Int32) (m_farms : Int32) (m_holding : Int32) (m_spills : Int32) (m_code : Nat → Int32) (m_value : Nat → Int32) (m_clauses : Nat → Int32) (m_testFrom : Nat → Int32) (m_sumFrom : Nat → Int32) (m_sumTo : Nat → Int32) (m_rule : Nat → Int32) (m_boy : Nat → Int32) (m_marble : Nat → Int32) (m_farm : Nat → Int32) (v1 : Int32) (s : (Int32 × Int32 × Int64 × (Nat → Int32) × (Nat → Int32) × (Nat → Int32) × (Nat → Int32))) : Option ((Int32 × Int32 × Int64 × (Nat → Int32) × (Nat → Int32) × (Nat → Int32) × (Nat → Int32)) ⊕ (Int32 × Int32 × Int64 × (Nat → Int32) × (Nat → Int32) × (Nat → Int32) × (Nat → Int32))) :=
  if v1 ≤ s.1 then
  ((oI 9 131 (some (s.2.2.2.2.2.1 (9 : Int32).toNatClampNeg, s.2.1, s.2.2.1, s.2.2.2.1, s.2.2.2.2.1, s.2.2.2.2.2.1, s.2.2.2.2.2.2))).map .inr)
  else ((f_M_keep s.2.1 s.2.2.2.2.2.1 s.2.2.2.2.2.2).bind fun a_2 =>
  (f_M_drawDay m_marbles m_holding m_spills s.2.2.1 m_code m_value m_clauses m_testFrom m_sumFrom m_sumTo s.2.2.2.1 s.2.2.2.2.1 m_rule m_boy m_marble s.2.2.2.2.2.1).bind fun a_3 =>
  (f_M_passDay m_marbles m_farms m_boy m_marble m_farm a_3.2.2.2).bind fun a_4 =>
  some (.inl (s.1 + 1, a_2.1, a_3.1, a_3.2.1, a_3.2.2.1, a_4, a_2.2)))
noncomputable def f_M_years (m_marbles : Int32) (m_farms : Int32) (m_holding : Int32) (m_spills : Int32) (m_acts : Int32) (m_draws : Int64) (m_code : Nat → Int32) (m_value : Nat → Int32) (m_clauses : Nat → Int32) (m_testFrom : Nat → Int32) (m_sumFrom : Nat → Int32) (m_sumTo : Nat → Int32) (m_letters : Nat → Int32) (m_stack : Nat → Int32) (m_rule : Nat → Int32) (m_boy : Nat → Int32) (m_marble : Nat → Int32) (m_farm : Nat → Int32) (m_now : Nat → Int32) (m_kept : Nat → Int32) (p0 : Int32) (p1 : Int64) : Option (Int32 × Int32 × Int64 × (Nat → Int32) × (Nat → Int32) × (Nat → Int32) × (Nat → Int32)) :=
  if m_marbles = 0 then
  (some ((-1), m_acts, m_draws, m_letters, m_stack, m_now, m_kept))
  else ((f_M_areDays m_now p0).bind fun a_1 =>
  if a_1 = 0 then
  (some ((-1), m_acts, m_draws, m_letters, m_stack, m_now, m_kept))
  else (oLp (f_M_years_L25 m_marbles m_farms m_holding m_spills m_code m_value m_clauses m_testFrom m_sumFrom m_sumTo m_rule m_boy m_marble m_farm p0) (0, m_acts, p1, m_letters, m_stack, m_now, m_kept)))
