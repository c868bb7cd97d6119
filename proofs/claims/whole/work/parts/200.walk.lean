variable {B : gB} {X : gX} {ws : va_W}
set_option maxRecDepth 4000 in
theorem w_J_bitCount {p0 : Int32} (hX : gOk B X RJ6 cJ6_bitCount_0f7a4 1 0 (some .int)) : gH B X (fun r : Int32 => gFin X (some (.int r)) (ws)) 0 [(0, .int p0)] [] (ws) (f_J_bitCount p0) := by
  unfold f_J_bitCount
  refine h_iload_n hX dJ6_bitCount_0f7a4_0 rfl rfl ?_
  refine h_iload_n hX dJ6_bitCount_0f7a4_1 rfl rfl ?_
  refine h_iconst hX dJ6_bitCount_0f7a4_2 ki_1 ?_
  refine h_iushr hX dJ6_bitCount_0f7a4_3 ?_
  refine h_ldcw hX dJ6_bitCount_0f7a4_4 cst_RJ6_265 ?_
  refine h_iand hX dJ6_bitCount_0f7a4_7 ?_
  refine h_isub hX dJ6_bitCount_0f7a4_8 ?_
  refine gH.leti (fun v0_1 => ?_)
  refine h_istore_n hX dJ6_bitCount_0f7a4_9 rfl (by decide) (lv' := [(0, .int v0_1)]) rfl ?_
  refine h_iload_n hX dJ6_bitCount_0f7a4_10 rfl rfl ?_
  refine h_ldcw hX dJ6_bitCount_0f7a4_11 cst_RJ6_266 ?_
  refine h_iand hX dJ6_bitCount_0f7a4_14 ?_
  refine h_iload_n hX dJ6_bitCount_0f7a4_15 rfl rfl ?_
  refine h_iconst hX dJ6_bitCount_0f7a4_16 ki_2 ?_
  refine h_iushr hX dJ6_bitCount_0f7a4_17 ?_
  refine h_ldcw hX dJ6_bitCount_0f7a4_18 cst_RJ6_266 ?_
  refine h_iand hX dJ6_bitCount_0f7a4_21 ?_
  refine h_iadd hX dJ6_bitCount_0f7a4_22 ?_
  refine gH.leti (fun v0_2 => ?_)
  refine h_istore_n hX dJ6_bitCount_0f7a4_23 rfl (by decide) (lv' := [(0, .int v0_2)]) rfl ?_
  refine h_iload_n hX dJ6_bitCount_0f7a4_24 rfl rfl ?_
  refine h_iload_n hX dJ6_bitCount_0f7a4_25 rfl rfl ?_
  refine h_iconst hX dJ6_bitCount_0f7a4_26 ki_4 ?_
  refine h_iushr hX dJ6_bitCount_0f7a4_27 ?_
  refine h_iadd hX dJ6_bitCount_0f7a4_28 ?_
  refine h_ldcw hX dJ6_bitCount_0f7a4_29 cst_RJ6_267 ?_
  refine h_iand hX dJ6_bitCount_0f7a4_32 ?_
  refine gH.leti (fun v0_3 => ?_)
  refine h_istore_n hX dJ6_bitCount_0f7a4_33 rfl (by decide) (lv' := [(0, .int v0_3)]) rfl ?_
  refine h_iload_n hX dJ6_bitCount_0f7a4_34 rfl rfl ?_
  refine h_iload_n hX dJ6_bitCount_0f7a4_35 rfl rfl ?_
  refine h_bipush hX dJ6_bitCount_0f7a4_36 kb_8 ?_
  refine h_iushr hX dJ6_bitCount_0f7a4_38 ?_
  refine h_iadd hX dJ6_bitCount_0f7a4_39 ?_
  refine gH.leti (fun v0_4 => ?_)
  refine h_istore_n hX dJ6_bitCount_0f7a4_40 rfl (by decide) (lv' := [(0, .int v0_4)]) rfl ?_
  refine h_iload_n hX dJ6_bitCount_0f7a4_41 rfl rfl ?_
  refine h_iload_n hX dJ6_bitCount_0f7a4_42 rfl rfl ?_
  refine h_bipush hX dJ6_bitCount_0f7a4_43 kb_16 ?_
  refine h_iushr hX dJ6_bitCount_0f7a4_45 ?_
  refine h_iadd hX dJ6_bitCount_0f7a4_46 ?_
  refine gH.leti (fun v0_5 => ?_)
  refine h_istore_n hX dJ6_bitCount_0f7a4_47 rfl (by decide) (lv' := [(0, .int v0_5)]) rfl ?_
  refine h_iload_n hX dJ6_bitCount_0f7a4_48 rfl rfl ?_
  refine h_bipush hX dJ6_bitCount_0f7a4_49 kb_63 ?_
  refine h_iand hX dJ6_bitCount_0f7a4_51 ?_
  exact h_ret hX (rv := some (.int (v0_5 &&& 63))) dJ6_bitCount_0f7a4_52 trivial (fun h => h)
theorem c_J_bitCount {p0 : Int32} {r : Int32} (h : f_J_bitCount p0 = some r) : gMet B 0 yJ6_bitCount_0f7a4 cJ6_bitCount_0f7a4 1 (some .int) [.int p0] (ws) (some (.int r)) (ws) :=
  gMet.of rfl (Nat.le_of_ble_eq_true rfl) (fun X hX hF => w_J_bitCount hX r h hF)
set_option maxRecDepth 4000 in
theorem w_Lane_isPower {p0 : Int32} (hX : gOk B X RX1 cX1_isPower 1 0 (some .boolean)) : gH B X (fun r : Int32 => gFin X (some (.int r)) (ws)) 0 [(0, .int p0)] [] (ws) (f_Lane_isPower p0) := by
  unfold f_Lane_isPower
  refine h_iload_n hX dX1_isPower_0 rfl rfl ?_
  refine h_iconst hX dX1_isPower_1 ki_1 ?_
  refine h_icmp_lt hX dX1_isPower_2 (tgt := 15) (by decide) (fun _ => ?_) (fun _ => ?_)
  · refine h_iconst hX dX1_isPower_15 ki_0 ?_
    exact h_ret hX (rv := some (.int 0)) dX1_isPower_16 rfl (fun h => h)
  · refine h_iload_n hX dX1_isPower_5 rfl rfl ?_
    refine h_bipush hX dX1_isPower_6 kb_9 ?_
    refine h_icmp_gt hX dX1_isPower_8 (tgt := 15) (by decide) (fun _ => ?_) (fun _ => ?_)
    · refine h_iconst hX dX1_isPower_15 ki_0 ?_
      exact h_ret hX (rv := some (.int 0)) dX1_isPower_16 rfl (fun h => h)
    · refine h_iconst hX dX1_isPower_11 ki_1 ?_
      refine h_goto hX dX1_isPower_12 (tgt := 16) (by decide) ?_
      exact h_ret hX (rv := some (.int 1)) dX1_isPower_16 rfl (fun h => h)
theorem c_Lane_isPower {p0 : Int32} {r : Int32} (h : f_Lane_isPower p0 = some r) : gMet B 0 yX1_isPower cX1_isPower 1 (some .boolean) [.int p0] (ws) (some (.int r)) (ws) :=
  gMet.of rfl (Nat.le_of_ble_eq_true rfl) (fun X hX hF => w_Lane_isPower hX r h hF)
set_option maxRecDepth 4000 in
theorem w_Lane_partsOf {p0 : Int32} {p1 : Int32} {p2 : Int32} (hX : gOk B X RX1 cX1_partsOf 5 0 (some .int)) : gH B X (fun r : Int32 => gFin X (some (.int r)) (ws)) 0 [(0, .int p0), (1, .int p1), (2, .int p2)] [] (ws) (f_Lane_partsOf p0 p1 p2) := by
  unfold f_Lane_partsOf
  refine h_iload_n hX dX1_partsOf_0 rfl rfl ?_
  refine h_i2l hX dX1_partsOf_1 ?_
  refine h_iload_n hX dX1_partsOf_2 rfl rfl ?_
  refine h_i2l hX dX1_partsOf_3 ?_
  refine h_lmul hX dX1_partsOf_4 ?_
  refine h_ldc2 hX dX1_partsOf_5 cstl_RX1_138 ?_
  refine h_ldivc hX dX1_partsOf_8 (by decide) ?_
  refine h_l2i hX dX1_partsOf_9 ?_
  refine gH.leti (fun v3_1 => ?_)
  refine h_istore_n hX dX1_partsOf_10 rfl (by decide) (lv' := [(0, .int p0), (1, .int p1), (2, .int p2), (3, .int v3_1)]) rfl ?_
  refine h_iload_n hX dX1_partsOf_11 rfl rfl ?_
  refine h_iconst hX dX1_partsOf_12 ki_2 ?_
  refine h_idivc hX dX1_partsOf_13 (by decide) ?_
  refine gH.leti (fun v4_2 => ?_)
  refine h_istore hX dX1_partsOf_14 (by decide) (lv' := [(0, .int p0), (1, .int p1), (2, .int p2), (3, .int v3_1), (4, .int v4_2)]) rfl ?_
  refine h_iload_n hX dX1_partsOf_16 rfl rfl ?_
  refine h_if_ne hX dX1_partsOf_17 (tgt := 24) (by decide) (fun _ => ?_) (fun _ => ?_)
  · refine h_iload_n hX dX1_partsOf_24 rfl rfl ?_
    refine h_if_ge hX dX1_partsOf_25 (tgt := 33) (by decide) (fun _ => ?_) (fun _ => ?_)
    · refine h_iload_n hX dX1_partsOf_33 rfl rfl ?_
      refine h_iload hX dX1_partsOf_34 rfl ?_
      refine h_isub hX dX1_partsOf_36 ?_
      exact h_ret hX (rv := some (.int (v3_1 - v4_2))) dX1_partsOf_37 trivial (fun h => h)
    · refine h_iload hX dX1_partsOf_28 rfl ?_
      refine h_goto hX dX1_partsOf_30 (tgt := 37) (by decide) ?_
      exact h_ret hX (rv := some (.int v4_2)) dX1_partsOf_37 trivial (fun h => h)
  · refine h_iload_n hX dX1_partsOf_20 rfl rfl ?_
    refine h_iload_n hX dX1_partsOf_21 rfl rfl ?_
    refine h_isub hX dX1_partsOf_22 ?_
    exact h_ret hX (rv := some (.int (p0 - v3_1))) dX1_partsOf_23 trivial (fun h => h)
theorem c_Lane_partsOf {p0 : Int32} {p1 : Int32} {p2 : Int32} {r : Int32} (h : f_Lane_partsOf p0 p1 p2 = some r) : gMet B 0 yX1_partsOf cX1_partsOf 5 (some .int) [.int p0, .int p1, .int p2] (ws) (some (.int r)) (ws) :=
  gMet.of rfl (Nat.le_of_ble_eq_true rfl) (fun X hX hF => w_Lane_partsOf hX r h hF)
set_option maxRecDepth 4000 in
theorem w_M_bounded {p0 : Int64} (hX : gOk B X RX11 cX11_bounded 2 1 (some .int)) : gH B X (fun r : Int32 => gFin X (some (.int r)) (ws)) 0 [(0, .long p0)] [] (ws) (f_M_bounded p0) := by
  unfold f_M_bounded
  refine h_ldc2 hX dX11_bounded_0 cstl_RX11_183 ?_
  refine h_ldc2 hX dX11_bounded_3 cstl_RX11_185 ?_
  refine h_lload_n hX dX11_bounded_6 rfl rfl ?_
  refine h_jminl hX dX11_bounded_7 cm_RX11_187 (by omega) (Nat.le_of_ble_eq_true rfl) ?_
  refine h_jmaxl hX dX11_bounded_10 cm_RX11_193 (by omega) (Nat.le_of_ble_eq_true rfl) ?_
  refine h_l2i hX dX11_bounded_13 ?_
  exact h_ret hX (rv := some (.int ((jmaxl ((-1000000)) (jminl 1000000 p0) : Int64).toInt32))) dX11_bounded_14 trivial (fun h => h)
theorem c_M_bounded {p0 : Int64} {r : Int32} (h : f_M_bounded p0 = some r) : gMet B 1 yX11_bounded cX11_bounded 2 (some .int) [.long p0] (ws) (some (.int r)) (ws) :=
  gMet.of rfl (Nat.le_of_ble_eq_true rfl) (fun X hX hF => w_M_bounded hX r h hF)
set_option maxRecDepth 4000 in
theorem w_M_byteOf_J45 {v5 : Int32} {k0 : Int32} (hX : gOk B X RX11 cX11_byteOf 7 0 (some .int)) : gH B X (fun r : Int32 => gFin X (some (.int r)) (ws)) 45 [(5, .int v5)] [.int k0] (ws) (f_M_byteOf_J45 v5 k0) := by
  unfold f_M_byteOf_J45
  refine h_istore hX dX11_byteOf_45 (by decide) (lv' := [(5, .int v5), (6, .int k0)]) rfl ?_
  refine h_iload hX dX11_byteOf_47 rfl ?_
  refine h_bipush hX dX11_byteOf_49 kb_24 ?_
  refine h_bipush hX dX11_byteOf_51 kb_8 ?_
  refine h_iload hX dX11_byteOf_53 rfl ?_
  refine h_iconst hX dX11_byteOf_55 ki_4 ?_
  refine h_iremc hX dX11_byteOf_56 (by decide) ?_
  refine h_imul hX dX11_byteOf_57 ?_
  refine h_isub hX dX11_byteOf_58 ?_
  refine h_ishr hX dX11_byteOf_59 ?_
  refine h_sipush hX dX11_byteOf_60 ks_255 ?_
  refine h_iand hX dX11_byteOf_63 ?_
  exact h_ret hX (rv := some (.int ((k0 >>> ((24 - (8 * (v5 - v5 / 4 * 4))) &&& 31)) &&& 255))) dX11_byteOf_64 trivial (fun h => h)
set_option maxRecDepth 4000 in
theorem w_M_byteOf {p0 : Int32} {p1 : Int32} {p2 : Int32} {p3 : Int32} {p4 : Int32} {p5 : Int32} (hX : gOk B X RX11 cX11_byteOf 7 0 (some .int)) : gH B X (fun r : Int32 => gFin X (some (.int r)) (ws)) 0 [(0, .int p0), (1, .int p1), (2, .int p2), (3, .int p3), (4, .int p4), (5, .int p5)] [] (ws) (f_M_byteOf p0 p1 p2 p3 p4 p5) := by
  unfold f_M_byteOf
  refine h_iload hX dX11_byteOf_0 rfl ?_
  refine h_iconst hX dX11_byteOf_2 ki_4 ?_
  refine h_icmp_ge hX dX11_byteOf_3 (tgt := 10) (by decide) (fun _ => ?_) (fun _ => ?_)
  · refine h_iload hX dX11_byteOf_10 rfl ?_
    refine h_bipush hX dX11_byteOf_12 kb_8 ?_
    refine h_icmp_ge hX dX11_byteOf_14 (tgt := 21) (by decide) (fun _ => ?_) (fun _ => ?_)
    · refine h_iload hX dX11_byteOf_21 rfl ?_
      refine h_bipush hX dX11_byteOf_23 kb_12 ?_
      refine h_icmp_ge hX dX11_byteOf_25 (tgt := 32) (by decide) (fun _ => ?_) (fun _ => ?_)
      · refine h_iload hX dX11_byteOf_32 rfl ?_
        refine h_bipush hX dX11_byteOf_34 kb_16 ?_
        refine h_icmp_ge hX dX11_byteOf_36 (tgt := 43) (by decide) (fun _ => ?_) (fun _ => ?_)
        · refine h_iload hX dX11_byteOf_43 rfl ?_
          refine gH.dead [5] rfl ?_
          exact w_M_byteOf_J45 hX
        · refine h_iload_n hX dX11_byteOf_39 rfl rfl ?_
          refine h_goto hX dX11_byteOf_40 (tgt := 45) (by decide) ?_
          refine gH.dead [5] rfl ?_
          exact w_M_byteOf_J45 hX
      · refine h_iload_n hX dX11_byteOf_28 rfl rfl ?_
        refine h_goto hX dX11_byteOf_29 (tgt := 45) (by decide) ?_
        refine gH.dead [5] rfl ?_
        exact w_M_byteOf_J45 hX
    · refine h_iload_n hX dX11_byteOf_17 rfl rfl ?_
      refine h_goto hX dX11_byteOf_18 (tgt := 45) (by decide) ?_
      refine gH.dead [5] rfl ?_
      exact w_M_byteOf_J45 hX
  · refine h_iload_n hX dX11_byteOf_6 rfl rfl ?_
    refine h_goto hX dX11_byteOf_7 (tgt := 45) (by decide) ?_
    refine gH.dead [5] rfl ?_
    exact w_M_byteOf_J45 hX
theorem c_M_byteOf {p0 : Int32} {p1 : Int32} {p2 : Int32} {p3 : Int32} {p4 : Int32} {p5 : Int32} {r : Int32} (h : f_M_byteOf p0 p1 p2 p3 p4 p5 = some r) : gMet B 0 yX11_byteOf cX11_byteOf 7 (some .int) [.int p0, .int p1, .int p2, .int p3, .int p4, .int p5] (ws) (some (.int r)) (ws) :=
  gMet.of rfl (Nat.le_of_ble_eq_true rfl) (fun X hX hF => w_M_byteOf hX r h hF)
set_option maxRecDepth 4000 in
theorem w_M_cellBy {p0 : Int32} {p1 : Int32} (hX : gOk B X RX11 cX11_cellBy 2 1 (some .int)) : gH B X (fun r : Int32 => gFin X (some (.int r)) (ws)) 0 [(0, .int p0), (1, .int p1)] [] (ws) (f_M_cellBy p0 p1) := by
  unfold f_M_cellBy
  refine h_iload_n hX dX11_cellBy_0 rfl rfl ?_
  refine h_if_ne hX dX11_cellBy_1 (tgt := 8) (by decide) (fun _ => ?_) (fun _ => ?_)
  · refine h_iload_n hX dX11_cellBy_8 rfl rfl ?_
    refine h_iconst hX dX11_cellBy_9 ki_1 ?_
    refine h_icmp_ne hX dX11_cellBy_10 (tgt := 23) (by decide) (fun _ => ?_) (fun _ => ?_)
    · refine h_iload_n hX dX11_cellBy_23 rfl rfl ?_
      refine h_iconst hX dX11_cellBy_24 ki_1 ?_
      refine h_iadd hX dX11_cellBy_25 ?_
      exact h_ret hX (rv := some (.int (p0 + 1))) dX11_cellBy_26 trivial (fun h => h)
    · refine h_iconst hX dX11_cellBy_13 ki_0 ?_
      refine h_iload_n hX dX11_cellBy_14 rfl rfl ?_
      refine h_iconst hX dX11_cellBy_15 ki_1 ?_
      refine h_isub hX dX11_cellBy_16 ?_
      refine h_jmax hX dX11_cellBy_17 cm_RX11_299 (by omega) (Nat.le_of_ble_eq_true rfl) ?_
      refine h_goto hX dX11_cellBy_20 (tgt := 26) (by decide) ?_
      exact h_ret hX (rv := some (.int (jmax 0 (p0 - 1)))) dX11_cellBy_26 trivial (fun h => h)
  · refine h_iload_n hX dX11_cellBy_4 rfl rfl ?_
    refine h_goto hX dX11_cellBy_5 (tgt := 26) (by decide) ?_
    exact h_ret hX (rv := some (.int p0)) dX11_cellBy_26 trivial (fun h => h)
theorem c_M_cellBy {p0 : Int32} {p1 : Int32} {r : Int32} (h : f_M_cellBy p0 p1 = some r) : gMet B 1 yX11_cellBy cX11_cellBy 2 (some .int) [.int p0, .int p1] (ws) (some (.int r)) (ws) :=
  gMet.of rfl (Nat.le_of_ble_eq_true rfl) (fun X hX hF => w_M_cellBy hX r h hF)
set_option maxRecDepth 4000 in
theorem w_M_has {p0 : Int32} {p1 : Int32} (hX : gOk B X RX11 cX11_has 2 0 (some .boolean)) : gH B X (fun r : Int32 => gFin X (some (.int r)) (ws)) 0 [(0, .int p0), (1, .int p1)] [] (ws) (f_M_has p0 p1) := by
  unfold f_M_has
  refine h_iload_n hX dX11_has_0 rfl rfl ?_
  refine h_iload_n hX dX11_has_1 rfl rfl ?_
  refine h_ishr hX dX11_has_2 ?_
  refine h_iconst hX dX11_has_3 ki_1 ?_
  refine h_iand hX dX11_has_4 ?_
  refine h_iconst hX dX11_has_5 ki_1 ?_
  refine h_icmp_ne hX dX11_has_6 (tgt := 13) (by decide) (fun _ => ?_) (fun _ => ?_)
  · refine h_iconst hX dX11_has_13 ki_0 ?_
    exact h_ret hX (rv := some (.int 0)) dX11_has_14 rfl (fun h => h)
  · refine h_iconst hX dX11_has_9 ki_1 ?_
    refine h_goto hX dX11_has_10 (tgt := 14) (by decide) ?_
    exact h_ret hX (rv := some (.int 1)) dX11_has_14 rfl (fun h => h)
theorem c_M_has {p0 : Int32} {p1 : Int32} {r : Int32} (h : f_M_has p0 p1 = some r) : gMet B 0 yX11_has cX11_has 2 (some .boolean) [.int p0, .int p1] (ws) (some (.int r)) (ws) :=
  gMet.of rfl (Nat.le_of_ble_eq_true rfl) (fun X hX hF => w_M_has hX r h hF)
set_option maxRecDepth 4000 in
theorem w_M_highest {p0 : Int32} {p1 : Int32} (hX : gOk B X RX11 cX11_highest 2 0 (some .int)) : gH B X (fun r : Int32 => gFin X (some (.int r)) (ws)) 0 [(0, .int p0), (1, .int p1)] [] (ws) (f_M_highest p0 p1) := by
  unfold f_M_highest
  refine h_iload_n hX dX11_highest_0 rfl rfl ?_
  refine gH.ite (fun hc98 => ?_) (fun hc98 => ?_)
  · refine h_lksw hX dX11_highest_1 (by decide) (by rw [hc98]; decide) (off := 57) (tgt := 58) (by decide) ?_
    refine h_bipush hX dX11_highest_58 kb_9 ?_
    exact h_ret hX (rv := some (.int 9)) dX11_highest_60 trivial (fun h => h)
  refine gH.ite (fun hc109 => ?_) (fun hc109 => ?_)
  · refine h_lksw hX dX11_highest_1 (by decide) (by rw [hc109]; decide) (off := 60) (tgt := 61) (by decide) ?_
    refine h_iload_n hX dX11_highest_61 rfl rfl ?_
    refine h_if_ne hX dX11_highest_62 (tgt := 69) (by decide) (fun _ => ?_) (fun _ => ?_)
    · refine h_iload_n hX dX11_highest_69 rfl rfl ?_
      refine h_iconst hX dX11_highest_70 ki_1 ?_
      refine h_icmp_ne hX dX11_highest_71 (tgt := 78) (by decide) (fun _ => ?_) (fun _ => ?_)
      · refine h_bipush hX dX11_highest_78 kb_9 ?_
        exact h_ret hX (rv := some (.int 9)) dX11_highest_80 trivial (fun h => h)
      · refine h_iconst hX dX11_highest_74 ki_5 ?_
        refine h_goto hX dX11_highest_75 (tgt := 80) (by decide) ?_
        exact h_ret hX (rv := some (.int 5)) dX11_highest_80 trivial (fun h => h)
    · refine h_iconst hX dX11_highest_65 ki_4 ?_
      refine h_goto hX dX11_highest_66 (tgt := 80) (by decide) ?_
      exact h_ret hX (rv := some (.int 4)) dX11_highest_80 trivial (fun h => h)
  refine gH.ite (fun hc115 => ?_) (fun hc115 => ?_)
  · refine h_lksw hX dX11_highest_1 (by decide) (by rw [hc115]; decide) (off := 35) (tgt := 36) (by decide) ?_
    refine h_iload_n hX dX11_highest_36 rfl rfl ?_
    refine h_if_ne hX dX11_highest_37 (tgt := 45) (by decide) (fun _ => ?_) (fun _ => ?_)
    · refine h_iload_n hX dX11_highest_45 rfl rfl ?_
      refine h_iconst hX dX11_highest_46 ki_1 ?_
      refine h_icmp_ne hX dX11_highest_47 (tgt := 55) (by decide) (fun _ => ?_) (fun _ => ?_)
      · refine h_bipush hX dX11_highest_55 kb_99 ?_
        exact h_ret hX (rv := some (.int 99)) dX11_highest_57 trivial (fun h => h)
      · refine h_bipush hX dX11_highest_50 kb_9 ?_
        refine h_goto hX dX11_highest_52 (tgt := 57) (by decide) ?_
        exact h_ret hX (rv := some (.int 9)) dX11_highest_57 trivial (fun h => h)
    · refine h_bipush hX dX11_highest_40 kb_30 ?_
      refine h_goto hX dX11_highest_42 (tgt := 57) (by decide) ?_
      exact h_ret hX (rv := some (.int 30)) dX11_highest_57 trivial (fun h => h)
  refine h_lkdef hX dX11_highest_1 (by decide) (cs := [98, 109, 115]) (by decide) (List.forall_mem_cons.mpr ⟨hc98, (List.forall_mem_cons.mpr ⟨hc109, (List.forall_mem_cons.mpr ⟨hc115, fun _ h => absurd h List.not_mem_nil⟩)⟩)⟩) (tgt := 81) (by decide) ?_
  refine h_iload_n hX dX11_highest_81 rfl rfl ?_
  refine h_iconst hX dX11_highest_82 ki_1 ?_
  refine h_icmp_ne hX dX11_highest_83 (tgt := 90) (by decide) (fun _ => ?_) (fun _ => ?_)
  · refine h_bipush hX dX11_highest_90 kb_9 ?_
    exact h_ret hX (rv := some (.int 9)) dX11_highest_92 trivial (fun h => h)
  · refine h_iconst hX dX11_highest_86 ki_5 ?_
    refine h_goto hX dX11_highest_87 (tgt := 92) (by decide) ?_
    exact h_ret hX (rv := some (.int 5)) dX11_highest_92 trivial (fun h => h)
theorem c_M_highest {p0 : Int32} {p1 : Int32} {r : Int32} (h : f_M_highest p0 p1 = some r) : gMet B 0 yX11_highest cX11_highest 2 (some .int) [.int p0, .int p1] (ws) (some (.int r)) (ws) :=
  gMet.of rfl (Nat.le_of_ble_eq_true rfl) (fun X hX hF => w_M_highest hX r h hF)
set_option maxRecDepth 4000 in
theorem w_M_in {p0 : Int32} {p1 : Int32} {p2 : Int32} (hX : gOk B X RX11 cX11_in 3 0 (some .boolean)) : gH B X (fun r : Int32 => gFin X (some (.int r)) (ws)) 0 [(0, .int p0), (1, .int p1), (2, .int p2)] [] (ws) (f_M_in p0 p1 p2) := by
  unfold f_M_in
  refine h_iload_n hX dX11_in_0 rfl rfl ?_
  refine h_iload_n hX dX11_in_1 rfl rfl ?_
  refine h_icmp_lt hX dX11_in_2 (tgt := 14) (by decide) (fun _ => ?_) (fun _ => ?_)
  · refine h_iconst hX dX11_in_14 ki_0 ?_
    exact h_ret hX (rv := some (.int 0)) dX11_in_15 rfl (fun h => h)
  · refine h_iload_n hX dX11_in_5 rfl rfl ?_
    refine h_iload_n hX dX11_in_6 rfl rfl ?_
    refine h_icmp_gt hX dX11_in_7 (tgt := 14) (by decide) (fun _ => ?_) (fun _ => ?_)
    · refine h_iconst hX dX11_in_14 ki_0 ?_
      exact h_ret hX (rv := some (.int 0)) dX11_in_15 rfl (fun h => h)
    · refine h_iconst hX dX11_in_10 ki_1 ?_
      refine h_goto hX dX11_in_11 (tgt := 15) (by decide) ?_
      exact h_ret hX (rv := some (.int 1)) dX11_in_15 rfl (fun h => h)
theorem c_M_in {p0 : Int32} {p1 : Int32} {p2 : Int32} {r : Int32} (h : f_M_in p0 p1 p2 = some r) : gMet B 0 yX11_in cX11_in 3 (some .boolean) [.int p0, .int p1, .int p2] (ws) (some (.int r)) (ws) :=
  gMet.of rfl (Nat.le_of_ble_eq_true rfl) (fun X hX hF => w_M_in hX r h hF)
set_option maxRecDepth 4000 in
theorem w_M_isDigit {p0 : Int32} (hX : gOk B X RX11 cX11_isDigit 1 0 (some .boolean)) : gH B X (fun r : Int32 => gFin X (some (.int r)) (ws)) 0 [(0, .int p0)] [] (ws) (f_M_isDigit p0) := by
  unfold f_M_isDigit
  refine h_iload_n hX dX11_isDigit_0 rfl rfl ?_
  refine h_bipush hX dX11_isDigit_1 kb_48 ?_
  refine h_icmp_lt hX dX11_isDigit_3 (tgt := 16) (by decide) (fun _ => ?_) (fun _ => ?_)
  · refine h_iconst hX dX11_isDigit_16 ki_0 ?_
    exact h_ret hX (rv := some (.int 0)) dX11_isDigit_17 rfl (fun h => h)
  · refine h_iload_n hX dX11_isDigit_6 rfl rfl ?_
    refine h_bipush hX dX11_isDigit_7 kb_57 ?_
    refine h_icmp_gt hX dX11_isDigit_9 (tgt := 16) (by decide) (fun _ => ?_) (fun _ => ?_)
    · refine h_iconst hX dX11_isDigit_16 ki_0 ?_
      exact h_ret hX (rv := some (.int 0)) dX11_isDigit_17 rfl (fun h => h)
    · refine h_iconst hX dX11_isDigit_12 ki_1 ?_
      refine h_goto hX dX11_isDigit_13 (tgt := 17) (by decide) ?_
      exact h_ret hX (rv := some (.int 1)) dX11_isDigit_17 rfl (fun h => h)
theorem c_M_isDigit {p0 : Int32} {r : Int32} (h : f_M_isDigit p0 = some r) : gMet B 0 yX11_isDigit cX11_isDigit 1 (some .boolean) [.int p0] (ws) (some (.int r)) (ws) :=
  gMet.of rfl (Nat.le_of_ble_eq_true rfl) (fun X hX hF => w_M_isDigit hX r h hF)
set_option maxRecDepth 4000 in
theorem w_M_isKind {p0 : Int32} (hX : gOk B X RX11 cX11_isKind 1 1 (some .boolean)) : gH B X (fun r : Int32 => gFin X (some (.int r)) (ws)) 0 [(0, .int p0)] [] (ws) (f_M_isKind p0) := by
  unfold f_M_isKind
  refine h_iload_n hX dX11_isKind_0 rfl rfl ?_
  refine h_iconst hX dX11_isKind_1 ki_0 ?_
  refine h_iconst hX dX11_isKind_2 ki_5 ?_
  refine h_callSi hX dX11_isKind_3 (cs_RX11_208) (As := [.int p0, .int 0, .int 5]) (st := []) (fun _ h => c_M_in h) rfl rfl (by decide) (Nat.le_of_ble_eq_true rfl) (fun a_1 => ?_)
  exact h_retz hX dX11_isKind_6 (fun h => h)
theorem c_M_isKind {p0 : Int32} {r : Int32} (h : f_M_isKind p0 = some r) : gMet B 1 yX11_isKind cX11_isKind 1 (some .boolean) [.int p0] (ws) (some (.int r)) (ws) :=
  gMet.of rfl (Nat.le_of_ble_eq_true rfl) (fun X hX hF => w_M_isKind hX r h hF)
set_option maxRecDepth 4000 in
theorem w_M_isPlace {p0 : Int32} (hX : gOk B X RX11 cX11_isPlace 1 1 (some .boolean)) : gH B X (fun r : Int32 => gFin X (some (.int r)) (ws)) 0 [(0, .int p0)] [] (ws) (f_M_isPlace p0) := by
  unfold f_M_isPlace
  refine h_iload_n hX dX11_isPlace_0 rfl rfl ?_
  refine h_iconst hX dX11_isPlace_1 ki_0 ?_
  refine h_bipush hX dX11_isPlace_2 kb_9 ?_
  refine h_callSi hX dX11_isPlace_4 (cs_RX11_208) (As := [.int p0, .int 0, .int 9]) (st := []) (fun _ h => c_M_in h) rfl rfl (by decide) (Nat.le_of_ble_eq_true rfl) (fun a_1 => ?_)
  exact h_retz hX dX11_isPlace_7 (fun h => h)
theorem c_M_isPlace {p0 : Int32} {r : Int32} (h : f_M_isPlace p0 = some r) : gMet B 1 yX11_isPlace cX11_isPlace 1 (some .boolean) [.int p0] (ws) (some (.int r)) (ws) :=
  gMet.of rfl (Nat.le_of_ble_eq_true rfl) (fun X hX hF => w_M_isPlace hX r h hF)
set_option maxRecDepth 4000 in
theorem w_M_isPower {p0 : Int32} (hX : gOk B X RX11 cX11_isPower 1 1 (some .boolean)) : gH B X (fun r : Int32 => gFin X (some (.int r)) (ws)) 0 [(0, .int p0)] [] (ws) (f_M_isPower p0) := by
  unfold f_M_isPower
  refine h_iload_n hX dX11_isPower_0 rfl rfl ?_
  refine h_iconst hX dX11_isPower_1 ki_1 ?_
  refine h_bipush hX dX11_isPower_2 kb_9 ?_
  refine h_callSi hX dX11_isPower_4 (cs_RX11_208) (As := [.int p0, .int 1, .int 9]) (st := []) (fun _ h => c_M_in h) rfl rfl (by decide) (Nat.le_of_ble_eq_true rfl) (fun a_1 => ?_)
  exact h_retz hX dX11_isPower_7 (fun h => h)
theorem c_M_isPower {p0 : Int32} {r : Int32} (h : f_M_isPower p0 = some r) : gMet B 1 yX11_isPower cX11_isPower 1 (some .boolean) [.int p0] (ws) (some (.int r)) (ws) :=
  gMet.of rfl (Nat.le_of_ble_eq_true rfl) (fun X hX hF => w_M_isPower hX r h hF)
set_option maxRecDepth 4000 in
theorem w_M_isSign {p0 : Int32} (hX : gOk B X RX11 cX11_isSign 1 0 (some .boolean)) : gH B X (fun r : Int32 => gFin X (some (.int r)) (ws)) 0 [(0, .int p0)] [] (ws) (f_M_isSign p0) := by
  unfold f_M_isSign
  refine h_iload_n hX dX11_isSign_0 rfl rfl ?_
  refine h_bipush hX dX11_isSign_1 kb_61 ?_
  refine h_icmp_eq hX dX11_isSign_3 (tgt := 18) (by decide) (fun _ => ?_) (fun _ => ?_)
  · refine h_iconst hX dX11_isSign_18 ki_1 ?_
    refine h_goto hX dX11_isSign_19 (tgt := 23) (by decide) ?_
    exact h_ret hX (rv := some (.int 1)) dX11_isSign_23 rfl (fun h => h)
  · refine h_iload_n hX dX11_isSign_6 rfl rfl ?_
    refine h_bipush hX dX11_isSign_7 kb_60 ?_
    refine h_icmp_eq hX dX11_isSign_9 (tgt := 18) (by decide) (fun _ => ?_) (fun _ => ?_)
    · refine h_iconst hX dX11_isSign_18 ki_1 ?_
      refine h_goto hX dX11_isSign_19 (tgt := 23) (by decide) ?_
      exact h_ret hX (rv := some (.int 1)) dX11_isSign_23 rfl (fun h => h)
    · refine h_iload_n hX dX11_isSign_12 rfl rfl ?_
      refine h_bipush hX dX11_isSign_13 kb_62 ?_
      refine h_icmp_ne hX dX11_isSign_15 (tgt := 22) (by decide) (fun _ => ?_) (fun _ => ?_)
      · refine h_iconst hX dX11_isSign_22 ki_0 ?_
        exact h_ret hX (rv := some (.int 0)) dX11_isSign_23 rfl (fun h => h)
      · refine h_iconst hX dX11_isSign_18 ki_1 ?_
        refine h_goto hX dX11_isSign_19 (tgt := 23) (by decide) ?_
        exact h_ret hX (rv := some (.int 1)) dX11_isSign_23 rfl (fun h => h)
theorem c_M_isSign {p0 : Int32} {r : Int32} (h : f_M_isSign p0 = some r) : gMet B 0 yX11_isSign cX11_isSign 1 (some .boolean) [.int p0] (ws) (some (.int r)) (ws) :=
  gMet.of rfl (Nat.le_of_ble_eq_true rfl) (fun X hX hF => w_M_isSign hX r h hF)
set_option maxRecDepth 4000 in
theorem w_M_itemOf {p0 : Int32} {p1 : Int32} (hX : gOk B X RX11 cX11_itemOf 2 0 (some .int)) : gH B X (fun r : Int32 => gFin X (some (.int r)) (ws)) 0 [(0, .int p0), (1, .int p1)] [] (ws) (f_M_itemOf p0 p1) := by
  unfold f_M_itemOf
  refine h_iload_n hX dX11_itemOf_0 rfl rfl ?_
  refine gH.ite (fun hc98 => ?_) (fun hc98 => ?_)
  · refine h_lksw hX dX11_itemOf_1 (by decide) (by rw [hc98]; decide) (off := 67) (tgt := 68) (by decide) ?_
    refine h_iload_n hX dX11_itemOf_68 rfl rfl ?_
    refine h_bipush hX dX11_itemOf_69 kb_107 ?_
    refine h_icmp_ne hX dX11_itemOf_71 (tgt := 78) (by decide) (fun _ => ?_) (fun _ => ?_)
    · refine h_iload_n hX dX11_itemOf_78 rfl rfl ?_
      refine h_bipush hX dX11_itemOf_79 kb_112 ?_
      refine h_icmp_ne hX dX11_itemOf_81 (tgt := 88) (by decide) (fun _ => ?_) (fun _ => ?_)
      · refine h_iconst hX dX11_itemOf_88 ki_m1 ?_
        exact h_ret hX (rv := some (.int ((-1)))) dX11_itemOf_89 trivial (fun h => h)
      · refine h_iconst hX dX11_itemOf_84 ki_1 ?_
        refine h_goto hX dX11_itemOf_85 (tgt := 89) (by decide) ?_
        exact h_ret hX (rv := some (.int 1)) dX11_itemOf_89 trivial (fun h => h)
    · refine h_iconst hX dX11_itemOf_74 ki_0 ?_
      refine h_goto hX dX11_itemOf_75 (tgt := 89) (by decide) ?_
      exact h_ret hX (rv := some (.int 0)) dX11_itemOf_89 trivial (fun h => h)
  refine gH.ite (fun hc109 => ?_) (fun hc109 => ?_)
  · refine h_lksw hX dX11_itemOf_1 (by decide) (by rw [hc109]; decide) (off := 89) (tgt := 90) (by decide) ?_
    refine h_iload_n hX dX11_itemOf_90 rfl rfl ?_
    refine h_bipush hX dX11_itemOf_91 kb_111 ?_
    refine h_icmp_ne hX dX11_itemOf_93 (tgt := 100) (by decide) (fun _ => ?_) (fun _ => ?_)
    · refine h_iload_n hX dX11_itemOf_100 rfl rfl ?_
      refine h_bipush hX dX11_itemOf_101 kb_119 ?_
      refine h_icmp_ne hX dX11_itemOf_103 (tgt := 110) (by decide) (fun _ => ?_) (fun _ => ?_)
      · refine h_iload_n hX dX11_itemOf_110 rfl rfl ?_
        refine h_bipush hX dX11_itemOf_111 kb_115 ?_
        refine h_icmp_ne hX dX11_itemOf_113 (tgt := 120) (by decide) (fun _ => ?_) (fun _ => ?_)
        · refine h_iconst hX dX11_itemOf_120 ki_m1 ?_
          exact h_ret hX (rv := some (.int ((-1)))) dX11_itemOf_121 trivial (fun h => h)
        · refine h_iconst hX dX11_itemOf_116 ki_2 ?_
          refine h_goto hX dX11_itemOf_117 (tgt := 121) (by decide) ?_
          exact h_ret hX (rv := some (.int 2)) dX11_itemOf_121 trivial (fun h => h)
      · refine h_iconst hX dX11_itemOf_106 ki_1 ?_
        refine h_goto hX dX11_itemOf_107 (tgt := 121) (by decide) ?_
        exact h_ret hX (rv := some (.int 1)) dX11_itemOf_121 trivial (fun h => h)
    · refine h_iconst hX dX11_itemOf_96 ki_0 ?_
      refine h_goto hX dX11_itemOf_97 (tgt := 121) (by decide) ?_
      exact h_ret hX (rv := some (.int 0)) dX11_itemOf_121 trivial (fun h => h)
  refine gH.ite (fun hc115 => ?_) (fun hc115 => ?_)
  · refine h_lksw hX dX11_itemOf_1 (by decide) (by rw [hc115]; decide) (off := 35) (tgt := 36) (by decide) ?_
    refine h_iload_n hX dX11_itemOf_36 rfl rfl ?_
    refine h_bipush hX dX11_itemOf_37 kb_108 ?_
    refine h_icmp_ne hX dX11_itemOf_39 (tgt := 46) (by decide) (fun _ => ?_) (fun _ => ?_)
    · refine h_iload_n hX dX11_itemOf_46 rfl rfl ?_
      refine h_bipush hX dX11_itemOf_47 kb_114 ?_
      refine h_icmp_ne hX dX11_itemOf_49 (tgt := 56) (by decide) (fun _ => ?_) (fun _ => ?_)
      · refine h_iload_n hX dX11_itemOf_56 rfl rfl ?_
        refine h_bipush hX dX11_itemOf_57 kb_99 ?_
        refine h_icmp_ne hX dX11_itemOf_59 (tgt := 66) (by decide) (fun _ => ?_) (fun _ => ?_)
        · refine h_iconst hX dX11_itemOf_66 ki_m1 ?_
          exact h_ret hX (rv := some (.int ((-1)))) dX11_itemOf_67 trivial (fun h => h)
        · refine h_iconst hX dX11_itemOf_62 ki_2 ?_
          refine h_goto hX dX11_itemOf_63 (tgt := 67) (by decide) ?_
          exact h_ret hX (rv := some (.int 2)) dX11_itemOf_67 trivial (fun h => h)
      · refine h_iconst hX dX11_itemOf_52 ki_1 ?_
        refine h_goto hX dX11_itemOf_53 (tgt := 67) (by decide) ?_
        exact h_ret hX (rv := some (.int 1)) dX11_itemOf_67 trivial (fun h => h)
    · refine h_iconst hX dX11_itemOf_42 ki_0 ?_
      refine h_goto hX dX11_itemOf_43 (tgt := 67) (by decide) ?_
      exact h_ret hX (rv := some (.int 0)) dX11_itemOf_67 trivial (fun h => h)
  refine h_lkdef hX dX11_itemOf_1 (by decide) (cs := [98, 109, 115]) (by decide) (List.forall_mem_cons.mpr ⟨hc98, (List.forall_mem_cons.mpr ⟨hc109, (List.forall_mem_cons.mpr ⟨hc115, fun _ h => absurd h List.not_mem_nil⟩)⟩)⟩) (tgt := 122) (by decide) ?_
  refine h_iload_n hX dX11_itemOf_122 rfl rfl ?_
  refine h_bipush hX dX11_itemOf_123 kb_112 ?_
  refine h_icmp_ne hX dX11_itemOf_125 (tgt := 132) (by decide) (fun _ => ?_) (fun _ => ?_)
  · refine h_iload_n hX dX11_itemOf_132 rfl rfl ?_
    refine h_bipush hX dX11_itemOf_133 kb_119 ?_
    refine h_icmp_ne hX dX11_itemOf_135 (tgt := 142) (by decide) (fun _ => ?_) (fun _ => ?_)
    · refine h_iload_n hX dX11_itemOf_142 rfl rfl ?_
      refine h_bipush hX dX11_itemOf_143 kb_110 ?_
      refine h_icmp_ne hX dX11_itemOf_145 (tgt := 152) (by decide) (fun _ => ?_) (fun _ => ?_)
      · refine h_iconst hX dX11_itemOf_152 ki_m1 ?_
        exact h_ret hX (rv := some (.int ((-1)))) dX11_itemOf_153 trivial (fun h => h)
      · refine h_iconst hX dX11_itemOf_148 ki_2 ?_
        refine h_goto hX dX11_itemOf_149 (tgt := 153) (by decide) ?_
        exact h_ret hX (rv := some (.int 2)) dX11_itemOf_153 trivial (fun h => h)
    · refine h_iconst hX dX11_itemOf_138 ki_1 ?_
      refine h_goto hX dX11_itemOf_139 (tgt := 153) (by decide) ?_
      exact h_ret hX (rv := some (.int 1)) dX11_itemOf_153 trivial (fun h => h)
  · refine h_iconst hX dX11_itemOf_128 ki_0 ?_
    refine h_goto hX dX11_itemOf_129 (tgt := 153) (by decide) ?_
    exact h_ret hX (rv := some (.int 0)) dX11_itemOf_153 trivial (fun h => h)
theorem c_M_itemOf {p0 : Int32} {p1 : Int32} {r : Int32} (h : f_M_itemOf p0 p1 = some r) : gMet B 0 yX11_itemOf cX11_itemOf 2 (some .int) [.int p0, .int p1] (ws) (some (.int r)) (ws) :=
  gMet.of rfl (Nat.le_of_ble_eq_true rfl) (fun X hX hF => w_M_itemOf hX r h hF)
set_option maxRecDepth 4000 in
theorem w_M_letterOf {p0 : Int32} (hX : gOk B X RX11 cX11_letterOf 1 0 (some .int)) : gH B X (fun r : Int32 => gFin X (some (.int r)) (ws)) 0 [(0, .int p0)] [] (ws) (f_M_letterOf p0) := by
  unfold f_M_letterOf
  refine h_iload_n hX dX11_letterOf_0 rfl rfl ?_
  refine h_bipush hX dX11_letterOf_1 kb_112 ?_
  refine h_icmp_ne hX dX11_letterOf_3 (tgt := 10) (by decide) (fun _ => ?_) (fun _ => ?_)
  · refine h_iload_n hX dX11_letterOf_10 rfl rfl ?_
    refine h_bipush hX dX11_letterOf_11 kb_107 ?_
    refine h_icmp_ne hX dX11_letterOf_13 (tgt := 20) (by decide) (fun _ => ?_) (fun _ => ?_)
    · refine h_iload_n hX dX11_letterOf_20 rfl rfl ?_
      refine h_bipush hX dX11_letterOf_21 kb_115 ?_
      refine h_icmp_ne hX dX11_letterOf_23 (tgt := 30) (by decide) (fun _ => ?_) (fun _ => ?_)
      · refine h_iload_n hX dX11_letterOf_30 rfl rfl ?_
        refine h_bipush hX dX11_letterOf_31 kb_99 ?_
        refine h_icmp_ne hX dX11_letterOf_33 (tgt := 40) (by decide) (fun _ => ?_) (fun _ => ?_)
        · refine h_iload_n hX dX11_letterOf_40 rfl rfl ?_
          refine h_bipush hX dX11_letterOf_41 kb_104 ?_
          refine h_icmp_ne hX dX11_letterOf_43 (tgt := 50) (by decide) (fun _ => ?_) (fun _ => ?_)
          · refine h_iload_n hX dX11_letterOf_50 rfl rfl ?_
            refine h_bipush hX dX11_letterOf_51 kb_100 ?_
            refine h_icmp_ne hX dX11_letterOf_53 (tgt := 60) (by decide) (fun _ => ?_) (fun _ => ?_)
            · refine h_iconst hX dX11_letterOf_60 ki_m1 ?_
              exact h_ret hX (rv := some (.int ((-1)))) dX11_letterOf_61 trivial (fun h => h)
            · refine h_iconst hX dX11_letterOf_56 ki_5 ?_
              refine h_goto hX dX11_letterOf_57 (tgt := 61) (by decide) ?_
              exact h_ret hX (rv := some (.int 5)) dX11_letterOf_61 trivial (fun h => h)
          · refine h_iconst hX dX11_letterOf_46 ki_4 ?_
            refine h_goto hX dX11_letterOf_47 (tgt := 61) (by decide) ?_
            exact h_ret hX (rv := some (.int 4)) dX11_letterOf_61 trivial (fun h => h)
        · refine h_iconst hX dX11_letterOf_36 ki_3 ?_
          refine h_goto hX dX11_letterOf_37 (tgt := 61) (by decide) ?_
          exact h_ret hX (rv := some (.int 3)) dX11_letterOf_61 trivial (fun h => h)
      · refine h_iconst hX dX11_letterOf_26 ki_2 ?_
        refine h_goto hX dX11_letterOf_27 (tgt := 61) (by decide) ?_
        exact h_ret hX (rv := some (.int 2)) dX11_letterOf_61 trivial (fun h => h)
    · refine h_iconst hX dX11_letterOf_16 ki_1 ?_
      refine h_goto hX dX11_letterOf_17 (tgt := 61) (by decide) ?_
      exact h_ret hX (rv := some (.int 1)) dX11_letterOf_61 trivial (fun h => h)
  · refine h_iconst hX dX11_letterOf_6 ki_0 ?_
    refine h_goto hX dX11_letterOf_7 (tgt := 61) (by decide) ?_
    exact h_ret hX (rv := some (.int 0)) dX11_letterOf_61 trivial (fun h => h)
theorem c_M_letterOf {p0 : Int32} {r : Int32} (h : f_M_letterOf p0 = some r) : gMet B 0 yX11_letterOf cX11_letterOf 1 (some .int) [.int p0] (ws) (some (.int r)) (ws) :=
  gMet.of rfl (Nat.le_of_ble_eq_true rfl) (fun X hX hF => w_M_letterOf hX r h hF)
set_option maxRecDepth 4000 in
theorem w_M_lowest {p0 : Int32} {p1 : Int32} (hX : gOk B X RX11 cX11_lowest 2 0 (some .int)) : gH B X (fun r : Int32 => gFin X (some (.int r)) (ws)) 0 [(0, .int p0), (1, .int p1)] [] (ws) (f_M_lowest p0 p1) := by
  unfold f_M_lowest
  refine h_iload_n hX dX11_lowest_0 rfl rfl ?_
  refine gH.ite (fun hc98 => ?_) (fun hc98 => ?_)
  · refine h_lksw hX dX11_lowest_1 (by decide) (by rw [hc98]; decide) (off := 54) (tgt := 55) (by decide) ?_
    refine h_iload_n hX dX11_lowest_55 rfl rfl ?_
    refine h_if_ne hX dX11_lowest_56 (tgt := 63) (by decide) (fun _ => ?_) (fun _ => ?_)
    · refine h_iconst hX dX11_lowest_63 ki_0 ?_
      exact h_ret hX (rv := some (.int 0)) dX11_lowest_64 trivial (fun h => h)
    · refine h_iconst hX dX11_lowest_59 ki_1 ?_
      refine h_goto hX dX11_lowest_60 (tgt := 64) (by decide) ?_
      exact h_ret hX (rv := some (.int 1)) dX11_lowest_64 trivial (fun h => h)
  refine gH.ite (fun hc109 => ?_) (fun hc109 => ?_)
  · refine h_lksw hX dX11_lowest_1 (by decide) (by rw [hc109]; decide) (off := 64) (tgt := 65) (by decide) ?_
    refine h_iload_n hX dX11_lowest_65 rfl rfl ?_
    refine h_iconst hX dX11_lowest_66 ki_2 ?_
    refine h_icmp_ne hX dX11_lowest_67 (tgt := 74) (by decide) (fun _ => ?_) (fun _ => ?_)
    · refine h_iconst hX dX11_lowest_74 ki_0 ?_
      exact h_ret hX (rv := some (.int 0)) dX11_lowest_75 trivial (fun h => h)
    · refine h_iconst hX dX11_lowest_70 ki_1 ?_
      refine h_goto hX dX11_lowest_71 (tgt := 75) (by decide) ?_
      exact h_ret hX (rv := some (.int 1)) dX11_lowest_75 trivial (fun h => h)
  refine gH.ite (fun hc115 => ?_) (fun hc115 => ?_)
  · refine h_lksw hX dX11_lowest_1 (by decide) (by rw [hc115]; decide) (off := 35) (tgt := 36) (by decide) ?_
    refine h_iload_n hX dX11_lowest_36 rfl rfl ?_
    refine h_if_ne hX dX11_lowest_37 (tgt := 44) (by decide) (fun _ => ?_) (fun _ => ?_)
    · refine h_iload_n hX dX11_lowest_44 rfl rfl ?_
      refine h_iconst hX dX11_lowest_45 ki_1 ?_
      refine h_icmp_ne hX dX11_lowest_46 (tgt := 53) (by decide) (fun _ => ?_) (fun _ => ?_)
      · refine h_iconst hX dX11_lowest_53 ki_0 ?_
        exact h_ret hX (rv := some (.int 0)) dX11_lowest_54 trivial (fun h => h)
      · refine h_iconst hX dX11_lowest_49 ki_1 ?_
        refine h_goto hX dX11_lowest_50 (tgt := 54) (by decide) ?_
        exact h_ret hX (rv := some (.int 1)) dX11_lowest_54 trivial (fun h => h)
    · refine h_iconst hX dX11_lowest_40 ki_3 ?_
      refine h_goto hX dX11_lowest_41 (tgt := 54) (by decide) ?_
      exact h_ret hX (rv := some (.int 3)) dX11_lowest_54 trivial (fun h => h)
  refine h_lkdef hX dX11_lowest_1 (by decide) (cs := [98, 109, 115]) (by decide) (List.forall_mem_cons.mpr ⟨hc98, (List.forall_mem_cons.mpr ⟨hc109, (List.forall_mem_cons.mpr ⟨hc115, fun _ h => absurd h List.not_mem_nil⟩)⟩)⟩) (tgt := 76) (by decide) ?_
  refine h_iconst hX dX11_lowest_76 ki_0 ?_
  exact h_ret hX (rv := some (.int 0)) dX11_lowest_77 trivial (fun h => h)
theorem c_M_lowest {p0 : Int32} {p1 : Int32} {r : Int32} (h : f_M_lowest p0 p1 = some r) : gMet B 0 yX11_lowest cX11_lowest 2 (some .int) [.int p0, .int p1] (ws) (some (.int r)) (ws) :=
  gMet.of rfl (Nat.le_of_ble_eq_true rfl) (fun X hX hF => w_M_lowest hX r h hF)
set_option maxRecDepth 4000 in
theorem w_M_partBy {p0 : Int32} {p1 : Int32} {p2 : Int32} (hX : gOk B X RX11 cX11_partBy 4 0 (some .int)) : gH B X (fun r : Int32 => gFin X (some (.int r)) (ws)) 0 [(0, .int p0), (1, .int p1), (2, .int p2)] [] (ws) (f_M_partBy p0 p1 p2) := by
  unfold f_M_partBy
  refine h_iload_n hX dX11_partBy_0 rfl rfl ?_
  refine h_i2l hX dX11_partBy_1 ?_
  refine h_iload_n hX dX11_partBy_2 rfl rfl ?_
  refine h_i2l hX dX11_partBy_3 ?_
  refine h_lmul hX dX11_partBy_4 ?_
  refine h_ldc2 hX dX11_partBy_5 cstl_RX11_445 ?_
  refine h_ldivc hX dX11_partBy_8 (by decide) ?_
  refine h_l2i hX dX11_partBy_9 ?_
  refine gH.leti (fun v3_1 => ?_)
  refine h_istore_n hX dX11_partBy_10 rfl (by decide) (lv' := [(0, .int p0), (1, .int p1), (2, .int p2), (3, .int v3_1)]) rfl ?_
  refine h_iload_n hX dX11_partBy_11 rfl rfl ?_
  refine h_if_ne hX dX11_partBy_12 (tgt := 21) (by decide) (fun _ => ?_) (fun _ => ?_)
  · refine h_iload_n hX dX11_partBy_21 rfl rfl ?_
    refine h_iconst hX dX11_partBy_22 ki_1 ?_
    refine h_icmp_ne hX dX11_partBy_23 (tgt := 32) (by decide) (fun _ => ?_) (fun _ => ?_)
    · refine h_iload_n hX dX11_partBy_32 rfl rfl ?_
      refine h_iload_n hX dX11_partBy_33 rfl rfl ?_
      refine h_iconst hX dX11_partBy_34 ki_2 ?_
      refine h_idivc hX dX11_partBy_35 (by decide) ?_
      refine h_isub hX dX11_partBy_36 ?_
      exact h_ret hX (rv := some (.int (v3_1 - (v3_1 / 2)))) dX11_partBy_37 trivial (fun h => h)
    · refine h_iload_n hX dX11_partBy_26 rfl rfl ?_
      refine h_iconst hX dX11_partBy_27 ki_2 ?_
      refine h_idivc hX dX11_partBy_28 (by decide) ?_
      refine h_goto hX dX11_partBy_29 (tgt := 37) (by decide) ?_
      exact h_ret hX (rv := some (.int (v3_1 / 2))) dX11_partBy_37 trivial (fun h => h)
  · refine h_iload_n hX dX11_partBy_15 rfl rfl ?_
    refine h_iload_n hX dX11_partBy_16 rfl rfl ?_
    refine h_isub hX dX11_partBy_17 ?_
    refine h_goto hX dX11_partBy_18 (tgt := 37) (by decide) ?_
    exact h_ret hX (rv := some (.int (p0 - v3_1))) dX11_partBy_37 trivial (fun h => h)
theorem c_M_partBy {p0 : Int32} {p1 : Int32} {p2 : Int32} {r : Int32} (h : f_M_partBy p0 p1 p2 = some r) : gMet B 0 yX11_partBy cX11_partBy 4 (some .int) [.int p0, .int p1, .int p2] (ws) (some (.int r)) (ws) :=
  gMet.of rfl (Nat.le_of_ble_eq_true rfl) (fun X hX hF => w_M_partBy hX r h hF)
set_option maxRecDepth 4000 in
theorem w_M_usual {p0 : Int32} {p1 : Int32} (hX : gOk B X RX11 cX11_usual 2 0 (some .int)) : gH B X (fun r : Int32 => gFin X (some (.int r)) (ws)) 0 [(0, .int p0), (1, .int p1)] [] (ws) (f_M_usual p0 p1) := by
  unfold f_M_usual
  refine h_iload_n hX dX11_usual_0 rfl rfl ?_
  refine gH.ite (fun hc98 => ?_) (fun hc98 => ?_)
  · refine h_lksw hX dX11_usual_1 (by decide) (by rw [hc98]; decide) (off := 56) (tgt := 57) (by decide) ?_
    refine h_iload_n hX dX11_usual_57 rfl rfl ?_
    refine h_if_ne hX dX11_usual_58 (tgt := 65) (by decide) (fun _ => ?_) (fun _ => ?_)
    · refine h_iconst hX dX11_usual_65 ki_0 ?_
      exact h_ret hX (rv := some (.int 0)) dX11_usual_66 trivial (fun h => h)
    · refine h_iconst hX dX11_usual_61 ki_5 ?_
      refine h_goto hX dX11_usual_62 (tgt := 66) (by decide) ?_
      exact h_ret hX (rv := some (.int 5)) dX11_usual_66 trivial (fun h => h)
  refine gH.ite (fun hc109 => ?_) (fun hc109 => ?_)
  · refine h_lksw hX dX11_usual_1 (by decide) (by rw [hc109]; decide) (off := 66) (tgt := 67) (by decide) ?_
    refine h_iload_n hX dX11_usual_67 rfl rfl ?_
    refine h_iconst hX dX11_usual_68 ki_2 ?_
    refine h_icmp_ne hX dX11_usual_69 (tgt := 76) (by decide) (fun _ => ?_) (fun _ => ?_)
    · refine h_iconst hX dX11_usual_76 ki_0 ?_
      exact h_ret hX (rv := some (.int 0)) dX11_usual_77 trivial (fun h => h)
    · refine h_iconst hX dX11_usual_72 ki_3 ?_
      refine h_goto hX dX11_usual_73 (tgt := 77) (by decide) ?_
      exact h_ret hX (rv := some (.int 3)) dX11_usual_77 trivial (fun h => h)
  refine gH.ite (fun hc115 => ?_) (fun hc115 => ?_)
  · refine h_lksw hX dX11_usual_1 (by decide) (by rw [hc115]; decide) (off := 35) (tgt := 36) (by decide) ?_
    refine h_iload_n hX dX11_usual_36 rfl rfl ?_
    refine h_if_ne hX dX11_usual_37 (tgt := 45) (by decide) (fun _ => ?_) (fun _ => ?_)
    · refine h_iload_n hX dX11_usual_45 rfl rfl ?_
      refine h_iconst hX dX11_usual_46 ki_1 ?_
      refine h_icmp_ne hX dX11_usual_47 (tgt := 54) (by decide) (fun _ => ?_) (fun _ => ?_)
      · refine h_bipush hX dX11_usual_54 kb_10 ?_
        exact h_ret hX (rv := some (.int 10)) dX11_usual_56 trivial (fun h => h)
      · refine h_iconst hX dX11_usual_50 ki_3 ?_
        refine h_goto hX dX11_usual_51 (tgt := 56) (by decide) ?_
        exact h_ret hX (rv := some (.int 3)) dX11_usual_56 trivial (fun h => h)
    · refine h_bipush hX dX11_usual_40 kb_12 ?_
      refine h_goto hX dX11_usual_42 (tgt := 56) (by decide) ?_
      exact h_ret hX (rv := some (.int 12)) dX11_usual_56 trivial (fun h => h)
  refine h_lkdef hX dX11_usual_1 (by decide) (cs := [98, 109, 115]) (by decide) (List.forall_mem_cons.mpr ⟨hc98, (List.forall_mem_cons.mpr ⟨hc109, (List.forall_mem_cons.mpr ⟨hc115, fun _ h => absurd h List.not_mem_nil⟩)⟩)⟩) (tgt := 78) (by decide) ?_
  refine h_iload_n hX dX11_usual_78 rfl rfl ?_
  refine h_iconst hX dX11_usual_79 ki_2 ?_
  refine h_icmp_ne hX dX11_usual_80 (tgt := 87) (by decide) (fun _ => ?_) (fun _ => ?_)
  · refine h_iconst hX dX11_usual_87 ki_0 ?_
    exact h_ret hX (rv := some (.int 0)) dX11_usual_88 trivial (fun h => h)
  · refine h_iconst hX dX11_usual_83 ki_2 ?_
    refine h_goto hX dX11_usual_84 (tgt := 88) (by decide) ?_
    exact h_ret hX (rv := some (.int 2)) dX11_usual_88 trivial (fun h => h)
theorem c_M_usual {p0 : Int32} {p1 : Int32} {r : Int32} (h : f_M_usual p0 p1 = some r) : gMet B 0 yX11_usual cX11_usual 2 (some .int) [.int p0, .int p1] (ws) (some (.int r)) (ws) :=
  gMet.of rfl (Nat.le_of_ble_eq_true rfl) (fun X hX hF => w_M_usual hX r h hF)
set_option maxRecDepth 4000 in
theorem w_M_worked {p0 : Int32} {p1 : Int64} {p2 : Int64} (hX : gOk B X RX11 cX11_worked 5 2 (some .int)) : gH B X (fun r : Int32 => gFin X (some (.int r)) (ws)) 0 [(0, .int p0), (1, .long p1), (3, .long p2)] [] (ws) (f_M_worked p0 p1 p2) := by
  unfold f_M_worked
  refine h_iload_n hX dX11_worked_0 rfl rfl ?_
  refine gH.ite (fun hc2 => ?_) (fun hc2 => ?_)
  · refine h_tsin hX dX11_worked_1 hc2 (by decide) (by decide) rfl (tgt := 52) (by decide) ?_
    refine h_lload_n hX dX11_worked_52 rfl rfl ?_
    refine h_lload_n hX dX11_worked_53 rfl rfl ?_
    refine h_ladd hX dX11_worked_54 ?_
    refine h_callSi hX dX11_worked_55 (cs_RX11_196) (As := [.long (p1 + p2)]) (st := []) (fun _ h => c_M_bounded h) rfl rfl (by decide) (Nat.le_of_ble_eq_true rfl) (fun a_1 => ?_)
    exact h_ret hX (rv := some (.int a_1)) dX11_worked_58 trivial (fun h => h)
  refine gH.ite (fun hc3 => ?_) (fun hc3 => ?_)
  · refine h_tsin hX dX11_worked_1 hc3 (by decide) (by decide) rfl (tgt := 59) (by decide) ?_
    refine h_lload_n hX dX11_worked_59 rfl rfl ?_
    refine h_lload_n hX dX11_worked_60 rfl rfl ?_
    refine h_lsub hX dX11_worked_61 ?_
    refine h_callSi hX dX11_worked_62 (cs_RX11_196) (As := [.long (p1 - p2)]) (st := []) (fun _ h => c_M_bounded h) rfl rfl (by decide) (Nat.le_of_ble_eq_true rfl) (fun a_2 => ?_)
    exact h_ret hX (rv := some (.int a_2)) dX11_worked_65 trivial (fun h => h)
  refine gH.ite (fun hc4 => ?_) (fun hc4 => ?_)
  · refine h_tsin hX dX11_worked_1 hc4 (by decide) (by decide) rfl (tgt := 66) (by decide) ?_
    refine h_lload_n hX dX11_worked_66 rfl rfl ?_
    refine h_lload_n hX dX11_worked_67 rfl rfl ?_
    refine h_lmul hX dX11_worked_68 ?_
    refine h_callSi hX dX11_worked_69 (cs_RX11_196) (As := [.long (p1 * p2)]) (st := []) (fun _ h => c_M_bounded h) rfl rfl (by decide) (Nat.le_of_ble_eq_true rfl) (fun a_3 => ?_)
    exact h_ret hX (rv := some (.int a_3)) dX11_worked_72 trivial (fun h => h)
  refine gH.ite (fun hc5 => ?_) (fun hc5 => ?_)
  · refine h_tsin hX dX11_worked_1 hc5 (by decide) (by decide) rfl (tgt := 73) (by decide) ?_
    refine h_lload_n hX dX11_worked_73 rfl rfl ?_
    refine h_lconst hX dX11_worked_74 rfl ?_
    refine h_lcmp hX dX11_worked_75 ?_
    refine h_if_ne hX dX11_worked_76 (tgt := 83) (by decide) (fun _ => ?_) (fun _ => ?_)
    · refine h_lload_n hX dX11_worked_83 rfl rfl ?_
      refine h_lload_n hX dX11_worked_84 rfl rfl ?_
      refine h_ldiv hX dX11_worked_85 ?_
      refine h_callSi hX dX11_worked_86 (cs_RX11_196) (As := [.long (p1 / p2)]) (st := []) (fun _ h => c_M_bounded h) rfl rfl (by decide) (Nat.le_of_ble_eq_true rfl) (fun a_4 => ?_)
      exact h_ret hX (rv := some (.int a_4)) dX11_worked_89 trivial (fun h => h)
    · refine h_iconst hX dX11_worked_79 ki_0 ?_
      refine h_goto hX dX11_worked_80 (tgt := 89) (by decide) ?_
      exact h_ret hX (rv := some (.int 0)) dX11_worked_89 trivial (fun h => h)
  refine gH.ite (fun hc6 => ?_) (fun hc6 => ?_)
  · refine h_tsin hX dX11_worked_1 hc6 (by decide) (by decide) rfl (tgt := 90) (by decide) ?_
    refine h_lload_n hX dX11_worked_90 rfl rfl ?_
    refine h_lload_n hX dX11_worked_91 rfl rfl ?_
    refine h_lcmp hX dX11_worked_92 ?_
    refine h_if_ne hX dX11_worked_93 (tgt := 100) (by decide) (fun _ => ?_) (fun _ => ?_)
    · refine h_iconst hX dX11_worked_100 ki_0 ?_
      exact h_ret hX (rv := some (.int 0)) dX11_worked_101 trivial (fun h => h)
    · refine h_iconst hX dX11_worked_96 ki_1 ?_
      refine h_goto hX dX11_worked_97 (tgt := 101) (by decide) ?_
      exact h_ret hX (rv := some (.int 1)) dX11_worked_101 trivial (fun h => h)
  refine gH.ite (fun hc7 => ?_) (fun hc7 => ?_)
  · refine h_tsin hX dX11_worked_1 hc7 (by decide) (by decide) rfl (tgt := 102) (by decide) ?_
    refine h_lload_n hX dX11_worked_102 rfl rfl ?_
    refine h_lload_n hX dX11_worked_103 rfl rfl ?_
    refine h_lcmp hX dX11_worked_104 ?_
    refine h_if_ge hX dX11_worked_105 (tgt := 112) (by decide) (fun _ => ?_) (fun _ => ?_)
    · refine h_iconst hX dX11_worked_112 ki_0 ?_
      exact h_ret hX (rv := some (.int 0)) dX11_worked_113 trivial (fun h => h)
    · refine h_iconst hX dX11_worked_108 ki_1 ?_
      refine h_goto hX dX11_worked_109 (tgt := 113) (by decide) ?_
      exact h_ret hX (rv := some (.int 1)) dX11_worked_113 trivial (fun h => h)
  refine gH.ite (fun hc8 => ?_) (fun hc8 => ?_)
  · refine h_tsin hX dX11_worked_1 hc8 (by decide) (by decide) rfl (tgt := 114) (by decide) ?_
    refine h_lload_n hX dX11_worked_114 rfl rfl ?_
    refine h_lload_n hX dX11_worked_115 rfl rfl ?_
    refine h_lcmp hX dX11_worked_116 ?_
    refine h_if_le hX dX11_worked_117 (tgt := 124) (by decide) (fun _ => ?_) (fun _ => ?_)
    · refine h_iconst hX dX11_worked_124 ki_0 ?_
      exact h_ret hX (rv := some (.int 0)) dX11_worked_125 trivial (fun h => h)
    · refine h_iconst hX dX11_worked_120 ki_1 ?_
      refine h_goto hX dX11_worked_121 (tgt := 125) (by decide) ?_
      exact h_ret hX (rv := some (.int 1)) dX11_worked_125 trivial (fun h => h)
  refine gH.ite (fun hc10 => ?_) (fun hc10 => ?_)
  · refine h_tsin hX dX11_worked_1 hc10 (by decide) (by decide) rfl (tgt := 126) (by decide) ?_
    refine h_lload_n hX dX11_worked_126 rfl rfl ?_
    refine h_lconst hX dX11_worked_127 rfl ?_
    refine h_lcmp hX dX11_worked_128 ?_
    refine h_if_eq hX dX11_worked_129 (tgt := 142) (by decide) (fun _ => ?_) (fun _ => ?_)
    · refine h_iconst hX dX11_worked_142 ki_0 ?_
      exact h_ret hX (rv := some (.int 0)) dX11_worked_143 trivial (fun h => h)
    · refine h_lload_n hX dX11_worked_132 rfl rfl ?_
      refine h_lconst hX dX11_worked_133 rfl ?_
      refine h_lcmp hX dX11_worked_134 ?_
      refine h_if_eq hX dX11_worked_135 (tgt := 142) (by decide) (fun _ => ?_) (fun _ => ?_)
      · refine h_iconst hX dX11_worked_142 ki_0 ?_
        exact h_ret hX (rv := some (.int 0)) dX11_worked_143 trivial (fun h => h)
      · refine h_iconst hX dX11_worked_138 ki_1 ?_
        refine h_goto hX dX11_worked_139 (tgt := 143) (by decide) ?_
        exact h_ret hX (rv := some (.int 1)) dX11_worked_143 trivial (fun h => h)
  refine h_tsdef hX dX11_worked_1 (cs := [2, 3, 4, 5, 6, 7, 8, 10]) (by decide) (by decide) (List.forall_mem_cons.mpr ⟨hc2, (List.forall_mem_cons.mpr ⟨hc3, (List.forall_mem_cons.mpr ⟨hc4, (List.forall_mem_cons.mpr ⟨hc5, (List.forall_mem_cons.mpr ⟨hc6, (List.forall_mem_cons.mpr ⟨hc7, (List.forall_mem_cons.mpr ⟨hc8, (List.forall_mem_cons.mpr ⟨hc10, fun _ h => absurd h List.not_mem_nil⟩)⟩)⟩)⟩)⟩)⟩)⟩)⟩) (tgt := 144) (by decide) ?_
  refine h_lload_n hX dX11_worked_144 rfl rfl ?_
  refine h_lconst hX dX11_worked_145 rfl ?_
  refine h_lcmp hX dX11_worked_146 ?_
  refine h_if_ne hX dX11_worked_147 (tgt := 156) (by decide) (fun _ => ?_) (fun _ => ?_)
  · refine h_iconst hX dX11_worked_156 ki_1 ?_
    refine h_goto hX dX11_worked_157 (tgt := 161) (by decide) ?_
    exact h_ret hX (rv := some (.int 1)) dX11_worked_161 trivial (fun h => h)
  · refine h_lload_n hX dX11_worked_150 rfl rfl ?_
    refine h_lconst hX dX11_worked_151 rfl ?_
    refine h_lcmp hX dX11_worked_152 ?_
    refine h_if_eq hX dX11_worked_153 (tgt := 160) (by decide) (fun _ => ?_) (fun _ => ?_)
    · refine h_iconst hX dX11_worked_160 ki_0 ?_
      exact h_ret hX (rv := some (.int 0)) dX11_worked_161 trivial (fun h => h)
    · refine h_iconst hX dX11_worked_156 ki_1 ?_
      refine h_goto hX dX11_worked_157 (tgt := 161) (by decide) ?_
      exact h_ret hX (rv := some (.int 1)) dX11_worked_161 trivial (fun h => h)
theorem c_M_worked {p0 : Int32} {p1 : Int64} {p2 : Int64} {r : Int32} (h : f_M_worked p0 p1 p2 = some r) : gMet B 2 yX11_worked cX11_worked 5 (some .int) [.int p0, .long p1, .long p2] (ws) (some (.int r)) (ws) :=
  gMet.of rfl (Nat.le_of_ble_eq_true rfl) (fun X hX hF => w_M_worked hX r h hF)
set_option maxRecDepth 4000 in
theorem w_LawR_isComparison {p0 : Int32} (hX : gOk B X RX2 cX2_isComparison 1 0 (some .boolean)) : gH B X (fun r : Int32 => gFin X (some (.int r)) (ws)) 0 [(0, .int p0)] [] (ws) (f_LawR_isComparison p0) := by
  unfold f_LawR_isComparison
  refine h_iload_n hX dX2_isComparison_0 rfl rfl ?_
  refine h_bipush hX dX2_isComparison_1 kb_61 ?_
  refine h_icmp_eq hX dX2_isComparison_3 (tgt := 18) (by decide) (fun _ => ?_) (fun _ => ?_)
  · refine h_iconst hX dX2_isComparison_18 ki_1 ?_
    refine h_goto hX dX2_isComparison_19 (tgt := 23) (by decide) ?_
    exact h_ret hX (rv := some (.int 1)) dX2_isComparison_23 rfl (fun h => h)
  · refine h_iload_n hX dX2_isComparison_6 rfl rfl ?_
    refine h_bipush hX dX2_isComparison_7 kb_60 ?_
    refine h_icmp_eq hX dX2_isComparison_9 (tgt := 18) (by decide) (fun _ => ?_) (fun _ => ?_)
    · refine h_iconst hX dX2_isComparison_18 ki_1 ?_
      refine h_goto hX dX2_isComparison_19 (tgt := 23) (by decide) ?_
      exact h_ret hX (rv := some (.int 1)) dX2_isComparison_23 rfl (fun h => h)
    · refine h_iload_n hX dX2_isComparison_12 rfl rfl ?_
      refine h_bipush hX dX2_isComparison_13 kb_62 ?_
      refine h_icmp_ne hX dX2_isComparison_15 (tgt := 22) (by decide) (fun _ => ?_) (fun _ => ?_)
      · refine h_iconst hX dX2_isComparison_22 ki_0 ?_
        exact h_ret hX (rv := some (.int 0)) dX2_isComparison_23 rfl (fun h => h)
      · refine h_iconst hX dX2_isComparison_18 ki_1 ?_
        refine h_goto hX dX2_isComparison_19 (tgt := 23) (by decide) ?_
        exact h_ret hX (rv := some (.int 1)) dX2_isComparison_23 rfl (fun h => h)
theorem c_LawR_isComparison {p0 : Int32} {r : Int32} (h : f_LawR_isComparison p0 = some r) : gMet B 0 yX2_isComparison cX2_isComparison 1 (some .boolean) [.int p0] (ws) (some (.int r)) (ws) :=
  gMet.of rfl (Nat.le_of_ble_eq_true rfl) (fun X hX hF => w_LawR_isComparison hX r h hF)
set_option maxRecDepth 4000 in
theorem w_Laws_held {p0 : Int64} (hX : gOk B X RX3 cX3_held 2 1 (some .int)) : gH B X (fun r : Int32 => gFin X (some (.int r)) (ws)) 0 [(0, .long p0)] [] (ws) (f_Laws_held p0) := by
  unfold f_Laws_held
  refine h_ldc2 hX dX3_held_0 cstl_RX3_50 ?_
  refine h_ldc2 hX dX3_held_3 cstl_RX3_52 ?_
  refine h_lload_n hX dX3_held_6 rfl rfl ?_
  refine h_jminl hX dX3_held_7 cm_RX3_54 (by omega) (Nat.le_of_ble_eq_true rfl) ?_
  refine h_jmaxl hX dX3_held_10 cm_RX3_60 (by omega) (Nat.le_of_ble_eq_true rfl) ?_
  refine h_l2i hX dX3_held_13 ?_
  exact h_ret hX (rv := some (.int ((jmaxl ((-1000000)) (jminl 1000000 p0) : Int64).toInt32))) dX3_held_14 trivial (fun h => h)
theorem c_Laws_held {p0 : Int64} {r : Int32} (h : f_Laws_held p0 = some r) : gMet B 1 yX3_held cX3_held 2 (some .int) [.long p0] (ws) (some (.int r)) (ws) :=
  gMet.of rfl (Nat.le_of_ble_eq_true rfl) (fun X hX hF => w_Laws_held hX r h hF)
set_option maxRecDepth 4000 in
theorem w_Laws_joined {p0 : Int32} {p1 : Int32} {p2 : Int32} (hX : gOk B X RX3 cX3_joined 3 2 (some .int)) : gH B X (fun r : Int32 => gFin X (some (.int r)) (ws)) 0 [(0, .int p0), (1, .int p1), (2, .int p2)] [] (ws) (f_Laws_joined p0 p1 p2) := by
  unfold f_Laws_joined
  refine h_iload_n hX dX3_joined_0 rfl rfl ?_
  refine gH.ite (fun hc38 => ?_) (fun hc38 => ?_)
  · refine h_tsin hX dX3_joined_1 hc38 (by decide) (by decide) rfl (tgt := 188) (by decide) ?_
    refine h_iload_n hX dX3_joined_188 rfl rfl ?_
    refine h_iload_n hX dX3_joined_189 rfl rfl ?_
    refine h_iand hX dX3_joined_190 ?_
    exact h_ret hX (rv := some (.int (p1 &&& p2))) dX3_joined_191 trivial (fun h => h)
  refine gH.ite (fun hc42 => ?_) (fun hc42 => ?_)
  · refine h_tsin hX dX3_joined_1 hc42 (by decide) (by decide) rfl (tgt := 134) (by decide) ?_
    refine h_iload_n hX dX3_joined_134 rfl rfl ?_
    refine h_i2l hX dX3_joined_135 ?_
    refine h_iload_n hX dX3_joined_136 rfl rfl ?_
    refine h_i2l hX dX3_joined_137 ?_
    refine h_lmul hX dX3_joined_138 ?_
    refine h_callSi hX dX3_joined_139 (cs_RX3_46) (As := [.long (((p1 : Int32).toInt64) * ((p2 : Int32).toInt64))]) (st := []) (fun _ h => c_Laws_held h) rfl rfl (by decide) (Nat.le_of_ble_eq_true rfl) (fun a_1 => ?_)
    exact h_ret hX (rv := some (.int a_1)) dX3_joined_142 trivial (fun h => h)
  refine gH.ite (fun hc43 => ?_) (fun hc43 => ?_)
  · refine h_tsin hX dX3_joined_1 hc43 (by decide) (by decide) rfl (tgt := 116) (by decide) ?_
    refine h_iload_n hX dX3_joined_116 rfl rfl ?_
    refine h_i2l hX dX3_joined_117 ?_
    refine h_iload_n hX dX3_joined_118 rfl rfl ?_
    refine h_i2l hX dX3_joined_119 ?_
    refine h_ladd hX dX3_joined_120 ?_
    refine h_callSi hX dX3_joined_121 (cs_RX3_46) (As := [.long (((p1 : Int32).toInt64) + ((p2 : Int32).toInt64))]) (st := []) (fun _ h => c_Laws_held h) rfl rfl (by decide) (Nat.le_of_ble_eq_true rfl) (fun a_2 => ?_)
    exact h_ret hX (rv := some (.int a_2)) dX3_joined_124 trivial (fun h => h)
  refine gH.ite (fun hc45 => ?_) (fun hc45 => ?_)
  · refine h_tsin hX dX3_joined_1 hc45 (by decide) (by decide) rfl (tgt := 125) (by decide) ?_
    refine h_iload_n hX dX3_joined_125 rfl rfl ?_
    refine h_i2l hX dX3_joined_126 ?_
    refine h_iload_n hX dX3_joined_127 rfl rfl ?_
    refine h_i2l hX dX3_joined_128 ?_
    refine h_lsub hX dX3_joined_129 ?_
    refine h_callSi hX dX3_joined_130 (cs_RX3_46) (As := [.long (((p1 : Int32).toInt64) - ((p2 : Int32).toInt64))]) (st := []) (fun _ h => c_Laws_held h) rfl rfl (by decide) (Nat.le_of_ble_eq_true rfl) (fun a_3 => ?_)
    exact h_ret hX (rv := some (.int a_3)) dX3_joined_133 trivial (fun h => h)
  refine gH.ite (fun hc47 => ?_) (fun hc47 => ?_)
  · refine h_tsin hX dX3_joined_1 hc47 (by decide) (by decide) rfl (tgt := 143) (by decide) ?_
    refine h_iload_n hX dX3_joined_143 rfl rfl ?_
    refine h_if_ne hX dX3_joined_144 (tgt := 151) (by decide) (fun _ => ?_) (fun _ => ?_)
    · refine h_iload_n hX dX3_joined_151 rfl rfl ?_
      refine h_iload_n hX dX3_joined_152 rfl rfl ?_
      refine h_idiv hX dX3_joined_153 ?_
      exact h_ret hX (rv := some (.int (p1 / p2))) dX3_joined_154 trivial (fun h => h)
    · refine h_iconst hX dX3_joined_147 ki_0 ?_
      refine h_goto hX dX3_joined_148 (tgt := 154) (by decide) ?_
      exact h_ret hX (rv := some (.int 0)) dX3_joined_154 trivial (fun h => h)
  refine gH.ite (fun hc60 => ?_) (fun hc60 => ?_)
  · refine h_tsin hX dX3_joined_1 hc60 (by decide) (by decide) rfl (tgt := 166) (by decide) ?_
    refine h_iload_n hX dX3_joined_166 rfl rfl ?_
    refine h_iload_n hX dX3_joined_167 rfl rfl ?_
    refine h_icmp_ge hX dX3_joined_168 (tgt := 175) (by decide) (fun _ => ?_) (fun _ => ?_)
    · refine h_iconst hX dX3_joined_175 ki_0 ?_
      exact h_ret hX (rv := some (.int 0)) dX3_joined_176 trivial (fun h => h)
    · refine h_iconst hX dX3_joined_171 ki_1 ?_
      refine h_goto hX dX3_joined_172 (tgt := 176) (by decide) ?_
      exact h_ret hX (rv := some (.int 1)) dX3_joined_176 trivial (fun h => h)
  refine gH.ite (fun hc61 => ?_) (fun hc61 => ?_)
  · refine h_tsin hX dX3_joined_1 hc61 (by decide) (by decide) rfl (tgt := 155) (by decide) ?_
    refine h_iload_n hX dX3_joined_155 rfl rfl ?_
    refine h_iload_n hX dX3_joined_156 rfl rfl ?_
    refine h_icmp_ne hX dX3_joined_157 (tgt := 164) (by decide) (fun _ => ?_) (fun _ => ?_)
    · refine h_iconst hX dX3_joined_164 ki_0 ?_
      exact h_ret hX (rv := some (.int 0)) dX3_joined_165 trivial (fun h => h)
    · refine h_iconst hX dX3_joined_160 ki_1 ?_
      refine h_goto hX dX3_joined_161 (tgt := 165) (by decide) ?_
      exact h_ret hX (rv := some (.int 1)) dX3_joined_165 trivial (fun h => h)
  refine gH.ite (fun hc62 => ?_) (fun hc62 => ?_)
  · refine h_tsin hX dX3_joined_1 hc62 (by decide) (by decide) rfl (tgt := 177) (by decide) ?_
    refine h_iload_n hX dX3_joined_177 rfl rfl ?_
    refine h_iload_n hX dX3_joined_178 rfl rfl ?_
    refine h_icmp_le hX dX3_joined_179 (tgt := 186) (by decide) (fun _ => ?_) (fun _ => ?_)
    · refine h_iconst hX dX3_joined_186 ki_0 ?_
      exact h_ret hX (rv := some (.int 0)) dX3_joined_187 trivial (fun h => h)
    · refine h_iconst hX dX3_joined_182 ki_1 ?_
      refine h_goto hX dX3_joined_183 (tgt := 187) (by decide) ?_
      exact h_ret hX (rv := some (.int 1)) dX3_joined_187 trivial (fun h => h)
  refine h_tsdef hX dX3_joined_1 (cs := [38, 42, 43, 45, 47, 60, 61, 62]) (by decide) (by decide) (List.forall_mem_cons.mpr ⟨hc38, (List.forall_mem_cons.mpr ⟨hc42, (List.forall_mem_cons.mpr ⟨hc43, (List.forall_mem_cons.mpr ⟨hc45, (List.forall_mem_cons.mpr ⟨hc47, (List.forall_mem_cons.mpr ⟨hc60, (List.forall_mem_cons.mpr ⟨hc61, (List.forall_mem_cons.mpr ⟨hc62, fun _ h => absurd h List.not_mem_nil⟩)⟩)⟩)⟩)⟩)⟩)⟩)⟩) (tgt := 192) (by decide) ?_
  refine h_iload_n hX dX3_joined_192 rfl rfl ?_
  refine h_iload_n hX dX3_joined_193 rfl rfl ?_
  refine h_ior hX dX3_joined_194 ?_
  exact h_ret hX (rv := some (.int (p1 ||| p2))) dX3_joined_195 trivial (fun h => h)
theorem c_Laws_joined {p0 : Int32} {p1 : Int32} {p2 : Int32} {r : Int32} (h : f_Laws_joined p0 p1 p2 = some r) : gMet B 2 yX3_joined cX3_joined 3 (some .int) [.int p0, .int p1, .int p2] (ws) (some (.int r)) (ws) :=
  gMet.of rfl (Nat.le_of_ble_eq_true rfl) (fun X hX hF => w_Laws_joined hX r h hF)
set_option maxRecDepth 4000 in
theorem w_Tape_bytesIn_J25 {v0 : Int32} {v2 : Int32} {k0 : Int32} {k1 : Int32} (hX : gOk B X RX7 cX7_bytesIn 3 0 (some .int)) : gH B X (Sum.elim (fun s : (Int32 × Int32) => gG B X 5 [(0, .int v0), (1, .int s.1), (2, .int s.2)] [] (ws)) (fun r : Int32 => gFin X (some (.int r)) (ws))) 25 [(0, .int v0), (2, .int v2)] [.int k1, .int k0] (ws) (f_Tape_bytesIn_J25 v2 k0 k1) := by
  unfold f_Tape_bytesIn_J25
  refine h_iadd hX dX7_bytesIn_25 ?_
  refine gH.leti (fun v1_1 => ?_)
  refine h_istore_n hX dX7_bytesIn_26 rfl (by decide) (lv' := [(0, .int v0), (1, .int v1_1), (2, .int v2)]) rfl ?_
  refine h_iincc hX dX7_bytesIn_27 rfl ki_m8 (by decide) (lv' := [(0, .int v0), (1, .int v1_1), (2, .int (v2 + (-8)))]) rfl ?_
  refine h_goto hX dX7_bytesIn_30 (tgt := 5) (by decide) ?_
  exact gH.some' (fun h => h)
set_option maxRecDepth 4000 in
theorem w_Tape_bytesIn_L5 {v0 : Int32} (hX : gOk B X RX7 cX7_bytesIn 3 0 (some .int)) (s : (Int32 × Int32)) : gH B X (Sum.elim (fun s : (Int32 × Int32) => gG B X 5 [(0, .int v0), (1, .int s.1), (2, .int s.2)] [] (ws)) (fun r : Int32 => gFin X (some (.int r)) (ws))) 5 [(0, .int v0), (1, .int s.1), (2, .int s.2)] [] (ws) (f_Tape_bytesIn_L5 v0 s) := by
  unfold f_Tape_bytesIn_L5
  refine h_iload_n hX dX7_bytesIn_5 rfl rfl ?_
  refine h_if_lt hX dX7_bytesIn_6 (tgt := 33) (by decide) (fun _ => ?_) (fun _ => ?_)
  · refine h_iload_n hX dX7_bytesIn_33 rfl rfl ?_
    exact h_ret hX (rv := some (.int s.1)) dX7_bytesIn_34 trivial (fun h => h)
  · refine h_iload_n hX dX7_bytesIn_9 rfl rfl ?_
    refine h_iload_n hX dX7_bytesIn_10 rfl rfl ?_
    refine h_iload_n hX dX7_bytesIn_11 rfl rfl ?_
    refine h_iushr hX dX7_bytesIn_12 ?_
    refine h_sipush hX dX7_bytesIn_13 ks_255 ?_
    refine h_iand hX dX7_bytesIn_16 ?_
    refine h_if_eq hX dX7_bytesIn_17 (tgt := 24) (by decide) (fun _ => ?_) (fun _ => ?_)
    · refine h_iconst hX dX7_bytesIn_24 ki_0 ?_
      refine gH.dead [0, 2] rfl ?_
      exact w_Tape_bytesIn_J25 hX
    · refine h_iconst hX dX7_bytesIn_20 ki_1 ?_
      refine h_goto hX dX7_bytesIn_21 (tgt := 25) (by decide) ?_
      refine gH.dead [0, 2] rfl ?_
      exact w_Tape_bytesIn_J25 hX
set_option maxRecDepth 4000 in
theorem w_Tape_bytesIn {p0 : Int32} (hX : gOk B X RX7 cX7_bytesIn 3 0 (some .int)) : gH B X (fun r : Int32 => gFin X (some (.int r)) (ws)) 0 [(0, .int p0)] [] (ws) (f_Tape_bytesIn p0) := by
  unfold f_Tape_bytesIn
  refine h_iconst hX dX7_bytesIn_0 ki_0 ?_
  refine h_istore_n hX dX7_bytesIn_1 rfl (by decide) (lv' := [(0, .int p0), (1, .int 0)]) rfl ?_
  refine h_bipush hX dX7_bytesIn_2 kb_24 ?_
  refine h_istore_n hX dX7_bytesIn_4 rfl (by decide) (lv' := [(0, .int p0), (1, .int 0), (2, .int 24)]) rfl ?_
  exact gH.loop (lvf := fun z : (Int32 × Int32) => [(0, .int p0), (1, .int z.1), (2, .int z.2)]) (wf := fun z : (Int32 × Int32) => ws) (fun z => w_Tape_bytesIn_L5 hX z) (0, 24)
theorem c_Tape_bytesIn {p0 : Int32} {r : Int32} (h : f_Tape_bytesIn p0 = some r) : gMet B 0 yX7_bytesIn cX7_bytesIn 3 (some .int) [.int p0] (ws) (some (.int r)) (ws) :=
  gMet.of rfl (Nat.le_of_ble_eq_true rfl) (fun X hX hF => w_Tape_bytesIn hX r h hF)
set_option maxRecDepth 4000 in
theorem w_YardR_itemOf_L2 {v0 : Int32} {v1 : Int32} (hX : gOk B X RX9 cX9_itemOf 3 0 (some .int)) (s : Int32) : gH B X (Sum.elim (fun s : Int32 => gG B X 2 [(0, .int v0), (1, .int v1), (2, .int s)] [] (ws)) (fun r : Int32 => gFin X (some (.int r)) (ws))) 2 [(0, .int v0), (1, .int v1), (2, .int s)] [] (ws) (f_YardR_itemOf_L2 v0 v1 s) := by
  unfold f_YardR_itemOf_L2
  refine h_iload_n hX dX9_itemOf_2 rfl rfl ?_
  refine h_iconst hX dX9_itemOf_3 ki_3 ?_
  refine h_icmp_ge hX dX9_itemOf_4 (tgt := 28) (by decide) (fun _ => ?_) (fun _ => ?_)
  · refine h_iconst hX dX9_itemOf_28 ki_m1 ?_
    exact h_ret hX (rv := some (.int ((-1)))) dX9_itemOf_29 trivial (fun h => h)
  · refine h_gets hX 3 (q := ("ITEM_LETTERS", tab3)) rfl (by decide +kernel) dX9_itemOf_7 ?_
    refine h_iload_n hX dX9_itemOf_10 rfl rfl ?_
    refine h_iconst hX dX9_itemOf_11 ki_3 ?_
    refine h_imul hX dX9_itemOf_12 ?_
    refine h_iload_n hX dX9_itemOf_13 rfl rfl ?_
    refine h_iadd hX dX9_itemOf_14 ?_
    refine h_tld hX 3 rfl dX9_itemOf_15 ?_
    refine h_iload_n hX dX9_itemOf_16 rfl rfl ?_
    refine h_icmp_ne hX dX9_itemOf_17 (tgt := 22) (by decide) (fun _ => ?_) (fun _ => ?_)
    · refine h_iincc hX dX9_itemOf_22 rfl ki_1 (by decide) (lv' := [(0, .int v0), (1, .int v1), (2, .int (s + 1))]) rfl ?_
      refine h_goto hX dX9_itemOf_25 (tgt := 2) (by decide) ?_
      exact gH.some' (fun h => h)
    · refine h_iload_n hX dX9_itemOf_20 rfl rfl ?_
      exact h_ret hX (rv := some (.int s)) dX9_itemOf_21 trivial (fun h => h)
set_option maxRecDepth 4000 in
theorem w_YardR_itemOf {p0 : Int32} {p1 : Int32} (hX : gOk B X RX9 cX9_itemOf 3 0 (some .int)) : gH B X (fun r : Int32 => gFin X (some (.int r)) (ws)) 0 [(0, .int p0), (1, .int p1)] [] (ws) (f_YardR_itemOf p0 p1) := by
  unfold f_YardR_itemOf
  refine h_iconst hX dX9_itemOf_0 ki_0 ?_
  refine h_istore_n hX dX9_itemOf_1 rfl (by decide) (lv' := [(0, .int p0), (1, .int p1), (2, .int 0)]) rfl ?_
  exact gH.loop (lvf := fun z : Int32 => [(0, .int p0), (1, .int p1), (2, .int z)]) (wf := fun z : Int32 => ws) (fun z => w_YardR_itemOf_L2 hX z) 0
theorem c_YardR_itemOf {p0 : Int32} {p1 : Int32} {r : Int32} (h : f_YardR_itemOf p0 p1 = some r) : gMet B 0 yX9_itemOf cX9_itemOf 3 (some .int) [.int p0, .int p1] (ws) (some (.int r)) (ws) :=
  gMet.of rfl (Nat.le_of_ble_eq_true rfl) (fun X hX hF => w_YardR_itemOf hX r h hF)
set_option maxRecDepth 4000 in
theorem w_YardR_sortOf_L2 {v0 : Int32} (hX : gOk B X RX9 cX9_sortOf 2 0 (some .int)) (s : Int32) : gH B X (Sum.elim (fun s : Int32 => gG B X 2 [(0, .int v0), (1, .int s)] [] (ws)) (fun r : Int32 => gFin X (some (.int r)) (ws))) 2 [(0, .int v0), (1, .int s)] [] (ws) (f_YardR_sortOf_L2 v0 s) := by
  unfold f_YardR_sortOf_L2
  refine h_iload_n hX dX9_sortOf_2 rfl rfl ?_
  refine h_gets hX 0 (q := ("SORT_LETTERS", tab0)) rfl (by decide +kernel) dX9_sortOf_3 ?_
  refine h_tlen hX 0 rfl (v := 4) (by decide) dX9_sortOf_6 ?_
  refine h_icmp_ge hX dX9_sortOf_7 (tgt := 27) (by decide) (fun _ => ?_) (fun _ => ?_)
  · refine h_iconst hX dX9_sortOf_27 ki_m1 ?_
    exact h_ret hX (rv := some (.int ((-1)))) dX9_sortOf_28 trivial (fun h => h)
  · refine h_gets hX 0 (q := ("SORT_LETTERS", tab0)) rfl (by decide +kernel) dX9_sortOf_10 ?_
    refine h_iload_n hX dX9_sortOf_13 rfl rfl ?_
    refine h_tld hX 0 rfl dX9_sortOf_14 ?_
    refine h_iload_n hX dX9_sortOf_15 rfl rfl ?_
    refine h_icmp_ne hX dX9_sortOf_16 (tgt := 21) (by decide) (fun _ => ?_) (fun _ => ?_)
    · refine h_iincc hX dX9_sortOf_21 rfl ki_1 (by decide) (lv' := [(0, .int v0), (1, .int (s + 1))]) rfl ?_
      refine h_goto hX dX9_sortOf_24 (tgt := 2) (by decide) ?_
      exact gH.some' (fun h => h)
    · refine h_iload_n hX dX9_sortOf_19 rfl rfl ?_
      exact h_ret hX (rv := some (.int s)) dX9_sortOf_20 trivial (fun h => h)
set_option maxRecDepth 4000 in
theorem w_YardR_sortOf {p0 : Int32} (hX : gOk B X RX9 cX9_sortOf 2 0 (some .int)) : gH B X (fun r : Int32 => gFin X (some (.int r)) (ws)) 0 [(0, .int p0)] [] (ws) (f_YardR_sortOf p0) := by
  unfold f_YardR_sortOf
  refine h_iconst hX dX9_sortOf_0 ki_0 ?_
  refine h_istore_n hX dX9_sortOf_1 rfl (by decide) (lv' := [(0, .int p0), (1, .int 0)]) rfl ?_
  exact gH.loop (lvf := fun z : Int32 => [(0, .int p0), (1, .int z)]) (wf := fun z : Int32 => ws) (fun z => w_YardR_sortOf_L2 hX z) 0
theorem c_YardR_sortOf {p0 : Int32} {r : Int32} (h : f_YardR_sortOf p0 = some r) : gMet B 0 yX9_sortOf cX9_sortOf 2 (some .int) [.int p0] (ws) (some (.int r)) (ws) :=
  gMet.of rfl (Nat.le_of_ble_eq_true rfl) (fun X hX hF => w_YardR_sortOf hX r h hF)
