variable {B : gB} {X : gX} {ws : va_W}
set_option maxRecDepth 4000 in
theorem w_Tape_bytesIn_J25 {v0 : Int32} {v2 : Int32} {k0 : Int32} {k1 : Int32} (hX : gOk B X RX7 cX7_bytesIn 3 0 (some .int)) : gH B X (Sum.elim (fun s : (Int32 × Int32) => gG B X 5 [(0, .int v0), (1, .int s.1), (2, .int s.2)] [] (ws)) (fun r : Int32 => gFin X (some (.int r)) (ws))) 25 [(0, .int v0), (2, .int v2)] [.int k1, .int k0] (ws) (f_Tape_bytesIn_J25 v2 k0 k1) := by
  unfold f_Tape_bytesIn_J25
  refine h_iadd hX dX7_bytesIn_25 ?_
  refine gH.leti (fun v1_1 => ?_)
  refine h_istore_n hX dX7_bytesIn_26 rfl (by decide) (lv' := [(0, .int v0), (1, .int v1_1), (2, .int v2)]) rfl ?_
  refine h_iincc hX dX7_bytesIn_27 rfl ki_m8 (by decide) (lv' := [(0, .int v0), (1, .int v1_1), (2, .int (v2 + (-8)))]) rfl ?_
  refine h_goto hX dX7_bytesIn_30 (tgt := 5) (by decide) ?_
  exact gH.some' (fun h => h)
set_option maxRecDepth 4000 in
theorem w_Tape_bytesIn_L5 {v0 : Int32} (hX : gOk B X RX7 cX7_bytesIn 3 0 (some .int)) (s : (Int32 × Int32)) : gH B X (Sum.elim (fun s : (Int32 × Int32) => gG B X 5 [(0, .int v0), (1, .int s.1), (2, .int s.2)] [] (ws)) (fun r : Int32 => gFin X (some (.int r)) (ws))) 5 [(0, .int v0), (1, .int s.1), (2, .int s.2)] [] (ws) (f_Tape_bytesIn_L5 v0 s) := by
  unfold f_Tape_bytesIn_L5
  refine h_iload_n hX dX7_bytesIn_5 rfl rfl ?_
  refine h_if_lt hX dX7_bytesIn_6 (tgt := 33) (by decide) (fun _ => ?_) (fun _ => ?_)
  · refine h_iload_n hX dX7_bytesIn_33 rfl rfl ?_
    exact h_ret hX (rv := some (.int s.1)) dX7_bytesIn_34 trivial (fun h => h)
  · refine h_iload_n hX dX7_bytesIn_9 rfl rfl ?_
    refine h_iload_n hX dX7_bytesIn_10 rfl rfl ?_
    refine h_iload_n hX dX7_bytesIn_11 rfl rfl ?_
    refine h_iushr hX dX7_bytesIn_12 ?_
    refine h_sipush hX dX7_bytesIn_13 ks_255 ?_
    refine h_iand hX dX7_bytesIn_16 ?_
    refine h_if_eq hX dX7_bytesIn_17 (tgt := 24) (by decide) (fun _ => ?_) (fun _ => ?_)
    · refine h_iconst hX dX7_bytesIn_24 ki_0 ?_
      refine gH.dead [0, 2] rfl ?_
      exact w_Tape_bytesIn_J25 hX
    · refine h_iconst hX dX7_bytesIn_20 ki_1 ?_
      refine h_goto hX dX7_bytesIn_21 (tgt := 25) (by decide) ?_
      refine gH.dead [0, 2] rfl ?_
      exact w_Tape_bytesIn_J25 hX
set_option maxRecDepth 4000 in
theorem w_Tape_bytesIn {p0 : Int32} (hX : gOk B X RX7 cX7_bytesIn 3 0 (some .int)) : gH B X (fun r : Int32 => gFin X (some (.int r)) (ws)) 0 [(0, .int p0)] [] (ws) (f_Tape_bytesIn p0) := by
  unfold f_Tape_bytesIn
  refine h_iconst hX dX7_bytesIn_0 ki_0 ?_
  refine h_istore_n hX dX7_bytesIn_1 rfl (by decide) (lv' := [(0, .int p0), (1, .int 0)]) rfl ?_
  refine h_bipush hX dX7_bytesIn_2 kb_24 ?_
  refine h_istore_n hX dX7_bytesIn_4 rfl (by decide) (lv' := [(0, .int p0), (1, .int 0), (2, .int 24)]) rfl ?_
  exact gH.loop (lvf := fun s : (Int32 × Int32) => [(0, .int p0), (1, .int s.1), (2, .int s.2)]) (wf := fun s : (Int32 × Int32) => ws) (fun s => w_Tape_bytesIn_L5 hX s) (0, 24)
theorem c_Tape_bytesIn {p0 : Int32} {r : Int32} (h : f_Tape_bytesIn p0 = some r) : gMet B 0 yX7_bytesIn cX7_bytesIn 3 (some .int) [.int p0] (ws) (some (.int r)) (ws) :=
  gMet.of rfl (Nat.le_of_ble_eq_true rfl) (fun X hX hF => w_Tape_bytesIn hX r h hF)
