noncomputable def f_Tape_bytesIn_J25 (v2 : Int32) (k0 : Int32) (k1 : Int32) : Option ((Int32 × Int32) ⊕ Int32) :=
  oL (k0 + k1) fun v1_1 => some (.inl (v1_1, v2 + (-8)))
noncomputable def f_Tape_bytesIn_L5 (v0 : Int32) (s : (Int32 × Int32)) : Option ((Int32 × Int32) ⊕ Int32) :=
  if s.2 < 0 then
  (some (.inr s.1))
  else (if (((v0.toUInt32 >>> (s.2.toUInt32 &&& Int32.toUInt32 31)).toInt32) &&& 255) = 0 then
  (f_Tape_bytesIn_J25 s.2 s.1 0)
  else (f_Tape_bytesIn_J25 s.2 s.1 1))
noncomputable def f_Tape_bytesIn (p0 : Int32) : Option Int32 :=
  oLp (f_Tape_bytesIn_L5 p0) (0, 24)
noncomputable def f_Tape_append_J49 (T_length : Int32) (T_bytes : Nat → Int32) (v2 : Int32) : Option ((Int32 × Int32 × (Nat → Int32)) ⊕ (Int32 × (Nat → Int32))) :=
  some (.inl (v2 + (-8), T_length, T_bytes))
noncomputable def f_Tape_append_L3 (v1 : Int32) (s : (Int32 × Int32 × (Nat → Int32))) : Option ((Int32 × Int32 × (Nat → Int32)) ⊕ (Int32 × (Nat → Int32))) :=
  if s.1 < 0 then
  (some (.inr (s.2.1, s.2.2)))
  else (oL (((v1.toUInt32 >>> (s.1.toUInt32 &&& Int32.toUInt32 31)).toInt32) &&& 255) fun v3_1 => if v3_1 = 0 then
  (f_Tape_append_J49 s.2.1 s.2.2 s.1)
  else (if 240 ≤ s.2.1 then
  (f_Tape_append_J49 s.2.1 s.2.2 s.1)
  else (oI s.2.1 240 (oL (upd s.2.2 s.2.1.toNatClampNeg v3_1) fun T_bytes_3 =>
  oL (s.2.1 + 1) fun T_length_4 =>
  f_Tape_append_J49 T_length_4 T_bytes_3 s.1))))
noncomputable def f_Tape_append (T_length : Int32) (T_bytes : Nat → Int32) (p0 : Int32) : Option (Int32 × (Nat → Int32)) :=
  oLp (f_Tape_append_L3 p0) (24, T_length, T_bytes)
noncomputable def f_Tape_cutTo (T_length : Int32) (p0 : Int32) : Option Int32 :=
  some p0
noncomputable def f_Tape_isAtDigit (T_length : Int32) (T_at : Int32) (T_bytes : Nat → Int32) : Option Int32 :=
  if T_length ≤ T_at then
  (some 0)
  else (oI T_at 240 (if (T_bytes T_at.toNatClampNeg) < 48 then
  (some 0)
  else (oI T_at 240 (if 57 < (T_bytes T_at.toNatClampNeg) then
  (some 0)
  else (some 1)))))
noncomputable def f_Tape_sign_J38 (T_length : Int32) (T_at : Int32) (T_bytes : Nat → Int32) : Option (Int32 × Int32) :=
  if T_length ≤ T_at then
  (some ((-1), T_at))
  else (oI T_at 240 (some (T_bytes T_at.toNatClampNeg, T_at)))
noncomputable def f_Tape_sign_L0 (T_length : Int32) (T_bytes : Nat → Int32) (s : Int32) : Option (Int32 ⊕ (Int32 × Int32)) :=
  if T_length ≤ s then
  ((f_Tape_sign_J38 T_length s T_bytes).map .inr)
  else (oI s 240 (if (T_bytes s.toNatClampNeg) = 32 then
  (oL (s + 1) fun T_at_1 =>
  some (.inl T_at_1))
  else ((f_Tape_sign_J38 T_length s T_bytes).map .inr)))
noncomputable def f_Tape_sign (T_length : Int32) (T_at : Int32) (T_bytes : Nat → Int32) : Option (Int32 × Int32) :=
  oLp (f_Tape_sign_L0 T_length T_bytes) T_at
noncomputable def f_Tape_number_J64 (T_length : Int32) (T_at : Int32) (T_bytes : Nat → Int32) (v2 : Int32) : Option (Int32 × Int32) :=
  (f_Tape_isAtDigit T_length T_at T_bytes).bind fun a_3 =>
  if a_3 = 0 then
  (some (v2, T_at))
  else (some ((-1), T_at))
noncomputable def f_Tape_number_L18 (T_length : Int32) (T_bytes : Nat → Int32) (v1 : Int32) (s : (Int32 × Int32 × Int32)) : Option ((Int32 × Int32 × Int32) ⊕ (Int32 × Int32)) :=
  if v1 ≤ s.2.1 then
  ((f_Tape_number_J64 T_length s.2.2 T_bytes s.1).map .inr)
  else ((f_Tape_isAtDigit T_length s.2.2 T_bytes).bind fun a_4 =>
  if a_4 = 0 then
  ((f_Tape_number_J64 T_length s.2.2 T_bytes s.1).map .inr)
  else (oI s.2.2 240 (oL (((s.1 * 10) + (T_bytes s.2.2.toNatClampNeg)) - 48) fun v2_5 => oL (s.2.2 + 1) fun T_at_6 =>
  some (.inl (v2_5, s.2.1 + 1, T_at_6)))))
noncomputable def f_Tape_number (T_length : Int32) (T_at : Int32) (T_bytes : Nat → Int32) (p0 : Int32) : Option (Int32 × Int32) :=
  (f_Tape_sign T_length T_at T_bytes).bind fun a_1 =>
  (f_Tape_isAtDigit T_length a_1.2 T_bytes).bind fun a_2 =>
  if a_2 = 0 then
  (some ((-1), a_1.2))
  else (oLp (f_Tape_number_L18 T_length T_bytes p0) (0, 0, a_1.2))
noncomputable def f_Tape_position (T_at : Int32) : Option Int32 :=
  some T_at
noncomputable def f_Tape_rewind (T_at : Int32) : Option Int32 :=
  some 0
noncomputable def f_Tape_size (T_length : Int32) : Option Int32 :=
  some T_length
noncomputable def f_Tape_step (T_at : Int32) : Option Int32 :=
  oL (T_at + 1) fun T_at_1 =>
  some T_at_1
noncomputable def f_Tape_stepBack (T_at : Int32) : Option Int32 :=
  oL (T_at - 1) fun T_at_1 =>
  some T_at_1
noncomputable def f_Tape_takes (T_length : Int32) (T_at : Int32) (T_bytes : Nat → Int32) (p0 : Int32) : Option (Int32 × Int32) :=
  (f_Tape_sign T_length T_at T_bytes).bind fun a_1 =>
  if a_1.1 = p0 then
  (oL (a_1.2 + 1) fun T_at_2 =>
  some (1, T_at_2))
  else (some (0, a_1.2))
