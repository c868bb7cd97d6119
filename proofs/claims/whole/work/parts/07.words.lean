theorem in_X0 : ∀ w ∈ u_ws RX0 TX0 10, w ∈ gT := by decide +kernel
theorem in_X1 : ∀ w ∈ u_ws RX1 TX1 8, w ∈ gT := by decide +kernel
theorem in_X2 : ∀ w ∈ u_ws RX2 TX2 3, w ∈ gT := by decide +kernel
theorem in_X3 : ∀ w ∈ u_ws RX3 TX3 5, w ∈ gT := by decide +kernel
theorem in_X4 : ∀ w ∈ u_ws RX4 TX4 6, w ∈ gT := by decide +kernel
theorem in_X5 : ∀ w ∈ u_ws RX5 TX5 8, w ∈ gT := by decide +kernel
theorem in_X6 : ∀ w ∈ u_ws RX6 TX6 5, w ∈ gT := by decide +kernel
theorem in_X7 : ∀ w ∈ u_ws RX7 TX7 3, w ∈ gT := by decide +kernel
theorem in_X8 : ∀ w ∈ u_ws RX8 TX8 2, w ∈ gT := by decide +kernel
theorem in_X9 : ∀ w ∈ u_ws RX9 TX9 2, w ∈ gT := by decide +kernel
theorem in_X10 : ∀ w ∈ u_ws RX10 TX10 13, w ∈ gT := by decide +kernel
theorem in_X11 : ∀ w ∈ u_ws RX11 TX11 47, w ∈ gT := by decide +kernel
theorem kb_10 : (Int8.ofInt (10)).toInt32 = (10 : Int32) := by decide
theorem kb_24 : (Int8.ofInt (24)).toInt32 = (24 : Int32) := by decide
theorem kb_32 : (Int8.ofInt (32)).toInt32 = (32 : Int32) := by decide
theorem kb_48 : (Int8.ofInt (48)).toInt32 = (48 : Int32) := by decide
theorem kb_57 : (Int8.ofInt (57)).toInt32 = (57 : Int32) := by decide
theorem ki_m8 : Int32.ofInt (-8) = (-8 : Int32) := by decide
theorem ki_m1 : Int32.ofInt (-1) = (-1 : Int32) := by decide
theorem ki_0 : Int32.ofInt (0) = (0 : Int32) := by decide
theorem ki_1 : Int32.ofInt (1) = (1 : Int32) := by decide
theorem ks_240 : (Int16.ofInt (240)).toInt32 = (240 : Int32) := by decide
theorem ks_255 : (Int16.ofInt (255)).toInt32 = (255 : Int32) := by decide
theorem fl_RX7_9 : Cond.fieldLink RX7 9 "WeatherMarbles$Tape" "bytes" "[I" ∈ gT := by decide +kernel
theorem fl_RX7_15 : Cond.fieldLink RX7 15 "WeatherMarbles$Tape" "length" "I" ∈ gT := by decide +kernel
theorem fl_RX7_19 : Cond.fieldLink RX7 19 "WeatherMarbles$Tape" "at" "I" ∈ gT := by decide +kernel
theorem cv_RX7_22 : gCV RX7 22 RX7 yX7_sign cX7_sign 1 (some .int) 0 := ⟨by decide +kernel, by decide +kernel, by decide +kernel, by decide +kernel, by decide +kernel, rfl, by decide +kernel⟩
theorem cv_RX7_26 : gCV RX7 26 RX7 yX7_isAtDigit cX7_isAtDigit 1 (some .boolean) 0 := ⟨by decide +kernel, by decide +kernel, by decide +kernel, by decide +kernel, by decide +kernel, rfl, by decide +kernel⟩
