theorem gT_of {w : Cond} (h : w ∈ tables_1) (hg : goodWord w = true) : w ∈ gT := List.mem_filter.mpr ⟨List.mem_append_right _ h, hg⟩
theorem gT_pr {q : MethodName × Nat} (h : q ∈ lw_privs) : Cond.selects q.1.cls q.1 q.1 ∈ gT := List.mem_filter.mpr ⟨List.mem_append_left _ (List.mem_map.mpr ⟨q, h, rfl⟩), rfl⟩
theorem gw1 {i : Nat} {w : Cond} (h : tables_1_1[i]? = some w) (hg : goodWord w = true) : w ∈ gT := gT_of (List.mem_append_left _ (List.mem_of_getElem? h)) hg
theorem gw2 {i : Nat} {w : Cond} (h : tables_1_2[i]? = some w) (hg : goodWord w = true) : w ∈ gT := gT_of (List.mem_append_right _ (List.mem_append_left _ (List.mem_of_getElem? h))) hg
theorem gw3 {i : Nat} {w : Cond} (h : tables_1_3[i]? = some w) (hg : goodWord w = true) : w ∈ gT := gT_of (List.mem_append_right _ (List.mem_append_right _ (List.mem_append_left _ (List.mem_of_getElem? h)))) hg
theorem gw4 {i : Nat} {w : Cond} (h : tables_1_4[i]? = some w) (hg : goodWord w = true) : w ∈ gT := gT_of (List.mem_append_right _ (List.mem_append_right _ (List.mem_append_right _ (List.mem_append_left _ (List.mem_of_getElem? h))))) hg
theorem gw5 {i : Nat} {w : Cond} (h : tables_1_5[i]? = some w) (hg : goodWord w = true) : w ∈ gT := gT_of (List.mem_append_right _ (List.mem_append_right _ (List.mem_append_right _ (List.mem_append_right _ (List.mem_append_left _ (List.mem_of_getElem? h)))))) hg
theorem gw6 {i : Nat} {w : Cond} (h : tables_1_6[i]? = some w) (hg : goodWord w = true) : w ∈ gT := gT_of (List.mem_append_right _ (List.mem_append_right _ (List.mem_append_right _ (List.mem_append_right _ (List.mem_append_right _ (List.mem_append_left _ (List.mem_of_getElem? h))))))) hg
theorem gw7 {i : Nat} {w : Cond} (h : tables_1_7[i]? = some w) (hg : goodWord w = true) : w ∈ gT := gT_of (List.mem_append_right _ (List.mem_append_right _ (List.mem_append_right _ (List.mem_append_right _ (List.mem_append_right _ (List.mem_append_right _ (List.mem_append_left _ (List.mem_of_getElem? h)))))))) hg
theorem gw8 {i : Nat} {w : Cond} (h : tables_1_8[i]? = some w) (hg : goodWord w = true) : w ∈ gT := gT_of (List.mem_append_right _ (List.mem_append_right _ (List.mem_append_right _ (List.mem_append_right _ (List.mem_append_right _ (List.mem_append_right _ (List.mem_append_right _ (List.mem_append_left _ (List.mem_of_getElem? h))))))))) hg
theorem gw9 {i : Nat} {w : Cond} (h : tables_1_9[i]? = some w) (hg : goodWord w = true) : w ∈ gT := gT_of (List.mem_append_right _ (List.mem_append_right _ (List.mem_append_right _ (List.mem_append_right _ (List.mem_append_right _ (List.mem_append_right _ (List.mem_append_right _ (List.mem_append_right _ (List.mem_of_getElem? h))))))))) hg
theorem gp1 {i n : Nat} {y : MethodName} (h : lw_privs_1[i]? = some (y, n)) : Cond.selects y.cls y y ∈ gT := gT_pr (q := (y, n)) (List.mem_append_left _ (List.mem_of_getElem? h))
theorem gp2 {i n : Nat} {y : MethodName} (h : lw_privs_2[i]? = some (y, n)) : Cond.selects y.cls y y ∈ gT := gT_pr (q := (y, n)) (List.mem_append_right _ (List.mem_append_left _ (List.mem_of_getElem? h)))
theorem gp3 {i n : Nat} {y : MethodName} (h : lw_privs_3[i]? = some (y, n)) : Cond.selects y.cls y y ∈ gT := gT_pr (q := (y, n)) (List.mem_append_right _ (List.mem_append_right _ (List.mem_append_left _ (List.mem_of_getElem? h))))
theorem gp4 {i n : Nat} {y : MethodName} (h : lw_privs_4[i]? = some (y, n)) : Cond.selects y.cls y y ∈ gT := gT_pr (q := (y, n)) (List.mem_append_right _ (List.mem_append_right _ (List.mem_append_right _ (List.mem_append_left _ (List.mem_of_getElem? h)))))
theorem gp5 {i n : Nat} {y : MethodName} (h : lw_privs_5[i]? = some (y, n)) : Cond.selects y.cls y y ∈ gT := gT_pr (q := (y, n)) (List.mem_append_right _ (List.mem_append_right _ (List.mem_append_right _ (List.mem_append_right _ (List.mem_append_left _ (List.mem_of_getElem? h))))))
theorem gp6 {i n : Nat} {y : MethodName} (h : lw_privs_6[i]? = some (y, n)) : Cond.selects y.cls y y ∈ gT := gT_pr (q := (y, n)) (List.mem_append_right _ (List.mem_append_right _ (List.mem_append_right _ (List.mem_append_right _ (List.mem_append_right _ (List.mem_append_left _ (List.mem_of_getElem? h)))))))
theorem gp7 {i n : Nat} {y : MethodName} (h : lw_privs_7[i]? = some (y, n)) : Cond.selects y.cls y y ∈ gT := gT_pr (q := (y, n)) (List.mem_append_right _ (List.mem_append_right _ (List.mem_append_right _ (List.mem_append_right _ (List.mem_append_right _ (List.mem_append_right _ (List.mem_append_left _ (List.mem_of_getElem? h))))))))
theorem gp8 {i n : Nat} {y : MethodName} (h : lw_privs_8[i]? = some (y, n)) : Cond.selects y.cls y y ∈ gT := gT_pr (q := (y, n)) (List.mem_append_right _ (List.mem_append_right _ (List.mem_append_right _ (List.mem_append_right _ (List.mem_append_right _ (List.mem_append_right _ (List.mem_append_right _ (List.mem_of_getElem? h))))))))

theorem in_X0 : ∀ w ∈ u_ws RX0 TX0 10, w ∈ gT := by decide +kernel
theorem in_X1 : ∀ w ∈ u_ws RX1 TX1 8, w ∈ gT := by decide +kernel
theorem in_X2 : ∀ w ∈ u_ws RX2 TX2 3, w ∈ gT := by decide +kernel
theorem in_X3 : ∀ w ∈ u_ws RX3 TX3 5, w ∈ gT := by decide +kernel
theorem in_X4 : ∀ w ∈ u_ws RX4 TX4 6, w ∈ gT := by decide +kernel
theorem in_X5 : ∀ w ∈ u_ws RX5 TX5 8, w ∈ gT := by decide +kernel
theorem in_X6 : ∀ w ∈ u_ws RX6 TX6 5, w ∈ gT := by decide +kernel
theorem in_X7 : ∀ w ∈ u_ws RX7 TX7 3, w ∈ gT := by decide +kernel
theorem in_X8 : ∀ w ∈ u_ws RX8 TX8 2, w ∈ gT := by decide +kernel
theorem in_X9 : ∀ w ∈ u_ws RX9 TX9 2, w ∈ gT := by decide +kernel
theorem in_X10 : ∀ w ∈ u_ws RX10 TX10 13, w ∈ gT := by decide +kernel
theorem in_X11 : ∀ w ∈ u_ws RX11 TX11 47, w ∈ gT := by decide +kernel
theorem kb_m2 : (Int8.ofInt (-2)).toInt32 = (-2 : Int32) := by decide
theorem kb_6 : (Int8.ofInt (6)).toInt32 = (6 : Int32) := by decide
theorem kb_7 : (Int8.ofInt (7)).toInt32 = (7 : Int32) := by decide
theorem kb_8 : (Int8.ofInt (8)).toInt32 = (8 : Int32) := by decide
theorem kb_9 : (Int8.ofInt (9)).toInt32 = (9 : Int32) := by decide
theorem kb_10 : (Int8.ofInt (10)).toInt32 = (10 : Int32) := by decide
theorem kb_11 : (Int8.ofInt (11)).toInt32 = (11 : Int32) := by decide
theorem kb_12 : (Int8.ofInt (12)).toInt32 = (12 : Int32) := by decide
theorem kb_16 : (Int8.ofInt (16)).toInt32 = (16 : Int32) := by decide
theorem kb_18 : (Int8.ofInt (18)).toInt32 = (18 : Int32) := by decide
theorem kb_20 : (Int8.ofInt (20)).toInt32 = (20 : Int32) := by decide
theorem kb_24 : (Int8.ofInt (24)).toInt32 = (24 : Int32) := by decide
theorem kb_30 : (Int8.ofInt (30)).toInt32 = (30 : Int32) := by decide
theorem kb_32 : (Int8.ofInt (32)).toInt32 = (32 : Int32) := by decide
theorem kb_33 : (Int8.ofInt (33)).toInt32 = (33 : Int32) := by decide
theorem kb_38 : (Int8.ofInt (38)).toInt32 = (38 : Int32) := by decide
theorem kb_40 : (Int8.ofInt (40)).toInt32 = (40 : Int32) := by decide
theorem kb_41 : (Int8.ofInt (41)).toInt32 = (41 : Int32) := by decide
theorem kb_42 : (Int8.ofInt (42)).toInt32 = (42 : Int32) := by decide
theorem kb_43 : (Int8.ofInt (43)).toInt32 = (43 : Int32) := by decide
theorem kb_45 : (Int8.ofInt (45)).toInt32 = (45 : Int32) := by decide
theorem kb_47 : (Int8.ofInt (47)).toInt32 = (47 : Int32) := by decide
theorem kb_48 : (Int8.ofInt (48)).toInt32 = (48 : Int32) := by decide
theorem kb_57 : (Int8.ofInt (57)).toInt32 = (57 : Int32) := by decide
theorem kb_58 : (Int8.ofInt (58)).toInt32 = (58 : Int32) := by decide
theorem kb_59 : (Int8.ofInt (59)).toInt32 = (59 : Int32) := by decide
theorem kb_60 : (Int8.ofInt (60)).toInt32 = (60 : Int32) := by decide
theorem kb_61 : (Int8.ofInt (61)).toInt32 = (61 : Int32) := by decide
theorem kb_62 : (Int8.ofInt (62)).toInt32 = (62 : Int32) := by decide
theorem kb_63 : (Int8.ofInt (63)).toInt32 = (63 : Int32) := by decide
theorem kb_91 : (Int8.ofInt (91)).toInt32 = (91 : Int32) := by decide
theorem kb_93 : (Int8.ofInt (93)).toInt32 = (93 : Int32) := by decide
theorem kb_98 : (Int8.ofInt (98)).toInt32 = (98 : Int32) := by decide
theorem kb_99 : (Int8.ofInt (99)).toInt32 = (99 : Int32) := by decide
theorem kb_100 : (Int8.ofInt (100)).toInt32 = (100 : Int32) := by decide
theorem kb_102 : (Int8.ofInt (102)).toInt32 = (102 : Int32) := by decide
theorem kb_104 : (Int8.ofInt (104)).toInt32 = (104 : Int32) := by decide
theorem kb_107 : (Int8.ofInt (107)).toInt32 = (107 : Int32) := by decide
theorem kb_108 : (Int8.ofInt (108)).toInt32 = (108 : Int32) := by decide
theorem kb_109 : (Int8.ofInt (109)).toInt32 = (109 : Int32) := by decide
theorem kb_110 : (Int8.ofInt (110)).toInt32 = (110 : Int32) := by decide
theorem kb_111 : (Int8.ofInt (111)).toInt32 = (111 : Int32) := by decide
theorem kb_112 : (Int8.ofInt (112)).toInt32 = (112 : Int32) := by decide
theorem kb_114 : (Int8.ofInt (114)).toInt32 = (114 : Int32) := by decide
theorem kb_115 : (Int8.ofInt (115)).toInt32 = (115 : Int32) := by decide
theorem kb_119 : (Int8.ofInt (119)).toInt32 = (119 : Int32) := by decide
theorem kb_120 : (Int8.ofInt (120)).toInt32 = (120 : Int32) := by decide
theorem kb_121 : (Int8.ofInt (121)).toInt32 = (121 : Int32) := by decide
theorem kb_124 : (Int8.ofInt (124)).toInt32 = (124 : Int32) := by decide
theorem kb_127 : (Int8.ofInt (127)).toInt32 = (127 : Int32) := by decide
theorem ki_m8 : Int32.ofInt (-8) = (-8 : Int32) := by decide
theorem ki_m1 : Int32.ofInt (-1) = (-1 : Int32) := by decide
theorem ki_0 : Int32.ofInt (0) = (0 : Int32) := by decide
theorem ki_1 : Int32.ofInt (1) = (1 : Int32) := by decide
theorem ki_2 : Int32.ofInt (2) = (2 : Int32) := by decide
theorem ki_3 : Int32.ofInt (3) = (3 : Int32) := by decide
theorem ki_4 : Int32.ofInt (4) = (4 : Int32) := by decide
theorem ki_5 : Int32.ofInt (5) = (5 : Int32) := by decide
theorem ks_131 : (Int16.ofInt (131)).toInt32 = (131 : Int32) := by decide
theorem ks_140 : (Int16.ofInt (140)).toInt32 = (140 : Int32) := by decide
theorem ks_240 : (Int16.ofInt (240)).toInt32 = (240 : Int32) := by decide
theorem ks_255 : (Int16.ofInt (255)).toInt32 = (255 : Int32) := by decide
theorem ks_520 : (Int16.ofInt (520)).toInt32 = (520 : Int32) := by decide
theorem ks_999 : (Int16.ofInt (999)).toInt32 = (999 : Int32) := by decide
theorem ks_5240 : (Int16.ofInt (5240)).toInt32 = (5240 : Int32) := by decide
theorem ks_9999 : (Int16.ofInt (9999)).toInt32 = (9999 : Int32) := by decide
theorem ks_10000 : (Int16.ofInt (10000)).toInt32 = (10000 : Int32) := by decide
theorem ks_20000 : (Int16.ofInt (20000)).toInt32 = (20000 : Int32) := by decide
theorem ks_20033 : (Int16.ofInt (20033)).toInt32 = (20033 : Int32) := by decide
theorem ks_20038 : (Int16.ofInt (20038)).toInt32 = (20038 : Int32) := by decide
theorem ks_20124 : (Int16.ofInt (20124)).toInt32 = (20124 : Int32) := by decide
theorem ks_30000 : (Int16.ofInt (30000)).toInt32 = (30000 : Int32) := by decide
theorem fl_RX0_9 : Cond.fieldLink RX0 9 "WeatherMarbles$Clues" "places" "[I" ∈ gT := gw1 (i := 210) rfl rfl
theorem fl_RX0_15 : Cond.fieldLink RX0 15 "WeatherMarbles$Clues" "kinds" "[I" ∈ gT := gw1 (i := 211) rfl rfl
theorem fl_RX0_18 : Cond.fieldLink RX0 18 "WeatherMarbles$Clues" "holds" "[Z" ∈ gT := gw1 (i := 212) rfl rfl
theorem fl_RX0_22 : Cond.fieldLink RX0 22 "WeatherMarbles$Clues" "fitting" "[I" ∈ gT := gw1 (i := 214) rfl rfl
theorem fl_RX0_25 : Cond.fieldLink RX0 25 "WeatherMarbles$Clues" "tally" "[I" ∈ gT := gw1 (i := 215) rfl rfl
theorem fl_RX0_28 : Cond.fieldLink RX0 28 "WeatherMarbles$Clues" "yard" "LWeatherMarbles$Yard;" ∈ gT := gw1 (i := 206) rfl rfl
theorem fl_RX0_32 : Cond.fieldLink RX0 32 "WeatherMarbles$Clues" "now" "LWeatherMarbles$Now;" ∈ gT := gw1 (i := 207) rfl rfl
theorem fl_RX0_36 : Cond.fieldLink RX0 36 "WeatherMarbles$Clues" "sky" "LWeatherMarbles$Sky;" ∈ gT := gw1 (i := 208) rfl rfl
theorem fl_RX0_40 : Cond.fieldLink RX0 40 "WeatherMarbles$Clues" "size" "I" ∈ gT := gw1 (i := 209) rfl rfl
theorem fl_RX0_50 : Cond.fieldLink RX0 50 "WeatherMarbles$Clues" "found" "I" ∈ gT := gw1 (i := 213) rfl rfl
theorem fl_RX1_13 : Cond.fieldLink RX1 13 "WeatherMarbles$Lane" "letters" "[I" ∈ gT := gw2 (i := 9) rfl rfl
theorem fl_RX1_18 : Cond.fieldLink RX1 18 "WeatherMarbles$Lane" "firstCells" "[I" ∈ gT := gw2 (i := 10) rfl rfl
theorem fl_RX1_21 : Cond.fieldLink RX1 21 "WeatherMarbles$Lane" "secondCells" "[I" ∈ gT := gw2 (i := 11) rfl rfl
theorem fl_RX1_24 : Cond.fieldLink RX1 24 "WeatherMarbles$Lane" "firstBest" "[I" ∈ gT := gw2 (i := 12) rfl rfl
theorem fl_RX1_27 : Cond.fieldLink RX1 27 "WeatherMarbles$Lane" "secondBest" "[I" ∈ gT := gw2 (i := 13) rfl rfl
theorem fl_RX1_30 : Cond.fieldLink RX1 30 "WeatherMarbles$Lane" "yard" "LWeatherMarbles$Yard;" ∈ gT := gw2 (i := 6) rfl rfl
theorem fl_RX1_34 : Cond.fieldLink RX1 34 "WeatherMarbles$Lane" "now" "LWeatherMarbles$Now;" ∈ gT := gw2 (i := 7) rfl rfl
theorem fl_RX1_38 : Cond.fieldLink RX1 38 "WeatherMarbles$Lane" "laws" "LWeatherMarbles$Laws;" ∈ gT := gw2 (i := 8) rfl rfl
theorem fl_RX1_83 : Cond.fieldLink RX1 83 "WeatherMarbles$Now" "day" "I" ∈ gT := gw1 (i := 130) rfl rfl
theorem fl_RX10_10 : Cond.fieldLink RX10 10 "WeatherMarbles" "tape" "LWeatherMarbles$Tape;" ∈ gT := gw2 (i := 31) rfl rfl
theorem fl_RX10_21 : Cond.fieldLink RX10 21 "WeatherMarbles" "yardReader" "LWeatherMarbles$YardReader;" ∈ gT := gw2 (i := 32) rfl rfl
theorem fl_RX10_28 : Cond.fieldLink RX10 28 "WeatherMarbles" "lawReader" "LWeatherMarbles$LawReader;" ∈ gT := gw2 (i := 33) rfl rfl
theorem fl_RX10_35 : Cond.fieldLink RX10 35 "WeatherMarbles" "laws" "LWeatherMarbles$Laws;" ∈ gT := gw2 (i := 34) rfl rfl
theorem fl_RX10_42 : Cond.fieldLink RX10 42 "WeatherMarbles" "yard" "LWeatherMarbles$Yard;" ∈ gT := gw2 (i := 35) rfl rfl
theorem fl_RX10_49 : Cond.fieldLink RX10 49 "WeatherMarbles" "now" "LWeatherMarbles$Now;" ∈ gT := gw2 (i := 36) rfl rfl
theorem fl_RX10_58 : Cond.fieldLink RX10 58 "WeatherMarbles" "past" "LWeatherMarbles$Past;" ∈ gT := gw2 (i := 37) rfl rfl
theorem fl_RX10_67 : Cond.fieldLink RX10 67 "WeatherMarbles" "sky" "LWeatherMarbles$Sky;" ∈ gT := gw2 (i := 38) rfl rfl
theorem fl_RX10_76 : Cond.fieldLink RX10 76 "WeatherMarbles" "clues" "LWeatherMarbles$Clues;" ∈ gT := gw2 (i := 39) rfl rfl
theorem fl_RX10_85 : Cond.fieldLink RX10 85 "WeatherMarbles" "lane" "LWeatherMarbles$Lane;" ∈ gT := gw2 (i := 40) rfl rfl
theorem fl_RX10_89 : Cond.fieldLink RX10 89 "WeatherMarbles" "refusals" "[I" ∈ gT := gw2 (i := 41) rfl rfl
theorem fl_RX10_148 : Cond.fieldLink RX10 148 "WeatherMarbles$Now" "sweets" "I" ∈ gT := gw1 (i := 127) rfl rfl
theorem fl_RX10_236 : Cond.fieldLink RX10 236 "WeatherMarbles$Now" "chipped" "I" ∈ gT := gw1 (i := 123) rfl rfl
theorem fl_RX10_239 : Cond.fieldLink RX10 239 "WeatherMarbles$Now" "swallowed" "I" ∈ gT := gw1 (i := 125) rfl rfl
theorem fl_RX10_242 : Cond.fieldLink RX10 242 "WeatherMarbles$Now" "day" "I" ∈ gT := gw1 (i := 132) rfl rfl
theorem fl_RX10_248 : Cond.fieldLink RX10 248 "WeatherMarbles" "spillsNow" "I" ∈ gT := gw2 (i := 42) rfl rfl
theorem fl_RX10_251 : Cond.fieldLink RX10 251 "WeatherMarbles" "drawn" "J" ∈ gT := gw2 (i := 43) rfl rfl
theorem fl_RX11_9 : Cond.fieldLink RX11 9 "WeatherMarblesModel" "tape" "[I" ∈ gT := gw6 (i := 47) rfl rfl
theorem fl_RX11_13 : Cond.fieldLink RX11 13 "WeatherMarblesModel" "code" "[I" ∈ gT := gw6 (i := 52) rfl rfl
theorem fl_RX11_16 : Cond.fieldLink RX11 16 "WeatherMarblesModel" "value" "[I" ∈ gT := gw6 (i := 53) rfl rfl
theorem fl_RX11_19 : Cond.fieldLink RX11 19 "WeatherMarblesModel" "codes" "[I" ∈ gT := gw6 (i := 54) rfl rfl
theorem fl_RX11_22 : Cond.fieldLink RX11 22 "WeatherMarblesModel" "clauses" "[I" ∈ gT := gw6 (i := 55) rfl rfl
theorem fl_RX11_25 : Cond.fieldLink RX11 25 "WeatherMarblesModel" "testFrom" "[I" ∈ gT := gw6 (i := 56) rfl rfl
theorem fl_RX11_28 : Cond.fieldLink RX11 28 "WeatherMarblesModel" "sumFrom" "[I" ∈ gT := gw6 (i := 57) rfl rfl
theorem fl_RX11_31 : Cond.fieldLink RX11 31 "WeatherMarblesModel" "sumTo" "[I" ∈ gT := gw6 (i := 58) rfl rfl
theorem fl_RX11_34 : Cond.fieldLink RX11 34 "WeatherMarblesModel" "letters" "[I" ∈ gT := gw6 (i := 61) rfl rfl
theorem fl_RX11_37 : Cond.fieldLink RX11 37 "WeatherMarblesModel" "stack" "[I" ∈ gT := gw6 (i := 62) rfl rfl
theorem fl_RX11_40 : Cond.fieldLink RX11 40 "WeatherMarblesModel" "readRule" "[I" ∈ gT := gw6 (i := 63) rfl rfl
theorem fl_RX11_43 : Cond.fieldLink RX11 43 "WeatherMarblesModel" "readBoy" "[I" ∈ gT := gw6 (i := 64) rfl rfl
theorem fl_RX11_46 : Cond.fieldLink RX11 46 "WeatherMarblesModel" "readMarble" "[I" ∈ gT := gw6 (i := 65) rfl rfl
theorem fl_RX11_49 : Cond.fieldLink RX11 49 "WeatherMarblesModel" "readFarm" "[I" ∈ gT := gw6 (i := 66) rfl rfl
theorem fl_RX11_52 : Cond.fieldLink RX11 52 "WeatherMarblesModel" "rule" "[I" ∈ gT := gw6 (i := 70) rfl rfl
theorem fl_RX11_55 : Cond.fieldLink RX11 55 "WeatherMarblesModel" "boy" "[I" ∈ gT := gw6 (i := 71) rfl rfl
theorem fl_RX11_58 : Cond.fieldLink RX11 58 "WeatherMarblesModel" "marble" "[I" ∈ gT := gw6 (i := 72) rfl rfl
theorem fl_RX11_61 : Cond.fieldLink RX11 61 "WeatherMarblesModel" "farm" "[I" ∈ gT := gw6 (i := 73) rfl rfl
theorem fl_RX11_64 : Cond.fieldLink RX11 64 "WeatherMarblesModel" "now" "[I" ∈ gT := gw6 (i := 77) rfl rfl
theorem fl_RX11_67 : Cond.fieldLink RX11 67 "WeatherMarblesModel" "refused" "[I" ∈ gT := gw6 (i := 78) rfl rfl
theorem fl_RX11_70 : Cond.fieldLink RX11 70 "WeatherMarblesModel" "holding" "I" ∈ gT := gw6 (i := 79) rfl rfl
theorem fl_RX11_74 : Cond.fieldLink RX11 74 "WeatherMarblesModel" "kept" "[I" ∈ gT := gw6 (i := 81) rfl rfl
theorem fl_RX11_77 : Cond.fieldLink RX11 77 "WeatherMarblesModel" "notePlace" "[I" ∈ gT := gw6 (i := 86) rfl rfl
theorem fl_RX11_80 : Cond.fieldLink RX11 80 "WeatherMarblesModel" "noteKind" "[I" ∈ gT := gw6 (i := 87) rfl rfl
theorem fl_RX11_83 : Cond.fieldLink RX11 83 "WeatherMarblesModel" "noteIs" "[Z" ∈ gT := gw6 (i := 88) rfl rfl
theorem fl_RX11_87 : Cond.fieldLink RX11 87 "WeatherMarblesModel" "toldBy" "[I" ∈ gT := gw6 (i := 90) rfl rfl
theorem fl_RX11_90 : Cond.fieldLink RX11 90 "WeatherMarblesModel" "image" "[I" ∈ gT := gw6 (i := 91) rfl rfl
theorem fl_RX11_93 : Cond.fieldLink RX11 93 "WeatherMarblesModel" "thrown" "I" ∈ gT := gw6 (i := 46) rfl rfl
theorem fl_RX11_100 : Cond.fieldLink RX11 100 "WeatherMarblesModel" "size" "I" ∈ gT := gw6 (i := 48) rfl rfl
theorem fl_RX11_103 : Cond.fieldLink RX11 103 "WeatherMarblesModel" "at" "I" ∈ gT := gw6 (i := 49) rfl rfl
theorem fl_RX11_110 : Cond.fieldLink RX11 110 "WeatherMarblesModel" "wrong" "I" ∈ gT := gw6 (i := 50) rfl rfl
theorem fl_RX11_113 : Cond.fieldLink RX11 113 "WeatherMarblesModel" "text" "I" ∈ gT := gw6 (i := 60) rfl rfl
theorem fl_RX11_116 : Cond.fieldLink RX11 116 "WeatherMarblesModel" "deep" "I" ∈ gT := gw6 (i := 51) rfl rfl
theorem fl_RX11_236 : Cond.fieldLink RX11 236 "WeatherMarblesModel" "readBoys" "I" ∈ gT := gw6 (i := 67) rfl rfl
theorem fl_RX11_239 : Cond.fieldLink RX11 239 "WeatherMarblesModel" "readMarbles" "I" ∈ gT := gw6 (i := 68) rfl rfl
theorem fl_RX11_242 : Cond.fieldLink RX11 242 "WeatherMarblesModel" "readFarms" "I" ∈ gT := gw6 (i := 69) rfl rfl
theorem fl_RX11_258 : Cond.fieldLink RX11 258 "WeatherMarblesModel" "boys" "I" ∈ gT := gw6 (i := 74) rfl rfl
theorem fl_RX11_261 : Cond.fieldLink RX11 261 "WeatherMarblesModel" "marbles" "I" ∈ gT := gw6 (i := 75) rfl rfl
theorem fl_RX11_264 : Cond.fieldLink RX11 264 "WeatherMarblesModel" "farms" "I" ∈ gT := gw6 (i := 76) rfl rfl
theorem fl_RX11_270 : Cond.fieldLink RX11 270 "WeatherMarblesModel" "noted" "I" ∈ gT := gw6 (i := 89) rfl rfl
theorem fl_RX11_273 : Cond.fieldLink RX11 273 "WeatherMarblesModel" "acts" "I" ∈ gT := gw6 (i := 82) rfl rfl
theorem fl_RX11_276 : Cond.fieldLink RX11 276 "WeatherMarblesModel" "hasImage" "Z" ∈ gT := gw6 (i := 92) rfl rfl
theorem fl_RX11_283 : Cond.fieldLink RX11 283 "WeatherMarblesModel" "laws" "I" ∈ gT := gw6 (i := 59) rfl rfl
theorem fl_RX11_381 : Cond.fieldLink RX11 381 "WeatherMarblesModel" "spills" "I" ∈ gT := gw6 (i := 80) rfl rfl
theorem fl_RX11_384 : Cond.fieldLink RX11 384 "WeatherMarblesModel" "draws" "J" ∈ gT := gw6 (i := 83) rfl rfl
theorem fl_RX11_407 : Cond.fieldLink RX11 407 "WeatherMarblesModel" "bestRow" "I" ∈ gT := gw6 (i := 84) rfl rfl
theorem fl_RX11_410 : Cond.fieldLink RX11 410 "WeatherMarblesModel" "bestMany" "I" ∈ gT := gw6 (i := 85) rfl rfl
theorem fl_RX2_9 : Cond.fieldLink RX2 9 "WeatherMarbles$LawReader" "code" "[I" ∈ gT := gw1 (i := 81) rfl rfl
theorem fl_RX2_15 : Cond.fieldLink RX2 15 "WeatherMarbles$LawReader" "tape" "LWeatherMarbles$Tape;" ∈ gT := gw1 (i := 80) rfl rfl
theorem fl_RX2_19 : Cond.fieldLink RX2 19 "WeatherMarbles$LawReader" "length" "I" ∈ gT := gw1 (i := 82) rfl rfl
theorem fl_RX3_9 : Cond.fieldLink RX3 9 "WeatherMarbles$Laws" "codes" "[I" ∈ gT := gw1 (i := 96) rfl rfl
theorem fl_RX3_15 : Cond.fieldLink RX3 15 "WeatherMarbles$Laws" "lengths" "[I" ∈ gT := gw1 (i := 97) rfl rfl
theorem fl_RX3_18 : Cond.fieldLink RX3 18 "WeatherMarbles$Laws" "chosen" "I" ∈ gT := gw1 (i := 99) rfl rfl
theorem fl_RX3_22 : Cond.fieldLink RX3 22 "WeatherMarbles$Laws" "stack" "[I" ∈ gT := gw1 (i := 100) rfl rfl
theorem fl_RX3_25 : Cond.fieldLink RX3 25 "WeatherMarbles$Laws" "size" "I" ∈ gT := gw1 (i := 98) rfl rfl
theorem fl_RX4_9 : Cond.fieldLink RX4 9 "WeatherMarbles$Now" "owners" "[I" ∈ gT := gw1 (i := 120) rfl rfl
theorem fl_RX4_27 : Cond.fieldLink RX4 27 "WeatherMarbles$Now" "marbles" "I" ∈ gT := gw1 (i := 121) rfl rfl
theorem fl_RX4_34 : Cond.fieldLink RX4 34 "WeatherMarbles$Now" "chipped" "I" ∈ gT := gw1 (i := 122) rfl rfl
theorem fl_RX4_37 : Cond.fieldLink RX4 37 "WeatherMarbles$Now" "swallowed" "I" ∈ gT := gw1 (i := 124) rfl rfl
theorem fl_RX4_43 : Cond.fieldLink RX4 43 "WeatherMarbles$Now" "sweets" "I" ∈ gT := gw1 (i := 126) rfl rfl
theorem fl_RX4_46 : Cond.fieldLink RX4 46 "WeatherMarbles$Now" "day" "I" ∈ gT := gw1 (i := 129) rfl rfl
theorem fl_RX5_9 : Cond.fieldLink RX5 9 "WeatherMarbles$Past" "acts" "[J" ∈ gT := gw1 (i := 153) rfl rfl
theorem fl_RX5_15 : Cond.fieldLink RX5 15 "WeatherMarbles$Past" "entries" "[I" ∈ gT := gw1 (i := 156) rfl rfl
theorem fl_RX5_19 : Cond.fieldLink RX5 19 "WeatherMarbles$Past" "imageEntries" "[I" ∈ gT := gw1 (i := 159) rfl rfl
theorem fl_RX5_22 : Cond.fieldLink RX5 22 "WeatherMarbles$Past" "now" "LWeatherMarbles$Now;" ∈ gT := gw1 (i := 152) rfl rfl
theorem fl_RX5_26 : Cond.fieldLink RX5 26 "WeatherMarbles$Past" "kept" "I" ∈ gT := gw1 (i := 155) rfl rfl
theorem fl_RX5_30 : Cond.fieldLink RX5 30 "WeatherMarbles$Past" "hasImage" "Z" ∈ gT := gw1 (i := 157) rfl rfl
theorem fl_RX5_34 : Cond.fieldLink RX5 34 "WeatherMarbles$Past" "next" "I" ∈ gT := gw1 (i := 154) rfl rfl
theorem fl_RX5_53 : Cond.fieldLink RX5 53 "WeatherMarbles$Now" "day" "I" ∈ gT := gw1 (i := 131) rfl rfl
theorem fl_RX5_60 : Cond.fieldLink RX5 60 "WeatherMarbles$Now" "sweets" "I" ∈ gT := gw1 (i := 128) rfl rfl
theorem fl_RX5_63 : Cond.fieldLink RX5 63 "WeatherMarbles$Past" "image" "J" ∈ gT := gw1 (i := 158) rfl rfl
theorem fl_RX6_9 : Cond.fieldLink RX6 9 "WeatherMarbles$Sky" "strengths" "[I" ∈ gT := gw1 (i := 186) rfl rfl
theorem fl_RX6_15 : Cond.fieldLink RX6 15 "WeatherMarbles$Sky" "yard" "LWeatherMarbles$Yard;" ∈ gT := gw1 (i := 184) rfl rfl
theorem fl_RX6_19 : Cond.fieldLink RX6 19 "WeatherMarbles$Sky" "now" "LWeatherMarbles$Now;" ∈ gT := gw1 (i := 185) rfl rfl
theorem fl_RX6_81 : Cond.fieldLink RX6 81 "WeatherMarbles$Sky" "fewest" "I" ∈ gT := gw1 (i := 187) rfl rfl
theorem fl_RX6_85 : Cond.fieldLink RX6 85 "WeatherMarbles$Sky" "row" "I" ∈ gT := gw1 (i := 188) rfl rfl
theorem fl_RX7_9 : Cond.fieldLink RX7 9 "WeatherMarbles$Tape" "bytes" "[I" ∈ gT := gw1 (i := 35) rfl rfl
theorem fl_RX7_15 : Cond.fieldLink RX7 15 "WeatherMarbles$Tape" "length" "I" ∈ gT := gw1 (i := 36) rfl rfl
theorem fl_RX7_19 : Cond.fieldLink RX7 19 "WeatherMarbles$Tape" "at" "I" ∈ gT := gw1 (i := 37) rfl rfl
theorem fl_RX8_9 : Cond.fieldLink RX8 9 "WeatherMarbles$Yard" "cells" "[I" ∈ gT := gw1 (i := 60) rfl rfl
theorem fl_RX8_18 : Cond.fieldLink RX8 18 "WeatherMarbles$Yard" "clauses" "[I" ∈ gT := gw1 (i := 61) rfl rfl
theorem fl_RX9_12 : Cond.fieldLink RX9 12 "WeatherMarbles$YardReader" "read" "LWeatherMarbles$Yard;" ∈ gT := gw1 (i := 68) rfl rfl
theorem fl_RX9_18 : Cond.fieldLink RX9 18 "WeatherMarbles$YardReader" "tape" "LWeatherMarbles$Tape;" ∈ gT := gw1 (i := 67) rfl rfl
theorem cst_RJ6_265 : Cond.constant RJ6 265 (1431655765) ∈ gT := gw4 (i := 7) rfl rfl
theorem cst_RJ6_266 : Cond.constant RJ6 266 (858993459) ∈ gT := gw4 (i := 8) rfl rfl
theorem cst_RJ6_267 : Cond.constant RJ6 267 (252645135) ∈ gT := gw4 (i := 9) rfl rfl
theorem cst_RX1_134 : Cond.constant RX1 134 (1000000000) ∈ gT := gw4 (i := 210) rfl rfl
theorem cst_RX10_180 : Cond.constant RX10 180 (-1000000) ∈ gT := gw3 (i := 88) rfl rfl
theorem cst_RX11_331 : Cond.constant RX11 331 (-1000000) ∈ gT := gw7 (i := 127) rfl rfl
theorem cst_RX11_447 : Cond.constant RX11 447 (1000000000) ∈ gT := gw8 (i := 169) rfl rfl
theorem cst_RX2_54 : Cond.constant RX2 54 (40000) ∈ gT := gw3 (i := 10) rfl rfl
theorem cst_RX3_41 : Cond.constant RX3 41 (40000) ∈ gT := gw4 (i := 18) rfl rfl
theorem cstl_RX1_138 : Cond.constantLong RX1 138 (100) ∈ gT := gw4 (i := 214) rfl rfl
theorem cstl_RX10_384 : Cond.constantLong RX10 384 (6364136223846793005) ∈ gT := gw4 (i := 118) rfl rfl
theorem cstl_RX10_386 : Cond.constantLong RX10 386 (1442695040888963407) ∈ gT := gw4 (i := 119) rfl rfl
theorem cstl_RX11_183 : Cond.constantLong RX11 183 (-1000000) ∈ gT := gw7 (i := 210) rfl rfl
theorem cstl_RX11_185 : Cond.constantLong RX11 185 (1000000) ∈ gT := gw7 (i := 211) rfl rfl
theorem cstl_RX11_388 : Cond.constantLong RX11 388 (6364136223846793005) ∈ gT := gw8 (i := 48) rfl rfl
theorem cstl_RX11_390 : Cond.constantLong RX11 390 (1442695040888963407) ∈ gT := gw8 (i := 49) rfl rfl
theorem cstl_RX11_445 : Cond.constantLong RX11 445 (100) ∈ gT := gw8 (i := 173) rfl rfl
theorem cstl_RX3_50 : Cond.constantLong RX3 50 (-1000000) ∈ gT := gw4 (i := 25) rfl rfl
theorem cstl_RX3_52 : Cond.constantLong RX3 52 (1000000) ∈ gT := gw4 (i := 26) rfl rfl
theorem cstl_RX4_71 : Cond.constantLong RX4 71 (7) ∈ gT := gw4 (i := 140) rfl rfl
theorem cstl_RX4_73 : Cond.constantLong RX4 73 (63) ∈ gT := gw4 (i := 141) rfl rfl
theorem cstl_RX4_75 : Cond.constantLong RX4 75 (1023) ∈ gT := gw4 (i := 142) rfl rfl
theorem wml_RX0_97 : Cond.methodLink RX0 97 Lib.Math.max.name ∈ gT := gw5 (i := 104) rfl rfl
theorem wst_J9_max_7cf53 : Cond.static Lib.Math.max.name ∈ gT := gw3 (i := 165) rfl rfl
theorem wini_RJ9 : Cond.initialized "java/lang/Math" ∈ gT := gw1 (i := 15) rfl rfl
theorem wcod_J9_max_7cf53 : Cond.code Lib.Math.max.name Lib.Math.max.code 2 (some .int) ∈ gT := gw3 (i := 166) rfl rfl
theorem cm_RX0_97 : gCM RX0 97 Lib.Math.max.name Lib.Math.max.code 2 (some .int) := ⟨wml_RX0_97, wst_J9_max_7cf53, wini_RJ9, wcod_J9_max_7cf53⟩
theorem wml_RX1_91 : Cond.methodLink RX1 91 Lib.Math.min.name ∈ gT := gw4 (i := 33) rfl rfl
theorem wst_J9_min_7cf53 : Cond.static Lib.Math.min.name ∈ gT := gw3 (i := 36) rfl rfl
theorem wcod_J9_min_7cf53 : Cond.code Lib.Math.min.name Lib.Math.min.code 2 (some .int) ∈ gT := gw3 (i := 37) rfl rfl
theorem cm_RX1_91 : gCM RX1 91 Lib.Math.min.name Lib.Math.min.code 2 (some .int) := ⟨wml_RX1_91, wst_J9_min_7cf53, wini_RJ9, wcod_J9_min_7cf53⟩
theorem wml_RX1_97 : Cond.methodLink RX1 97 Lib.Math.max.name ∈ gT := gw4 (i := 34) rfl rfl
theorem cm_RX1_97 : gCM RX1 97 Lib.Math.max.name Lib.Math.max.code 2 (some .int) := ⟨wml_RX1_97, wst_J9_max_7cf53, wini_RJ9, wcod_J9_max_7cf53⟩
theorem wml_RX1_107 : Cond.methodLink RX1 107 Lib.Math.abs.name ∈ gT := gw4 (i := 49) rfl rfl
theorem wst_J9_abs_0f7a4 : Cond.static Lib.Math.abs.name ∈ gT := gw4 (i := 50) rfl rfl
theorem wcod_J9_abs_0f7a4 : Cond.code Lib.Math.abs.name Lib.Math.abs.code 1 (some .int) ∈ gT := gw4 (i := 51) rfl rfl
theorem cm_RX1_107 : gCM RX1 107 Lib.Math.abs.name Lib.Math.abs.code 1 (some .int) := ⟨wml_RX1_107, wst_J9_abs_0f7a4, wini_RJ9, wcod_J9_abs_0f7a4⟩
theorem wml_RX10_376 : Cond.methodLink RX10 376 Lib.Math.min.name ∈ gT := gw4 (i := 93) rfl rfl
theorem cm_RX10_376 : gCM RX10 376 Lib.Math.min.name Lib.Math.min.code 2 (some .int) := ⟨wml_RX10_376, wst_J9_min_7cf53, wini_RJ9, wcod_J9_min_7cf53⟩
theorem wml_RX11_187 : Cond.methodLink RX11 187 Lib.MathLoose.min_long.x ∈ gT := gw7 (i := 212) rfl rfl
theorem wst_J9_min_f86c9 : Cond.static Lib.MathLoose.min_long.x ∈ gT := gw4 (i := 28) rfl rfl
theorem wcod_J9_min_f86c9 : Cond.code Lib.MathLoose.min_long.x Lib.MathLoose.min_long.code 4 (some .long) ∈ gT := gw4 (i := 29) rfl rfl
theorem cm_RX11_187 : gCM RX11 187 Lib.MathLoose.min_long.x Lib.MathLoose.min_long.code 4 (some .long) := ⟨wml_RX11_187, wst_J9_min_f86c9, wini_RJ9, wcod_J9_min_f86c9⟩
theorem wml_RX11_193 : Cond.methodLink RX11 193 Lib.MathLoose.max_long.x ∈ gT := gw7 (i := 213) rfl rfl
theorem wst_J9_max_f86c9 : Cond.static Lib.MathLoose.max_long.x ∈ gT := gw4 (i := 31) rfl rfl
theorem wcod_J9_max_f86c9 : Cond.code Lib.MathLoose.max_long.x Lib.MathLoose.max_long.code 4 (some .long) ∈ gT := gw4 (i := 32) rfl rfl
theorem cm_RX11_193 : gCM RX11 193 Lib.MathLoose.max_long.x Lib.MathLoose.max_long.code 4 (some .long) := ⟨wml_RX11_193, wst_J9_max_f86c9, wini_RJ9, wcod_J9_max_f86c9⟩
theorem wml_RX11_297 : Cond.methodLink RX11 297 Lib.Math.min.name ∈ gT := gw7 (i := 214) rfl rfl
theorem cm_RX11_297 : gCM RX11 297 Lib.Math.min.name Lib.Math.min.code 2 (some .int) := ⟨wml_RX11_297, wst_J9_min_7cf53, wini_RJ9, wcod_J9_min_7cf53⟩
theorem wml_RX11_299 : Cond.methodLink RX11 299 Lib.Math.max.name ∈ gT := gw7 (i := 152) rfl rfl
theorem cm_RX11_299 : gCM RX11 299 Lib.Math.max.name Lib.Math.max.code 2 (some .int) := ⟨wml_RX11_299, wst_J9_max_7cf53, wini_RJ9, wcod_J9_max_7cf53⟩
theorem wml_RX11_301 : Cond.methodLink RX11 301 Lib.Math.abs.name ∈ gT := gw7 (i := 227) rfl rfl
theorem cm_RX11_301 : gCM RX11 301 Lib.Math.abs.name Lib.Math.abs.code 1 (some .int) := ⟨wml_RX11_301, wst_J9_abs_0f7a4, wini_RJ9, wcod_J9_abs_0f7a4⟩
theorem wml_RX3_54 : Cond.methodLink RX3 54 Lib.MathLoose.min_long.x ∈ gT := gw4 (i := 27) rfl rfl
theorem cm_RX3_54 : gCM RX3 54 Lib.MathLoose.min_long.x Lib.MathLoose.min_long.code 4 (some .long) := ⟨wml_RX3_54, wst_J9_min_f86c9, wini_RJ9, wcod_J9_min_f86c9⟩
theorem wml_RX3_60 : Cond.methodLink RX3 60 Lib.MathLoose.max_long.x ∈ gT := gw4 (i := 30) rfl rfl
theorem cm_RX3_60 : gCM RX3 60 Lib.MathLoose.max_long.x Lib.MathLoose.max_long.code 4 (some .long) := ⟨wml_RX3_60, wst_J9_max_f86c9, wini_RJ9, wcod_J9_max_f86c9⟩
theorem wml_RX4_21 : Cond.methodLink RX4 21 Lib.Math.min.name ∈ gT := gw3 (i := 35) rfl rfl
theorem cm_RX4_21 : gCM RX4 21 Lib.Math.min.name Lib.Math.min.code 2 (some .int) := ⟨wml_RX4_21, wst_J9_min_7cf53, wini_RJ9, wcod_J9_min_7cf53⟩
theorem wml_RX4_68 : Cond.methodLink RX4 68 Lib.Math.max.name ∈ gT := gw3 (i := 164) rfl rfl
theorem cm_RX4_68 : gCM RX4 68 Lib.Math.max.name Lib.Math.max.code 2 (some .int) := ⟨wml_RX4_68, wst_J9_max_7cf53, wini_RJ9, wcod_J9_max_7cf53⟩
theorem wml_RX5_43 : Cond.methodLink RX5 43 Lib.Math.min.name ∈ gT := gw3 (i := 221) rfl rfl
theorem cm_RX5_43 : gCM RX5 43 Lib.Math.min.name Lib.Math.min.code 2 (some .int) := ⟨wml_RX5_43, wst_J9_min_7cf53, wini_RJ9, wcod_J9_min_7cf53⟩
theorem wml_RX0_44 : Cond.methodLink RX0 44 yX6_strongestKind ∈ gT := gw5 (i := 81) rfl rfl
theorem wini_RX6 : Cond.initialized RX6 ∈ gT := gw1 (i := 9) rfl rfl
theorem wcod_X6_strongestKind : Cond.code yX6_strongestKind cX6_strongestKind 5 (some .int) ∈ gT := gw3 (i := 176) rfl rfl
theorem wnm_X6_strongestKind : gNm yX6_strongestKind 1 = true := by decide +kernel
theorem wim_X6_strongestKind : Cond.instanceMethod yX6_strongestKind ∈ gT := gw3 (i := 174) rfl rfl
theorem wsel_X6_strongestKind : Cond.selects RX6 yX6_strongestKind yX6_strongestKind ∈ gT := gw3 (i := 175) rfl rfl
theorem cv_RX0_44 : gCV RX0 44 RX6 yX6_strongestKind cX6_strongestKind 5 (some .int) 1 := ⟨wml_RX0_44, wim_X6_strongestKind, wsel_X6_strongestKind, wini_RX6, wcod_X6_strongestKind, rfl, wnm_X6_strongestKind⟩
theorem wml_RX0_53 : Cond.methodLink RX0 53 yX6_measure ∈ gT := gw5 (i := 65) rfl rfl
theorem wcod_X6_measure : Cond.code yX6_measure cX6_measure 2 none ∈ gT := gw3 (i := 140) rfl rfl
theorem wnm_X6_measure : gNm yX6_measure 0 = true := by decide +kernel
theorem wim_X6_measure : Cond.instanceMethod yX6_measure ∈ gT := gw3 (i := 138) rfl rfl
theorem wsel_X6_measure : Cond.selects RX6 yX6_measure yX6_measure ∈ gT := gw3 (i := 139) rfl rfl
theorem cv_RX0_53 : gCV RX0 53 RX6 yX6_measure cX6_measure 2 none 0 := ⟨wml_RX0_53, wim_X6_measure, wsel_X6_measure, wini_RX6, wcod_X6_measure, rfl, wnm_X6_measure⟩
theorem wml_RX0_56 : Cond.methodLink RX0 56 yX8_marbles ∈ gT := gw5 (i := 66) rfl rfl
theorem wini_RX8 : Cond.initialized RX8 ∈ gT := gw1 (i := 4) rfl rfl
theorem wcod_X8_marbles : Cond.code yX8_marbles cX8_marbles 1 (some .int) ∈ gT := gw2 (i := 188) rfl rfl
theorem wnm_X8_marbles : gNm yX8_marbles 0 = true := by decide +kernel
theorem wim_X8_marbles : Cond.instanceMethod yX8_marbles ∈ gT := gw2 (i := 186) rfl rfl
theorem wsel_X8_marbles : Cond.selects RX8 yX8_marbles yX8_marbles ∈ gT := gw2 (i := 187) rfl rfl
theorem cv_RX0_56 : gCV RX0 56 RX8 yX8_marbles cX8_marbles 1 (some .int) 0 := ⟨wml_RX0_56, wim_X8_marbles, wsel_X8_marbles, wini_RX8, wcod_X8_marbles, rfl, wnm_X8_marbles⟩
theorem wml_RX0_62 : Cond.methodLink RX0 62 yX4_ownerOf ∈ gT := gw5 (i := 67) rfl rfl
theorem wini_RX4 : Cond.initialized RX4 ∈ gT := gw1 (i := 7) rfl rfl
theorem wcod_X4_ownerOf : Cond.code yX4_ownerOf cX4_ownerOf 2 (some .int) ∈ gT := gw3 (i := 92) rfl rfl
theorem wnm_X4_ownerOf : gNm yX4_ownerOf 1 = true := by decide +kernel
theorem wim_X4_ownerOf : Cond.instanceMethod yX4_ownerOf ∈ gT := gw3 (i := 90) rfl rfl
theorem wsel_X4_ownerOf : Cond.selects RX4 yX4_ownerOf yX4_ownerOf ∈ gT := gw3 (i := 91) rfl rfl
theorem cv_RX0_62 : gCV RX0 62 RX4 yX4_ownerOf cX4_ownerOf 2 (some .int) 1 := ⟨wml_RX0_62, wim_X4_ownerOf, wsel_X4_ownerOf, wini_RX4, wcod_X4_ownerOf, rfl, wnm_X4_ownerOf⟩
theorem wml_RX0_67 : Cond.methodLink RX0 67 yX8_boys ∈ gT := gw5 (i := 68) rfl rfl
theorem wcod_X8_boys : Cond.code yX8_boys cX8_boys 1 (some .int) ∈ gT := gw2 (i := 184) rfl rfl
theorem wnm_X8_boys : gNm yX8_boys 0 = true := by decide +kernel
theorem wim_X8_boys : Cond.instanceMethod yX8_boys ∈ gT := gw2 (i := 182) rfl rfl
theorem wsel_X8_boys : Cond.selects RX8 yX8_boys yX8_boys ∈ gT := gw2 (i := 183) rfl rfl
theorem cv_RX0_67 : gCV RX0 67 RX8 yX8_boys cX8_boys 1 (some .int) 0 := ⟨wml_RX0_67, wim_X8_boys, wsel_X8_boys, wini_RX8, wcod_X8_boys, rfl, wnm_X8_boys⟩
theorem wml_RX0_70 : Cond.methodLink RX0 70 yX6_move ∈ gT := gw5 (i := 69) rfl rfl
theorem wcod_X6_move : Cond.code yX6_move cX6_move 4 none ∈ gT := gw5 (i := 72) rfl rfl
theorem wnm_X6_move : gNm yX6_move 3 = true := by decide +kernel
theorem wim_X6_move : Cond.instanceMethod yX6_move ∈ gT := gw5 (i := 70) rfl rfl
theorem wsel_X6_move : Cond.selects RX6 yX6_move yX6_move ∈ gT := gw5 (i := 71) rfl rfl
theorem cv_RX0_70 : gCV RX0 70 RX6 yX6_move cX6_move 4 none 3 := ⟨wml_RX0_70, wim_X6_move, wsel_X6_move, wini_RX6, wcod_X6_move, rfl, wnm_X6_move⟩
theorem wml_RX0_74 : Cond.methodLink RX0 74 yX0_keepIfSo ∈ gT := gw5 (i := 73) rfl rfl
theorem wini_RX0 : Cond.initialized RX0 ∈ gT := gw1 (i := 10) rfl rfl
theorem wcod_X0_keepIfSo : Cond.code yX0_keepIfSo cX0_keepIfSo 2 none ∈ gT := gw5 (i := 76) rfl rfl
theorem wnm_X0_keepIfSo : gNm yX0_keepIfSo 1 = true := by decide +kernel
theorem wim_X0_keepIfSo : Cond.instanceMethod yX0_keepIfSo ∈ gT := gw5 (i := 75) rfl rfl
theorem wsel_X0_keepIfSo : Cond.selects RX0 yX0_keepIfSo yX0_keepIfSo ∈ gT := gp3 (i := 3) rfl
theorem cv_RX0_74 : gCV RX0 74 RX0 yX0_keepIfSo cX0_keepIfSo 2 none 1 := ⟨wml_RX0_74, wim_X0_keepIfSo, wsel_X0_keepIfSo, wini_RX0, wcod_X0_keepIfSo, rfl, wnm_X0_keepIfSo⟩
theorem wml_RX0_78 : Cond.methodLink RX0 78 yX0_areAllSo ∈ gT := gw5 (i := 77) rfl rfl
theorem wcod_X0_areAllSo : Cond.code yX0_areAllSo cX0_areAllSo 2 (some .boolean) ∈ gT := gw5 (i := 80) rfl rfl
theorem wnm_X0_areAllSo : gNm yX0_areAllSo 0 = true := by decide +kernel
theorem wim_X0_areAllSo : Cond.instanceMethod yX0_areAllSo ∈ gT := gw5 (i := 79) rfl rfl
theorem wsel_X0_areAllSo : Cond.selects RX0 yX0_areAllSo yX0_areAllSo ∈ gT := gp3 (i := 4) rfl
theorem cv_RX0_78 : gCV RX0 78 RX0 yX0_areAllSo cX0_areAllSo 2 (some .boolean) 0 := ⟨wml_RX0_78, wim_X0_areAllSo, wsel_X0_areAllSo, wini_RX0, wcod_X0_areAllSo, rfl, wnm_X0_areAllSo⟩
theorem wml_RX0_82 : Cond.methodLink RX0 82 yX0_search ∈ gT := gw5 (i := 94) rfl rfl
theorem wcod_X0_search : Cond.code yX0_search cX0_search 4 (some .int) ∈ gT := gw5 (i := 64) rfl rfl
theorem wnm_X0_search : gNm yX0_search 0 = true := by decide +kernel
theorem wim_X0_search : Cond.instanceMethod yX0_search ∈ gT := gw5 (i := 62) rfl rfl
theorem wsel_X0_search : Cond.selects RX0 yX0_search yX0_search ∈ gT := gw5 (i := 63) rfl rfl
theorem cv_RX0_82 : gCV RX0 82 RX0 yX0_search cX0_search 4 (some .int) 0 := ⟨wml_RX0_82, wim_X0_search, wsel_X0_search, wini_RX0, wcod_X0_search, rfl, wnm_X0_search⟩
theorem wml_RX0_91 : Cond.methodLink RX0 91 yX0_countTold ∈ gT := gw5 (i := 96) rfl rfl
theorem wcod_X0_countTold : Cond.code yX0_countTold cX0_countTold 6 none ∈ gT := gw5 (i := 99) rfl rfl
theorem wnm_X0_countTold : gNm yX0_countTold 1 = true := by decide +kernel
theorem wim_X0_countTold : Cond.instanceMethod yX0_countTold ∈ gT := gw5 (i := 98) rfl rfl
theorem wsel_X0_countTold : Cond.selects RX0 yX0_countTold yX0_countTold ∈ gT := gp3 (i := 5) rfl
theorem cv_RX0_91 : gCV RX0 91 RX0 yX0_countTold cX0_countTold 6 none 1 := ⟨wml_RX0_91, wim_X0_countTold, wsel_X0_countTold, wini_RX0, wcod_X0_countTold, rfl, wnm_X0_countTold⟩
theorem wml_RX0_94 : Cond.methodLink RX0 94 yX0_mostTold ∈ gT := gw5 (i := 100) rfl rfl
theorem wcod_X0_mostTold : Cond.code yX0_mostTold cX0_mostTold 4 (some .int) ∈ gT := gw5 (i := 103) rfl rfl
theorem wnm_X0_mostTold : gNm yX0_mostTold 1 = true := by decide +kernel
theorem wim_X0_mostTold : Cond.instanceMethod yX0_mostTold ∈ gT := gw5 (i := 102) rfl rfl
theorem wsel_X0_mostTold : Cond.selects RX0 yX0_mostTold yX0_mostTold ∈ gT := gp3 (i := 6) rfl
theorem cv_RX0_94 : gCV RX0 94 RX0 yX0_mostTold cX0_mostTold 4 (some .int) 1 := ⟨wml_RX0_94, wim_X0_mostTold, wsel_X0_mostTold, wini_RX0, wcod_X0_mostTold, rfl, wnm_X0_mostTold⟩
theorem wml_RX1_42 : Cond.methodLink RX1 42 yX8_hasMarble ∈ gT := gw3 (i := 198) rfl rfl
theorem wcod_X8_hasMarble : Cond.code yX8_hasMarble cX8_hasMarble 2 (some .boolean) ∈ gT := gw3 (i := 87) rfl rfl
theorem wnm_X8_hasMarble : gNm yX8_hasMarble 1 = true := by decide +kernel
theorem wim_X8_hasMarble : Cond.instanceMethod yX8_hasMarble ∈ gT := gw3 (i := 85) rfl rfl
theorem wsel_X8_hasMarble : Cond.selects RX8 yX8_hasMarble yX8_hasMarble ∈ gT := gw3 (i := 86) rfl rfl
theorem cv_RX1_42 : gCV RX1 42 RX8 yX8_hasMarble cX8_hasMarble 2 (some .boolean) 1 := ⟨wml_RX1_42, wim_X8_hasMarble, wsel_X8_hasMarble, wini_RX8, wcod_X8_hasMarble, rfl, wnm_X8_hasMarble⟩
theorem wml_RX1_51 : Cond.methodLink RX1 51 yX4_isFree ∈ gT := gw3 (i := 202) rfl rfl
theorem wcod_X4_isFree : Cond.code yX4_isFree cX4_isFree 2 (some .boolean) ∈ gT := gw3 (i := 205) rfl rfl
theorem wnm_X4_isFree : gNm yX4_isFree 1 = true := by decide +kernel
theorem wim_X4_isFree : Cond.instanceMethod yX4_isFree ∈ gT := gw3 (i := 203) rfl rfl
theorem wsel_X4_isFree : Cond.selects RX4 yX4_isFree yX4_isFree ∈ gT := gw3 (i := 204) rfl rfl
theorem cv_RX1_51 : gCV RX1 51 RX4 yX4_isFree cX4_isFree 2 (some .boolean) 1 := ⟨wml_RX1_51, wim_X4_isFree, wsel_X4_isFree, wini_RX4, wcod_X4_isFree, rfl, wnm_X4_isFree⟩
theorem wml_RX1_56 : Cond.methodLink RX1 56 yX4_ownerOf ∈ gT := gw3 (i := 208) rfl rfl
theorem cv_RX1_56 : gCV RX1 56 RX4 yX4_ownerOf cX4_ownerOf 2 (some .int) 1 := ⟨wml_RX1_56, wim_X4_ownerOf, wsel_X4_ownerOf, wini_RX4, wcod_X4_ownerOf, rfl, wnm_X4_ownerOf⟩
theorem wml_RX1_60 : Cond.methodLink RX1 60 yX8_skill ∈ gT := gw3 (i := 230) rfl rfl
theorem wcod_X8_skill : Cond.code yX8_skill cX8_skill 2 (some .int) ∈ gT := gw3 (i := 233) rfl rfl
theorem wnm_X8_skill : gNm yX8_skill 1 = true := by decide +kernel
theorem wim_X8_skill : Cond.instanceMethod yX8_skill ∈ gT := gw3 (i := 231) rfl rfl
theorem wsel_X8_skill : Cond.selects RX8 yX8_skill yX8_skill ∈ gT := gw3 (i := 232) rfl rfl
theorem cv_RX1_60 : gCV RX1 60 RX8 yX8_skill cX8_skill 2 (some .int) 1 := ⟨wml_RX1_60, wim_X8_skill, wsel_X8_skill, wini_RX8, wcod_X8_skill, rfl, wnm_X8_skill⟩
theorem wml_RX1_63 : Cond.methodLink RX1 63 yX8_size ∈ gT := gw3 (i := 234) rfl rfl
theorem wcod_X8_size : Cond.code yX8_size cX8_size 2 (some .int) ∈ gT := gw3 (i := 100) rfl rfl
theorem wnm_X8_size : gNm yX8_size 1 = true := by decide +kernel
theorem wim_X8_size : Cond.instanceMethod yX8_size ∈ gT := gw3 (i := 98) rfl rfl
theorem wsel_X8_size : Cond.selects RX8 yX8_size yX8_size ∈ gT := gw3 (i := 99) rfl rfl
theorem cv_RX1_63 : gCV RX1 63 RX8 yX8_size cX8_size 2 (some .int) 1 := ⟨wml_RX1_63, wim_X8_size, wsel_X8_size, wini_RX8, wcod_X8_size, rfl, wnm_X8_size⟩
theorem wml_RX1_66 : Cond.methodLink RX1 66 yX3_anyHolds ∈ gT := gw3 (i := 235) rfl rfl
theorem wini_RX3 : Cond.initialized RX3 ∈ gT := gw1 (i := 6) rfl rfl
theorem wcod_X3_anyHolds : Cond.code yX3_anyHolds cX3_anyHolds 1 (some .boolean) ∈ gT := gw3 (i := 238) rfl rfl
theorem wnm_X3_anyHolds : gNm yX3_anyHolds 0 = true := by decide +kernel
theorem wim_X3_anyHolds : Cond.instanceMethod yX3_anyHolds ∈ gT := gw3 (i := 236) rfl rfl
theorem wsel_X3_anyHolds : Cond.selects RX3 yX3_anyHolds yX3_anyHolds ∈ gT := gw3 (i := 237) rfl rfl
theorem cv_RX1_66 : gCV RX1 66 RX3 yX3_anyHolds cX3_anyHolds 1 (some .boolean) 0 := ⟨wml_RX1_66, wim_X3_anyHolds, wsel_X3_anyHolds, wini_RX3, wcod_X3_anyHolds, rfl, wnm_X3_anyHolds⟩
theorem wml_RX1_72 : Cond.methodLink RX1 72 yX4_isChipped ∈ gT := gw3 (i := 239) rfl rfl
theorem wcod_X4_isChipped : Cond.code yX4_isChipped cX4_isChipped 2 (some .boolean) ∈ gT := gw3 (i := 104) rfl rfl
theorem wnm_X4_isChipped : gNm yX4_isChipped 1 = true := by decide +kernel
theorem wim_X4_isChipped : Cond.instanceMethod yX4_isChipped ∈ gT := gw3 (i := 102) rfl rfl
theorem wsel_X4_isChipped : Cond.selects RX4 yX4_isChipped yX4_isChipped ∈ gT := gw3 (i := 103) rfl rfl
theorem cv_RX1_72 : gCV RX1 72 RX4 yX4_isChipped cX4_isChipped 2 (some .boolean) 1 := ⟨wml_RX1_72, wim_X4_isChipped, wsel_X4_isChipped, wini_RX4, wcod_X4_isChipped, rfl, wnm_X4_isChipped⟩
theorem wml_RX1_75 : Cond.methodLink RX1 75 yX4_handOf ∈ gT := gw4 (i := 0) rfl rfl
theorem wcod_X4_handOf : Cond.code yX4_handOf cX4_handOf 4 (some .int) ∈ gT := gw4 (i := 3) rfl rfl
theorem wnm_X4_handOf : gNm yX4_handOf 1 = true := by decide +kernel
theorem wim_X4_handOf : Cond.instanceMethod yX4_handOf ∈ gT := gw4 (i := 1) rfl rfl
theorem wsel_X4_handOf : Cond.selects RX4 yX4_handOf yX4_handOf ∈ gT := gw4 (i := 2) rfl rfl
theorem cv_RX1_75 : gCV RX1 75 RX4 yX4_handOf cX4_handOf 4 (some .int) 1 := ⟨wml_RX1_75, wim_X4_handOf, wsel_X4_handOf, wini_RX4, wcod_X4_handOf, rfl, wnm_X4_handOf⟩
theorem wml_RX1_87 : Cond.methodLink RX1 87 yX3_worth ∈ gT := gw4 (i := 10) rfl rfl
theorem wcod_X3_worth : Cond.code yX3_worth cX3_worth 8 (some .int) ∈ gT := gw4 (i := 13) rfl rfl
theorem wnm_X3_worth : gNm yX3_worth 1 = true := by decide +kernel
theorem wim_X3_worth : Cond.instanceMethod yX3_worth ∈ gT := gw4 (i := 11) rfl rfl
theorem wsel_X3_worth : Cond.selects RX3 yX3_worth yX3_worth ∈ gT := gw4 (i := 12) rfl rfl
theorem cv_RX1_87 : gCV RX1 87 RX3 yX3_worth cX3_worth 8 (some .int) 1 := ⟨wml_RX1_87, wim_X3_worth, wsel_X3_worth, wini_RX3, wcod_X3_worth, rfl, wnm_X3_worth⟩
theorem wml_RX1_100 : Cond.methodLink RX1 100 yX8_hole ∈ gT := gw4 (i := 43) rfl rfl
theorem wcod_X8_hole : Cond.code yX8_hole cX8_hole 1 (some .int) ∈ gT := gw3 (i := 75) rfl rfl
theorem wnm_X8_hole : gNm yX8_hole 0 = true := by decide +kernel
theorem wim_X8_hole : Cond.instanceMethod yX8_hole ∈ gT := gw3 (i := 73) rfl rfl
theorem wsel_X8_hole : Cond.selects RX8 yX8_hole yX8_hole ∈ gT := gw3 (i := 74) rfl rfl
theorem cv_RX1_100 : gCV RX1 100 RX8 yX8_hole cX8_hole 1 (some .int) 0 := ⟨wml_RX1_100, wim_X8_hole, wsel_X8_hole, wini_RX8, wcod_X8_hole, rfl, wnm_X8_hole⟩
theorem wml_RX1_104 : Cond.methodLink RX1 104 yX8_behind ∈ gT := gw4 (i := 44) rfl rfl
theorem wcod_X8_behind : Cond.code yX8_behind cX8_behind 1 (some .int) ∈ gT := gw3 (i := 79) rfl rfl
theorem wnm_X8_behind : gNm yX8_behind 0 = true := by decide +kernel
theorem wim_X8_behind : Cond.instanceMethod yX8_behind ∈ gT := gw3 (i := 77) rfl rfl
theorem wsel_X8_behind : Cond.selects RX8 yX8_behind yX8_behind ∈ gT := gw3 (i := 78) rfl rfl
theorem cv_RX1_104 : gCV RX1 104 RX8 yX8_behind cX8_behind 1 (some .int) 0 := ⟨wml_RX1_104, wim_X8_behind, wsel_X8_behind, wini_RX8, wcod_X8_behind, rfl, wnm_X8_behind⟩
theorem wml_RX1_110 : Cond.methodLink RX1 110 yX1_isDrain ∈ gT := gw4 (i := 39) rfl rfl
theorem wini_RX1 : Cond.initialized RX1 ∈ gT := gw1 (i := 11) rfl rfl
theorem wcod_X1_isDrain : Cond.code yX1_isDrain cX1_isDrain 2 (some .boolean) ∈ gT := gw4 (i := 42) rfl rfl
theorem wnm_X1_isDrain : gNm yX1_isDrain 1 = true := by decide +kernel
theorem wim_X1_isDrain : Cond.instanceMethod yX1_isDrain ∈ gT := gw4 (i := 40) rfl rfl
theorem wsel_X1_isDrain : Cond.selects RX1 yX1_isDrain yX1_isDrain ∈ gT := gw4 (i := 41) rfl rfl
theorem cv_RX1_110 : gCV RX1 110 RX1 yX1_isDrain cX1_isDrain 2 (some .boolean) 1 := ⟨wml_RX1_110, wim_X1_isDrain, wsel_X1_isDrain, wini_RX1, wcod_X1_isDrain, rfl, wnm_X1_isDrain⟩
theorem wml_RX1_113 : Cond.methodLink RX1 113 yX1_distance ∈ gT := gw4 (i := 45) rfl rfl
theorem wcod_X1_distance : Cond.code yX1_distance cX1_distance 2 (some .int) ∈ gT := gw4 (i := 48) rfl rfl
theorem wnm_X1_distance : gNm yX1_distance 1 = true := by decide +kernel
theorem wim_X1_distance : Cond.instanceMethod yX1_distance ∈ gT := gw4 (i := 46) rfl rfl
theorem wsel_X1_distance : Cond.selects RX1 yX1_distance yX1_distance ∈ gT := gw4 (i := 47) rfl rfl
theorem cv_RX1_113 : gCV RX1 113 RX1 yX1_distance cX1_distance 2 (some .int) 1 := ⟨wml_RX1_113, wim_X1_distance, wsel_X1_distance, wini_RX1, wcod_X1_distance, rfl, wnm_X1_distance⟩
theorem wml_RX1_116 : Cond.methodLink RX1 116 yX1_flick ∈ gT := gw3 (i := 226) rfl rfl
theorem wcod_X1_flick : Cond.code yX1_flick cX1_flick 5 (some .int) ∈ gT := gw3 (i := 229) rfl rfl
theorem wnm_X1_flick : gNm yX1_flick 3 = true := by decide +kernel
theorem wim_X1_flick : Cond.instanceMethod yX1_flick ∈ gT := gw3 (i := 227) rfl rfl
theorem wsel_X1_flick : Cond.selects RX1 yX1_flick yX1_flick ∈ gT := gw3 (i := 228) rfl rfl
theorem cv_RX1_116 : gCV RX1 116 RX1 yX1_flick cX1_flick 5 (some .int) 3 := ⟨wml_RX1_116, wim_X1_flick, wsel_X1_flick, wini_RX1, wcod_X1_flick, rfl, wnm_X1_flick⟩
theorem wml_RX1_120 : Cond.methodLink RX1 120 yX1_nearerOf ∈ gT := gw4 (i := 35) rfl rfl
theorem wcod_X1_nearerOf : Cond.code yX1_nearerOf cX1_nearerOf 3 (some .int) ∈ gT := gw4 (i := 38) rfl rfl
theorem wnm_X1_nearerOf : gNm yX1_nearerOf 2 = true := by decide +kernel
theorem wim_X1_nearerOf : Cond.instanceMethod yX1_nearerOf ∈ gT := gw4 (i := 37) rfl rfl
theorem wsel_X1_nearerOf : Cond.selects RX1 yX1_nearerOf yX1_nearerOf ∈ gT := gp2 (i := 2) rfl
theorem cv_RX1_120 : gCV RX1 120 RX1 yX1_nearerOf cX1_nearerOf 3 (some .int) 2 := ⟨wml_RX1_120, wim_X1_nearerOf, wsel_X1_nearerOf, wini_RX1, wcod_X1_nearerOf, rfl, wnm_X1_nearerOf⟩
theorem wml_RX1_123 : Cond.methodLink RX1 123 yX4_hand ∈ gT := gw4 (i := 52) rfl rfl
theorem wcod_X4_hand : Cond.code yX4_hand cX4_hand 3 none ∈ gT := gw4 (i := 55) rfl rfl
theorem wnm_X4_hand : gNm yX4_hand 2 = true := by decide +kernel
theorem wim_X4_hand : Cond.instanceMethod yX4_hand ∈ gT := gw4 (i := 53) rfl rfl
theorem wsel_X4_hand : Cond.selects RX4 yX4_hand yX4_hand ∈ gT := gw4 (i := 54) rfl rfl
theorem cv_RX1_123 : gCV RX1 123 RX4 yX4_hand cX4_hand 3 none 2 := ⟨wml_RX1_123, wim_X4_hand, wsel_X4_hand, wini_RX4, wcod_X4_hand, rfl, wnm_X4_hand⟩
theorem wml_RX1_127 : Cond.methodLink RX1 127 yX1_findBestAnswers ∈ gT := gw4 (i := 197) rfl rfl
theorem wcod_X1_findBestAnswers : Cond.code yX1_findBestAnswers cX1_findBestAnswers 9 none ∈ gT := gw4 (i := 200) rfl rfl
theorem wnm_X1_findBestAnswers : gNm yX1_findBestAnswers 2 = true := by decide +kernel
theorem wim_X1_findBestAnswers : Cond.instanceMethod yX1_findBestAnswers ∈ gT := gw4 (i := 199) rfl rfl
theorem wsel_X1_findBestAnswers : Cond.selects RX1 yX1_findBestAnswers yX1_findBestAnswers ∈ gT := gp2 (i := 8) rfl
theorem cv_RX1_127 : gCV RX1 127 RX1 yX1_findBestAnswers cX1_findBestAnswers 9 none 2 := ⟨wml_RX1_127, wim_X1_findBestAnswers, wsel_X1_findBestAnswers, wini_RX1, wcod_X1_findBestAnswers, rfl, wnm_X1_findBestAnswers⟩
theorem wml_RX1_130 : Cond.methodLink RX1 130 yX1_gain ∈ gT := gw4 (i := 201) rfl rfl
theorem wcod_X1_gain : Cond.code yX1_gain cX1_gain 6 (some .int) ∈ gT := gw4 (i := 188) rfl rfl
theorem wnm_X1_gain : gNm yX1_gain 4 = true := by decide +kernel
theorem wim_X1_gain : Cond.instanceMethod yX1_gain ∈ gT := gw4 (i := 186) rfl rfl
theorem wsel_X1_gain : Cond.selects RX1 yX1_gain yX1_gain ∈ gT := gw4 (i := 187) rfl rfl
theorem cv_RX1_130 : gCV RX1 130 RX1 yX1_gain cX1_gain 6 (some .int) 4 := ⟨wml_RX1_130, wim_X1_gain, wsel_X1_gain, wini_RX1, wcod_X1_gain, rfl, wnm_X1_gain⟩
theorem wml_RX10_97 : Cond.methodLink RX10 97 yX7_size ∈ gT := gw2 (i := 78) rfl rfl
theorem wini_RX7 : Cond.initialized RX7 ∈ gT := gw1 (i := 2) rfl rfl
theorem wcod_X7_size : Cond.code yX7_size cX7_size 1 (some .int) ∈ gT := gw2 (i := 81) rfl rfl
theorem wnm_X7_size : gNm yX7_size 0 = true := by decide +kernel
theorem wim_X7_size : Cond.instanceMethod yX7_size ∈ gT := gw2 (i := 79) rfl rfl
theorem wsel_X7_size : Cond.selects RX7 yX7_size yX7_size ∈ gT := gw2 (i := 80) rfl rfl
theorem cv_RX10_97 : gCV RX10 97 RX7 yX7_size cX7_size 1 (some .int) 0 := ⟨wml_RX10_97, wim_X7_size, wsel_X7_size, wini_RX7, wcod_X7_size, rfl, wnm_X7_size⟩
theorem wml_RX10_101 : Cond.methodLink RX10 101 yX7_append ∈ gT := gw2 (i := 82) rfl rfl
theorem wcod_X7_append : Cond.code yX7_append cX7_append 4 none ∈ gT := gw2 (i := 85) rfl rfl
theorem wnm_X7_append : gNm yX7_append 1 = true := by decide +kernel
theorem wim_X7_append : Cond.instanceMethod yX7_append ∈ gT := gw2 (i := 83) rfl rfl
theorem wsel_X7_append : Cond.selects RX7 yX7_append yX7_append ∈ gT := gw2 (i := 84) rfl rfl
theorem cv_RX10_101 : gCV RX10 101 RX7 yX7_append cX7_append 4 none 1 := ⟨wml_RX10_101, wim_X7_append, wsel_X7_append, wini_RX7, wcod_X7_append, rfl, wnm_X7_append⟩
theorem wml_RX10_105 : Cond.methodLink RX10 105 yX7_cutTo ∈ gT := gw2 (i := 90) rfl rfl
theorem wcod_X7_cutTo : Cond.code yX7_cutTo cX7_cutTo 2 none ∈ gT := gw2 (i := 93) rfl rfl
theorem wnm_X7_cutTo : gNm yX7_cutTo 1 = true := by decide +kernel
theorem wim_X7_cutTo : Cond.instanceMethod yX7_cutTo ∈ gT := gw2 (i := 91) rfl rfl
theorem wsel_X7_cutTo : Cond.selects RX7 yX7_cutTo yX7_cutTo ∈ gT := gw2 (i := 92) rfl rfl
theorem cv_RX10_105 : gCV RX10 105 RX7 yX7_cutTo cX7_cutTo 2 none 1 := ⟨wml_RX10_105, wim_X7_cutTo, wsel_X7_cutTo, wini_RX7, wcod_X7_cutTo, rfl, wnm_X7_cutTo⟩
theorem wml_RX10_108 : Cond.methodLink RX10 108 yX9_reads ∈ gT := gw2 (i := 98) rfl rfl
theorem wini_RX9 : Cond.initialized RX9 ∈ gT := gw1 (i := 3) rfl rfl
theorem wcod_X9_reads : Cond.code yX9_reads cX9_reads 3 (some .boolean) ∈ gT := gw2 (i := 101) rfl rfl
theorem wnm_X9_reads : gNm yX9_reads 0 = true := by decide +kernel
theorem wim_X9_reads : Cond.instanceMethod yX9_reads ∈ gT := gw2 (i := 99) rfl rfl
theorem wsel_X9_reads : Cond.selects RX9 yX9_reads yX9_reads ∈ gT := gw2 (i := 100) rfl rfl
theorem cv_RX10_108 : gCV RX10 108 RX9 yX9_reads cX9_reads 3 (some .boolean) 0 := ⟨wml_RX10_108, wim_X9_reads, wsel_X9_reads, wini_RX9, wcod_X9_reads, rfl, wnm_X9_reads⟩
theorem wml_RX10_112 : Cond.methodLink RX10 112 yX7_position ∈ gT := gw2 (i := 197) rfl rfl
theorem wcod_X7_position : Cond.code yX7_position cX7_position 1 (some .int) ∈ gT := gw2 (i := 200) rfl rfl
theorem wnm_X7_position : gNm yX7_position 0 = true := by decide +kernel
theorem wim_X7_position : Cond.instanceMethod yX7_position ∈ gT := gw2 (i := 198) rfl rfl
theorem wsel_X7_position : Cond.selects RX7 yX7_position yX7_position ∈ gT := gw2 (i := 199) rfl rfl
theorem cv_RX10_112 : gCV RX10 112 RX7 yX7_position cX7_position 1 (some .int) 0 := ⟨wml_RX10_112, wim_X7_position, wsel_X7_position, wini_RX7, wcod_X7_position, rfl, wnm_X7_position⟩
theorem wml_RX10_115 : Cond.methodLink RX10 115 yX2_reads ∈ gT := gw2 (i := 201) rfl rfl
theorem wini_RX2 : Cond.initialized RX2 ∈ gT := gw1 (i := 5) rfl rfl
theorem wcod_X2_reads : Cond.code yX2_reads cX2_reads 3 (some .boolean) ∈ gT := gw2 (i := 204) rfl rfl
theorem wnm_X2_reads : gNm yX2_reads 0 = true := by decide +kernel
theorem wim_X2_reads : Cond.instanceMethod yX2_reads ∈ gT := gw2 (i := 202) rfl rfl
theorem wsel_X2_reads : Cond.selects RX2 yX2_reads yX2_reads ∈ gT := gw2 (i := 203) rfl rfl
theorem cv_RX10_115 : gCV RX10 115 RX2 yX2_reads cX2_reads 3 (some .boolean) 0 := ⟨wml_RX10_115, wim_X2_reads, wsel_X2_reads, wini_RX2, wcod_X2_reads, rfl, wnm_X2_reads⟩
theorem wml_RX10_116 : Cond.methodLink RX10 116 yX9_draft ∈ gT := gw3 (i := 19) rfl rfl
theorem wcod_X9_draft : Cond.code yX9_draft cX9_draft 1 (some (.object "WeatherMarbles$Yard")) ∈ gT := gw3 (i := 22) rfl rfl
theorem wnm_X9_draft : gNm yX9_draft 0 = true := by decide +kernel
theorem wim_X9_draft : Cond.instanceMethod yX9_draft ∈ gT := gw3 (i := 20) rfl rfl
theorem wsel_X9_draft : Cond.selects RX9 yX9_draft yX9_draft ∈ gT := gw3 (i := 21) rfl rfl
theorem cv_RX10_116 : gCV RX10 116 RX9 yX9_draft cX9_draft 1 (some (.object "WeatherMarbles$Yard")) 0 := ⟨wml_RX10_116, wim_X9_draft, wsel_X9_draft, wini_RX9, wcod_X9_draft, rfl, wnm_X9_draft⟩
theorem wml_RX10_120 : Cond.methodLink RX10 120 yX8_takeOver ∈ gT := gw3 (i := 23) rfl rfl
theorem wcod_X8_takeOver : Cond.code yX8_takeOver cX8_takeOver 2 none ∈ gT := gw3 (i := 26) rfl rfl
theorem wnm_X8_takeOver : gNm yX8_takeOver 1 = true := by decide +kernel
theorem wim_X8_takeOver : Cond.instanceMethod yX8_takeOver ∈ gT := gw3 (i := 24) rfl rfl
theorem wsel_X8_takeOver : Cond.selects RX8 yX8_takeOver yX8_takeOver ∈ gT := gw3 (i := 25) rfl rfl
theorem cv_RX10_120 : gCV RX10 120 RX8 yX8_takeOver cX8_takeOver 2 none 1 := ⟨wml_RX10_120, wim_X8_takeOver, wsel_X8_takeOver, wini_RX8, wcod_X8_takeOver, rfl, wnm_X8_takeOver⟩
theorem wml_RX10_124 : Cond.methodLink RX10 124 yX4_begin ∈ gT := gw3 (i := 30) rfl rfl
theorem wcod_X4_begin : Cond.code yX4_begin cX4_begin 3 none ∈ gT := gw3 (i := 33) rfl rfl
theorem wnm_X4_begin : gNm yX4_begin 1 = true := by decide +kernel
theorem wim_X4_begin : Cond.instanceMethod yX4_begin ∈ gT := gw3 (i := 31) rfl rfl
theorem wsel_X4_begin : Cond.selects RX4 yX4_begin yX4_begin ∈ gT := gw3 (i := 32) rfl rfl
theorem cv_RX10_124 : gCV RX10 124 RX4 yX4_begin cX4_begin 3 none 1 := ⟨wml_RX10_124, wim_X4_begin, wsel_X4_begin, wini_RX4, wcod_X4_begin, rfl, wnm_X4_begin⟩
theorem wml_RX10_127 : Cond.methodLink RX10 127 yX5_forgetAll ∈ gT := gw3 (i := 43) rfl rfl
theorem wini_RX5 : Cond.initialized RX5 ∈ gT := gw1 (i := 8) rfl rfl
theorem wcod_X5_forgetAll : Cond.code yX5_forgetAll cX5_forgetAll 1 none ∈ gT := gw3 (i := 46) rfl rfl
theorem wnm_X5_forgetAll : gNm yX5_forgetAll 0 = true := by decide +kernel
theorem wim_X5_forgetAll : Cond.instanceMethod yX5_forgetAll ∈ gT := gw3 (i := 44) rfl rfl
theorem wsel_X5_forgetAll : Cond.selects RX5 yX5_forgetAll yX5_forgetAll ∈ gT := gw3 (i := 45) rfl rfl
theorem cv_RX10_127 : gCV RX10 127 RX5 yX5_forgetAll cX5_forgetAll 1 none 0 := ⟨wml_RX10_127, wim_X5_forgetAll, wsel_X5_forgetAll, wini_RX5, wcod_X5_forgetAll, rfl, wnm_X5_forgetAll⟩
theorem wml_RX10_130 : Cond.methodLink RX10 130 yX0_forgetAll ∈ gT := gw3 (i := 47) rfl rfl
theorem wcod_X0_forgetAll : Cond.code yX0_forgetAll cX0_forgetAll 1 none ∈ gT := gw3 (i := 50) rfl rfl
theorem wnm_X0_forgetAll : gNm yX0_forgetAll 0 = true := by decide +kernel
theorem wim_X0_forgetAll : Cond.instanceMethod yX0_forgetAll ∈ gT := gw3 (i := 48) rfl rfl
theorem wsel_X0_forgetAll : Cond.selects RX0 yX0_forgetAll yX0_forgetAll ∈ gT := gw3 (i := 49) rfl rfl
theorem cv_RX10_130 : gCV RX10 130 RX0 yX0_forgetAll cX0_forgetAll 1 none 0 := ⟨wml_RX10_130, wim_X0_forgetAll, wsel_X0_forgetAll, wini_RX0, wcod_X0_forgetAll, rfl, wnm_X0_forgetAll⟩
theorem wml_RX10_131 : Cond.methodLink RX10 131 yX8_marbles ∈ gT := gw3 (i := 51) rfl rfl
theorem cv_RX10_131 : gCV RX10 131 RX8 yX8_marbles cX8_marbles 1 (some .int) 0 := ⟨wml_RX10_131, wim_X8_marbles, wsel_X8_marbles, wini_RX8, wcod_X8_marbles, rfl, wnm_X8_marbles⟩
theorem wml_RX10_134 : Cond.methodLink RX10 134 yX3_size ∈ gT := gw3 (i := 52) rfl rfl
theorem wcod_X3_size : Cond.code yX3_size cX3_size 1 (some .int) ∈ gT := gw3 (i := 55) rfl rfl
theorem wnm_X3_size : gNm yX3_size 0 = true := by decide +kernel
theorem wim_X3_size : Cond.instanceMethod yX3_size ∈ gT := gw3 (i := 53) rfl rfl
theorem wsel_X3_size : Cond.selects RX3 yX3_size yX3_size ∈ gT := gw3 (i := 54) rfl rfl
theorem cv_RX10_134 : gCV RX10 134 RX3 yX3_size cX3_size 1 (some .int) 0 := ⟨wml_RX10_134, wim_X3_size, wsel_X3_size, wini_RX3, wcod_X3_size, rfl, wnm_X3_size⟩
theorem wml_RX10_135 : Cond.methodLink RX10 135 yX3_add ∈ gT := gw3 (i := 56) rfl rfl
theorem wcod_X3_add : Cond.code yX3_add cX3_add 2 none ∈ gT := gw3 (i := 59) rfl rfl
theorem wnm_X3_add : gNm yX3_add 1 = true := by decide +kernel
theorem wim_X3_add : Cond.instanceMethod yX3_add ∈ gT := gw3 (i := 57) rfl rfl
theorem wsel_X3_add : Cond.selects RX3 yX3_add yX3_add ∈ gT := gw3 (i := 58) rfl rfl
theorem cv_RX10_135 : gCV RX10 135 RX3 yX3_add cX3_add 2 none 1 := ⟨wml_RX10_135, wim_X3_add, wsel_X3_add, wini_RX3, wcod_X3_add, rfl, wnm_X3_add⟩
theorem wml_RX10_139 : Cond.methodLink RX10 139 yX8_stands ∈ gT := gw3 (i := 68) rfl rfl
theorem wcod_X8_stands : Cond.code yX8_stands cX8_stands 1 (some .boolean) ∈ gT := gw3 (i := 71) rfl rfl
theorem wnm_X8_stands : gNm yX8_stands 0 = true := by decide +kernel
theorem wim_X8_stands : Cond.instanceMethod yX8_stands ∈ gT := gw3 (i := 69) rfl rfl
theorem wsel_X8_stands : Cond.selects RX8 yX8_stands yX8_stands ∈ gT := gw3 (i := 70) rfl rfl
theorem cv_RX10_139 : gCV RX10 139 RX8 yX8_stands cX8_stands 1 (some .boolean) 0 := ⟨wml_RX10_139, wim_X8_stands, wsel_X8_stands, wini_RX8, wcod_X8_stands, rfl, wnm_X8_stands⟩
theorem wml_RX10_142 : Cond.methodLink RX10 142 yX8_hole ∈ gT := gw3 (i := 72) rfl rfl
theorem cv_RX10_142 : gCV RX10 142 RX8 yX8_hole cX8_hole 1 (some .int) 0 := ⟨wml_RX10_142, wim_X8_hole, wsel_X8_hole, wini_RX8, wcod_X8_hole, rfl, wnm_X8_hole⟩
theorem wml_RX10_145 : Cond.methodLink RX10 145 yX8_behind ∈ gT := gw3 (i := 76) rfl rfl
theorem cv_RX10_145 : gCV RX10 145 RX8 yX8_behind cX8_behind 1 (some .int) 0 := ⟨wml_RX10_145, wim_X8_behind, wsel_X8_behind, wini_RX8, wcod_X8_behind, rfl, wnm_X8_behind⟩
theorem wml_RX10_152 : Cond.methodLink RX10 152 yX8_hasBoy ∈ gT := gw4 (i := 65) rfl rfl
theorem wcod_X8_hasBoy : Cond.code yX8_hasBoy cX8_hasBoy 2 (some .boolean) ∈ gT := gw4 (i := 68) rfl rfl
theorem wnm_X8_hasBoy : gNm yX8_hasBoy 1 = true := by decide +kernel
theorem wim_X8_hasBoy : Cond.instanceMethod yX8_hasBoy ∈ gT := gw4 (i := 66) rfl rfl
theorem wsel_X8_hasBoy : Cond.selects RX8 yX8_hasBoy yX8_hasBoy ∈ gT := gw4 (i := 67) rfl rfl
theorem cv_RX10_152 : gCV RX10 152 RX8 yX8_hasBoy cX8_hasBoy 2 (some .boolean) 1 := ⟨wml_RX10_152, wim_X8_hasBoy, wsel_X8_hasBoy, wini_RX8, wcod_X8_hasBoy, rfl, wnm_X8_hasBoy⟩
theorem wml_RX10_163 : Cond.methodLink RX10 163 yX8_skill ∈ gT := gw6 (i := 39) rfl rfl
theorem cv_RX10_163 : gCV RX10 163 RX8 yX8_skill cX8_skill 2 (some .int) 1 := ⟨wml_RX10_163, wim_X8_skill, wsel_X8_skill, wini_RX8, wcod_X8_skill, rfl, wnm_X8_skill⟩
theorem wml_RX10_166 : Cond.methodLink RX10 166 yX8_boyPlace ∈ gT := gw5 (i := 118) rfl rfl
theorem wcod_X8_boyPlace : Cond.code yX8_boyPlace cX8_boyPlace 2 (some .int) ∈ gT := gw3 (i := 156) rfl rfl
theorem wnm_X8_boyPlace : gNm yX8_boyPlace 1 = true := by decide +kernel
theorem wim_X8_boyPlace : Cond.instanceMethod yX8_boyPlace ∈ gT := gw3 (i := 154) rfl rfl
theorem wsel_X8_boyPlace : Cond.selects RX8 yX8_boyPlace yX8_boyPlace ∈ gT := gw3 (i := 155) rfl rfl
theorem cv_RX10_166 : gCV RX10 166 RX8 yX8_boyPlace cX8_boyPlace 2 (some .int) 1 := ⟨wml_RX10_166, wim_X8_boyPlace, wsel_X8_boyPlace, wini_RX8, wcod_X8_boyPlace, rfl, wnm_X8_boyPlace⟩
theorem wml_RX10_169 : Cond.methodLink RX10 169 yX4_handOf ∈ gT := gw5 (i := 144) rfl rfl
theorem cv_RX10_169 : gCV RX10 169 RX4 yX4_handOf cX4_handOf 4 (some .int) 1 := ⟨wml_RX10_169, wim_X4_handOf, wsel_X4_handOf, wini_RX4, wcod_X4_handOf, rfl, wnm_X4_handOf⟩
theorem wml_RX10_177 : Cond.methodLink RX10 177 yX8_hasMarble ∈ gT := gw3 (i := 84) rfl rfl
theorem cv_RX10_177 : gCV RX10 177 RX8 yX8_hasMarble cX8_hasMarble 2 (some .boolean) 1 := ⟨wml_RX10_177, wim_X8_hasMarble, wsel_X8_hasMarble, wini_RX8, wcod_X8_hasMarble, rfl, wnm_X8_hasMarble⟩
theorem wml_RX10_181 : Cond.methodLink RX10 181 yX4_ownerOf ∈ gT := gw3 (i := 89) rfl rfl
theorem cv_RX10_181 : gCV RX10 181 RX4 yX4_ownerOf cX4_ownerOf 2 (some .int) 1 := ⟨wml_RX10_181, wim_X4_ownerOf, wsel_X4_ownerOf, wini_RX4, wcod_X4_ownerOf, rfl, wnm_X4_ownerOf⟩
theorem wml_RX10_184 : Cond.methodLink RX10 184 yX8_kind ∈ gT := gw3 (i := 93) rfl rfl
theorem wcod_X8_kind : Cond.code yX8_kind cX8_kind 2 (some .int) ∈ gT := gw3 (i := 96) rfl rfl
theorem wnm_X8_kind : gNm yX8_kind 1 = true := by decide +kernel
theorem wim_X8_kind : Cond.instanceMethod yX8_kind ∈ gT := gw3 (i := 94) rfl rfl
theorem wsel_X8_kind : Cond.selects RX8 yX8_kind yX8_kind ∈ gT := gw3 (i := 95) rfl rfl
theorem cv_RX10_184 : gCV RX10 184 RX8 yX8_kind cX8_kind 2 (some .int) 1 := ⟨wml_RX10_184, wim_X8_kind, wsel_X8_kind, wini_RX8, wcod_X8_kind, rfl, wnm_X8_kind⟩
theorem wml_RX10_187 : Cond.methodLink RX10 187 yX8_size ∈ gT := gw3 (i := 97) rfl rfl
theorem cv_RX10_187 : gCV RX10 187 RX8 yX8_size cX8_size 2 (some .int) 1 := ⟨wml_RX10_187, wim_X8_size, wsel_X8_size, wini_RX8, wcod_X8_size, rfl, wnm_X8_size⟩
theorem wml_RX10_189 : Cond.methodLink RX10 189 yX4_isChipped ∈ gT := gw3 (i := 101) rfl rfl
theorem cv_RX10_189 : gCV RX10 189 RX4 yX4_isChipped cX4_isChipped 2 (some .boolean) 1 := ⟨wml_RX10_189, wim_X4_isChipped, wsel_X4_isChipped, wini_RX4, wcod_X4_isChipped, rfl, wnm_X4_isChipped⟩
theorem wml_RX10_192 : Cond.methodLink RX10 192 yX4_isSwallowed ∈ gT := gw3 (i := 105) rfl rfl
theorem wcod_X4_isSwallowed : Cond.code yX4_isSwallowed cX4_isSwallowed 2 (some .boolean) ∈ gT := gw3 (i := 108) rfl rfl
theorem wnm_X4_isSwallowed : gNm yX4_isSwallowed 1 = true := by decide +kernel
theorem wim_X4_isSwallowed : Cond.instanceMethod yX4_isSwallowed ∈ gT := gw3 (i := 106) rfl rfl
theorem wsel_X4_isSwallowed : Cond.selects RX4 yX4_isSwallowed yX4_isSwallowed ∈ gT := gw3 (i := 107) rfl rfl
theorem cv_RX10_192 : gCV RX10 192 RX4 yX4_isSwallowed cX4_isSwallowed 2 (some .boolean) 1 := ⟨wml_RX10_192, wim_X4_isSwallowed, wsel_X4_isSwallowed, wini_RX4, wcod_X4_isSwallowed, rfl, wnm_X4_isSwallowed⟩
theorem wml_RX10_195 : Cond.methodLink RX10 195 yX8_hasFarm ∈ gT := gw3 (i := 113) rfl rfl
theorem wcod_X8_hasFarm : Cond.code yX8_hasFarm cX8_hasFarm 2 (some .boolean) ∈ gT := gw3 (i := 116) rfl rfl
theorem wnm_X8_hasFarm : gNm yX8_hasFarm 1 = true := by decide +kernel
theorem wim_X8_hasFarm : Cond.instanceMethod yX8_hasFarm ∈ gT := gw3 (i := 114) rfl rfl
theorem wsel_X8_hasFarm : Cond.selects RX8 yX8_hasFarm yX8_hasFarm ∈ gT := gw3 (i := 115) rfl rfl
theorem cv_RX10_195 : gCV RX10 195 RX8 yX8_hasFarm cX8_hasFarm 2 (some .boolean) 1 := ⟨wml_RX10_195, wim_X8_hasFarm, wsel_X8_hasFarm, wini_RX8, wcod_X8_hasFarm, rfl, wnm_X8_hasFarm⟩
theorem wml_RX10_198 : Cond.methodLink RX10 198 yX8_farmPlace ∈ gT := gw3 (i := 121) rfl rfl
theorem wcod_X8_farmPlace : Cond.code yX8_farmPlace cX8_farmPlace 2 (some .int) ∈ gT := gw3 (i := 124) rfl rfl
theorem wnm_X8_farmPlace : gNm yX8_farmPlace 1 = true := by decide +kernel
theorem wim_X8_farmPlace : Cond.instanceMethod yX8_farmPlace ∈ gT := gw3 (i := 122) rfl rfl
theorem wsel_X8_farmPlace : Cond.selects RX8 yX8_farmPlace yX8_farmPlace ∈ gT := gw3 (i := 123) rfl rfl
theorem cv_RX10_198 : gCV RX10 198 RX8 yX8_farmPlace cX8_farmPlace 2 (some .int) 1 := ⟨wml_RX10_198, wim_X8_farmPlace, wsel_X8_farmPlace, wini_RX8, wcod_X8_farmPlace, rfl, wnm_X8_farmPlace⟩
theorem wml_RX10_201 : Cond.methodLink RX10 201 yX8_wanted ∈ gT := gw3 (i := 125) rfl rfl
theorem wcod_X8_wanted : Cond.code yX8_wanted cX8_wanted 2 (some .int) ∈ gT := gw3 (i := 128) rfl rfl
theorem wnm_X8_wanted : gNm yX8_wanted 1 = true := by decide +kernel
theorem wim_X8_wanted : Cond.instanceMethod yX8_wanted ∈ gT := gw3 (i := 126) rfl rfl
theorem wsel_X8_wanted : Cond.selects RX8 yX8_wanted yX8_wanted ∈ gT := gw3 (i := 127) rfl rfl
theorem cv_RX10_201 : gCV RX10 201 RX8 yX8_wanted cX8_wanted 2 (some .int) 1 := ⟨wml_RX10_201, wim_X8_wanted, wsel_X8_wanted, wini_RX8, wcod_X8_wanted, rfl, wnm_X8_wanted⟩
theorem wml_RX10_204 : Cond.methodLink RX10 204 yX8_payment ∈ gT := gw3 (i := 129) rfl rfl
theorem wcod_X8_payment : Cond.code yX8_payment cX8_payment 2 (some .int) ∈ gT := gw3 (i := 132) rfl rfl
theorem wnm_X8_payment : gNm yX8_payment 1 = true := by decide +kernel
theorem wim_X8_payment : Cond.instanceMethod yX8_payment ∈ gT := gw3 (i := 130) rfl rfl
theorem wsel_X8_payment : Cond.selects RX8 yX8_payment yX8_payment ∈ gT := gw3 (i := 131) rfl rfl
theorem cv_RX10_204 : gCV RX10 204 RX8 yX8_payment cX8_payment 2 (some .int) 1 := ⟨wml_RX10_204, wim_X8_payment, wsel_X8_payment, wini_RX8, wcod_X8_payment, rfl, wnm_X8_payment⟩
theorem wml_RX10_207 : Cond.methodLink RX10 207 yX10_contentNow ∈ gT := gw3 (i := 133) rfl rfl
theorem wini_RX10 : Cond.initialized RX10 ∈ gT := gw1 (i := 1) rfl rfl
theorem wcod_X10_contentNow : Cond.code yX10_contentNow cX10_contentNow 1 (some .int) ∈ gT := gw3 (i := 136) rfl rfl
theorem wnm_X10_contentNow : gNm yX10_contentNow 0 = true := by decide +kernel
theorem wim_X10_contentNow : Cond.instanceMethod yX10_contentNow ∈ gT := gw3 (i := 135) rfl rfl
theorem wsel_X10_contentNow : Cond.selects RX10 yX10_contentNow yX10_contentNow ∈ gT := gp1 (i := 15) rfl
theorem cv_RX10_207 : gCV RX10 207 RX10 yX10_contentNow cX10_contentNow 1 (some .int) 0 := ⟨wml_RX10_207, wim_X10_contentNow, wsel_X10_contentNow, wini_RX10, wcod_X10_contentNow, rfl, wnm_X10_contentNow⟩
theorem wml_RX10_210 : Cond.methodLink RX10 210 yX3_choose ∈ gT := gw3 (i := 186) rfl rfl
theorem wcod_X3_choose : Cond.code yX3_choose cX3_choose 2 (some .boolean) ∈ gT := gw3 (i := 189) rfl rfl
theorem wnm_X3_choose : gNm yX3_choose 1 = true := by decide +kernel
theorem wim_X3_choose : Cond.instanceMethod yX3_choose ∈ gT := gw3 (i := 187) rfl rfl
theorem wsel_X3_choose : Cond.selects RX3 yX3_choose yX3_choose ∈ gT := gw3 (i := 188) rfl rfl
theorem cv_RX10_210 : gCV RX10 210 RX3 yX3_choose cX3_choose 2 (some .boolean) 1 := ⟨wml_RX10_210, wim_X3_choose, wsel_X3_choose, wini_RX3, wcod_X3_choose, rfl, wnm_X3_choose⟩
theorem wml_RX10_213 : Cond.methodLink RX10 213 yX1_refusalOf ∈ gT := gw3 (i := 194) rfl rfl
theorem wcod_X1_refusalOf : Cond.code yX1_refusalOf cX1_refusalOf 6 (some .int) ∈ gT := gw3 (i := 197) rfl rfl
theorem wnm_X1_refusalOf : gNm yX1_refusalOf 4 = true := by decide +kernel
theorem wim_X1_refusalOf : Cond.instanceMethod yX1_refusalOf ∈ gT := gw3 (i := 195) rfl rfl
theorem wsel_X1_refusalOf : Cond.selects RX1 yX1_refusalOf yX1_refusalOf ∈ gT := gw3 (i := 196) rfl rfl
theorem cv_RX10_213 : gCV RX10 213 RX1 yX1_refusalOf cX1_refusalOf 6 (some .int) 4 := ⟨wml_RX10_213, wim_X1_refusalOf, wsel_X1_refusalOf, wini_RX1, wcod_X1_refusalOf, rfl, wnm_X1_refusalOf⟩
theorem wml_RX10_217 : Cond.methodLink RX10 217 yX10_refuse ∈ gT := gw3 (i := 209) rfl rfl
theorem wcod_X10_refuse : Cond.code yX10_refuse cX10_refuse 2 (some .int) ∈ gT := gw3 (i := 212) rfl rfl
theorem wnm_X10_refuse : gNm yX10_refuse 1 = true := by decide +kernel
theorem wim_X10_refuse : Cond.instanceMethod yX10_refuse ∈ gT := gw3 (i := 211) rfl rfl
theorem wsel_X10_refuse : Cond.selects RX10 yX10_refuse yX10_refuse ∈ gT := gp2 (i := 1) rfl
theorem cv_RX10_217 : gCV RX10 217 RX10 yX10_refuse cX10_refuse 2 (some .int) 1 := ⟨wml_RX10_217, wim_X10_refuse, wsel_X10_refuse, wini_RX10, wcod_X10_refuse, rfl, wnm_X10_refuse⟩
theorem wml_RX10_220 : Cond.methodLink RX10 220 yX5_remember ∈ gT := gw3 (i := 213) rfl rfl
theorem wcod_X5_remember : Cond.code yX5_remember cX5_remember 1 none ∈ gT := gw3 (i := 216) rfl rfl
theorem wnm_X5_remember : gNm yX5_remember 0 = true := by decide +kernel
theorem wim_X5_remember : Cond.instanceMethod yX5_remember ∈ gT := gw3 (i := 214) rfl rfl
theorem wsel_X5_remember : Cond.selects RX5 yX5_remember yX5_remember ∈ gT := gw3 (i := 215) rfl rfl
theorem cv_RX10_220 : gCV RX10 220 RX5 yX5_remember cX5_remember 1 none 0 := ⟨wml_RX10_220, wim_X5_remember, wsel_X5_remember, wini_RX5, wcod_X5_remember, rfl, wnm_X5_remember⟩
theorem wml_RX10_223 : Cond.methodLink RX10 223 yX1_carryOut ∈ gT := gw3 (i := 222) rfl rfl
theorem wcod_X1_carryOut : Cond.code yX1_carryOut cX1_carryOut 10 (some .int) ∈ gT := gw3 (i := 225) rfl rfl
theorem wnm_X1_carryOut : gNm yX1_carryOut 4 = true := by decide +kernel
theorem wim_X1_carryOut : Cond.instanceMethod yX1_carryOut ∈ gT := gw3 (i := 223) rfl rfl
theorem wsel_X1_carryOut : Cond.selects RX1 yX1_carryOut yX1_carryOut ∈ gT := gw3 (i := 224) rfl rfl
theorem cv_RX10_223 : gCV RX10 223 RX1 yX1_carryOut cX1_carryOut 10 (some .int) 4 := ⟨wml_RX10_223, wim_X1_carryOut, wsel_X1_carryOut, wini_RX1, wcod_X1_carryOut, rfl, wnm_X1_carryOut⟩
theorem wml_RX10_226 : Cond.methodLink RX10 226 yX4_hand ∈ gT := gw4 (i := 60) rfl rfl
theorem cv_RX10_226 : gCV RX10 226 RX4 yX4_hand cX4_hand 3 none 2 := ⟨wml_RX10_226, wim_X4_hand, wsel_X4_hand, wini_RX4, wcod_X4_hand, rfl, wnm_X4_hand⟩
theorem wml_RX10_230 : Cond.methodLink RX10 230 yX4_isFree ∈ gT := gw4 (i := 69) rfl rfl
theorem cv_RX10_230 : gCV RX10 230 RX4 yX4_isFree cX4_isFree 2 (some .boolean) 1 := ⟨wml_RX10_230, wim_X4_isFree, wsel_X4_isFree, wini_RX4, wcod_X4_isFree, rfl, wnm_X4_isFree⟩
theorem wml_RX10_233 : Cond.methodLink RX10 233 yX4_isDrained ∈ gT := gw4 (i := 74) rfl rfl
theorem wcod_X4_isDrained : Cond.code yX4_isDrained cX4_isDrained 2 (some .boolean) ∈ gT := gw3 (i := 146) rfl rfl
theorem wnm_X4_isDrained : gNm yX4_isDrained 1 = true := by decide +kernel
theorem wim_X4_isDrained : Cond.instanceMethod yX4_isDrained ∈ gT := gw3 (i := 144) rfl rfl
theorem wsel_X4_isDrained : Cond.selects RX4 yX4_isDrained yX4_isDrained ∈ gT := gw3 (i := 145) rfl rfl
theorem cv_RX10_233 : gCV RX10 233 RX4 yX4_isDrained cX4_isDrained 2 (some .boolean) 1 := ⟨wml_RX10_233, wim_X4_isDrained, wsel_X4_isDrained, wini_RX4, wcod_X4_isDrained, rfl, wnm_X4_isDrained⟩
theorem wml_RX10_245 : Cond.methodLink RX10 245 yX10_passDay ∈ gT := gw4 (i := 84) rfl rfl
theorem wcod_X10_passDay : Cond.code yX10_passDay cX10_passDay 2 none ∈ gT := gw4 (i := 87) rfl rfl
theorem wnm_X10_passDay : gNm yX10_passDay 0 = true := by decide +kernel
theorem wim_X10_passDay : Cond.instanceMethod yX10_passDay ∈ gT := gw4 (i := 86) rfl rfl
theorem wsel_X10_passDay : Cond.selects RX10 yX10_passDay yX10_passDay ∈ gT := gp2 (i := 3) rfl
theorem cv_RX10_245 : gCV RX10 245 RX10 yX10_passDay cX10_passDay 2 none 0 := ⟨wml_RX10_245, wim_X10_passDay, wsel_X10_passDay, wini_RX10, wcod_X10_passDay, rfl, wnm_X10_passDay⟩
theorem wml_RX10_255 : Cond.methodLink RX10 255 yX10_playByDraws ∈ gT := gw4 (i := 110) rfl rfl
theorem wcod_X10_playByDraws : Cond.code yX10_playByDraws cX10_playByDraws 5 none ∈ gT := gw4 (i := 113) rfl rfl
theorem wnm_X10_playByDraws : gNm yX10_playByDraws 0 = true := by decide +kernel
theorem wim_X10_playByDraws : Cond.instanceMethod yX10_playByDraws ∈ gT := gw4 (i := 112) rfl rfl
theorem wsel_X10_playByDraws : Cond.selects RX10 yX10_playByDraws yX10_playByDraws ∈ gT := gp2 (i := 5) rfl
theorem cv_RX10_255 : gCV RX10 255 RX10 yX10_playByDraws cX10_playByDraws 5 none 0 := ⟨wml_RX10_255, wim_X10_playByDraws, wsel_X10_playByDraws, wini_RX10, wcod_X10_playByDraws, rfl, wnm_X10_playByDraws⟩
theorem wml_RX10_258 : Cond.methodLink RX10 258 yX10_spillByDraws ∈ gT := gw4 (i := 120) rfl rfl
theorem wcod_X10_spillByDraws : Cond.code yX10_spillByDraws cX10_spillByDraws 2 none ∈ gT := gw4 (i := 123) rfl rfl
theorem wnm_X10_spillByDraws : gNm yX10_spillByDraws 0 = true := by decide +kernel
theorem wim_X10_spillByDraws : Cond.instanceMethod yX10_spillByDraws ∈ gT := gw4 (i := 122) rfl rfl
theorem wsel_X10_spillByDraws : Cond.selects RX10 yX10_spillByDraws yX10_spillByDraws ∈ gT := gp2 (i := 7) rfl
theorem cv_RX10_258 : gCV RX10 258 RX10 yX10_spillByDraws cX10_spillByDraws 2 none 0 := ⟨wml_RX10_258, wim_X10_spillByDraws, wsel_X10_spillByDraws, wini_RX10, wcod_X10_spillByDraws, rfl, wnm_X10_spillByDraws⟩
theorem wml_RX10_261 : Cond.methodLink RX10 261 yX5_goBackOne ∈ gT := gw4 (i := 132) rfl rfl
theorem wcod_X5_goBackOne : Cond.code yX5_goBackOne cX5_goBackOne 1 (some .int) ∈ gT := gw4 (i := 135) rfl rfl
theorem wnm_X5_goBackOne : gNm yX5_goBackOne 0 = true := by decide +kernel
theorem wim_X5_goBackOne : Cond.instanceMethod yX5_goBackOne ∈ gT := gw4 (i := 133) rfl rfl
theorem wsel_X5_goBackOne : Cond.selects RX5 yX5_goBackOne yX5_goBackOne ∈ gT := gw4 (i := 134) rfl rfl
theorem cv_RX10_261 : gCV RX10 261 RX5 yX5_goBackOne cX5_goBackOne 1 (some .int) 0 := ⟨wml_RX10_261, wim_X5_goBackOne, wsel_X5_goBackOne, wini_RX5, wcod_X5_goBackOne, rfl, wnm_X5_goBackOne⟩
theorem wml_RX10_264 : Cond.methodLink RX10 264 yX5_logLength ∈ gT := gw4 (i := 147) rfl rfl
theorem wcod_X5_logLength : Cond.code yX5_logLength cX5_logLength 1 (some .int) ∈ gT := gw4 (i := 150) rfl rfl
theorem wnm_X5_logLength : gNm yX5_logLength 0 = true := by decide +kernel
theorem wim_X5_logLength : Cond.instanceMethod yX5_logLength ∈ gT := gw4 (i := 148) rfl rfl
theorem wsel_X5_logLength : Cond.selects RX5 yX5_logLength yX5_logLength ∈ gT := gw4 (i := 149) rfl rfl
theorem cv_RX10_264 : gCV RX10 264 RX5 yX5_logLength cX5_logLength 1 (some .int) 0 := ⟨wml_RX10_264, wim_X5_logLength, wsel_X5_logLength, wini_RX5, wcod_X5_logLength, rfl, wnm_X5_logLength⟩
theorem wml_RX10_267 : Cond.methodLink RX10 267 yX5_sweetsThen ∈ gT := gw4 (i := 151) rfl rfl
theorem wcod_X5_sweetsThen : Cond.code yX5_sweetsThen cX5_sweetsThen 2 (some .int) ∈ gT := gw4 (i := 154) rfl rfl
theorem wnm_X5_sweetsThen : gNm yX5_sweetsThen 1 = true := by decide +kernel
theorem wim_X5_sweetsThen : Cond.instanceMethod yX5_sweetsThen ∈ gT := gw4 (i := 152) rfl rfl
theorem wsel_X5_sweetsThen : Cond.selects RX5 yX5_sweetsThen yX5_sweetsThen ∈ gT := gw4 (i := 153) rfl rfl
theorem cv_RX10_267 : gCV RX10 267 RX5 yX5_sweetsThen cX5_sweetsThen 2 (some .int) 1 := ⟨wml_RX10_267, wim_X5_sweetsThen, wsel_X5_sweetsThen, wini_RX5, wcod_X5_sweetsThen, rfl, wnm_X5_sweetsThen⟩
theorem wml_RX10_270 : Cond.methodLink RX10 270 yX5_contentThen ∈ gT := gw4 (i := 155) rfl rfl
theorem wcod_X5_contentThen : Cond.code yX5_contentThen cX5_contentThen 2 (some .int) ∈ gT := gw4 (i := 158) rfl rfl
theorem wnm_X5_contentThen : gNm yX5_contentThen 1 = true := by decide +kernel
theorem wim_X5_contentThen : Cond.instanceMethod yX5_contentThen ∈ gT := gw4 (i := 156) rfl rfl
theorem wsel_X5_contentThen : Cond.selects RX5 yX5_contentThen yX5_contentThen ∈ gT := gw4 (i := 157) rfl rfl
theorem cv_RX10_270 : gCV RX10 270 RX5 yX5_contentThen cX5_contentThen 2 (some .int) 1 := ⟨wml_RX10_270, wim_X5_contentThen, wsel_X5_contentThen, wini_RX5, wcod_X5_contentThen, rfl, wnm_X5_contentThen⟩
theorem wml_RX10_276 : Cond.methodLink RX10 276 yX1_flick ∈ gT := gw4 (i := 164) rfl rfl
theorem cv_RX10_276 : gCV RX10 276 RX1 yX1_flick cX1_flick 5 (some .int) 3 := ⟨wml_RX10_276, wim_X1_flick, wsel_X1_flick, wini_RX1, wcod_X1_flick, rfl, wnm_X1_flick⟩
theorem wml_RX10_280 : Cond.methodLink RX10 280 yX1_nearestPower ∈ gT := gw4 (i := 169) rfl rfl
theorem wcod_X1_nearestPower : Cond.code yX1_nearestPower cX1_nearestPower 7 (some .int) ∈ gT := gw4 (i := 172) rfl rfl
theorem wnm_X1_nearestPower : gNm yX1_nearestPower 2 = true := by decide +kernel
theorem wim_X1_nearestPower : Cond.instanceMethod yX1_nearestPower ∈ gT := gw4 (i := 170) rfl rfl
theorem wsel_X1_nearestPower : Cond.selects RX1 yX1_nearestPower yX1_nearestPower ∈ gT := gw4 (i := 171) rfl rfl
theorem cv_RX10_280 : gCV RX10 280 RX1 yX1_nearestPower cX1_nearestPower 7 (some .int) 2 := ⟨wml_RX10_280, wim_X1_nearestPower, wsel_X1_nearestPower, wini_RX1, wcod_X1_nearestPower, rfl, wnm_X1_nearestPower⟩
theorem wml_RX10_284 : Cond.methodLink RX10 284 yX1_winnerOf ∈ gT := gw4 (i := 177) rfl rfl
theorem wcod_X1_winnerOf : Cond.code yX1_winnerOf cX1_winnerOf 5 (some .int) ∈ gT := gw4 (i := 180) rfl rfl
theorem wnm_X1_winnerOf : gNm yX1_winnerOf 4 = true := by decide +kernel
theorem wim_X1_winnerOf : Cond.instanceMethod yX1_winnerOf ∈ gT := gw4 (i := 178) rfl rfl
theorem wsel_X1_winnerOf : Cond.selects RX1 yX1_winnerOf yX1_winnerOf ∈ gT := gw4 (i := 179) rfl rfl
theorem cv_RX10_284 : gCV RX10 284 RX1 yX1_winnerOf cX1_winnerOf 5 (some .int) 4 := ⟨wml_RX10_284, wim_X1_winnerOf, wsel_X1_winnerOf, wini_RX1, wcod_X1_winnerOf, rfl, wnm_X1_winnerOf⟩
theorem wml_RX10_287 : Cond.methodLink RX10 287 yX1_gain ∈ gT := gw4 (i := 185) rfl rfl
theorem cv_RX10_287 : gCV RX10 287 RX1 yX1_gain cX1_gain 6 (some .int) 4 := ⟨wml_RX10_287, wim_X1_gain, wsel_X1_gain, wini_RX1, wcod_X1_gain, rfl, wnm_X1_gain⟩
theorem wml_RX10_290 : Cond.methodLink RX10 290 yX1_restingPowers ∈ gT := gw4 (i := 193) rfl rfl
theorem wcod_X1_restingPowers : Cond.code yX1_restingPowers cX1_restingPowers 9 (some .int) ∈ gT := gw4 (i := 196) rfl rfl
theorem wnm_X1_restingPowers : gNm yX1_restingPowers 3 = true := by decide +kernel
theorem wim_X1_restingPowers : Cond.instanceMethod yX1_restingPowers ∈ gT := gw4 (i := 194) rfl rfl
theorem wsel_X1_restingPowers : Cond.selects RX1 yX1_restingPowers yX1_restingPowers ∈ gT := gw4 (i := 195) rfl rfl
theorem cv_RX10_290 : gCV RX10 290 RX1 yX1_restingPowers cX1_restingPowers 9 (some .int) 3 := ⟨wml_RX10_290, wim_X1_restingPowers, wsel_X1_restingPowers, wini_RX1, wcod_X1_restingPowers, rfl, wnm_X1_restingPowers⟩
theorem wml_RX10_293 : Cond.methodLink RX10 293 yX1_winningParts ∈ gT := gw4 (i := 206) rfl rfl
theorem wcod_X1_winningParts : Cond.code yX1_winningParts cX1_winningParts 8 (some .int) ∈ gT := gw4 (i := 209) rfl rfl
theorem wnm_X1_winningParts : gNm yX1_winningParts 3 = true := by decide +kernel
theorem wim_X1_winningParts : Cond.instanceMethod yX1_winningParts ∈ gT := gw4 (i := 207) rfl rfl
theorem wsel_X1_winningParts : Cond.selects RX1 yX1_winningParts yX1_winningParts ∈ gT := gw4 (i := 208) rfl rfl
theorem cv_RX10_293 : gCV RX10 293 RX1 yX1_winningParts cX1_winningParts 8 (some .int) 3 := ⟨wml_RX10_293, wim_X1_winningParts, wsel_X1_winningParts, wini_RX1, wcod_X1_winningParts, rfl, wnm_X1_winningParts⟩
theorem wml_RX10_296 : Cond.methodLink RX10 296 yX6_measure ∈ gT := gw3 (i := 137) rfl rfl
theorem cv_RX10_296 : gCV RX10 296 RX6 yX6_measure cX6_measure 2 none 0 := ⟨wml_RX10_296, wim_X6_measure, wsel_X6_measure, wini_RX6, wcod_X6_measure, rfl, wnm_X6_measure⟩
theorem wml_RX10_299 : Cond.methodLink RX10 299 yX6_strongestKind ∈ gT := gw4 (i := 219) rfl rfl
theorem cv_RX10_299 : gCV RX10 299 RX6 yX6_strongestKind cX6_strongestKind 5 (some .int) 1 := ⟨wml_RX10_299, wim_X6_strongestKind, wsel_X6_strongestKind, wini_RX6, wcod_X6_strongestKind, rfl, wnm_X6_strongestKind⟩
theorem wml_RX10_302 : Cond.methodLink RX10 302 yX10_isPlaceAndKind ∈ gT := gw4 (i := 224) rfl rfl
theorem wcod_X10_isPlaceAndKind : Cond.code yX10_isPlaceAndKind cX10_isPlaceAndKind 3 (some .boolean) ∈ gT := gw4 (i := 227) rfl rfl
theorem wnm_X10_isPlaceAndKind : gNm yX10_isPlaceAndKind 2 = true := by decide +kernel
theorem wim_X10_isPlaceAndKind : Cond.instanceMethod yX10_isPlaceAndKind ∈ gT := gw4 (i := 226) rfl rfl
theorem wsel_X10_isPlaceAndKind : Cond.selects RX10 yX10_isPlaceAndKind yX10_isPlaceAndKind ∈ gT := gp2 (i := 9) rfl
theorem cv_RX10_302 : gCV RX10 302 RX10 yX10_isPlaceAndKind cX10_isPlaceAndKind 3 (some .boolean) 2 := ⟨wml_RX10_302, wim_X10_isPlaceAndKind, wsel_X10_isPlaceAndKind, wini_RX10, wcod_X10_isPlaceAndKind, rfl, wnm_X10_isPlaceAndKind⟩
theorem wml_RX10_306 : Cond.methodLink RX10 306 yX6_strengthOf ∈ gT := gw4 (i := 228) rfl rfl
theorem wcod_X6_strengthOf : Cond.code yX6_strengthOf cX6_strengthOf 3 (some .int) ∈ gT := gw3 (i := 180) rfl rfl
theorem wnm_X6_strengthOf : gNm yX6_strengthOf 2 = true := by decide +kernel
theorem wim_X6_strengthOf : Cond.instanceMethod yX6_strengthOf ∈ gT := gw3 (i := 178) rfl rfl
theorem wsel_X6_strengthOf : Cond.selects RX6 yX6_strengthOf yX6_strengthOf ∈ gT := gw3 (i := 179) rfl rfl
theorem cv_RX10_306 : gCV RX10 306 RX6 yX6_strengthOf cX6_strengthOf 3 (some .int) 2 := ⟨wml_RX10_306, wim_X6_strengthOf, wsel_X6_strengthOf, wini_RX6, wcod_X6_strengthOf, rfl, wnm_X6_strengthOf⟩
theorem wml_RX10_309 : Cond.methodLink RX10 309 yX6_findArrangement ∈ gT := gw4 (i := 233) rfl rfl
theorem wcod_X6_findArrangement : Cond.code yX6_findArrangement cX6_findArrangement 1 (some .boolean) ∈ gT := gw4 (i := 236) rfl rfl
theorem wnm_X6_findArrangement : gNm yX6_findArrangement 0 = true := by decide +kernel
theorem wim_X6_findArrangement : Cond.instanceMethod yX6_findArrangement ∈ gT := gw4 (i := 234) rfl rfl
theorem wsel_X6_findArrangement : Cond.selects RX6 yX6_findArrangement yX6_findArrangement ∈ gT := gw4 (i := 235) rfl rfl
theorem cv_RX10_309 : gCV RX10 309 RX6 yX6_findArrangement cX6_findArrangement 1 (some .boolean) 0 := ⟨wml_RX10_309, wim_X6_findArrangement, wsel_X6_findArrangement, wini_RX6, wcod_X6_findArrangement, rfl, wnm_X6_findArrangement⟩
theorem wml_RX10_312 : Cond.methodLink RX10 312 yX6_fewestChanges ∈ gT := gw5 (i := 37) rfl rfl
theorem wcod_X6_fewestChanges : Cond.code yX6_fewestChanges cX6_fewestChanges 1 (some .int) ∈ gT := gw5 (i := 40) rfl rfl
theorem wnm_X6_fewestChanges : gNm yX6_fewestChanges 0 = true := by decide +kernel
theorem wim_X6_fewestChanges : Cond.instanceMethod yX6_fewestChanges ∈ gT := gw5 (i := 38) rfl rfl
theorem wsel_X6_fewestChanges : Cond.selects RX6 yX6_fewestChanges yX6_fewestChanges ∈ gT := gw5 (i := 39) rfl rfl
theorem cv_RX10_312 : gCV RX10 312 RX6 yX6_fewestChanges cX6_fewestChanges 1 (some .int) 0 := ⟨wml_RX10_312, wim_X6_fewestChanges, wsel_X6_fewestChanges, wini_RX6, wcod_X6_fewestChanges, rfl, wnm_X6_fewestChanges⟩
theorem wml_RX10_315 : Cond.methodLink RX10 315 yX6_leastRow ∈ gT := gw5 (i := 41) rfl rfl
theorem wcod_X6_leastRow : Cond.code yX6_leastRow cX6_leastRow 1 (some .int) ∈ gT := gw5 (i := 44) rfl rfl
theorem wnm_X6_leastRow : gNm yX6_leastRow 0 = true := by decide +kernel
theorem wim_X6_leastRow : Cond.instanceMethod yX6_leastRow ∈ gT := gw5 (i := 42) rfl rfl
theorem wsel_X6_leastRow : Cond.selects RX6 yX6_leastRow yX6_leastRow ∈ gT := gw5 (i := 43) rfl rfl
theorem cv_RX10_315 : gCV RX10 315 RX6 yX6_leastRow cX6_leastRow 1 (some .int) 0 := ⟨wml_RX10_315, wim_X6_leastRow, wsel_X6_leastRow, wini_RX6, wcod_X6_leastRow, rfl, wnm_X6_leastRow⟩
theorem wml_RX10_318 : Cond.methodLink RX10 318 yX0_size ∈ gT := gw5 (i := 49) rfl rfl
theorem wcod_X0_size : Cond.code yX0_size cX0_size 1 (some .int) ∈ gT := gw5 (i := 52) rfl rfl
theorem wnm_X0_size : gNm yX0_size 0 = true := by decide +kernel
theorem wim_X0_size : Cond.instanceMethod yX0_size ∈ gT := gw5 (i := 50) rfl rfl
theorem wsel_X0_size : Cond.selects RX0 yX0_size yX0_size ∈ gT := gw5 (i := 51) rfl rfl
theorem cv_RX10_318 : gCV RX10 318 RX0 yX0_size cX0_size 1 (some .int) 0 := ⟨wml_RX10_318, wim_X0_size, wsel_X0_size, wini_RX0, wcod_X0_size, rfl, wnm_X0_size⟩
theorem wml_RX10_319 : Cond.methodLink RX10 319 yX0_add ∈ gT := gw5 (i := 53) rfl rfl
theorem wcod_X0_add : Cond.code yX0_add cX0_add 4 none ∈ gT := gw5 (i := 56) rfl rfl
theorem wnm_X0_add : gNm yX0_add 3 = true := by decide +kernel
theorem wim_X0_add : Cond.instanceMethod yX0_add ∈ gT := gw5 (i := 54) rfl rfl
theorem wsel_X0_add : Cond.selects RX0 yX0_add yX0_add ∈ gT := gw5 (i := 55) rfl rfl
theorem cv_RX10_319 : gCV RX10 319 RX0 yX0_add cX0_add 4 none 3 := ⟨wml_RX10_319, wim_X0_add, wsel_X0_add, wini_RX0, wcod_X0_add, rfl, wnm_X0_add⟩
theorem wml_RX10_322 : Cond.methodLink RX10 322 yX0_search ∈ gT := gw5 (i := 61) rfl rfl
theorem cv_RX10_322 : gCV RX10 322 RX0 yX0_search cX0_search 4 (some .int) 0 := ⟨wml_RX10_322, wim_X0_search, wsel_X0_search, wini_RX0, wcod_X0_search, rfl, wnm_X0_search⟩
theorem wml_RX10_325 : Cond.methodLink RX10 325 yX0_fittingAt ∈ gT := gw5 (i := 82) rfl rfl
theorem wcod_X0_fittingAt : Cond.code yX0_fittingAt cX0_fittingAt 2 (some .int) ∈ gT := gw5 (i := 85) rfl rfl
theorem wnm_X0_fittingAt : gNm yX0_fittingAt 1 = true := by decide +kernel
theorem wim_X0_fittingAt : Cond.instanceMethod yX0_fittingAt ∈ gT := gw5 (i := 83) rfl rfl
theorem wsel_X0_fittingAt : Cond.selects RX0 yX0_fittingAt yX0_fittingAt ∈ gT := gw5 (i := 84) rfl rfl
theorem cv_RX10_325 : gCV RX10 325 RX0 yX0_fittingAt cX0_fittingAt 2 (some .int) 1 := ⟨wml_RX10_325, wim_X0_fittingAt, wsel_X0_fittingAt, wini_RX0, wcod_X0_fittingAt, rfl, wnm_X0_fittingAt⟩
theorem wml_RX10_328 : Cond.methodLink RX10 328 yX0_placeToLook ∈ gT := gw5 (i := 90) rfl rfl
theorem wcod_X0_placeToLook : Cond.code yX0_placeToLook cX0_placeToLook 3 (some .int) ∈ gT := gw5 (i := 93) rfl rfl
theorem wnm_X0_placeToLook : gNm yX0_placeToLook 0 = true := by decide +kernel
theorem wim_X0_placeToLook : Cond.instanceMethod yX0_placeToLook ∈ gT := gw5 (i := 91) rfl rfl
theorem wsel_X0_placeToLook : Cond.selects RX0 yX0_placeToLook yX0_placeToLook ∈ gT := gw5 (i := 92) rfl rfl
theorem cv_RX10_328 : gCV RX10 328 RX0 yX0_placeToLook cX0_placeToLook 3 (some .int) 0 := ⟨wml_RX10_328, wim_X0_placeToLook, wsel_X0_placeToLook, wini_RX0, wcod_X0_placeToLook, rfl, wnm_X0_placeToLook⟩
theorem wml_RX10_331 : Cond.methodLink RX10 331 yX10_likingFor ∈ gT := gw5 (i := 113) rfl rfl
theorem wcod_X10_likingFor : Cond.code yX10_likingFor cX10_likingFor 5 (some .int) ∈ gT := gw5 (i := 116) rfl rfl
theorem wnm_X10_likingFor : gNm yX10_likingFor 2 = true := by decide +kernel
theorem wim_X10_likingFor : Cond.instanceMethod yX10_likingFor ∈ gT := gw5 (i := 115) rfl rfl
theorem wsel_X10_likingFor : Cond.selects RX10 yX10_likingFor yX10_likingFor ∈ gT := gp3 (i := 7) rfl
theorem cv_RX10_331 : gCV RX10 331 RX10 yX10_likingFor cX10_likingFor 5 (some .int) 2 := ⟨wml_RX10_331, wim_X10_likingFor, wsel_X10_likingFor, wini_RX10, wcod_X10_likingFor, rfl, wnm_X10_likingFor⟩
theorem wml_RX10_334 : Cond.methodLink RX10 334 yX10_bothWouldSwap ∈ gT := gw5 (i := 124) rfl rfl
theorem wcod_X10_bothWouldSwap : Cond.code yX10_bothWouldSwap cX10_bothWouldSwap 5 (some .boolean) ∈ gT := gw5 (i := 127) rfl rfl
theorem wnm_X10_bothWouldSwap : gNm yX10_bothWouldSwap 2 = true := by decide +kernel
theorem wim_X10_bothWouldSwap : Cond.instanceMethod yX10_bothWouldSwap ∈ gT := gw5 (i := 126) rfl rfl
theorem wsel_X10_bothWouldSwap : Cond.selects RX10 yX10_bothWouldSwap yX10_bothWouldSwap ∈ gT := gp3 (i := 8) rfl
theorem cv_RX10_334 : gCV RX10 334 RX10 yX10_bothWouldSwap cX10_bothWouldSwap 5 (some .boolean) 2 := ⟨wml_RX10_334, wim_X10_bothWouldSwap, wsel_X10_bothWouldSwap, wini_RX10, wcod_X10_bothWouldSwap, rfl, wnm_X10_bothWouldSwap⟩
theorem wml_RX10_337 : Cond.methodLink RX10 337 yX8_paymentOf ∈ gT := gw4 (i := 88) rfl rfl
theorem wcod_X8_paymentOf : Cond.code yX8_paymentOf cX8_paymentOf 4 (some .int) ∈ gT := gw4 (i := 91) rfl rfl
theorem wnm_X8_paymentOf : gNm yX8_paymentOf 1 = true := by decide +kernel
theorem wim_X8_paymentOf : Cond.instanceMethod yX8_paymentOf ∈ gT := gw4 (i := 89) rfl rfl
theorem wsel_X8_paymentOf : Cond.selects RX8 yX8_paymentOf yX8_paymentOf ∈ gT := gw4 (i := 90) rfl rfl
theorem cv_RX10_337 : gCV RX10 337 RX8 yX8_paymentOf cX8_paymentOf 4 (some .int) 1 := ⟨wml_RX10_337, wim_X8_paymentOf, wsel_X8_paymentOf, wini_RX8, wcod_X8_paymentOf, rfl, wnm_X8_paymentOf⟩
theorem wml_RX10_340 : Cond.methodLink RX10 340 yX10_richestBoy ∈ gT := gw5 (i := 149) rfl rfl
theorem wcod_X10_richestBoy : Cond.code yX10_richestBoy cX10_richestBoy 3 (some .int) ∈ gT := gw5 (i := 152) rfl rfl
theorem wnm_X10_richestBoy : gNm yX10_richestBoy 0 = true := by decide +kernel
theorem wim_X10_richestBoy : Cond.instanceMethod yX10_richestBoy ∈ gT := gw5 (i := 151) rfl rfl
theorem wsel_X10_richestBoy : Cond.selects RX10 yX10_richestBoy yX10_richestBoy ∈ gT := gp3 (i := 9) rfl
theorem cv_RX10_340 : gCV RX10 340 RX10 yX10_richestBoy cX10_richestBoy 3 (some .int) 0 := ⟨wml_RX10_340, wim_X10_richestBoy, wsel_X10_richestBoy, wini_RX10, wcod_X10_richestBoy, rfl, wnm_X10_richestBoy⟩
theorem wml_RX10_343 : Cond.methodLink RX10 343 yX10_strongestMarble ∈ gT := gw5 (i := 154) rfl rfl
theorem wcod_X10_strongestMarble : Cond.code yX10_strongestMarble cX10_strongestMarble 3 (some .int) ∈ gT := gw5 (i := 157) rfl rfl
theorem wnm_X10_strongestMarble : gNm yX10_strongestMarble 0 = true := by decide +kernel
theorem wim_X10_strongestMarble : Cond.instanceMethod yX10_strongestMarble ∈ gT := gw5 (i := 156) rfl rfl
theorem wsel_X10_strongestMarble : Cond.selects RX10 yX10_strongestMarble yX10_strongestMarble ∈ gT := gp3 (i := 10) rfl
theorem cv_RX10_343 : gCV RX10 343 RX10 yX10_strongestMarble cX10_strongestMarble 3 (some .int) 0 := ⟨wml_RX10_343, wim_X10_strongestMarble, wsel_X10_strongestMarble, wini_RX10, wcod_X10_strongestMarble, rfl, wnm_X10_strongestMarble⟩
theorem wml_RX10_346 : Cond.methodLink RX10 346 yX6_placesWithout ∈ gT := gw5 (i := 158) rfl rfl
theorem wcod_X6_placesWithout : Cond.code yX6_placesWithout cX6_placesWithout 3 (some .int) ∈ gT := gw5 (i := 161) rfl rfl
theorem wnm_X6_placesWithout : gNm yX6_placesWithout 0 = true := by decide +kernel
theorem wim_X6_placesWithout : Cond.instanceMethod yX6_placesWithout ∈ gT := gw5 (i := 159) rfl rfl
theorem wsel_X6_placesWithout : Cond.selects RX6 yX6_placesWithout yX6_placesWithout ∈ gT := gw5 (i := 160) rfl rfl
theorem cv_RX10_346 : gCV RX10 346 RX6 yX6_placesWithout cX6_placesWithout 3 (some .int) 0 := ⟨wml_RX10_346, wim_X6_placesWithout, wsel_X6_placesWithout, wini_RX6, wcod_X6_placesWithout, rfl, wnm_X6_placesWithout⟩
theorem wml_RX10_349 : Cond.methodLink RX10 349 yX10_champion ∈ gT := gw5 (i := 162) rfl rfl
theorem wcod_X10_champion : Cond.code yX10_champion cX10_champion 7 (some .int) ∈ gT := gw5 (i := 165) rfl rfl
theorem wnm_X10_champion : gNm yX10_champion 0 = true := by decide +kernel
theorem wim_X10_champion : Cond.instanceMethod yX10_champion ∈ gT := gw5 (i := 164) rfl rfl
theorem wsel_X10_champion : Cond.selects RX10 yX10_champion yX10_champion ∈ gT := gp3 (i := 11) rfl
theorem cv_RX10_349 : gCV RX10 349 RX10 yX10_champion cX10_champion 7 (some .int) 0 := ⟨wml_RX10_349, wim_X10_champion, wsel_X10_champion, wini_RX10, wcod_X10_champion, rfl, wnm_X10_champion⟩
theorem wml_RX10_352 : Cond.methodLink RX10 352 yX5_keepImage ∈ gT := gw5 (i := 175) rfl rfl
theorem wcod_X5_keepImage : Cond.code yX5_keepImage cX5_keepImage 2 none ∈ gT := gw5 (i := 178) rfl rfl
theorem wnm_X5_keepImage : gNm yX5_keepImage 0 = true := by decide +kernel
theorem wim_X5_keepImage : Cond.instanceMethod yX5_keepImage ∈ gT := gw5 (i := 176) rfl rfl
theorem wsel_X5_keepImage : Cond.selects RX5 yX5_keepImage yX5_keepImage ∈ gT := gw5 (i := 177) rfl rfl
theorem cv_RX10_352 : gCV RX10 352 RX5 yX5_keepImage cX5_keepImage 2 none 0 := ⟨wml_RX10_352, wim_X5_keepImage, wsel_X5_keepImage, wini_RX5, wcod_X5_keepImage, rfl, wnm_X5_keepImage⟩
theorem wml_RX10_355 : Cond.methodLink RX10 355 yX5_restoreImage ∈ gT := gw5 (i := 184) rfl rfl
theorem wcod_X5_restoreImage : Cond.code yX5_restoreImage cX5_restoreImage 2 (some .boolean) ∈ gT := gw5 (i := 187) rfl rfl
theorem wnm_X5_restoreImage : gNm yX5_restoreImage 0 = true := by decide +kernel
theorem wim_X5_restoreImage : Cond.instanceMethod yX5_restoreImage ∈ gT := gw5 (i := 185) rfl rfl
theorem wsel_X5_restoreImage : Cond.selects RX5 yX5_restoreImage yX5_restoreImage ∈ gT := gw5 (i := 186) rfl rfl
theorem cv_RX10_355 : gCV RX10 355 RX5 yX5_restoreImage cX5_restoreImage 2 (some .boolean) 0 := ⟨wml_RX10_355, wim_X5_restoreImage, wsel_X5_restoreImage, wini_RX5, wcod_X5_restoreImage, rfl, wnm_X5_restoreImage⟩
theorem wml_RX10_358 : Cond.methodLink RX10 358 yX8_boys ∈ gT := gw5 (i := 153) rfl rfl
theorem cv_RX10_358 : gCV RX10 358 RX8 yX8_boys cX8_boys 1 (some .int) 0 := ⟨wml_RX10_358, wim_X8_boys, wsel_X8_boys, wini_RX8, wcod_X8_boys, rfl, wnm_X8_boys⟩
theorem wml_RX10_361 : Cond.methodLink RX10 361 yX8_farms ∈ gT := gw5 (i := 117) rfl rfl
theorem wcod_X8_farms : Cond.code yX8_farms cX8_farms 1 (some .int) ∈ gT := gw3 (i := 120) rfl rfl
theorem wnm_X8_farms : gNm yX8_farms 0 = true := by decide +kernel
theorem wim_X8_farms : Cond.instanceMethod yX8_farms ∈ gT := gw3 (i := 118) rfl rfl
theorem wsel_X8_farms : Cond.selects RX8 yX8_farms yX8_farms ∈ gT := gw3 (i := 119) rfl rfl
theorem cv_RX10_361 : gCV RX10 361 RX8 yX8_farms cX8_farms 1 (some .int) 0 := ⟨wml_RX10_361, wim_X8_farms, wsel_X8_farms, wini_RX8, wcod_X8_farms, rfl, wnm_X8_farms⟩
theorem wml_RX10_364 : Cond.methodLink RX10 364 yX3_chosen ∈ gT := gw5 (i := 192) rfl rfl
theorem wcod_X3_chosen : Cond.code yX3_chosen cX3_chosen 1 (some .int) ∈ gT := gw5 (i := 195) rfl rfl
theorem wnm_X3_chosen : gNm yX3_chosen 0 = true := by decide +kernel
theorem wim_X3_chosen : Cond.instanceMethod yX3_chosen ∈ gT := gw5 (i := 193) rfl rfl
theorem wsel_X3_chosen : Cond.selects RX3 yX3_chosen yX3_chosen ∈ gT := gw5 (i := 194) rfl rfl
theorem cv_RX10_364 : gCV RX10 364 RX3 yX3_chosen cX3_chosen 1 (some .int) 0 := ⟨wml_RX10_364, wim_X3_chosen, wsel_X3_chosen, wini_RX3, wcod_X3_chosen, rfl, wnm_X3_chosen⟩
theorem wml_RX10_367 : Cond.methodLink RX10 367 yX4_drainedBits ∈ gT := gw5 (i := 196) rfl rfl
theorem wcod_X4_drainedBits : Cond.code yX4_drainedBits cX4_drainedBits 1 (some .int) ∈ gT := gw5 (i := 199) rfl rfl
theorem wnm_X4_drainedBits : gNm yX4_drainedBits 0 = true := by decide +kernel
theorem wim_X4_drainedBits : Cond.instanceMethod yX4_drainedBits ∈ gT := gw5 (i := 197) rfl rfl
theorem wsel_X4_drainedBits : Cond.selects RX4 yX4_drainedBits yX4_drainedBits ∈ gT := gw5 (i := 198) rfl rfl
theorem cv_RX10_367 : gCV RX10 367 RX4 yX4_drainedBits cX4_drainedBits 1 (some .int) 0 := ⟨wml_RX10_367, wim_X4_drainedBits, wsel_X4_drainedBits, wini_RX4, wcod_X4_drainedBits, rfl, wnm_X4_drainedBits⟩
theorem wml_RX10_370 : Cond.methodLink RX10 370 yX5_undoable ∈ gT := gw5 (i := 201) rfl rfl
theorem wcod_X5_undoable : Cond.code yX5_undoable cX5_undoable 1 (some .int) ∈ gT := gw5 (i := 204) rfl rfl
theorem wnm_X5_undoable : gNm yX5_undoable 0 = true := by decide +kernel
theorem wim_X5_undoable : Cond.instanceMethod yX5_undoable ∈ gT := gw5 (i := 202) rfl rfl
theorem wsel_X5_undoable : Cond.selects RX5 yX5_undoable yX5_undoable ∈ gT := gw5 (i := 203) rfl rfl
theorem cv_RX10_370 : gCV RX10 370 RX5 yX5_undoable cX5_undoable 1 (some .int) 0 := ⟨wml_RX10_370, wim_X5_undoable, wsel_X5_undoable, wini_RX5, wcod_X5_undoable, rfl, wnm_X5_undoable⟩
theorem wml_RX10_373 : Cond.methodLink RX10 373 yX6_contentBits ∈ gT := gw3 (i := 167) rfl rfl
theorem wcod_X6_contentBits : Cond.code yX6_contentBits cX6_contentBits 3 (some .int) ∈ gT := gw3 (i := 170) rfl rfl
theorem wnm_X6_contentBits : gNm yX6_contentBits 0 = true := by decide +kernel
theorem wim_X6_contentBits : Cond.instanceMethod yX6_contentBits ∈ gT := gw3 (i := 168) rfl rfl
theorem wsel_X6_contentBits : Cond.selects RX6 yX6_contentBits yX6_contentBits ∈ gT := gw3 (i := 169) rfl rfl
theorem cv_RX10_373 : gCV RX10 373 RX6 yX6_contentBits cX6_contentBits 3 (some .int) 0 := ⟨wml_RX10_373, wim_X6_contentBits, wsel_X6_contentBits, wini_RX6, wcod_X6_contentBits, rfl, wnm_X6_contentBits⟩
theorem wml_RX10_381 : Cond.methodLink RX10 381 yX5_write ∈ gT := gw4 (i := 94) rfl rfl
theorem wcod_X5_write : Cond.code yX5_write cX5_write 2 none ∈ gT := gw4 (i := 97) rfl rfl
theorem wnm_X5_write : gNm yX5_write 1 = true := by decide +kernel
theorem wim_X5_write : Cond.instanceMethod yX5_write ∈ gT := gw4 (i := 95) rfl rfl
theorem wsel_X5_write : Cond.selects RX5 yX5_write yX5_write ∈ gT := gw4 (i := 96) rfl rfl
theorem cv_RX10_381 : gCV RX10 381 RX5 yX5_write cX5_write 2 none 1 := ⟨wml_RX10_381, wim_X5_write, wsel_X5_write, wini_RX5, wcod_X5_write, rfl, wnm_X5_write⟩
theorem wml_RX10_388 : Cond.methodLink RX10 388 yX10_draw ∈ gT := gw4 (i := 114) rfl rfl
theorem wcod_X10_draw : Cond.code yX10_draw cX10_draw 2 (some .int) ∈ gT := gw4 (i := 117) rfl rfl
theorem wnm_X10_draw : gNm yX10_draw 1 = true := by decide +kernel
theorem wim_X10_draw : Cond.instanceMethod yX10_draw ∈ gT := gw4 (i := 116) rfl rfl
theorem wsel_X10_draw : Cond.selects RX10 yX10_draw yX10_draw ∈ gT := gp2 (i := 6) rfl
theorem cv_RX10_388 : gCV RX10 388 RX10 yX10_draw cX10_draw 2 (some .int) 1 := ⟨wml_RX10_388, wim_X10_draw, wsel_X10_draw, wini_RX10, wcod_X10_draw, rfl, wnm_X10_draw⟩
theorem wml_RX10_391 : Cond.methodLink RX10 391 yX4_soundSize ∈ gT := gw5 (i := 119) rfl rfl
theorem wcod_X4_soundSize : Cond.code yX4_soundSize cX4_soundSize 4 (some .int) ∈ gT := gw3 (i := 161) rfl rfl
theorem wnm_X4_soundSize : gNm yX4_soundSize 2 = true := by decide +kernel
theorem wim_X4_soundSize : Cond.instanceMethod yX4_soundSize ∈ gT := gw3 (i := 159) rfl rfl
theorem wsel_X4_soundSize : Cond.selects RX4 yX4_soundSize yX4_soundSize ∈ gT := gw3 (i := 160) rfl rfl
theorem cv_RX10_391 : gCV RX10 391 RX4 yX4_soundSize cX4_soundSize 4 (some .int) 2 := ⟨wml_RX10_391, wim_X4_soundSize, wsel_X4_soundSize, wini_RX4, wcod_X4_soundSize, rfl, wnm_X4_soundSize⟩
theorem wml_RX10_395 : Cond.methodLink RX10 395 yX10_greatestOf ∈ gT := gw5 (i := 166) rfl rfl
theorem wcod_X10_greatestOf : Cond.code yX10_greatestOf cX10_greatestOf 4 (some .int) ∈ gT := gw5 (i := 169) rfl rfl
theorem wnm_X10_greatestOf : gNm yX10_greatestOf 1 = true := by decide +kernel
theorem wim_X10_greatestOf : Cond.instanceMethod yX10_greatestOf ∈ gT := gw5 (i := 168) rfl rfl
theorem wsel_X10_greatestOf : Cond.selects RX10 yX10_greatestOf yX10_greatestOf ∈ gT := gp3 (i := 12) rfl
theorem cv_RX10_395 : gCV RX10 395 RX10 yX10_greatestOf cX10_greatestOf 4 (some .int) 1 := ⟨wml_RX10_395, wim_X10_greatestOf, wsel_X10_greatestOf, wini_RX10, wcod_X10_greatestOf, rfl, wnm_X10_greatestOf⟩
theorem wml_RX10_398 : Cond.methodLink RX10 398 yX1_distance ∈ gT := gw5 (i := 170) rfl rfl
theorem cv_RX10_398 : gCV RX10 398 RX1 yX1_distance cX1_distance 2 (some .int) 1 := ⟨wml_RX10_398, wim_X1_distance, wsel_X1_distance, wini_RX1, wcod_X1_distance, rfl, wnm_X1_distance⟩
theorem wml_RX11_106 : Cond.methodLink RX11 106 yX11_here ∈ gT := gw6 (i := 218) rfl rfl
theorem wini_RX11 : Cond.initialized RX11 ∈ gT := gw1 (i := 12) rfl rfl
theorem wcod_X11_here : Cond.code yX11_here cX11_here 1 (some .int) ∈ gT := gw6 (i := 221) rfl rfl
theorem wnm_X11_here : gNm yX11_here 0 = true := by decide +kernel
theorem wim_X11_here : Cond.instanceMethod yX11_here ∈ gT := gw6 (i := 220) rfl rfl
theorem wsel_X11_here : Cond.selects RX11 yX11_here yX11_here ∈ gT := gp4 (i := 0) rfl
theorem cv_RX11_106 : gCV RX11 106 RX11 yX11_here cX11_here 1 (some .int) 0 := ⟨wml_RX11_106, wim_X11_here, wsel_X11_here, wini_RX11, wcod_X11_here, rfl, wnm_X11_here⟩
theorem wml_RX11_119 : Cond.methodLink RX11 119 yX11_bad ∈ gT := gw7 (i := 9) rfl rfl
theorem wcod_X11_bad : Cond.code yX11_bad cX11_bad 1 none ∈ gT := gw7 (i := 12) rfl rfl
theorem wnm_X11_bad : gNm yX11_bad 0 = true := by decide +kernel
theorem wim_X11_bad : Cond.instanceMethod yX11_bad ∈ gT := gw7 (i := 11) rfl rfl
theorem wsel_X11_bad : Cond.selects RX11 yX11_bad yX11_bad ∈ gT := gp4 (i := 4) rfl
theorem cv_RX11_119 : gCV RX11 119 RX11 yX11_bad cX11_bad 1 none 0 := ⟨wml_RX11_119, wim_X11_bad, wsel_X11_bad, wini_RX11, wcod_X11_bad, rfl, wnm_X11_bad⟩
theorem wml_RX11_122 : Cond.methodLink RX11 122 yX11_look ∈ gT := gw6 (i := 214) rfl rfl
theorem wcod_X11_look : Cond.code yX11_look cX11_look 1 (some .int) ∈ gT := gw6 (i := 217) rfl rfl
theorem wnm_X11_look : gNm yX11_look 0 = true := by decide +kernel
theorem wim_X11_look : Cond.instanceMethod yX11_look ∈ gT := gw6 (i := 216) rfl rfl
theorem wsel_X11_look : Cond.selects RX11 yX11_look yX11_look ∈ gT := gp3 (i := 15) rfl
theorem cv_RX11_122 : gCV RX11 122 RX11 yX11_look cX11_look 1 (some .int) 0 := ⟨wml_RX11_122, wim_X11_look, wsel_X11_look, wini_RX11, wcod_X11_look, rfl, wnm_X11_look⟩
theorem wml_RX11_129 : Cond.methodLink RX11 129 yX11_plainNumber ∈ gT := gw7 (i := 64) rfl rfl
theorem wcod_X11_plainNumber : Cond.code yX11_plainNumber cX11_plainNumber 3 (some .int) ∈ gT := gw7 (i := 67) rfl rfl
theorem wnm_X11_plainNumber : gNm yX11_plainNumber 0 = true := by decide +kernel
theorem wim_X11_plainNumber : Cond.instanceMethod yX11_plainNumber ∈ gT := gw7 (i := 66) rfl rfl
theorem wsel_X11_plainNumber : Cond.selects RX11 yX11_plainNumber yX11_plainNumber ∈ gT := gp5 (i := 1) rfl
theorem cv_RX11_129 : gCV RX11 129 RX11 yX11_plainNumber cX11_plainNumber 3 (some .int) 0 := ⟨wml_RX11_129, wim_X11_plainNumber, wsel_X11_plainNumber, wini_RX11, wcod_X11_plainNumber, rfl, wnm_X11_plainNumber⟩
theorem wml_RX11_132 : Cond.methodLink RX11 132 yX11_put ∈ gT := gw7 (i := 44) rfl rfl
theorem wcod_X11_put : Cond.code yX11_put cX11_put 3 none ∈ gT := gw7 (i := 47) rfl rfl
theorem wnm_X11_put : gNm yX11_put 2 = true := by decide +kernel
theorem wim_X11_put : Cond.instanceMethod yX11_put ∈ gT := gw7 (i := 46) rfl rfl
theorem wsel_X11_put : Cond.selects RX11 yX11_put yX11_put ∈ gT := gp4 (i := 12) rfl
theorem cv_RX11_132 : gCV RX11 132 RX11 yX11_put cX11_put 3 none 2 := ⟨wml_RX11_132, wim_X11_put, wsel_X11_put, wini_RX11, wcod_X11_put, rfl, wnm_X11_put⟩
theorem wml_RX11_140 : Cond.methodLink RX11 140 yX11_opens ∈ gT := gw7 (i := 40) rfl rfl
theorem wcod_X11_opens : Cond.code yX11_opens cX11_opens 1 none ∈ gT := gw7 (i := 43) rfl rfl
theorem wnm_X11_opens : gNm yX11_opens 0 = true := by decide +kernel
theorem wim_X11_opens : Cond.instanceMethod yX11_opens ∈ gT := gw7 (i := 42) rfl rfl
theorem wsel_X11_opens : Cond.selects RX11 yX11_opens yX11_opens ∈ gT := gp4 (i := 11) rfl
theorem cv_RX11_140 : gCV RX11 140 RX11 yX11_opens cX11_opens 1 none 0 := ⟨wml_RX11_140, wim_X11_opens, wsel_X11_opens, wini_RX11, wcod_X11_opens, rfl, wnm_X11_opens⟩
theorem wml_RX11_143 : Cond.methodLink RX11 143 yX11_sum ∈ gT := gw7 (i := 52) rfl rfl
theorem wcod_X11_sum : Cond.code yX11_sum cX11_sum 2 none ∈ gT := gw7 (i := 55) rfl rfl
theorem wnm_X11_sum : gNm yX11_sum 0 = true := by decide +kernel
theorem wim_X11_sum : Cond.instanceMethod yX11_sum ∈ gT := gw7 (i := 54) rfl rfl
theorem wsel_X11_sum : Cond.selects RX11 yX11_sum yX11_sum ∈ gT := gp4 (i := 14) rfl
theorem cv_RX11_143 : gCV RX11 143 RX11 yX11_sum cX11_sum 2 none 0 := ⟨wml_RX11_143, wim_X11_sum, wsel_X11_sum, wini_RX11, wcod_X11_sum, rfl, wnm_X11_sum⟩
theorem wml_RX11_146 : Cond.methodLink RX11 146 yX11_closes ∈ gT := gw7 (i := 48) rfl rfl
theorem wcod_X11_closes : Cond.code yX11_closes cX11_closes 2 none ∈ gT := gw7 (i := 51) rfl rfl
theorem wnm_X11_closes : gNm yX11_closes 1 = true := by decide +kernel
theorem wim_X11_closes : Cond.instanceMethod yX11_closes ∈ gT := gw7 (i := 50) rfl rfl
theorem wsel_X11_closes : Cond.selects RX11 yX11_closes yX11_closes ∈ gT := gp4 (i := 13) rfl
theorem cv_RX11_146 : gCV RX11 146 RX11 yX11_closes cX11_closes 2 none 1 := ⟨wml_RX11_146, wim_X11_closes, wsel_X11_closes, wini_RX11, wcod_X11_closes, rfl, wnm_X11_closes⟩
theorem wml_RX11_150 : Cond.methodLink RX11 150 yX11_atom ∈ gT := gw7 (i := 60) rfl rfl
theorem wcod_X11_atom : Cond.code yX11_atom cX11_atom 2 none ∈ gT := gw7 (i := 63) rfl rfl
theorem wnm_X11_atom : gNm yX11_atom 0 = true := by decide +kernel
theorem wim_X11_atom : Cond.instanceMethod yX11_atom ∈ gT := gw7 (i := 62) rfl rfl
theorem wsel_X11_atom : Cond.selects RX11 yX11_atom yX11_atom ∈ gT := gp5 (i := 0) rfl
theorem cv_RX11_150 : gCV RX11 150 RX11 yX11_atom cX11_atom 2 none 0 := ⟨wml_RX11_150, wim_X11_atom, wsel_X11_atom, wini_RX11, wcod_X11_atom, rfl, wnm_X11_atom⟩
theorem wml_RX11_153 : Cond.methodLink RX11 153 yX11_term ∈ gT := gw7 (i := 56) rfl rfl
theorem wcod_X11_term : Cond.code yX11_term cX11_term 2 none ∈ gT := gw7 (i := 59) rfl rfl
theorem wnm_X11_term : gNm yX11_term 0 = true := by decide +kernel
theorem wim_X11_term : Cond.instanceMethod yX11_term ∈ gT := gw7 (i := 58) rfl rfl
theorem wsel_X11_term : Cond.selects RX11 yX11_term yX11_term ∈ gT := gp4 (i := 15) rfl
theorem cv_RX11_153 : gCV RX11 153 RX11 yX11_term cX11_term 2 none 0 := ⟨wml_RX11_153, wim_X11_term, wsel_X11_term, wini_RX11, wcod_X11_term, rfl, wnm_X11_term⟩
theorem wml_RX11_159 : Cond.methodLink RX11 159 yX11_unit ∈ gT := gw7 (i := 36) rfl rfl
theorem wcod_X11_unit : Cond.code yX11_unit cX11_unit 2 none ∈ gT := gw7 (i := 39) rfl rfl
theorem wnm_X11_unit : gNm yX11_unit 0 = true := by decide +kernel
theorem wim_X11_unit : Cond.instanceMethod yX11_unit ∈ gT := gw7 (i := 38) rfl rfl
theorem wsel_X11_unit : Cond.selects RX11 yX11_unit yX11_unit ∈ gT := gp4 (i := 10) rfl
theorem cv_RX11_159 : gCV RX11 159 RX11 yX11_unit cX11_unit 2 none 0 := ⟨wml_RX11_159, wim_X11_unit, wsel_X11_unit, wini_RX11, wcod_X11_unit, rfl, wnm_X11_unit⟩
theorem wml_RX11_162 : Cond.methodLink RX11 162 yX11_condition ∈ gT := gw7 (i := 32) rfl rfl
theorem wcod_X11_condition : Cond.code yX11_condition cX11_condition 1 none ∈ gT := gw7 (i := 35) rfl rfl
theorem wnm_X11_condition : gNm yX11_condition 0 = true := by decide +kernel
theorem wim_X11_condition : Cond.instanceMethod yX11_condition ∈ gT := gw7 (i := 34) rfl rfl
theorem wsel_X11_condition : Cond.selects RX11 yX11_condition yX11_condition ∈ gT := gp4 (i := 9) rfl
theorem cv_RX11_162 : gCV RX11 162 RX11 yX11_condition cX11_condition 1 none 0 := ⟨wml_RX11_162, wim_X11_condition, wsel_X11_condition, wini_RX11, wcod_X11_condition, rfl, wnm_X11_condition⟩
theorem wml_RX11_165 : Cond.methodLink RX11 165 yX11_compare ∈ gT := gw7 (i := 71) rfl rfl
theorem wcod_X11_compare : Cond.code yX11_compare cX11_compare 2 none ∈ gT := gw7 (i := 74) rfl rfl
theorem wnm_X11_compare : gNm yX11_compare 0 = true := by decide +kernel
theorem wim_X11_compare : Cond.instanceMethod yX11_compare ∈ gT := gw7 (i := 73) rfl rfl
theorem wsel_X11_compare : Cond.selects RX11 yX11_compare yX11_compare ∈ gT := gp5 (i := 2) rfl
theorem cv_RX11_165 : gCV RX11 165 RX11 yX11_compare cX11_compare 2 none 0 := ⟨wml_RX11_165, wim_X11_compare, wsel_X11_compare, wini_RX11, wcod_X11_compare, rfl, wnm_X11_compare⟩
theorem wml_RX11_168 : Cond.methodLink RX11 168 yX11_goOnAnd ∈ gT := gw7 (i := 78) rfl rfl
theorem wcod_X11_goOnAnd : Cond.code yX11_goOnAnd cX11_goOnAnd 1 none ∈ gT := gw7 (i := 81) rfl rfl
theorem wnm_X11_goOnAnd : gNm yX11_goOnAnd 0 = true := by decide +kernel
theorem wim_X11_goOnAnd : Cond.instanceMethod yX11_goOnAnd ∈ gT := gw7 (i := 80) rfl rfl
theorem wsel_X11_goOnAnd : Cond.selects RX11 yX11_goOnAnd yX11_goOnAnd ∈ gT := gp5 (i := 3) rfl
theorem cv_RX11_168 : gCV RX11 168 RX11 yX11_goOnAnd cX11_goOnAnd 1 none 0 := ⟨wml_RX11_168, wim_X11_goOnAnd, wsel_X11_goOnAnd, wini_RX11, wcod_X11_goOnAnd, rfl, wnm_X11_goOnAnd⟩
theorem wml_RX11_171 : Cond.methodLink RX11 171 yX11_goOnOr ∈ gT := gw7 (i := 82) rfl rfl
theorem wcod_X11_goOnOr : Cond.code yX11_goOnOr cX11_goOnOr 1 none ∈ gT := gw7 (i := 85) rfl rfl
theorem wnm_X11_goOnOr : gNm yX11_goOnOr 0 = true := by decide +kernel
theorem wim_X11_goOnOr : Cond.instanceMethod yX11_goOnOr ∈ gT := gw7 (i := 84) rfl rfl
theorem wsel_X11_goOnOr : Cond.selects RX11 yX11_goOnOr yX11_goOnOr ∈ gT := gp5 (i := 4) rfl
theorem cv_RX11_171 : gCV RX11 171 RX11 yX11_goOnOr cX11_goOnOr 1 none 0 := ⟨wml_RX11_171, wim_X11_goOnOr, wsel_X11_goOnOr, wini_RX11, wcod_X11_goOnOr, rfl, wnm_X11_goOnOr⟩
theorem wml_RX11_174 : Cond.methodLink RX11 174 yX11_open ∈ gT := gw7 (i := 24) rfl rfl
theorem wcod_X11_open : Cond.code yX11_open cX11_open 2 none ∈ gT := gw7 (i := 27) rfl rfl
theorem wnm_X11_open : gNm yX11_open 1 = true := by decide +kernel
theorem wim_X11_open : Cond.instanceMethod yX11_open ∈ gT := gw7 (i := 26) rfl rfl
theorem wsel_X11_open : Cond.selects RX11 yX11_open yX11_open ∈ gT := gp4 (i := 7) rfl
theorem cv_RX11_174 : gCV RX11 174 RX11 yX11_open cX11_open 2 none 1 := ⟨wml_RX11_174, wim_X11_open, wsel_X11_open, wini_RX11, wcod_X11_open, rfl, wnm_X11_open⟩
theorem wml_RX11_177 : Cond.methodLink RX11 177 yX11_clause ∈ gT := gw7 (i := 28) rfl rfl
theorem wcod_X11_clause : Cond.code yX11_clause cX11_clause 3 none ∈ gT := gw7 (i := 31) rfl rfl
theorem wnm_X11_clause : gNm yX11_clause 0 = true := by decide +kernel
theorem wim_X11_clause : Cond.instanceMethod yX11_clause ∈ gT := gw7 (i := 30) rfl rfl
theorem wsel_X11_clause : Cond.selects RX11 yX11_clause yX11_clause ∈ gT := gp4 (i := 8) rfl
theorem cv_RX11_177 : gCV RX11 177 RX11 yX11_clause cX11_clause 3 none 0 := ⟨wml_RX11_177, wim_X11_clause, wsel_X11_clause, wini_RX11, wcod_X11_clause, rfl, wnm_X11_clause⟩
theorem wml_RX11_180 : Cond.methodLink RX11 180 yX11_atEnd ∈ gT := gw7 (i := 86) rfl rfl
theorem wcod_X11_atEnd : Cond.code yX11_atEnd cX11_atEnd 1 (some .int) ∈ gT := gw7 (i := 89) rfl rfl
theorem wnm_X11_atEnd : gNm yX11_atEnd 0 = true := by decide +kernel
theorem wim_X11_atEnd : Cond.instanceMethod yX11_atEnd ∈ gT := gw7 (i := 88) rfl rfl
theorem wsel_X11_atEnd : Cond.selects RX11 yX11_atEnd yX11_atEnd ∈ gT := gp5 (i := 5) rfl
theorem cv_RX11_180 : gCV RX11 180 RX11 yX11_atEnd cX11_atEnd 1 (some .int) 0 := ⟨wml_RX11_180, wim_X11_atEnd, wsel_X11_atEnd, wini_RX11, wcod_X11_atEnd, rfl, wnm_X11_atEnd⟩
theorem wml_RX11_204 : Cond.methodLink RX11 204 yX11_workOut ∈ gT := gw7 (i := 200) rfl rfl
theorem wcod_X11_workOut : Cond.code yX11_workOut cX11_workOut 6 (some .int) ∈ gT := gw7 (i := 203) rfl rfl
theorem wnm_X11_workOut : gNm yX11_workOut 3 = true := by decide +kernel
theorem wim_X11_workOut : Cond.instanceMethod yX11_workOut ∈ gT := gw7 (i := 202) rfl rfl
theorem wsel_X11_workOut : Cond.selects RX11 yX11_workOut yX11_workOut ∈ gT := gp6 (i := 9) rfl
theorem cv_RX11_204 : gCV RX11 204 RX11 yX11_workOut cX11_workOut 6 (some .int) 3 := ⟨wml_RX11_204, wim_X11_workOut, wsel_X11_workOut, wini_RX11, wcod_X11_workOut, rfl, wnm_X11_workOut⟩
theorem wml_RX11_229 : Cond.methodLink RX11 229 yX11_number ∈ gT := gw7 (i := 2) rfl rfl
theorem wcod_X11_number : Cond.code yX11_number cX11_number 4 (some .int) ∈ gT := gw7 (i := 5) rfl rfl
theorem wnm_X11_number : gNm yX11_number 2 = true := by decide +kernel
theorem wim_X11_number : Cond.instanceMethod yX11_number ∈ gT := gw7 (i := 4) rfl rfl
theorem wsel_X11_number : Cond.selects RX11 yX11_number yX11_number ∈ gT := gp4 (i := 3) rfl
theorem cv_RX11_229 : gCV RX11 229 RX11 yX11_number cX11_number 4 (some .int) 2 := ⟨wml_RX11_229, wim_X11_number, wsel_X11_number, wini_RX11, wcod_X11_number, rfl, wnm_X11_number⟩
theorem wml_RX11_232 : Cond.methodLink RX11 232 yX11_items ∈ gT := gw6 (i := 226) rfl rfl
theorem wcod_X11_items : Cond.code yX11_items cX11_items 7 none ∈ gT := gw6 (i := 229) rfl rfl
theorem wnm_X11_items : gNm yX11_items 4 = true := by decide +kernel
theorem wim_X11_items : Cond.instanceMethod yX11_items ∈ gT := gw6 (i := 228) rfl rfl
theorem wsel_X11_items : Cond.selects RX11 yX11_items yX11_items ∈ gT := gp4 (i := 2) rfl
theorem cv_RX11_232 : gCV RX11 232 RX11 yX11_items cX11_items 7 none 4 := ⟨wml_RX11_232, wim_X11_items, wsel_X11_items, wini_RX11, wcod_X11_items, rfl, wnm_X11_items⟩
theorem wml_RX11_245 : Cond.methodLink RX11 245 yX11_clauseText ∈ gT := gw6 (i := 222) rfl rfl
theorem wcod_X11_clauseText : Cond.code yX11_clauseText cX11_clauseText 2 none ∈ gT := gw6 (i := 225) rfl rfl
theorem wnm_X11_clauseText : gNm yX11_clauseText 1 = true := by decide +kernel
theorem wim_X11_clauseText : Cond.instanceMethod yX11_clauseText ∈ gT := gw6 (i := 224) rfl rfl
theorem wsel_X11_clauseText : Cond.selects RX11 yX11_clauseText yX11_clauseText ∈ gT := gp4 (i := 1) rfl
theorem cv_RX11_245 : gCV RX11 245 RX11 yX11_clauseText cX11_clauseText 2 none 1 := ⟨wml_RX11_245, wim_X11_clauseText, wsel_X11_clauseText, wini_RX11, wcod_X11_clauseText, rfl, wnm_X11_clauseText⟩
theorem wml_RX11_248 : Cond.methodLink RX11 248 yX11_isWhole ∈ gT := gw7 (i := 16) rfl rfl
theorem wcod_X11_isWhole : Cond.code yX11_isWhole cX11_isWhole 3 (some .boolean) ∈ gT := gw7 (i := 19) rfl rfl
theorem wnm_X11_isWhole : gNm yX11_isWhole 0 = true := by decide +kernel
theorem wim_X11_isWhole : Cond.instanceMethod yX11_isWhole ∈ gT := gw7 (i := 18) rfl rfl
theorem wsel_X11_isWhole : Cond.selects RX11 yX11_isWhole yX11_isWhole ∈ gT := gp4 (i := 5) rfl
theorem cv_RX11_248 : gCV RX11 248 RX11 yX11_isWhole cX11_isWhole 3 (some .boolean) 0 := ⟨wml_RX11_248, wim_X11_isWhole, wsel_X11_isWhole, wini_RX11, wcod_X11_isWhole, rfl, wnm_X11_isWhole⟩
theorem wml_RX11_252 : Cond.methodLink RX11 252 yX11_readYard ∈ gT := gw6 (i := 207) rfl rfl
theorem wcod_X11_readYard : Cond.code yX11_readYard cX11_readYard 5 (some .int) ∈ gT := gw6 (i := 210) rfl rfl
theorem wnm_X11_readYard : gNm yX11_readYard 0 = true := by decide +kernel
theorem wim_X11_readYard : Cond.instanceMethod yX11_readYard ∈ gT := gw6 (i := 209) rfl rfl
theorem wsel_X11_readYard : Cond.selects RX11 yX11_readYard yX11_readYard ∈ gT := gp3 (i := 14) rfl
theorem cv_RX11_252 : gCV RX11 252 RX11 yX11_readYard cX11_readYard 5 (some .int) 0 := ⟨wml_RX11_252, wim_X11_readYard, wsel_X11_readYard, wini_RX11, wcod_X11_readYard, rfl, wnm_X11_readYard⟩
theorem wml_RX11_255 : Cond.methodLink RX11 255 yX11_readLaw ∈ gT := gw7 (i := 20) rfl rfl
theorem wcod_X11_readLaw : Cond.code yX11_readLaw cX11_readLaw 2 (some .int) ∈ gT := gw7 (i := 23) rfl rfl
theorem wnm_X11_readLaw : gNm yX11_readLaw 1 = true := by decide +kernel
theorem wim_X11_readLaw : Cond.instanceMethod yX11_readLaw ∈ gT := gw7 (i := 22) rfl rfl
theorem wsel_X11_readLaw : Cond.selects RX11 yX11_readLaw yX11_readLaw ∈ gT := gp4 (i := 6) rfl
theorem cv_RX11_255 : gCV RX11 255 RX11 yX11_readLaw cX11_readLaw 2 (some .int) 1 := ⟨wml_RX11_255, wim_X11_readLaw, wsel_X11_readLaw, wini_RX11, wcod_X11_readLaw, rfl, wnm_X11_readLaw⟩
theorem wml_RX11_267 : Cond.methodLink RX11 267 yX11_of ∈ gT := gw7 (i := 98) rfl rfl
theorem wcod_X11_of : Cond.code yX11_of cX11_of 3 (some .int) ∈ gT := gw7 (i := 101) rfl rfl
theorem wnm_X11_of : gNm yX11_of 2 = true := by decide +kernel
theorem wim_X11_of : Cond.instanceMethod yX11_of ∈ gT := gw7 (i := 100) rfl rfl
theorem wsel_X11_of : Cond.selects RX11 yX11_of yX11_of ∈ gT := gp5 (i := 7) rfl
theorem cv_RX11_267 : gCV RX11 267 RX11 yX11_of cX11_of 3 (some .int) 2 := ⟨wml_RX11_267, wim_X11_of, wsel_X11_of, wini_RX11, wcod_X11_of, rfl, wnm_X11_of⟩
theorem wml_RX11_280 : Cond.methodLink RX11 280 yX11_takeYard ∈ gT := gw7 (i := 94) rfl rfl
theorem wcod_X11_takeYard : Cond.code yX11_takeYard cX11_takeYard 2 (some .int) ∈ gT := gw7 (i := 97) rfl rfl
theorem wnm_X11_takeYard : gNm yX11_takeYard 0 = true := by decide +kernel
theorem wim_X11_takeYard : Cond.instanceMethod yX11_takeYard ∈ gT := gw7 (i := 96) rfl rfl
theorem wsel_X11_takeYard : Cond.selects RX11 yX11_takeYard yX11_takeYard ∈ gT := gp5 (i := 6) rfl
theorem cv_RX11_280 : gCV RX11 280 RX11 yX11_takeYard cX11_takeYard 2 (some .int) 0 := ⟨wml_RX11_280, wim_X11_takeYard, wsel_X11_takeYard, wini_RX11, wcod_X11_takeYard, rfl, wnm_X11_takeYard⟩
theorem wml_RX11_286 : Cond.methodLink RX11 286 yX11_handsOf ∈ gT := gw7 (i := 114) rfl rfl
theorem wcod_X11_handsOf : Cond.code yX11_handsOf cX11_handsOf 4 (some .int) ∈ gT := gw7 (i := 117) rfl rfl
theorem wnm_X11_handsOf : gNm yX11_handsOf 1 = true := by decide +kernel
theorem wim_X11_handsOf : Cond.instanceMethod yX11_handsOf ∈ gT := gw7 (i := 116) rfl rfl
theorem wsel_X11_handsOf : Cond.selects RX11 yX11_handsOf yX11_handsOf ∈ gT := gp5 (i := 9) rfl
theorem cv_RX11_286 : gCV RX11 286 RX11 yX11_handsOf cX11_handsOf 4 (some .int) 1 := ⟨wml_RX11_286, wim_X11_handsOf, wsel_X11_handsOf, wini_RX11, wcod_X11_handsOf, rfl, wnm_X11_handsOf⟩
theorem wml_RX11_294 : Cond.methodLink RX11 294 yX11_worthOf ∈ gT := gw7 (i := 196) rfl rfl
theorem wcod_X11_worthOf : Cond.code yX11_worthOf cX11_worthOf 3 (some .int) ∈ gT := gw7 (i := 199) rfl rfl
theorem wnm_X11_worthOf : gNm yX11_worthOf 1 = true := by decide +kernel
theorem wim_X11_worthOf : Cond.instanceMethod yX11_worthOf ∈ gT := gw7 (i := 198) rfl rfl
theorem wsel_X11_worthOf : Cond.selects RX11 yX11_worthOf yX11_worthOf ∈ gT := gp6 (i := 8) rfl
theorem cv_RX11_294 : gCV RX11 294 RX11 yX11_worthOf cX11_worthOf 3 (some .int) 1 := ⟨wml_RX11_294, wim_X11_worthOf, wsel_X11_worthOf, wini_RX11, wcod_X11_worthOf, rfl, wnm_X11_worthOf⟩
theorem wml_RX11_304 : Cond.methodLink RX11 304 yX11_isDrain ∈ gT := gw7 (i := 219) rfl rfl
theorem wcod_X11_isDrain : Cond.code yX11_isDrain cX11_isDrain 2 (some .boolean) ∈ gT := gw7 (i := 222) rfl rfl
theorem wnm_X11_isDrain : gNm yX11_isDrain 1 = true := by decide +kernel
theorem wim_X11_isDrain : Cond.instanceMethod yX11_isDrain ∈ gT := gw7 (i := 221) rfl rfl
theorem wsel_X11_isDrain : Cond.selects RX11 yX11_isDrain yX11_isDrain ∈ gT := gp6 (i := 11) rfl
theorem cv_RX11_304 : gCV RX11 304 RX11 yX11_isDrain cX11_isDrain 2 (some .boolean) 1 := ⟨wml_RX11_304, wim_X11_isDrain, wsel_X11_isDrain, wini_RX11, wcod_X11_isDrain, rfl, wnm_X11_isDrain⟩
theorem wml_RX11_307 : Cond.methodLink RX11 307 yX11_offHole ∈ gT := gw7 (i := 223) rfl rfl
theorem wcod_X11_offHole : Cond.code yX11_offHole cX11_offHole 2 (some .int) ∈ gT := gw7 (i := 226) rfl rfl
theorem wnm_X11_offHole : gNm yX11_offHole 1 = true := by decide +kernel
theorem wim_X11_offHole : Cond.instanceMethod yX11_offHole ∈ gT := gw7 (i := 225) rfl rfl
theorem wsel_X11_offHole : Cond.selects RX11 yX11_offHole yX11_offHole ∈ gT := gp6 (i := 12) rfl
theorem cv_RX11_307 : gCV RX11 307 RX11 yX11_offHole cX11_offHole 2 (some .int) 1 := ⟨wml_RX11_307, wim_X11_offHole, wsel_X11_offHole, wini_RX11, wcod_X11_offHole, rfl, wnm_X11_offHole⟩
theorem wml_RX11_310 : Cond.methodLink RX11 310 yX11_worthNow ∈ gT := gw7 (i := 148) rfl rfl
theorem wcod_X11_worthNow : Cond.code yX11_worthNow cX11_worthNow 2 (some .int) ∈ gT := gw7 (i := 151) rfl rfl
theorem wnm_X11_worthNow : gNm yX11_worthNow 1 = true := by decide +kernel
theorem wim_X11_worthNow : Cond.instanceMethod yX11_worthNow ∈ gT := gw7 (i := 150) rfl rfl
theorem wsel_X11_worthNow : Cond.selects RX11 yX11_worthNow yX11_worthNow ∈ gT := gp5 (i := 15) rfl
theorem cv_RX11_310 : gCV RX11 310 RX11 yX11_worthNow cX11_worthNow 2 (some .int) 1 := ⟨wml_RX11_310, wim_X11_worthNow, wsel_X11_worthNow, wini_RX11, wcod_X11_worthNow, rfl, wnm_X11_worthNow⟩
theorem wml_RX11_313 : Cond.methodLink RX11 313 yX11_strengthOf ∈ gT := gw7 (i := 144) rfl rfl
theorem wcod_X11_strengthOf : Cond.code yX11_strengthOf cX11_strengthOf 6 (some .int) ∈ gT := gw7 (i := 147) rfl rfl
theorem wnm_X11_strengthOf : gNm yX11_strengthOf 2 = true := by decide +kernel
theorem wim_X11_strengthOf : Cond.instanceMethod yX11_strengthOf ∈ gT := gw7 (i := 146) rfl rfl
theorem wsel_X11_strengthOf : Cond.selects RX11 yX11_strengthOf yX11_strengthOf ∈ gT := gp5 (i := 14) rfl
theorem cv_RX11_313 : gCV RX11 313 RX11 yX11_strengthOf cX11_strengthOf 6 (some .int) 2 := ⟨wml_RX11_313, wim_X11_strengthOf, wsel_X11_strengthOf, wini_RX11, wcod_X11_strengthOf, rfl, wnm_X11_strengthOf⟩
theorem wml_RX11_316 : Cond.methodLink RX11 316 yX11_ofFarm ∈ gT := gw7 (i := 132) rfl rfl
theorem wcod_X11_ofFarm : Cond.code yX11_ofFarm cX11_ofFarm 3 (some .int) ∈ gT := gw7 (i := 135) rfl rfl
theorem wnm_X11_ofFarm : gNm yX11_ofFarm 2 = true := by decide +kernel
theorem wim_X11_ofFarm : Cond.instanceMethod yX11_ofFarm ∈ gT := gw7 (i := 134) rfl rfl
theorem wsel_X11_ofFarm : Cond.selects RX11 yX11_ofFarm yX11_ofFarm ∈ gT := gp5 (i := 11) rfl
theorem cv_RX11_316 : gCV RX11 316 RX11 yX11_ofFarm cX11_ofFarm 3 (some .int) 2 := ⟨wml_RX11_316, wim_X11_ofFarm, wsel_X11_ofFarm, wini_RX11, wcod_X11_ofFarm, rfl, wnm_X11_ofFarm⟩
theorem wml_RX11_319 : Cond.methodLink RX11 319 yX11_weatherOf ∈ gT := gw7 (i := 140) rfl rfl
theorem wcod_X11_weatherOf : Cond.code yX11_weatherOf cX11_weatherOf 6 (some .int) ∈ gT := gw7 (i := 143) rfl rfl
theorem wnm_X11_weatherOf : gNm yX11_weatherOf 1 = true := by decide +kernel
theorem wim_X11_weatherOf : Cond.instanceMethod yX11_weatherOf ∈ gT := gw7 (i := 142) rfl rfl
theorem wsel_X11_weatherOf : Cond.selects RX11 yX11_weatherOf yX11_weatherOf ∈ gT := gp5 (i := 13) rfl
theorem cv_RX11_319 : gCV RX11 319 RX11 yX11_weatherOf cX11_weatherOf 6 (some .int) 1 := ⟨wml_RX11_319, wim_X11_weatherOf, wsel_X11_weatherOf, wini_RX11, wcod_X11_weatherOf, rfl, wnm_X11_weatherOf⟩
theorem wml_RX11_322 : Cond.methodLink RX11 322 yX11_isContent ∈ gT := gw7 (i := 136) rfl rfl
theorem wcod_X11_isContent : Cond.code yX11_isContent cX11_isContent 2 (some .boolean) ∈ gT := gw7 (i := 139) rfl rfl
theorem wnm_X11_isContent : gNm yX11_isContent 1 = true := by decide +kernel
theorem wim_X11_isContent : Cond.instanceMethod yX11_isContent ∈ gT := gw7 (i := 138) rfl rfl
theorem wsel_X11_isContent : Cond.selects RX11 yX11_isContent yX11_isContent ∈ gT := gp5 (i := 12) rfl
theorem cv_RX11_322 : gCV RX11 322 RX11 yX11_isContent cX11_isContent 2 (some .boolean) 1 := ⟨wml_RX11_322, wim_X11_isContent, wsel_X11_isContent, wini_RX11, wcod_X11_isContent, rfl, wnm_X11_isContent⟩
theorem wml_RX11_325 : Cond.methodLink RX11 325 yX11_isBoy ∈ gT := gw7 (i := 110) rfl rfl
theorem wcod_X11_isBoy : Cond.code yX11_isBoy cX11_isBoy 2 (some .boolean) ∈ gT := gw7 (i := 113) rfl rfl
theorem wnm_X11_isBoy : gNm yX11_isBoy 1 = true := by decide +kernel
theorem wim_X11_isBoy : Cond.instanceMethod yX11_isBoy ∈ gT := gw7 (i := 112) rfl rfl
theorem wsel_X11_isBoy : Cond.selects RX11 yX11_isBoy yX11_isBoy ∈ gT := gp5 (i := 8) rfl
theorem cv_RX11_325 : gCV RX11 325 RX11 yX11_isBoy cX11_isBoy 2 (some .boolean) 1 := ⟨wml_RX11_325, wim_X11_isBoy, wsel_X11_isBoy, wini_RX11, wcod_X11_isBoy, rfl, wnm_X11_isBoy⟩
theorem wml_RX11_328 : Cond.methodLink RX11 328 yX11_isMarble ∈ gT := gw7 (i := 123) rfl rfl
theorem wcod_X11_isMarble : Cond.code yX11_isMarble cX11_isMarble 2 (some .boolean) ∈ gT := gw7 (i := 126) rfl rfl
theorem wnm_X11_isMarble : gNm yX11_isMarble 1 = true := by decide +kernel
theorem wim_X11_isMarble : Cond.instanceMethod yX11_isMarble ∈ gT := gw7 (i := 125) rfl rfl
theorem wsel_X11_isMarble : Cond.selects RX11 yX11_isMarble yX11_isMarble ∈ gT := gp5 (i := 10) rfl
theorem cv_RX11_328 : gCV RX11 328 RX11 yX11_isMarble cX11_isMarble 2 (some .boolean) 1 := ⟨wml_RX11_328, wim_X11_isMarble, wsel_X11_isMarble, wini_RX11, wcod_X11_isMarble, rfl, wnm_X11_isMarble⟩
theorem wml_RX11_332 : Cond.methodLink RX11 332 yX11_isLoose ∈ gT := gw7 (i := 169) rfl rfl
theorem wcod_X11_isLoose : Cond.code yX11_isLoose cX11_isLoose 2 (some .boolean) ∈ gT := gw7 (i := 172) rfl rfl
theorem wnm_X11_isLoose : gNm yX11_isLoose 1 = true := by decide +kernel
theorem wim_X11_isLoose : Cond.instanceMethod yX11_isLoose ∈ gT := gw7 (i := 171) rfl rfl
theorem wsel_X11_isLoose : Cond.selects RX11 yX11_isLoose yX11_isLoose ∈ gT := gp6 (i := 2) rfl
theorem cv_RX11_332 : gCV RX11 332 RX11 yX11_isLoose cX11_isLoose 2 (some .boolean) 1 := ⟨wml_RX11_332, wim_X11_isLoose, wsel_X11_isLoose, wini_RX11, wcod_X11_isLoose, rfl, wnm_X11_isLoose⟩
theorem wml_RX11_335 : Cond.methodLink RX11 335 yX11_whyNot ∈ gT := gw7 (i := 165) rfl rfl
theorem wcod_X11_whyNot : Cond.code yX11_whyNot cX11_whyNot 3 (some .int) ∈ gT := gw7 (i := 168) rfl rfl
theorem wnm_X11_whyNot : gNm yX11_whyNot 2 = true := by decide +kernel
theorem wim_X11_whyNot : Cond.instanceMethod yX11_whyNot ∈ gT := gw7 (i := 167) rfl rfl
theorem wsel_X11_whyNot : Cond.selects RX11 yX11_whyNot yX11_whyNot ∈ gT := gp6 (i := 1) rfl
theorem cv_RX11_335 : gCV RX11 335 RX11 yX11_whyNot cX11_whyNot 3 (some .int) 2 := ⟨wml_RX11_335, wim_X11_whyNot, wsel_X11_whyNot, wini_RX11, wcod_X11_whyNot, rfl, wnm_X11_whyNot⟩
theorem wml_RX11_341 : Cond.methodLink RX11 341 yX11_landsAt ∈ gT := gw7 (i := 192) rfl rfl
theorem wcod_X11_landsAt : Cond.code yX11_landsAt cX11_landsAt 5 (some .int) ∈ gT := gw7 (i := 195) rfl rfl
theorem wnm_X11_landsAt : gNm yX11_landsAt 3 = true := by decide +kernel
theorem wim_X11_landsAt : Cond.instanceMethod yX11_landsAt ∈ gT := gw7 (i := 194) rfl rfl
theorem wsel_X11_landsAt : Cond.selects RX11 yX11_landsAt yX11_landsAt ∈ gT := gp6 (i := 7) rfl
theorem cv_RX11_341 : gCV RX11 341 RX11 yX11_landsAt cX11_landsAt 5 (some .int) 3 := ⟨wml_RX11_341, wim_X11_landsAt, wsel_X11_landsAt, wini_RX11, wcod_X11_landsAt, rfl, wnm_X11_landsAt⟩
theorem wml_RX11_344 : Cond.methodLink RX11 344 yX11_cellOf ∈ gT := gw7 (i := 188) rfl rfl
theorem wcod_X11_cellOf : Cond.code yX11_cellOf cX11_cellOf 3 (some .int) ∈ gT := gw7 (i := 191) rfl rfl
theorem wnm_X11_cellOf : gNm yX11_cellOf 2 = true := by decide +kernel
theorem wim_X11_cellOf : Cond.instanceMethod yX11_cellOf ∈ gT := gw7 (i := 190) rfl rfl
theorem wsel_X11_cellOf : Cond.selects RX11 yX11_cellOf yX11_cellOf ∈ gT := gp6 (i := 6) rfl
theorem cv_RX11_344 : gCV RX11 344 RX11 yX11_cellOf cX11_cellOf 3 (some .int) 2 := ⟨wml_RX11_344, wim_X11_cellOf, wsel_X11_cellOf, wini_RX11, wcod_X11_cellOf, rfl, wnm_X11_cellOf⟩
theorem wml_RX11_347 : Cond.methodLink RX11 347 yX11_winner ∈ gT := gw7 (i := 215) rfl rfl
theorem wcod_X11_winner : Cond.code yX11_winner cX11_winner 3 (some .int) ∈ gT := gw7 (i := 218) rfl rfl
theorem wnm_X11_winner : gNm yX11_winner 2 = true := by decide +kernel
theorem wim_X11_winner : Cond.instanceMethod yX11_winner ∈ gT := gw7 (i := 217) rfl rfl
theorem wsel_X11_winner : Cond.selects RX11 yX11_winner yX11_winner ∈ gT := gp6 (i := 10) rfl
theorem cv_RX11_347 : gCV RX11 347 RX11 yX11_winner cX11_winner 3 (some .int) 2 := ⟨wml_RX11_347, wim_X11_winner, wsel_X11_winner, wini_RX11, wcod_X11_winner, rfl, wnm_X11_winner⟩
theorem wml_RX11_350 : Cond.methodLink RX11 350 yX11_whyNotPlay ∈ gT := gw7 (i := 161) rfl rfl
theorem wcod_X11_whyNotPlay : Cond.code yX11_whyNotPlay cX11_whyNotPlay 6 (some .int) ∈ gT := gw7 (i := 164) rfl rfl
theorem wnm_X11_whyNotPlay : gNm yX11_whyNotPlay 4 = true := by decide +kernel
theorem wim_X11_whyNotPlay : Cond.instanceMethod yX11_whyNotPlay ∈ gT := gw7 (i := 163) rfl rfl
theorem wsel_X11_whyNotPlay : Cond.selects RX11 yX11_whyNotPlay yX11_whyNotPlay ∈ gT := gp6 (i := 0) rfl
theorem cv_RX11_350 : gCV RX11 350 RX11 yX11_whyNotPlay cX11_whyNotPlay 6 (some .int) 4 := ⟨wml_RX11_350, wim_X11_whyNotPlay, wsel_X11_whyNotPlay, wini_RX11, wcod_X11_whyNotPlay, rfl, wnm_X11_whyNotPlay⟩
theorem wml_RX11_354 : Cond.methodLink RX11 354 yX11_isRefused ∈ gT := gw7 (i := 176) rfl rfl
theorem wcod_X11_isRefused : Cond.code yX11_isRefused cX11_isRefused 2 (some .boolean) ∈ gT := gw7 (i := 179) rfl rfl
theorem wnm_X11_isRefused : gNm yX11_isRefused 1 = true := by decide +kernel
theorem wim_X11_isRefused : Cond.instanceMethod yX11_isRefused ∈ gT := gw7 (i := 178) rfl rfl
theorem wsel_X11_isRefused : Cond.selects RX11 yX11_isRefused yX11_isRefused ∈ gT := gp6 (i := 3) rfl
theorem cv_RX11_354 : gCV RX11 354 RX11 yX11_isRefused cX11_isRefused 2 (some .boolean) 1 := ⟨wml_RX11_354, wim_X11_isRefused, wsel_X11_isRefused, wini_RX11, wcod_X11_isRefused, rfl, wnm_X11_isRefused⟩
theorem wml_RX11_357 : Cond.methodLink RX11 357 yX11_keep ∈ gT := gw7 (i := 180) rfl rfl
theorem wcod_X11_keep : Cond.code yX11_keep cX11_keep 2 none ∈ gT := gw7 (i := 183) rfl rfl
theorem wnm_X11_keep : gNm yX11_keep 0 = true := by decide +kernel
theorem wim_X11_keep : Cond.instanceMethod yX11_keep ∈ gT := gw7 (i := 182) rfl rfl
theorem wsel_X11_keep : Cond.selects RX11 yX11_keep yX11_keep ∈ gT := gp6 (i := 4) rfl
theorem cv_RX11_357 : gCV RX11 357 RX11 yX11_keep cX11_keep 2 none 0 := ⟨wml_RX11_357, wim_X11_keep, wsel_X11_keep, wini_RX11, wcod_X11_keep, rfl, wnm_X11_keep⟩
theorem wml_RX11_360 : Cond.methodLink RX11 360 yX11_playNow ∈ gT := gw7 (i := 184) rfl rfl
theorem wcod_X11_playNow : Cond.code yX11_playNow cX11_playNow 8 (some .int) ∈ gT := gw7 (i := 187) rfl rfl
theorem wnm_X11_playNow : gNm yX11_playNow 4 = true := by decide +kernel
theorem wim_X11_playNow : Cond.instanceMethod yX11_playNow ∈ gT := gw7 (i := 186) rfl rfl
theorem wsel_X11_playNow : Cond.selects RX11 yX11_playNow yX11_playNow ∈ gT := gp6 (i := 5) rfl
theorem cv_RX11_360 : gCV RX11 360 RX11 yX11_playNow cX11_playNow 8 (some .int) 4 := ⟨wml_RX11_360, wim_X11_playNow, wsel_X11_playNow, wini_RX11, wcod_X11_playNow, rfl, wnm_X11_playNow⟩
theorem wml_RX11_363 : Cond.methodLink RX11 363 yX11_swapNow ∈ gT := gw7 (i := 232) rfl rfl
theorem wcod_X11_swapNow : Cond.code yX11_swapNow cX11_swapNow 4 none ∈ gT := gw7 (i := 235) rfl rfl
theorem wnm_X11_swapNow : gNm yX11_swapNow 2 = true := by decide +kernel
theorem wim_X11_swapNow : Cond.instanceMethod yX11_swapNow ∈ gT := gw7 (i := 234) rfl rfl
theorem wsel_X11_swapNow : Cond.selects RX11 yX11_swapNow yX11_swapNow ∈ gT := gp6 (i := 13) rfl
theorem cv_RX11_363 : gCV RX11 363 RX11 yX11_swapNow cX11_swapNow 4 none 2 := ⟨wml_RX11_363, wim_X11_swapNow, wsel_X11_swapNow, wini_RX11, wcod_X11_swapNow, rfl, wnm_X11_swapNow⟩
theorem wml_RX11_366 : Cond.methodLink RX11 366 yX11_mark ∈ gT := gw8 (i := 4) rfl rfl
theorem wcod_X11_mark : Cond.code yX11_mark cX11_mark 3 (some .int) ∈ gT := gw8 (i := 7) rfl rfl
theorem wnm_X11_mark : gNm yX11_mark 2 = true := by decide +kernel
theorem wim_X11_mark : Cond.instanceMethod yX11_mark ∈ gT := gw8 (i := 6) rfl rfl
theorem wsel_X11_mark : Cond.selects RX11 yX11_mark yX11_mark ∈ gT := gp6 (i := 14) rfl
theorem cv_RX11_366 : gCV RX11 366 RX11 yX11_mark cX11_mark 3 (some .int) 2 := ⟨wml_RX11_366, wim_X11_mark, wsel_X11_mark, wini_RX11, wcod_X11_mark, rfl, wnm_X11_mark⟩
theorem wml_RX11_369 : Cond.methodLink RX11 369 yX11_contents ∈ gT := gw8 (i := 24) rfl rfl
theorem wcod_X11_contents : Cond.code yX11_contents cX11_contents 3 (some .int) ∈ gT := gw8 (i := 27) rfl rfl
theorem wnm_X11_contents : gNm yX11_contents 0 = true := by decide +kernel
theorem wim_X11_contents : Cond.instanceMethod yX11_contents ∈ gT := gw8 (i := 26) rfl rfl
theorem wsel_X11_contents : Cond.selects RX11 yX11_contents yX11_contents ∈ gT := gp7 (i := 1) rfl
theorem cv_RX11_369 : gCV RX11 369 RX11 yX11_contents cX11_contents 3 (some .int) 0 := ⟨wml_RX11_369, wim_X11_contents, wsel_X11_contents, wini_RX11, wcod_X11_contents, rfl, wnm_X11_contents⟩
theorem wml_RX11_372 : Cond.methodLink RX11 372 yX11_payOf ∈ gT := gw8 (i := 28) rfl rfl
theorem wcod_X11_payOf : Cond.code yX11_payOf cX11_payOf 4 (some .int) ∈ gT := gw8 (i := 31) rfl rfl
theorem wnm_X11_payOf : gNm yX11_payOf 1 = true := by decide +kernel
theorem wim_X11_payOf : Cond.instanceMethod yX11_payOf ∈ gT := gw8 (i := 30) rfl rfl
theorem wsel_X11_payOf : Cond.selects RX11 yX11_payOf yX11_payOf ∈ gT := gp7 (i := 2) rfl
theorem cv_RX11_372 : gCV RX11 372 RX11 yX11_payOf cX11_payOf 4 (some .int) 1 := ⟨wml_RX11_372, wim_X11_payOf, wsel_X11_payOf, wini_RX11, wcod_X11_payOf, rfl, wnm_X11_payOf⟩
theorem wml_RX11_375 : Cond.methodLink RX11 375 yX11_areDays ∈ gT := gw8 (i := 16) rfl rfl
theorem wcod_X11_areDays : Cond.code yX11_areDays cX11_areDays 2 (some .boolean) ∈ gT := gw8 (i := 19) rfl rfl
theorem wnm_X11_areDays : gNm yX11_areDays 1 = true := by decide +kernel
theorem wim_X11_areDays : Cond.instanceMethod yX11_areDays ∈ gT := gw8 (i := 18) rfl rfl
theorem wsel_X11_areDays : Cond.selects RX11 yX11_areDays yX11_areDays ∈ gT := gp6 (i := 15) rfl
theorem cv_RX11_375 : gCV RX11 375 RX11 yX11_areDays cX11_areDays 2 (some .boolean) 1 := ⟨wml_RX11_375, wim_X11_areDays, wsel_X11_areDays, wini_RX11, wcod_X11_areDays, rfl, wnm_X11_areDays⟩
theorem wml_RX11_378 : Cond.methodLink RX11 378 yX11_passDay ∈ gT := gw8 (i := 20) rfl rfl
theorem wcod_X11_passDay : Cond.code yX11_passDay cX11_passDay 3 none ∈ gT := gw8 (i := 23) rfl rfl
theorem wnm_X11_passDay : gNm yX11_passDay 0 = true := by decide +kernel
theorem wim_X11_passDay : Cond.instanceMethod yX11_passDay ∈ gT := gw8 (i := 22) rfl rfl
theorem wsel_X11_passDay : Cond.selects RX11 yX11_passDay yX11_passDay ∈ gT := gp7 (i := 0) rfl
theorem cv_RX11_378 : gCV RX11 378 RX11 yX11_passDay cX11_passDay 3 none 0 := ⟨wml_RX11_378, wim_X11_passDay, wsel_X11_passDay, wini_RX11, wcod_X11_passDay, rfl, wnm_X11_passDay⟩
theorem wml_RX11_392 : Cond.methodLink RX11 392 yX11_draw ∈ gT := gw8 (i := 44) rfl rfl
theorem wcod_X11_draw : Cond.code yX11_draw cX11_draw 2 (some .int) ∈ gT := gw8 (i := 47) rfl rfl
theorem wnm_X11_draw : gNm yX11_draw 1 = true := by decide +kernel
theorem wim_X11_draw : Cond.instanceMethod yX11_draw ∈ gT := gw8 (i := 46) rfl rfl
theorem wsel_X11_draw : Cond.selects RX11 yX11_draw yX11_draw ∈ gT := gp7 (i := 4) rfl
theorem cv_RX11_392 : gCV RX11 392 RX11 yX11_draw cX11_draw 2 (some .int) 1 := ⟨wml_RX11_392, wim_X11_draw, wsel_X11_draw, wini_RX11, wcod_X11_draw, rfl, wnm_X11_draw⟩
theorem wml_RX11_395 : Cond.methodLink RX11 395 yX11_drawDay ∈ gT := gw8 (i := 40) rfl rfl
theorem wcod_X11_drawDay : Cond.code yX11_drawDay cX11_drawDay 6 none ∈ gT := gw8 (i := 43) rfl rfl
theorem wnm_X11_drawDay : gNm yX11_drawDay 0 = true := by decide +kernel
theorem wim_X11_drawDay : Cond.instanceMethod yX11_drawDay ∈ gT := gw8 (i := 42) rfl rfl
theorem wsel_X11_drawDay : Cond.selects RX11 yX11_drawDay yX11_drawDay ∈ gT := gp7 (i := 3) rfl
theorem cv_RX11_395 : gCV RX11 395 RX11 yX11_drawDay cX11_drawDay 6 none 0 := ⟨wml_RX11_395, wim_X11_drawDay, wsel_X11_drawDay, wini_RX11, wcod_X11_drawDay, rfl, wnm_X11_drawDay⟩
theorem wml_RX11_398 : Cond.methodLink RX11 398 yX11_aimOf ∈ gT := gw8 (i := 70) rfl rfl
theorem wcod_X11_aimOf : Cond.code yX11_aimOf cX11_aimOf 6 (some .int) ∈ gT := gw8 (i := 73) rfl rfl
theorem wnm_X11_aimOf : gNm yX11_aimOf 2 = true := by decide +kernel
theorem wim_X11_aimOf : Cond.instanceMethod yX11_aimOf ∈ gT := gw8 (i := 72) rfl rfl
theorem wsel_X11_aimOf : Cond.selects RX11 yX11_aimOf yX11_aimOf ∈ gT := gp7 (i := 5) rfl
theorem cv_RX11_398 : gCV RX11 398 RX11 yX11_aimOf cX11_aimOf 6 (some .int) 2 := ⟨wml_RX11_398, wim_X11_aimOf, wsel_X11_aimOf, wini_RX11, wcod_X11_aimOf, rfl, wnm_X11_aimOf⟩
theorem wml_RX11_413 : Cond.methodLink RX11 413 yX11_tryOwners ∈ gT := gw8 (i := 96) rfl rfl
theorem wcod_X11_tryOwners : Cond.code yX11_tryOwners cX11_tryOwners 6 none ∈ gT := gw8 (i := 99) rfl rfl
theorem wnm_X11_tryOwners : gNm yX11_tryOwners 3 = true := by decide +kernel
theorem wim_X11_tryOwners : Cond.instanceMethod yX11_tryOwners ∈ gT := gw8 (i := 98) rfl rfl
theorem wsel_X11_tryOwners : Cond.selects RX11 yX11_tryOwners yX11_tryOwners ∈ gT := gp7 (i := 6) rfl
theorem cv_RX11_413 : gCV RX11 413 RX11 yX11_tryOwners cX11_tryOwners 6 none 3 := ⟨wml_RX11_413, wim_X11_tryOwners, wsel_X11_tryOwners, wini_RX11, wcod_X11_tryOwners, rfl, wnm_X11_tryOwners⟩
theorem wml_RX11_417 : Cond.methodLink RX11 417 yX11_isCase ∈ gT := gw8 (i := 112) rfl rfl
theorem wcod_X11_isCase : Cond.code yX11_isCase cX11_isCase 4 (some .boolean) ∈ gT := gw8 (i := 115) rfl rfl
theorem wnm_X11_isCase : gNm yX11_isCase 1 = true := by decide +kernel
theorem wim_X11_isCase : Cond.instanceMethod yX11_isCase ∈ gT := gw8 (i := 114) rfl rfl
theorem wsel_X11_isCase : Cond.selects RX11 yX11_isCase yX11_isCase ∈ gT := gp7 (i := 8) rfl
theorem cv_RX11_417 : gCV RX11 417 RX11 yX11_isCase cX11_isCase 4 (some .boolean) 1 := ⟨wml_RX11_417, wim_X11_isCase, wsel_X11_isCase, wini_RX11, wcod_X11_isCase, rfl, wnm_X11_isCase⟩
theorem wml_RX11_420 : Cond.methodLink RX11 420 yX11_layCase ∈ gT := gw8 (i := 116) rfl rfl
theorem wcod_X11_layCase : Cond.code yX11_layCase cX11_layCase 3 (some .int) ∈ gT := gw8 (i := 119) rfl rfl
theorem wnm_X11_layCase : gNm yX11_layCase 1 = true := by decide +kernel
theorem wim_X11_layCase : Cond.instanceMethod yX11_layCase ∈ gT := gw8 (i := 118) rfl rfl
theorem wsel_X11_layCase : Cond.selects RX11 yX11_layCase yX11_layCase ∈ gT := gp7 (i := 9) rfl
theorem cv_RX11_420 : gCV RX11 420 RX11 yX11_layCase cX11_layCase 3 (some .int) 1 := ⟨wml_RX11_420, wim_X11_layCase, wsel_X11_layCase, wini_RX11, wcod_X11_layCase, rfl, wnm_X11_layCase⟩
theorem wml_RX11_423 : Cond.methodLink RX11 423 yX11_takeCase ∈ gT := gw8 (i := 120) rfl rfl
theorem wcod_X11_takeCase : Cond.code yX11_takeCase cX11_takeCase 3 none ∈ gT := gw8 (i := 123) rfl rfl
theorem wnm_X11_takeCase : gNm yX11_takeCase 2 = true := by decide +kernel
theorem wim_X11_takeCase : Cond.instanceMethod yX11_takeCase ∈ gT := gw8 (i := 122) rfl rfl
theorem wsel_X11_takeCase : Cond.selects RX11 yX11_takeCase yX11_takeCase ∈ gT := gp7 (i := 10) rfl
theorem cv_RX11_423 : gCV RX11 423 RX11 yX11_takeCase cX11_takeCase 3 none 2 := ⟨wml_RX11_423, wim_X11_takeCase, wsel_X11_takeCase, wini_RX11, wcod_X11_takeCase, rfl, wnm_X11_takeCase⟩
theorem wml_RX11_426 : Cond.methodLink RX11 426 yX11_isSo ∈ gT := gw8 (i := 108) rfl rfl
theorem wcod_X11_isSo : Cond.code yX11_isSo cX11_isSo 5 (some .boolean) ∈ gT := gw8 (i := 111) rfl rfl
theorem wnm_X11_isSo : gNm yX11_isSo 1 = true := by decide +kernel
theorem wim_X11_isSo : Cond.instanceMethod yX11_isSo ∈ gT := gw8 (i := 110) rfl rfl
theorem wsel_X11_isSo : Cond.selects RX11 yX11_isSo yX11_isSo ∈ gT := gp7 (i := 7) rfl
theorem cv_RX11_426 : gCV RX11 426 RX11 yX11_isSo cX11_isSo 5 (some .boolean) 1 := ⟨wml_RX11_426, wim_X11_isSo, wsel_X11_isSo, wini_RX11, wcod_X11_isSo, rfl, wnm_X11_isSo⟩
theorem wml_RX11_429 : Cond.methodLink RX11 429 yX11_who ∈ gT := gw8 (i := 128) rfl rfl
theorem wcod_X11_who : Cond.code yX11_who cX11_who 4 (some .int) ∈ gT := gw8 (i := 107) rfl rfl
theorem wnm_X11_who : gNm yX11_who 1 = true := by decide +kernel
theorem wim_X11_who : Cond.instanceMethod yX11_who ∈ gT := gw8 (i := 105) rfl rfl
theorem wsel_X11_who : Cond.selects RX11 yX11_who yX11_who ∈ gT := gw8 (i := 106) rfl rfl
theorem cv_RX11_429 : gCV RX11 429 RX11 yX11_who cX11_who 4 (some .int) 1 := ⟨wml_RX11_429, wim_X11_who, wsel_X11_who, wini_RX11, wcod_X11_who, rfl, wnm_X11_who⟩
theorem wml_RX11_432 : Cond.methodLink RX11 432 yX11_gameOf ∈ gT := gw8 (i := 133) rfl rfl
theorem wcod_X11_gameOf : Cond.code yX11_gameOf cX11_gameOf 7 (some .int) ∈ gT := gw8 (i := 136) rfl rfl
theorem wnm_X11_gameOf : gNm yX11_gameOf 4 = true := by decide +kernel
theorem wim_X11_gameOf : Cond.instanceMethod yX11_gameOf ∈ gT := gw8 (i := 135) rfl rfl
theorem wsel_X11_gameOf : Cond.selects RX11 yX11_gameOf yX11_gameOf ∈ gT := gp7 (i := 11) rfl
theorem cv_RX11_432 : gCV RX11 432 RX11 yX11_gameOf cX11_gameOf 7 (some .int) 4 := ⟨wml_RX11_432, wim_X11_gameOf, wsel_X11_gameOf, wini_RX11, wcod_X11_gameOf, rfl, wnm_X11_gameOf⟩
theorem wml_RX11_435 : Cond.methodLink RX11 435 yX11_isRest ∈ gT := gw8 (i := 141) rfl rfl
theorem wcod_X11_isRest : Cond.code yX11_isRest cX11_isRest 6 (some .boolean) ∈ gT := gw8 (i := 144) rfl rfl
theorem wnm_X11_isRest : gNm yX11_isRest 4 = true := by decide +kernel
theorem wim_X11_isRest : Cond.instanceMethod yX11_isRest ∈ gT := gw8 (i := 143) rfl rfl
theorem wsel_X11_isRest : Cond.selects RX11 yX11_isRest yX11_isRest ∈ gT := gp7 (i := 12) rfl
theorem cv_RX11_435 : gCV RX11 435 RX11 yX11_isRest cX11_isRest 6 (some .boolean) 4 := ⟨wml_RX11_435, wim_X11_isRest, wsel_X11_isRest, wini_RX11, wcod_X11_isRest, rfl, wnm_X11_isRest⟩
theorem wml_RX11_439 : Cond.methodLink RX11 439 yX11_likingOf ∈ gT := gw8 (i := 153) rfl rfl
theorem wcod_X11_likingOf : Cond.code yX11_likingOf cX11_likingOf 5 (some .int) ∈ gT := gw8 (i := 156) rfl rfl
theorem wnm_X11_likingOf : gNm yX11_likingOf 2 = true := by decide +kernel
theorem wim_X11_likingOf : Cond.instanceMethod yX11_likingOf ∈ gT := gw8 (i := 155) rfl rfl
theorem wsel_X11_likingOf : Cond.selects RX11 yX11_likingOf yX11_likingOf ∈ gT := gp7 (i := 13) rfl
theorem cv_RX11_439 : gCV RX11 439 RX11 yX11_likingOf cX11_likingOf 5 (some .int) 2 := ⟨wml_RX11_439, wim_X11_likingOf, wsel_X11_likingOf, wini_RX11, wcod_X11_likingOf, rfl, wnm_X11_likingOf⟩
theorem wml_RX11_442 : Cond.methodLink RX11 442 yX11_isTrade ∈ gT := gw8 (i := 161) rfl rfl
theorem wcod_X11_isTrade : Cond.code yX11_isTrade cX11_isTrade 5 (some .boolean) ∈ gT := gw8 (i := 164) rfl rfl
theorem wnm_X11_isTrade : gNm yX11_isTrade 2 = true := by decide +kernel
theorem wim_X11_isTrade : Cond.instanceMethod yX11_isTrade ∈ gT := gw8 (i := 163) rfl rfl
theorem wsel_X11_isTrade : Cond.selects RX11 yX11_isTrade yX11_isTrade ∈ gT := gp7 (i := 14) rfl
theorem cv_RX11_442 : gCV RX11 442 RX11 yX11_isTrade cX11_isTrade 5 (some .boolean) 2 := ⟨wml_RX11_442, wim_X11_isTrade, wsel_X11_isTrade, wini_RX11, wcod_X11_isTrade, rfl, wnm_X11_isTrade⟩
theorem wml_RX11_454 : Cond.methodLink RX11 454 yX11_drained ∈ gT := gw8 (i := 181) rfl rfl
theorem wcod_X11_drained : Cond.code yX11_drained cX11_drained 3 (some .int) ∈ gT := gw8 (i := 184) rfl rfl
theorem wnm_X11_drained : gNm yX11_drained 0 = true := by decide +kernel
theorem wim_X11_drained : Cond.instanceMethod yX11_drained ∈ gT := gw8 (i := 183) rfl rfl
theorem wsel_X11_drained : Cond.selects RX11 yX11_drained yX11_drained ∈ gT := gp7 (i := 15) rfl
theorem cv_RX11_454 : gCV RX11 454 RX11 yX11_drained cX11_drained 3 (some .int) 0 := ⟨wml_RX11_454, wim_X11_drained, wsel_X11_drained, wini_RX11, wcod_X11_drained, rfl, wnm_X11_drained⟩
theorem wml_RX11_457 : Cond.methodLink RX11 457 yX11_sizesOf ∈ gT := gw8 (i := 185) rfl rfl
theorem wcod_X11_sizesOf : Cond.code yX11_sizesOf cX11_sizesOf 4 (some .int) ∈ gT := gw8 (i := 188) rfl rfl
theorem wnm_X11_sizesOf : gNm yX11_sizesOf 1 = true := by decide +kernel
theorem wim_X11_sizesOf : Cond.instanceMethod yX11_sizesOf ∈ gT := gw8 (i := 187) rfl rfl
theorem wsel_X11_sizesOf : Cond.selects RX11 yX11_sizesOf yX11_sizesOf ∈ gT := gp8 (i := 0) rfl
theorem cv_RX11_457 : gCV RX11 457 RX11 yX11_sizesOf cX11_sizesOf 4 (some .int) 1 := ⟨wml_RX11_457, wim_X11_sizesOf, wsel_X11_sizesOf, wini_RX11, wcod_X11_sizesOf, rfl, wnm_X11_sizesOf⟩
theorem wml_RX11_460 : Cond.methodLink RX11 460 yX11_strongest ∈ gT := gw8 (i := 209) rfl rfl
theorem wcod_X11_strongest : Cond.code yX11_strongest cX11_strongest 4 (some .int) ∈ gT := gw8 (i := 212) rfl rfl
theorem wnm_X11_strongest : gNm yX11_strongest 1 = true := by decide +kernel
theorem wim_X11_strongest : Cond.instanceMethod yX11_strongest ∈ gT := gw8 (i := 211) rfl rfl
theorem wsel_X11_strongest : Cond.selects RX11 yX11_strongest yX11_strongest ∈ gT := gp8 (i := 2) rfl
theorem cv_RX11_460 : gCV RX11 460 RX11 yX11_strongest cX11_strongest 4 (some .int) 1 := ⟨wml_RX11_460, wim_X11_strongest, wsel_X11_strongest, wini_RX11, wcod_X11_strongest, rfl, wnm_X11_strongest⟩
theorem wml_RX11_463 : Cond.methodLink RX11 463 yX11_richest ∈ gT := gw8 (i := 205) rfl rfl
theorem wcod_X11_richest : Cond.code yX11_richest cX11_richest 3 (some .int) ∈ gT := gw8 (i := 208) rfl rfl
theorem wnm_X11_richest : gNm yX11_richest 0 = true := by decide +kernel
theorem wim_X11_richest : Cond.instanceMethod yX11_richest ∈ gT := gw8 (i := 207) rfl rfl
theorem wsel_X11_richest : Cond.selects RX11 yX11_richest yX11_richest ∈ gT := gp8 (i := 1) rfl
theorem cv_RX11_463 : gCV RX11 463 RX11 yX11_richest cX11_richest 3 (some .int) 0 := ⟨wml_RX11_463, wim_X11_richest, wsel_X11_richest, wini_RX11, wcod_X11_richest, rfl, wnm_X11_richest⟩
theorem wml_RX11_466 : Cond.methodLink RX11 466 yX11_champion ∈ gT := gw8 (i := 213) rfl rfl
theorem wcod_X11_champion : Cond.code yX11_champion cX11_champion 7 (some .int) ∈ gT := gw8 (i := 216) rfl rfl
theorem wnm_X11_champion : gNm yX11_champion 0 = true := by decide +kernel
theorem wim_X11_champion : Cond.instanceMethod yX11_champion ∈ gT := gw8 (i := 215) rfl rfl
theorem wsel_X11_champion : Cond.selects RX11 yX11_champion yX11_champion ∈ gT := gp8 (i := 3) rfl
theorem cv_RX11_466 : gCV RX11 466 RX11 yX11_champion cX11_champion 7 (some .int) 0 := ⟨wml_RX11_466, wim_X11_champion, wsel_X11_champion, wini_RX11, wcod_X11_champion, rfl, wnm_X11_champion⟩
theorem wml_RX2_23 : Cond.methodLink RX2 23 yX7_rewind ∈ gT := gw2 (i := 205) rfl rfl
theorem wcod_X7_rewind : Cond.code yX7_rewind cX7_rewind 1 none ∈ gT := gw2 (i := 120) rfl rfl
theorem wnm_X7_rewind : gNm yX7_rewind 0 = true := by decide +kernel
theorem wim_X7_rewind : Cond.instanceMethod yX7_rewind ∈ gT := gw2 (i := 118) rfl rfl
theorem wsel_X7_rewind : Cond.selects RX7 yX7_rewind yX7_rewind ∈ gT := gw2 (i := 119) rfl rfl
theorem cv_RX2_23 : gCV RX2 23 RX7 yX7_rewind cX7_rewind 1 none 0 := ⟨wml_RX2_23, wim_X7_rewind, wsel_X7_rewind, wini_RX7, wcod_X7_rewind, rfl, wnm_X7_rewind⟩
theorem wml_RX2_28 : Cond.methodLink RX2 28 yX2_readClause ∈ gT := gw2 (i := 206) rfl rfl
theorem wcod_X2_readClause : Cond.code yX2_readClause cX2_readClause 4 (some .boolean) ∈ gT := gw2 (i := 209) rfl rfl
theorem wnm_X2_readClause : gNm yX2_readClause 0 = true := by decide +kernel
theorem wim_X2_readClause : Cond.instanceMethod yX2_readClause ∈ gT := gw2 (i := 208) rfl rfl
theorem wsel_X2_readClause : Cond.selects RX2 yX2_readClause yX2_readClause ∈ gT := gp1 (i := 5) rfl
theorem cv_RX2_28 : gCV RX2 28 RX2 yX2_readClause cX2_readClause 4 (some .boolean) 0 := ⟨wml_RX2_28, wim_X2_readClause, wsel_X2_readClause, wini_RX2, wcod_X2_readClause, rfl, wnm_X2_readClause⟩
theorem wml_RX2_32 : Cond.methodLink RX2 32 yX7_takes ∈ gT := gw2 (i := 210) rfl rfl
theorem wcod_X7_takes : Cond.code yX7_takes cX7_takes 2 (some .boolean) ∈ gT := gw2 (i := 176) rfl rfl
theorem wnm_X7_takes : gNm yX7_takes 1 = true := by decide +kernel
theorem wim_X7_takes : Cond.instanceMethod yX7_takes ∈ gT := gw2 (i := 174) rfl rfl
theorem wsel_X7_takes : Cond.selects RX7 yX7_takes yX7_takes ∈ gT := gw2 (i := 175) rfl rfl
theorem cv_RX2_32 : gCV RX2 32 RX7 yX7_takes cX7_takes 2 (some .boolean) 1 := ⟨wml_RX2_32, wim_X7_takes, wsel_X7_takes, wini_RX7, wcod_X7_takes, rfl, wnm_X7_takes⟩
theorem wml_RX2_36 : Cond.methodLink RX2 36 yX7_sign ∈ gT := gw2 (i := 211) rfl rfl
theorem wcod_X7_sign : Cond.code yX7_sign cX7_sign 1 (some .int) ∈ gT := gw2 (i := 128) rfl rfl
theorem wnm_X7_sign : gNm yX7_sign 0 = true := by decide +kernel
theorem wim_X7_sign : Cond.instanceMethod yX7_sign ∈ gT := gw2 (i := 126) rfl rfl
theorem wsel_X7_sign : Cond.selects RX7 yX7_sign yX7_sign ∈ gT := gw2 (i := 127) rfl rfl
theorem cv_RX2_36 : gCV RX2 36 RX7 yX7_sign cX7_sign 1 (some .int) 0 := ⟨wml_RX2_36, wim_X7_sign, wsel_X7_sign, wini_RX7, wcod_X7_sign, rfl, wnm_X7_sign⟩
theorem wml_RX2_40 : Cond.methodLink RX2 40 yX2_readSum ∈ gT := gw2 (i := 212) rfl rfl
theorem wcod_X2_readSum : Cond.code yX2_readSum cX2_readSum 4 (some .boolean) ∈ gT := gw2 (i := 215) rfl rfl
theorem wnm_X2_readSum : gNm yX2_readSum 1 = true := by decide +kernel
theorem wim_X2_readSum : Cond.instanceMethod yX2_readSum ∈ gT := gw2 (i := 214) rfl rfl
theorem wsel_X2_readSum : Cond.selects RX2 yX2_readSum yX2_readSum ∈ gT := gp1 (i := 6) rfl
theorem cv_RX2_40 : gCV RX2 40 RX2 yX2_readSum cX2_readSum 4 (some .boolean) 1 := ⟨wml_RX2_40, wim_X2_readSum, wsel_X2_readSum, wini_RX2, wcod_X2_readSum, rfl, wnm_X2_readSum⟩
theorem wml_RX2_46 : Cond.methodLink RX2 46 yX2_emit ∈ gT := gw2 (i := 226) rfl rfl
theorem wcod_X2_emit : Cond.code yX2_emit cX2_emit 2 none ∈ gT := gw2 (i := 229) rfl rfl
theorem wnm_X2_emit : gNm yX2_emit 1 = true := by decide +kernel
theorem wim_X2_emit : Cond.instanceMethod yX2_emit ∈ gT := gw2 (i := 228) rfl rfl
theorem wsel_X2_emit : Cond.selects RX2 yX2_emit yX2_emit ∈ gT := gp1 (i := 9) rfl
theorem cv_RX2_46 : gCV RX2 46 RX2 yX2_emit cX2_emit 2 none 1 := ⟨wml_RX2_46, wim_X2_emit, wsel_X2_emit, wini_RX2, wcod_X2_emit, rfl, wnm_X2_emit⟩
theorem wml_RX2_50 : Cond.methodLink RX2 50 yX2_readCondition ∈ gT := gw2 (i := 234) rfl rfl
theorem wcod_X2_readCondition : Cond.code yX2_readCondition cX2_readCondition 4 (some .boolean) ∈ gT := gw2 (i := 237) rfl rfl
theorem wnm_X2_readCondition : gNm yX2_readCondition 2 = true := by decide +kernel
theorem wim_X2_readCondition : Cond.instanceMethod yX2_readCondition ∈ gT := gw2 (i := 236) rfl rfl
theorem wsel_X2_readCondition : Cond.selects RX2 yX2_readCondition yX2_readCondition ∈ gT := gp1 (i := 10) rfl
theorem cv_RX2_50 : gCV RX2 50 RX2 yX2_readCondition cX2_readCondition 4 (some .boolean) 2 := ⟨wml_RX2_50, wim_X2_readCondition, wsel_X2_readCondition, wini_RX2, wcod_X2_readCondition, rfl, wnm_X2_readCondition⟩
theorem wml_RX2_55 : Cond.methodLink RX2 55 yX2_aimJump ∈ gT := gw3 (i := 11) rfl rfl
theorem wcod_X2_aimJump : Cond.code yX2_aimJump cX2_aimJump 2 none ∈ gT := gw3 (i := 14) rfl rfl
theorem wnm_X2_aimJump : gNm yX2_aimJump 1 = true := by decide +kernel
theorem wim_X2_aimJump : Cond.instanceMethod yX2_aimJump ∈ gT := gw3 (i := 13) rfl rfl
theorem wsel_X2_aimJump : Cond.selects RX2 yX2_aimJump yX2_aimJump ∈ gT := gp1 (i := 14) rfl
theorem cv_RX2_55 : gCV RX2 55 RX2 yX2_aimJump cX2_aimJump 2 none 1 := ⟨wml_RX2_55, wim_X2_aimJump, wsel_X2_aimJump, wini_RX2, wcod_X2_aimJump, rfl, wnm_X2_aimJump⟩
theorem wml_RX2_58 : Cond.methodLink RX2 58 yX2_readTruth ∈ gT := gw2 (i := 238) rfl rfl
theorem wcod_X2_readTruth : Cond.code yX2_readTruth cX2_readTruth 5 (some .boolean) ∈ gT := gw3 (i := 1) rfl rfl
theorem wnm_X2_readTruth : gNm yX2_readTruth 2 = true := by decide +kernel
theorem wim_X2_readTruth : Cond.instanceMethod yX2_readTruth ∈ gT := gw3 (i := 0) rfl rfl
theorem wsel_X2_readTruth : Cond.selects RX2 yX2_readTruth yX2_readTruth ∈ gT := gp1 (i := 11) rfl
theorem cv_RX2_58 : gCV RX2 58 RX2 yX2_readTruth cX2_readTruth 5 (some .boolean) 2 := ⟨wml_RX2_58, wim_X2_readTruth, wsel_X2_readTruth, wini_RX2, wcod_X2_readTruth, rfl, wnm_X2_readTruth⟩
theorem wml_RX2_61 : Cond.methodLink RX2 61 yX2_readRightOfComparison ∈ gT := gw3 (i := 2) rfl rfl
theorem wcod_X2_readRightOfComparison : Cond.code yX2_readRightOfComparison cX2_readRightOfComparison 3 (some .boolean) ∈ gT := gw3 (i := 5) rfl rfl
theorem wnm_X2_readRightOfComparison : gNm yX2_readRightOfComparison 1 = true := by decide +kernel
theorem wim_X2_readRightOfComparison : Cond.instanceMethod yX2_readRightOfComparison ∈ gT := gw3 (i := 4) rfl rfl
theorem wsel_X2_readRightOfComparison : Cond.selects RX2 yX2_readRightOfComparison yX2_readRightOfComparison ∈ gT := gp1 (i := 12) rfl
theorem cv_RX2_61 : gCV RX2 61 RX2 yX2_readRightOfComparison cX2_readRightOfComparison 3 (some .boolean) 1 := ⟨wml_RX2_61, wim_X2_readRightOfComparison, wsel_X2_readRightOfComparison, wini_RX2, wcod_X2_readRightOfComparison, rfl, wnm_X2_readRightOfComparison⟩
theorem wml_RX2_64 : Cond.methodLink RX2 64 yX2_readUnit ∈ gT := gw3 (i := 6) rfl rfl
theorem wcod_X2_readUnit : Cond.code yX2_readUnit cX2_readUnit 3 (some .boolean) ∈ gT := gw3 (i := 9) rfl rfl
theorem wnm_X2_readUnit : gNm yX2_readUnit 1 = true := by decide +kernel
theorem wim_X2_readUnit : Cond.instanceMethod yX2_readUnit ∈ gT := gw3 (i := 8) rfl rfl
theorem wsel_X2_readUnit : Cond.selects RX2 yX2_readUnit yX2_readUnit ∈ gT := gp1 (i := 13) rfl
theorem cv_RX2_64 : gCV RX2 64 RX2 yX2_readUnit cX2_readUnit 3 (some .boolean) 1 := ⟨wml_RX2_64, wim_X2_readUnit, wsel_X2_readUnit, wini_RX2, wcod_X2_readUnit, rfl, wnm_X2_readUnit⟩
theorem wml_RX2_67 : Cond.methodLink RX2 67 yX7_step ∈ gT := gw2 (i := 224) rfl rfl
theorem wcod_X7_step : Cond.code yX7_step cX7_step 1 none ∈ gT := gw2 (i := 142) rfl rfl
theorem wnm_X7_step : gNm yX7_step 0 = true := by decide +kernel
theorem wim_X7_step : Cond.instanceMethod yX7_step ∈ gT := gw2 (i := 140) rfl rfl
theorem wsel_X7_step : Cond.selects RX7 yX7_step yX7_step ∈ gT := gw2 (i := 141) rfl rfl
theorem cv_RX2_67 : gCV RX2 67 RX7 yX7_step cX7_step 1 none 0 := ⟨wml_RX2_67, wim_X7_step, wsel_X7_step, wini_RX7, wcod_X7_step, rfl, wnm_X7_step⟩
theorem wml_RX2_70 : Cond.methodLink RX2 70 yX2_readTerm ∈ gT := gw2 (i := 216) rfl rfl
theorem wcod_X2_readTerm : Cond.code yX2_readTerm cX2_readTerm 4 (some .boolean) ∈ gT := gw2 (i := 219) rfl rfl
theorem wnm_X2_readTerm : gNm yX2_readTerm 1 = true := by decide +kernel
theorem wim_X2_readTerm : Cond.instanceMethod yX2_readTerm ∈ gT := gw2 (i := 218) rfl rfl
theorem wsel_X2_readTerm : Cond.selects RX2 yX2_readTerm yX2_readTerm ∈ gT := gp1 (i := 7) rfl
theorem cv_RX2_70 : gCV RX2 70 RX2 yX2_readTerm cX2_readTerm 4 (some .boolean) 1 := ⟨wml_RX2_70, wim_X2_readTerm, wsel_X2_readTerm, wini_RX2, wcod_X2_readTerm, rfl, wnm_X2_readTerm⟩
theorem wml_RX2_73 : Cond.methodLink RX2 73 yX2_readAtom ∈ gT := gw2 (i := 220) rfl rfl
theorem wcod_X2_readAtom : Cond.code yX2_readAtom cX2_readAtom 4 (some .boolean) ∈ gT := gw2 (i := 223) rfl rfl
theorem wnm_X2_readAtom : gNm yX2_readAtom 1 = true := by decide +kernel
theorem wim_X2_readAtom : Cond.instanceMethod yX2_readAtom ∈ gT := gw2 (i := 222) rfl rfl
theorem wsel_X2_readAtom : Cond.selects RX2 yX2_readAtom yX2_readAtom ∈ gT := gp1 (i := 8) rfl
theorem cv_RX2_73 : gCV RX2 73 RX2 yX2_readAtom cX2_readAtom 4 (some .boolean) 1 := ⟨wml_RX2_73, wim_X2_readAtom, wsel_X2_readAtom, wini_RX2, wcod_X2_readAtom, rfl, wnm_X2_readAtom⟩
theorem wml_RX2_79 : Cond.methodLink RX2 79 yX7_number ∈ gT := gw2 (i := 230) rfl rfl
theorem wcod_X7_number : Cond.code yX7_number cX7_number 4 (some .int) ∈ gT := gw2 (i := 155) rfl rfl
theorem wnm_X7_number : gNm yX7_number 1 = true := by decide +kernel
theorem wim_X7_number : Cond.instanceMethod yX7_number ∈ gT := gw2 (i := 153) rfl rfl
theorem wsel_X7_number : Cond.selects RX7 yX7_number yX7_number ∈ gT := gw2 (i := 154) rfl rfl
theorem cv_RX2_79 : gCV RX2 79 RX7 yX7_number cX7_number 4 (some .int) 1 := ⟨wml_RX2_79, wim_X7_number, wsel_X7_number, wini_RX7, wcod_X7_number, rfl, wnm_X7_number⟩
theorem wml_RX3_28 : Cond.methodLink RX3 28 yX2_copyCode ∈ gT := gw3 (i := 60) rfl rfl
theorem wcod_X2_copyCode : Cond.code yX2_copyCode cX2_copyCode 4 (some .int) ∈ gT := gw3 (i := 63) rfl rfl
theorem wnm_X2_copyCode : gNm yX2_copyCode 2 = true := by decide +kernel
theorem wim_X2_copyCode : Cond.instanceMethod yX2_copyCode ∈ gT := gw3 (i := 61) rfl rfl
theorem wsel_X2_copyCode : Cond.selects RX2 yX2_copyCode yX2_copyCode ∈ gT := gw3 (i := 62) rfl rfl
theorem cv_RX3_28 : gCV RX3 28 RX2 yX2_copyCode cX2_copyCode 4 (some .int) 2 := ⟨wml_RX3_28, wim_X2_copyCode, wsel_X2_copyCode, wini_RX2, wcod_X2_copyCode, rfl, wnm_X2_copyCode⟩
theorem wml_RX3_34 : Cond.methodLink RX3 34 yX3_anyHolds ∈ gT := gw4 (i := 14) rfl rfl
theorem cv_RX3_34 : gCV RX3 34 RX3 yX3_anyHolds cX3_anyHolds 1 (some .boolean) 0 := ⟨wml_RX3_34, wim_X3_anyHolds, wsel_X3_anyHolds, wini_RX3, wcod_X3_anyHolds, rfl, wnm_X3_anyHolds⟩
theorem wml_RX4_15 : Cond.methodLink RX4 15 yX8_marbles ∈ gT := gw3 (i := 34) rfl rfl
theorem cv_RX4_15 : gCV RX4 15 RX8 yX8_marbles cX8_marbles 1 (some .int) 0 := ⟨wml_RX4_15, wim_X8_marbles, wsel_X8_marbles, wini_RX8, wcod_X8_marbles, rfl, wnm_X8_marbles⟩
theorem wml_RX4_30 : Cond.methodLink RX4 30 yX8_firstOwner ∈ gT := gw3 (i := 38) rfl rfl
theorem wcod_X8_firstOwner : Cond.code yX8_firstOwner cX8_firstOwner 2 (some .int) ∈ gT := gw2 (i := 192) rfl rfl
theorem wnm_X8_firstOwner : gNm yX8_firstOwner 1 = true := by decide +kernel
theorem wim_X8_firstOwner : Cond.instanceMethod yX8_firstOwner ∈ gT := gw2 (i := 190) rfl rfl
theorem wsel_X8_firstOwner : Cond.selects RX8 yX8_firstOwner yX8_firstOwner ∈ gT := gw2 (i := 191) rfl rfl
theorem cv_RX4_30 : gCV RX4 30 RX8 yX8_firstOwner cX8_firstOwner 2 (some .int) 1 := ⟨wml_RX4_30, wim_X8_firstOwner, wsel_X8_firstOwner, wini_RX8, wcod_X8_firstOwner, rfl, wnm_X8_firstOwner⟩
theorem wml_RX4_40 : Cond.methodLink RX4 40 yX8_firstSweets ∈ gT := gw3 (i := 39) rfl rfl
theorem wcod_X8_firstSweets : Cond.code yX8_firstSweets cX8_firstSweets 1 (some .int) ∈ gT := gw3 (i := 42) rfl rfl
theorem wnm_X8_firstSweets : gNm yX8_firstSweets 0 = true := by decide +kernel
theorem wim_X8_firstSweets : Cond.instanceMethod yX8_firstSweets ∈ gT := gw3 (i := 40) rfl rfl
theorem wsel_X8_firstSweets : Cond.selects RX8 yX8_firstSweets yX8_firstSweets ∈ gT := gw3 (i := 41) rfl rfl
theorem cv_RX4_40 : gCV RX4 40 RX8 yX8_firstSweets cX8_firstSweets 1 (some .int) 0 := ⟨wml_RX4_40, wim_X8_firstSweets, wsel_X8_firstSweets, wini_RX8, wcod_X8_firstSweets, rfl, wnm_X8_firstSweets⟩
theorem wml_RX4_49 : Cond.methodLink RX4 49 yX4_ownerOf ∈ gT := gw3 (i := 147) rfl rfl
theorem cv_RX4_49 : gCV RX4 49 RX4 yX4_ownerOf cX4_ownerOf 2 (some .int) 1 := ⟨wml_RX4_49, wim_X4_ownerOf, wsel_X4_ownerOf, wini_RX4, wcod_X4_ownerOf, rfl, wnm_X4_ownerOf⟩
theorem wml_RX4_52 : Cond.methodLink RX4 52 yX4_isDrained ∈ gT := gw3 (i := 206) rfl rfl
theorem cv_RX4_52 : gCV RX4 52 RX4 yX4_isDrained cX4_isDrained 2 (some .boolean) 1 := ⟨wml_RX4_52, wim_X4_isDrained, wsel_X4_isDrained, wini_RX4, wcod_X4_isDrained, rfl, wnm_X4_isDrained⟩
theorem wml_RX4_56 : Cond.methodLink RX4 56 yX4_isSwallowed ∈ gT := gw3 (i := 207) rfl rfl
theorem cv_RX4_56 : gCV RX4 56 RX4 yX4_isSwallowed cX4_isSwallowed 2 (some .boolean) 1 := ⟨wml_RX4_56, wim_X4_isSwallowed, wsel_X4_isSwallowed, wini_RX4, wcod_X4_isSwallowed, rfl, wnm_X4_isSwallowed⟩
theorem wml_RX4_59 : Cond.methodLink RX4 59 yX4_handOf ∈ gT := gw5 (i := 200) rfl rfl
theorem cv_RX4_59 : gCV RX4 59 RX4 yX4_handOf cX4_handOf 4 (some .int) 1 := ⟨wml_RX4_59, wim_X4_handOf, wsel_X4_handOf, wini_RX4, wcod_X4_handOf, rfl, wnm_X4_handOf⟩
theorem wml_RX4_62 : Cond.methodLink RX4 62 yX8_size ∈ gT := gw3 (i := 162) rfl rfl
theorem cv_RX4_62 : gCV RX4 62 RX8 yX8_size cX8_size 2 (some .int) 1 := ⟨wml_RX4_62, wim_X8_size, wsel_X8_size, wini_RX8, wcod_X8_size, rfl, wnm_X8_size⟩
theorem wml_RX4_65 : Cond.methodLink RX4 65 yX4_isChipped ∈ gT := gw3 (i := 163) rfl rfl
theorem cv_RX4_65 : gCV RX4 65 RX4 yX4_isChipped cX4_isChipped 2 (some .boolean) 1 := ⟨wml_RX4_65, wim_X4_isChipped, wsel_X4_isChipped, wini_RX4, wcod_X4_isChipped, rfl, wnm_X4_isChipped⟩
theorem wml_RX5_37 : Cond.methodLink RX5 37 yX4_packed ∈ gT := gw3 (i := 217) rfl rfl
theorem wcod_X4_packed : Cond.code yX4_packed cX4_packed 4 (some .long) ∈ gT := gw3 (i := 220) rfl rfl
theorem wnm_X4_packed : gNm yX4_packed 0 = true := by decide +kernel
theorem wim_X4_packed : Cond.instanceMethod yX4_packed ∈ gT := gw3 (i := 218) rfl rfl
theorem wsel_X4_packed : Cond.selects RX4 yX4_packed yX4_packed ∈ gT := gw3 (i := 219) rfl rfl
theorem cv_RX5_37 : gCV RX5 37 RX4 yX4_packed cX4_packed 4 (some .long) 0 := ⟨wml_RX5_37, wim_X4_packed, wsel_X4_packed, wini_RX4, wcod_X4_packed, rfl, wnm_X4_packed⟩
theorem wml_RX5_49 : Cond.methodLink RX5 49 yX4_unpack ∈ gT := gw4 (i := 136) rfl rfl
theorem wcod_X4_unpack : Cond.code yX4_unpack cX4_unpack 4 none ∈ gT := gw4 (i := 139) rfl rfl
theorem wnm_X4_unpack : gNm yX4_unpack 1 = true := by decide +kernel
theorem wim_X4_unpack : Cond.instanceMethod yX4_unpack ∈ gT := gw4 (i := 137) rfl rfl
theorem wsel_X4_unpack : Cond.selects RX4 yX4_unpack yX4_unpack ∈ gT := gw4 (i := 138) rfl rfl
theorem cv_RX5_49 : gCV RX5 49 RX4 yX4_unpack cX4_unpack 4 none 1 := ⟨wml_RX5_49, wim_X4_unpack, wsel_X4_unpack, wini_RX4, wcod_X4_unpack, rfl, wnm_X4_unpack⟩
theorem wml_RX5_56 : Cond.methodLink RX5 56 yX5_ringIndex ∈ gT := gw4 (i := 98) rfl rfl
theorem wcod_X5_ringIndex : Cond.code yX5_ringIndex cX5_ringIndex 2 (some .int) ∈ gT := gw4 (i := 101) rfl rfl
theorem wnm_X5_ringIndex : gNm yX5_ringIndex 1 = true := by decide +kernel
theorem wim_X5_ringIndex : Cond.instanceMethod yX5_ringIndex ∈ gT := gw4 (i := 100) rfl rfl
theorem wsel_X5_ringIndex : Cond.selects RX5 yX5_ringIndex yX5_ringIndex ∈ gT := gp2 (i := 4) rfl
theorem cv_RX5_56 : gCV RX5 56 RX5 yX5_ringIndex cX5_ringIndex 2 (some .int) 1 := ⟨wml_RX5_56, wim_X5_ringIndex, wsel_X5_ringIndex, wini_RX5, wcod_X5_ringIndex, rfl, wnm_X5_ringIndex⟩
theorem wml_RX5_67 : Cond.methodLink RX5 67 yX5_logLength ∈ gT := gw5 (i := 179) rfl rfl
theorem cv_RX5_67 : gCV RX5 67 RX5 yX5_logLength cX5_logLength 1 (some .int) 0 := ⟨wml_RX5_67, wim_X5_logLength, wsel_X5_logLength, wini_RX5, wcod_X5_logLength, rfl, wnm_X5_logLength⟩
theorem wml_RX6_29 : Cond.methodLink RX6 29 yX8_marbles ∈ gT := gw3 (i := 142) rfl rfl
theorem cv_RX6_29 : gCV RX6 29 RX8 yX8_marbles cX8_marbles 1 (some .int) 0 := ⟨wml_RX6_29, wim_X8_marbles, wsel_X8_marbles, wini_RX8, wcod_X8_marbles, rfl, wnm_X8_marbles⟩
theorem wml_RX6_35 : Cond.methodLink RX6 35 yX4_isDrained ∈ gT := gw3 (i := 143) rfl rfl
theorem cv_RX6_35 : gCV RX6 35 RX4 yX4_isDrained cX4_isDrained 2 (some .boolean) 1 := ⟨wml_RX6_35, wim_X4_isDrained, wsel_X4_isDrained, wini_RX4, wcod_X4_isDrained, rfl, wnm_X4_isDrained⟩
theorem wml_RX6_41 : Cond.methodLink RX6 41 yX4_ownerOf ∈ gT := gw3 (i := 148) rfl rfl
theorem cv_RX6_41 : gCV RX6 41 RX4 yX4_ownerOf cX4_ownerOf 2 (some .int) 1 := ⟨wml_RX6_41, wim_X4_ownerOf, wsel_X4_ownerOf, wini_RX4, wcod_X4_ownerOf, rfl, wnm_X4_ownerOf⟩
theorem wml_RX6_45 : Cond.methodLink RX6 45 yX6_indexOf ∈ gT := gw3 (i := 149) rfl rfl
theorem wcod_X6_indexOf : Cond.code yX6_indexOf cX6_indexOf 3 (some .int) ∈ gT := gw3 (i := 152) rfl rfl
theorem wnm_X6_indexOf : gNm yX6_indexOf 2 = true := by decide +kernel
theorem wim_X6_indexOf : Cond.instanceMethod yX6_indexOf ∈ gT := gw3 (i := 151) rfl rfl
theorem wsel_X6_indexOf : Cond.selects RX6 yX6_indexOf yX6_indexOf ∈ gT := gp2 (i := 0) rfl
theorem cv_RX6_45 : gCV RX6 45 RX6 yX6_indexOf cX6_indexOf 3 (some .int) 2 := ⟨wml_RX6_45, wim_X6_indexOf, wsel_X6_indexOf, wini_RX6, wcod_X6_indexOf, rfl, wnm_X6_indexOf⟩
theorem wml_RX6_49 : Cond.methodLink RX6 49 yX4_soundSize ∈ gT := gw3 (i := 158) rfl rfl
theorem cv_RX6_49 : gCV RX6 49 RX4 yX4_soundSize cX4_soundSize 4 (some .int) 2 := ⟨wml_RX6_49, wim_X4_soundSize, wsel_X4_soundSize, wini_RX4, wcod_X4_soundSize, rfl, wnm_X4_soundSize⟩
theorem wml_RX6_53 : Cond.methodLink RX6 53 yX8_boyPlace ∈ gT := gw3 (i := 153) rfl rfl
theorem cv_RX6_53 : gCV RX6 53 RX8 yX8_boyPlace cX8_boyPlace 2 (some .int) 1 := ⟨wml_RX6_53, wim_X8_boyPlace, wsel_X8_boyPlace, wini_RX8, wcod_X8_boyPlace, rfl, wnm_X8_boyPlace⟩
theorem wml_RX6_56 : Cond.methodLink RX6 56 yX8_kind ∈ gT := gw3 (i := 157) rfl rfl
theorem cv_RX6_56 : gCV RX6 56 RX8 yX8_kind cX8_kind 2 (some .int) 1 := ⟨wml_RX6_56, wim_X8_kind, wsel_X8_kind, wini_RX8, wcod_X8_kind, rfl, wnm_X8_kind⟩
theorem wml_RX6_59 : Cond.methodLink RX6 59 yX6_lift ∈ gT := gw5 (i := 25) rfl rfl
theorem wcod_X6_lift : Cond.code yX6_lift cX6_lift 3 none ∈ gT := gw5 (i := 28) rfl rfl
theorem wnm_X6_lift : gNm yX6_lift 2 = true := by decide +kernel
theorem wim_X6_lift : Cond.instanceMethod yX6_lift ∈ gT := gw5 (i := 27) rfl rfl
theorem wsel_X6_lift : Cond.selects RX6 yX6_lift yX6_lift ∈ gT := gp3 (i := 0) rfl
theorem cv_RX6_59 : gCV RX6 59 RX6 yX6_lift cX6_lift 3 none 2 := ⟨wml_RX6_59, wim_X6_lift, wsel_X6_lift, wini_RX6, wcod_X6_lift, rfl, wnm_X6_lift⟩
theorem wml_RX6_63 : Cond.methodLink RX6 63 yX6_put ∈ gT := gw5 (i := 33) rfl rfl
theorem wcod_X6_put : Cond.code yX6_put cX6_put 3 none ∈ gT := gw5 (i := 36) rfl rfl
theorem wnm_X6_put : gNm yX6_put 2 = true := by decide +kernel
theorem wim_X6_put : Cond.instanceMethod yX6_put ∈ gT := gw5 (i := 35) rfl rfl
theorem wsel_X6_put : Cond.selects RX6 yX6_put yX6_put ∈ gT := gp3 (i := 2) rfl
theorem cv_RX6_63 : gCV RX6 63 RX6 yX6_put cX6_put 3 none 2 := ⟨wml_RX6_63, wim_X6_put, wsel_X6_put, wini_RX6, wcod_X6_put, rfl, wnm_X6_put⟩
theorem wml_RX6_66 : Cond.methodLink RX6 66 yX6_strengthOf ∈ gT := gw3 (i := 177) rfl rfl
theorem cv_RX6_66 : gCV RX6 66 RX6 yX6_strengthOf cX6_strengthOf 3 (some .int) 2 := ⟨wml_RX6_66, wim_X6_strengthOf, wsel_X6_strengthOf, wini_RX6, wcod_X6_strengthOf, rfl, wnm_X6_strengthOf⟩
theorem wml_RX6_69 : Cond.methodLink RX6 69 yX8_farms ∈ gT := gw3 (i := 171) rfl rfl
theorem cv_RX6_69 : gCV RX6 69 RX8 yX8_farms cX8_farms 1 (some .int) 0 := ⟨wml_RX6_69, wim_X8_farms, wsel_X8_farms, wini_RX8, wcod_X8_farms, rfl, wnm_X8_farms⟩
theorem wml_RX6_72 : Cond.methodLink RX6 72 yX8_farmPlace ∈ gT := gw3 (i := 172) rfl rfl
theorem cv_RX6_72 : gCV RX6 72 RX8 yX8_farmPlace cX8_farmPlace 2 (some .int) 1 := ⟨wml_RX6_72, wim_X8_farmPlace, wsel_X8_farmPlace, wini_RX8, wcod_X8_farmPlace, rfl, wnm_X8_farmPlace⟩
theorem wml_RX6_75 : Cond.methodLink RX6 75 yX6_strongestKind ∈ gT := gw3 (i := 173) rfl rfl
theorem cv_RX6_75 : gCV RX6 75 RX6 yX6_strongestKind cX6_strongestKind 5 (some .int) 1 := ⟨wml_RX6_75, wim_X6_strongestKind, wsel_X6_strongestKind, wini_RX6, wcod_X6_strongestKind, rfl, wnm_X6_strongestKind⟩
theorem wml_RX6_78 : Cond.methodLink RX6 78 yX8_wanted ∈ gT := gw3 (i := 181) rfl rfl
theorem cv_RX6_78 : gCV RX6 78 RX8 yX8_wanted cX8_wanted 2 (some .int) 1 := ⟨wml_RX6_78, wim_X8_wanted, wsel_X8_wanted, wini_RX8, wcod_X8_wanted, rfl, wnm_X8_wanted⟩
theorem wml_RX6_88 : Cond.methodLink RX6 88 yX6_isHopeless ∈ gT := gw4 (i := 237) rfl rfl
theorem wcod_X6_isHopeless : Cond.code yX6_isHopeless cX6_isHopeless 2 (some .boolean) ∈ gT := gw5 (i := 0) rfl rfl
theorem wnm_X6_isHopeless : gNm yX6_isHopeless 0 = true := by decide +kernel
theorem wim_X6_isHopeless : Cond.instanceMethod yX6_isHopeless ∈ gT := gw4 (i := 239) rfl rfl
theorem wsel_X6_isHopeless : Cond.selects RX6 yX6_isHopeless yX6_isHopeless ∈ gT := gp2 (i := 10) rfl
theorem cv_RX6_88 : gCV RX6 88 RX6 yX6_isHopeless cX6_isHopeless 2 (some .boolean) 0 := ⟨wml_RX6_88, wim_X6_isHopeless, wsel_X6_isHopeless, wini_RX6, wcod_X6_isHopeless, rfl, wnm_X6_isHopeless⟩
theorem wml_RX6_92 : Cond.methodLink RX6 92 yX6_measure ∈ gT := gw5 (i := 15) rfl rfl
theorem cv_RX6_92 : gCV RX6 92 RX6 yX6_measure cX6_measure 2 none 0 := ⟨wml_RX6_92, wim_X6_measure, wsel_X6_measure, wini_RX6, wcod_X6_measure, rfl, wnm_X6_measure⟩
theorem wml_RX6_95 : Cond.methodLink RX6 95 yX6_tryOwners ∈ gT := gw5 (i := 16) rfl rfl
theorem wcod_X6_tryOwners : Cond.code yX6_tryOwners cX6_tryOwners 6 none ∈ gT := gw5 (i := 19) rfl rfl
theorem wnm_X6_tryOwners : gNm yX6_tryOwners 3 = true := by decide +kernel
theorem wim_X6_tryOwners : Cond.instanceMethod yX6_tryOwners ∈ gT := gw5 (i := 18) rfl rfl
theorem wsel_X6_tryOwners : Cond.selects RX6 yX6_tryOwners yX6_tryOwners ∈ gT := gp2 (i := 14) rfl
theorem cv_RX6_95 : gCV RX6 95 RX6 yX6_tryOwners cX6_tryOwners 6 none 3 := ⟨wml_RX6_95, wim_X6_tryOwners, wsel_X6_tryOwners, wini_RX6, wcod_X6_tryOwners, rfl, wnm_X6_tryOwners⟩
theorem wml_RX6_99 : Cond.methodLink RX6 99 yX6_isInhabited ∈ gT := gw5 (i := 1) rfl rfl
theorem wcod_X6_isInhabited : Cond.code yX6_isInhabited cX6_isInhabited 3 (some .boolean) ∈ gT := gw5 (i := 4) rfl rfl
theorem wnm_X6_isInhabited : gNm yX6_isInhabited 1 = true := by decide +kernel
theorem wim_X6_isInhabited : Cond.instanceMethod yX6_isInhabited ∈ gT := gw5 (i := 3) rfl rfl
theorem wsel_X6_isInhabited : Cond.selects RX6 yX6_isInhabited yX6_isInhabited ∈ gT := gp2 (i := 11) rfl
theorem cv_RX6_99 : gCV RX6 99 RX6 yX6_isInhabited cX6_isInhabited 3 (some .boolean) 1 := ⟨wml_RX6_99, wim_X6_isInhabited, wsel_X6_isInhabited, wini_RX6, wcod_X6_isInhabited, rfl, wnm_X6_isInhabited⟩
theorem wml_RX6_102 : Cond.methodLink RX6 102 yX6_isTorn ∈ gT := gw5 (i := 6) rfl rfl
theorem wcod_X6_isTorn : Cond.code yX6_isTorn cX6_isTorn 3 (some .boolean) ∈ gT := gw5 (i := 9) rfl rfl
theorem wnm_X6_isTorn : gNm yX6_isTorn 1 = true := by decide +kernel
theorem wim_X6_isTorn : Cond.instanceMethod yX6_isTorn ∈ gT := gw5 (i := 8) rfl rfl
theorem wsel_X6_isTorn : Cond.selects RX6 yX6_isTorn yX6_isTorn ∈ gT := gp2 (i := 12) rfl
theorem cv_RX6_102 : gCV RX6 102 RX6 yX6_isTorn cX6_isTorn 3 (some .boolean) 1 := ⟨wml_RX6_102, wim_X6_isTorn, wsel_X6_isTorn, wini_RX6, wcod_X6_isTorn, rfl, wnm_X6_isTorn⟩
theorem wml_RX6_105 : Cond.methodLink RX6 105 yX6_isTooRare ∈ gT := gw5 (i := 10) rfl rfl
theorem wcod_X6_isTooRare : Cond.code yX6_isTooRare cX6_isTooRare 5 (some .boolean) ∈ gT := gw5 (i := 13) rfl rfl
theorem wnm_X6_isTooRare : gNm yX6_isTooRare 1 = true := by decide +kernel
theorem wim_X6_isTooRare : Cond.instanceMethod yX6_isTooRare ∈ gT := gw5 (i := 12) rfl rfl
theorem wsel_X6_isTooRare : Cond.selects RX6 yX6_isTooRare yX6_isTooRare ∈ gT := gp2 (i := 13) rfl
theorem cv_RX6_105 : gCV RX6 105 RX6 yX6_isTooRare cX6_isTooRare 5 (some .boolean) 1 := ⟨wml_RX6_105, wim_X6_isTooRare, wsel_X6_isTooRare, wini_RX6, wcod_X6_isTooRare, rfl, wnm_X6_isTooRare⟩
theorem wml_RX6_108 : Cond.methodLink RX6 108 yX8_boys ∈ gT := gw5 (i := 5) rfl rfl
theorem cv_RX6_108 : gCV RX6 108 RX8 yX8_boys cX8_boys 1 (some .int) 0 := ⟨wml_RX6_108, wim_X8_boys, wsel_X8_boys, wini_RX8, wcod_X8_boys, rfl, wnm_X8_boys⟩
theorem wml_RX6_116 : Cond.methodLink RX6 116 yX6_areAllContent ∈ gT := gw5 (i := 20) rfl rfl
theorem wcod_X6_areAllContent : Cond.code yX6_areAllContent cX6_areAllContent 2 (some .boolean) ∈ gT := gw5 (i := 23) rfl rfl
theorem wnm_X6_areAllContent : gNm yX6_areAllContent 0 = true := by decide +kernel
theorem wim_X6_areAllContent : Cond.instanceMethod yX6_areAllContent ∈ gT := gw5 (i := 22) rfl rfl
theorem wsel_X6_areAllContent : Cond.selects RX6 yX6_areAllContent yX6_areAllContent ∈ gT := gp2 (i := 15) rfl
theorem cv_RX6_116 : gCV RX6 116 RX6 yX6_areAllContent cX6_areAllContent 2 (some .boolean) 0 := ⟨wml_RX6_116, wim_X6_areAllContent, wsel_X6_areAllContent, wini_RX6, wcod_X6_areAllContent, rfl, wnm_X6_areAllContent⟩
theorem wml_RX6_119 : Cond.methodLink RX6 119 yX4_isFree ∈ gT := gw5 (i := 24) rfl rfl
theorem cv_RX6_119 : gCV RX6 119 RX4 yX4_isFree cX4_isFree 2 (some .boolean) 1 := ⟨wml_RX6_119, wim_X4_isFree, wsel_X4_isFree, wini_RX4, wcod_X4_isFree, rfl, wnm_X4_isFree⟩
theorem wml_RX6_122 : Cond.methodLink RX6 122 yX6_isFirstElsewhere ∈ gT := gw5 (i := 29) rfl rfl
theorem wcod_X6_isFirstElsewhere : Cond.code yX6_isFirstElsewhere cX6_isFirstElsewhere 4 (some .boolean) ∈ gT := gw5 (i := 32) rfl rfl
theorem wnm_X6_isFirstElsewhere : gNm yX6_isFirstElsewhere 2 = true := by decide +kernel
theorem wim_X6_isFirstElsewhere : Cond.instanceMethod yX6_isFirstElsewhere ∈ gT := gw5 (i := 31) rfl rfl
theorem wsel_X6_isFirstElsewhere : Cond.selects RX6 yX6_isFirstElsewhere yX6_isFirstElsewhere ∈ gT := gp3 (i := 1) rfl
theorem cv_RX6_122 : gCV RX6 122 RX6 yX6_isFirstElsewhere cX6_isFirstElsewhere 4 (some .boolean) 2 := ⟨wml_RX6_122, wim_X6_isFirstElsewhere, wsel_X6_isFirstElsewhere, wini_RX6, wcod_X6_isFirstElsewhere, rfl, wnm_X6_isFirstElsewhere⟩
theorem wml_RX7_22 : Cond.methodLink RX7 22 yX7_sign ∈ gT := gw2 (i := 156) rfl rfl
theorem cv_RX7_22 : gCV RX7 22 RX7 yX7_sign cX7_sign 1 (some .int) 0 := ⟨wml_RX7_22, wim_X7_sign, wsel_X7_sign, wini_RX7, wcod_X7_sign, rfl, wnm_X7_sign⟩
theorem wml_RX7_26 : Cond.methodLink RX7 26 yX7_isAtDigit ∈ gT := gw2 (i := 157) rfl rfl
theorem wcod_X7_isAtDigit : Cond.code yX7_isAtDigit cX7_isAtDigit 1 (some .boolean) ∈ gT := gw2 (i := 160) rfl rfl
theorem wnm_X7_isAtDigit : gNm yX7_isAtDigit 0 = true := by decide +kernel
theorem wim_X7_isAtDigit : Cond.instanceMethod yX7_isAtDigit ∈ gT := gw2 (i := 159) rfl rfl
theorem wsel_X7_isAtDigit : Cond.selects RX7 yX7_isAtDigit yX7_isAtDigit ∈ gT := gp1 (i := 3) rfl
theorem cv_RX7_26 : gCV RX7 26 RX7 yX7_isAtDigit cX7_isAtDigit 1 (some .boolean) 0 := ⟨wml_RX7_26, wim_X7_isAtDigit, wsel_X7_isAtDigit, wini_RX7, wcod_X7_isAtDigit, rfl, wnm_X7_isAtDigit⟩
theorem wml_RX8_27 : Cond.methodLink RX8 27 yX8_fillUsual ∈ gT := gw2 (i := 109) rfl rfl
theorem wcod_X8_fillUsual : Cond.code yX8_fillUsual cX8_fillUsual 4 none ∈ gT := gw2 (i := 112) rfl rfl
theorem wnm_X8_fillUsual : gNm yX8_fillUsual 2 = true := by decide +kernel
theorem wim_X8_fillUsual : Cond.instanceMethod yX8_fillUsual ∈ gT := gw2 (i := 111) rfl rfl
theorem wsel_X8_fillUsual : Cond.selects RX8 yX8_fillUsual yX8_fillUsual ∈ gT := gp1 (i := 0) rfl
theorem cv_RX8_27 : gCV RX8 27 RX8 yX8_fillUsual cX8_fillUsual 4 none 2 := ⟨wml_RX8_27, wim_X8_fillUsual, wsel_X8_fillUsual, wini_RX8, wcod_X8_fillUsual, rfl, wnm_X8_fillUsual⟩
theorem wml_RX8_46 : Cond.methodLink RX8 46 yX8_boys ∈ gT := gw2 (i := 181) rfl rfl
theorem cv_RX8_46 : gCV RX8 46 RX8 yX8_boys cX8_boys 1 (some .int) 0 := ⟨wml_RX8_46, wim_X8_boys, wsel_X8_boys, wini_RX8, wcod_X8_boys, rfl, wnm_X8_boys⟩
theorem wml_RX8_50 : Cond.methodLink RX8 50 yX8_marbles ∈ gT := gw2 (i := 185) rfl rfl
theorem cv_RX8_50 : gCV RX8 50 RX8 yX8_marbles cX8_marbles 1 (some .int) 0 := ⟨wml_RX8_50, wim_X8_marbles, wsel_X8_marbles, wini_RX8, wcod_X8_marbles, rfl, wnm_X8_marbles⟩
theorem wml_RX8_53 : Cond.methodLink RX8 53 yX8_firstOwner ∈ gT := gw2 (i := 189) rfl rfl
theorem cv_RX8_53 : gCV RX8 53 RX8 yX8_firstOwner cX8_firstOwner 2 (some .int) 1 := ⟨wml_RX8_53, wim_X8_firstOwner, wsel_X8_firstOwner, wini_RX8, wcod_X8_firstOwner, rfl, wnm_X8_firstOwner⟩
theorem wml_RX8_57 : Cond.methodLink RX8 57 yX8_farms ∈ gT := gw3 (i := 117) rfl rfl
theorem cv_RX8_57 : gCV RX8 57 RX8 yX8_farms cX8_farms 1 (some .int) 0 := ⟨wml_RX8_57, wim_X8_farms, wsel_X8_farms, wini_RX8, wcod_X8_farms, rfl, wnm_X8_farms⟩
theorem wml_RX8_60 : Cond.methodLink RX8 60 yX8_cell ∈ gT := gw2 (i := 193) rfl rfl
theorem wcod_X8_cell : Cond.code yX8_cell cX8_cell 4 (some .int) ∈ gT := gw2 (i := 196) rfl rfl
theorem wnm_X8_cell : gNm yX8_cell 3 = true := by decide +kernel
theorem wim_X8_cell : Cond.instanceMethod yX8_cell ∈ gT := gw2 (i := 195) rfl rfl
theorem wsel_X8_cell : Cond.selects RX8 yX8_cell yX8_cell ∈ gT := gp1 (i := 4) rfl
theorem cv_RX8_60 : gCV RX8 60 RX8 yX8_cell cX8_cell 4 (some .int) 3 := ⟨wml_RX8_60, wim_X8_cell, wsel_X8_cell, wini_RX8, wcod_X8_cell, rfl, wnm_X8_cell⟩
theorem wml_RX8_64 : Cond.methodLink RX8 64 yX8_payment ∈ gT := gw4 (i := 92) rfl rfl
theorem cv_RX8_64 : gCV RX8 64 RX8 yX8_payment cX8_payment 2 (some .int) 1 := ⟨wml_RX8_64, wim_X8_payment, wsel_X8_payment, wini_RX8, wcod_X8_payment, rfl, wnm_X8_payment⟩
theorem wml_RX9_22 : Cond.methodLink RX9 22 yX8_clear ∈ gT := gw2 (i := 102) rfl rfl
theorem wcod_X8_clear : Cond.code yX8_clear cX8_clear 1 none ∈ gT := gw2 (i := 105) rfl rfl
theorem wnm_X8_clear : gNm yX8_clear 0 = true := by decide +kernel
theorem wim_X8_clear : Cond.instanceMethod yX8_clear ∈ gT := gw2 (i := 103) rfl rfl
theorem wsel_X8_clear : Cond.selects RX8 yX8_clear yX8_clear ∈ gT := gw2 (i := 104) rfl rfl
theorem cv_RX9_22 : gCV RX9 22 RX8 yX8_clear cX8_clear 1 none 0 := ⟨wml_RX9_22, wim_X8_clear, wsel_X8_clear, wini_RX8, wcod_X8_clear, rfl, wnm_X8_clear⟩
theorem wml_RX9_25 : Cond.methodLink RX9 25 yX7_rewind ∈ gT := gw2 (i := 117) rfl rfl
theorem cv_RX9_25 : gCV RX9 25 RX7 yX7_rewind cX7_rewind 1 none 0 := ⟨wml_RX9_25, wim_X7_rewind, wsel_X7_rewind, wini_RX7, wcod_X7_rewind, rfl, wnm_X7_rewind⟩
theorem wml_RX9_30 : Cond.methodLink RX9 30 yX9_readClause ∈ gT := gw2 (i := 121) rfl rfl
theorem wcod_X9_readClause : Cond.code yX9_readClause cX9_readClause 5 (some .boolean) ∈ gT := gw2 (i := 124) rfl rfl
theorem wnm_X9_readClause : gNm yX9_readClause 0 = true := by decide +kernel
theorem wim_X9_readClause : Cond.instanceMethod yX9_readClause ∈ gT := gw2 (i := 123) rfl rfl
theorem wsel_X9_readClause : Cond.selects RX9 yX9_readClause yX9_readClause ∈ gT := gp1 (i := 1) rfl
theorem cv_RX9_30 : gCV RX9 30 RX9 yX9_readClause cX9_readClause 5 (some .boolean) 0 := ⟨wml_RX9_30, wim_X9_readClause, wsel_X9_readClause, wini_RX9, wcod_X9_readClause, rfl, wnm_X9_readClause⟩
theorem wml_RX9_34 : Cond.methodLink RX9 34 yX7_takes ∈ gT := gw2 (i := 173) rfl rfl
theorem cv_RX9_34 : gCV RX9 34 RX7 yX7_takes cX7_takes 2 (some .boolean) 1 := ⟨wml_RX9_34, wim_X7_takes, wsel_X7_takes, wini_RX7, wcod_X7_takes, rfl, wnm_X7_takes⟩
theorem wml_RX9_38 : Cond.methodLink RX9 38 yX7_sign ∈ gT := gw2 (i := 125) rfl rfl
theorem cv_RX9_38 : gCV RX9 38 RX7 yX7_sign cX7_sign 1 (some .int) 0 := ⟨wml_RX9_38, wim_X7_sign, wsel_X7_sign, wini_RX7, wcod_X7_sign, rfl, wnm_X7_sign⟩
theorem wml_RX9_42 : Cond.methodLink RX9 42 yX8_isWhole ∈ gT := gw2 (i := 177) rfl rfl
theorem wcod_X8_isWhole : Cond.code yX8_isWhole cX8_isWhole 2 (some .boolean) ∈ gT := gw2 (i := 180) rfl rfl
theorem wnm_X8_isWhole : gNm yX8_isWhole 0 = true := by decide +kernel
theorem wim_X8_isWhole : Cond.instanceMethod yX8_isWhole ∈ gT := gw2 (i := 178) rfl rfl
theorem wsel_X8_isWhole : Cond.selects RX8 yX8_isWhole yX8_isWhole ∈ gT := gw2 (i := 179) rfl rfl
theorem cv_RX9_42 : gCV RX9 42 RX8 yX8_isWhole cX8_isWhole 2 (some .boolean) 0 := ⟨wml_RX9_42, wim_X8_isWhole, wsel_X8_isWhole, wini_RX8, wcod_X8_isWhole, rfl, wnm_X8_isWhole⟩
theorem wml_RX9_49 : Cond.methodLink RX9 49 yX8_opens ∈ gT := gw2 (i := 133) rfl rfl
theorem wcod_X8_opens : Cond.code yX8_opens cX8_opens 2 (some .boolean) ∈ gT := gw2 (i := 136) rfl rfl
theorem wnm_X8_opens : gNm yX8_opens 1 = true := by decide +kernel
theorem wim_X8_opens : Cond.instanceMethod yX8_opens ∈ gT := gw2 (i := 134) rfl rfl
theorem wsel_X8_opens : Cond.selects RX8 yX8_opens yX8_opens ∈ gT := gw2 (i := 135) rfl rfl
theorem cv_RX9_49 : gCV RX9 49 RX8 yX8_opens cX8_opens 2 (some .boolean) 1 := ⟨wml_RX9_49, wim_X8_opens, wsel_X8_opens, wini_RX8, wcod_X8_opens, rfl, wnm_X8_opens⟩
theorem wml_RX9_52 : Cond.methodLink RX9 52 yX7_step ∈ gT := gw2 (i := 139) rfl rfl
theorem cv_RX9_52 : gCV RX9 52 RX7 yX7_step cX7_step 1 none 0 := ⟨wml_RX9_52, wim_X7_step, wsel_X7_step, wini_RX7, wcod_X7_step, rfl, wnm_X7_step⟩
theorem wml_RX9_59 : Cond.methodLink RX9 59 yX9_readValue ∈ gT := gw2 (i := 148) rfl rfl
theorem wcod_X9_readValue : Cond.code yX9_readValue cX9_readValue 4 (some .boolean) ∈ gT := gw2 (i := 151) rfl rfl
theorem wnm_X9_readValue : gNm yX9_readValue 2 = true := by decide +kernel
theorem wim_X9_readValue : Cond.instanceMethod yX9_readValue ∈ gT := gw2 (i := 150) rfl rfl
theorem wsel_X9_readValue : Cond.selects RX9 yX9_readValue yX9_readValue ∈ gT := gp1 (i := 2) rfl
theorem cv_RX9_59 : gCV RX9 59 RX9 yX9_readValue cX9_readValue 4 (some .boolean) 2 := ⟨wml_RX9_59, wim_X9_readValue, wsel_X9_readValue, wini_RX9, wcod_X9_readValue, rfl, wnm_X9_readValue⟩
theorem wml_RX9_63 : Cond.methodLink RX9 63 yX7_number ∈ gT := gw2 (i := 152) rfl rfl
theorem cv_RX9_63 : gCV RX9 63 RX7 yX7_number cX7_number 4 (some .int) 1 := ⟨wml_RX9_63, wim_X7_number, wsel_X7_number, wini_RX7, wcod_X7_number, rfl, wnm_X7_number⟩
theorem wml_RX9_73 : Cond.methodLink RX9 73 yX7_stepBack ∈ gT := gw2 (i := 165) rfl rfl
theorem wcod_X7_stepBack : Cond.code yX7_stepBack cX7_stepBack 1 none ∈ gT := gw2 (i := 168) rfl rfl
theorem wnm_X7_stepBack : gNm yX7_stepBack 0 = true := by decide +kernel
theorem wim_X7_stepBack : Cond.instanceMethod yX7_stepBack ∈ gT := gw2 (i := 166) rfl rfl
theorem wsel_X7_stepBack : Cond.selects RX7 yX7_stepBack yX7_stepBack ∈ gT := gw2 (i := 167) rfl rfl
theorem cv_RX9_73 : gCV RX9 73 RX7 yX7_stepBack cX7_stepBack 1 none 0 := ⟨wml_RX9_73, wim_X7_stepBack, wsel_X7_stepBack, wini_RX7, wcod_X7_stepBack, rfl, wnm_X7_stepBack⟩
theorem wml_RX9_76 : Cond.methodLink RX9 76 yX8_tellLatest ∈ gT := gw2 (i := 169) rfl rfl
theorem wcod_X8_tellLatest : Cond.code yX8_tellLatest cX8_tellLatest 4 none ∈ gT := gw2 (i := 172) rfl rfl
theorem wnm_X8_tellLatest : gNm yX8_tellLatest 3 = true := by decide +kernel
theorem wim_X8_tellLatest : Cond.instanceMethod yX8_tellLatest ∈ gT := gw2 (i := 170) rfl rfl
theorem wsel_X8_tellLatest : Cond.selects RX8 yX8_tellLatest yX8_tellLatest ∈ gT := gw2 (i := 171) rfl rfl
theorem cv_RX9_76 : gCV RX9 76 RX8 yX8_tellLatest cX8_tellLatest 4 none 3 := ⟨wml_RX9_76, wim_X8_tellLatest, wsel_X8_tellLatest, wini_RX8, wcod_X8_tellLatest, rfl, wnm_X8_tellLatest⟩
theorem wml_RX0_85 : Cond.methodLink RX0 85 yJ7_fill_53178 ∈ gT := gw5 (i := 95) rfl rfl
theorem wini_RJ7 : Cond.initialized RJ7 ∈ gT := gw1 (i := 13) rfl rfl
theorem wcod_J7_fill_53178 : Cond.code yJ7_fill_53178 cJ7_fill_53178 4 none ∈ gT := gw2 (i := 108) rfl rfl
theorem wnm_J7_fill_53178 : gNm yJ7_fill_53178 2 = true := by decide +kernel
theorem wst_J7_fill_53178 : Cond.static yJ7_fill_53178 ∈ gT := gw2 (i := 107) rfl rfl
theorem cs_RX0_85 : gCS RX0 85 yJ7_fill_53178 cJ7_fill_53178 4 none 2 := ⟨wml_RX0_85, wst_J7_fill_53178, wini_RJ7, wcod_J7_fill_53178, wnm_J7_fill_53178⟩
theorem wml_RX1_48 : Cond.methodLink RX1 48 yX1_isPower ∈ gT := gw3 (i := 199) rfl rfl
theorem wcod_X1_isPower : Cond.code yX1_isPower cX1_isPower 1 (some .boolean) ∈ gT := gw3 (i := 201) rfl rfl
theorem wnm_X1_isPower : gNm yX1_isPower 1 = true := by decide +kernel
theorem wst_X1_isPower : Cond.static yX1_isPower ∈ gT := gw3 (i := 200) rfl rfl
theorem cs_RX1_48 : gCS RX1 48 yX1_isPower cX1_isPower 1 (some .boolean) 1 := ⟨wml_RX1_48, wst_X1_isPower, wini_RX1, wcod_X1_isPower, wnm_X1_isPower⟩
theorem wml_RX1_78 : Cond.methodLink RX1 78 yJ6_bitCount_0f7a4 ∈ gT := gw4 (i := 4) rfl rfl
theorem wini_RJ6 : Cond.initialized RJ6 ∈ gT := gw1 (i := 20) rfl rfl
theorem wcod_J6_bitCount_0f7a4 : Cond.code yJ6_bitCount_0f7a4 cJ6_bitCount_0f7a4 1 (some .int) ∈ gT := gw4 (i := 6) rfl rfl
theorem wnm_J6_bitCount_0f7a4 : gNm yJ6_bitCount_0f7a4 1 = true := by decide +kernel
theorem wst_J6_bitCount_0f7a4 : Cond.static yJ6_bitCount_0f7a4 ∈ gT := gw4 (i := 5) rfl rfl
theorem cs_RX1_78 : gCS RX1 78 yJ6_bitCount_0f7a4 cJ6_bitCount_0f7a4 1 (some .int) 1 := ⟨wml_RX1_78, wst_J6_bitCount_0f7a4, wini_RJ6, wcod_J6_bitCount_0f7a4, wnm_J6_bitCount_0f7a4⟩
theorem wml_RX1_135 : Cond.methodLink RX1 135 yX1_partsOf ∈ gT := gw4 (i := 211) rfl rfl
theorem wcod_X1_partsOf : Cond.code yX1_partsOf cX1_partsOf 5 (some .int) ∈ gT := gw4 (i := 213) rfl rfl
theorem wnm_X1_partsOf : gNm yX1_partsOf 3 = true := by decide +kernel
theorem wst_X1_partsOf : Cond.static yX1_partsOf ∈ gT := gw4 (i := 212) rfl rfl
theorem cs_RX1_135 : gCS RX1 135 yX1_partsOf cX1_partsOf 5 (some .int) 3 := ⟨wml_RX1_135, wst_X1_partsOf, wini_RX1, wcod_X1_partsOf, wnm_X1_partsOf⟩
theorem wml_RX10_93 : Cond.methodLink RX10 93 yX7_bytesIn ∈ gT := gw2 (i := 75) rfl rfl
theorem wcod_X7_bytesIn : Cond.code yX7_bytesIn cX7_bytesIn 3 (some .int) ∈ gT := gw2 (i := 77) rfl rfl
theorem wnm_X7_bytesIn : gNm yX7_bytesIn 1 = true := by decide +kernel
theorem wst_X7_bytesIn : Cond.static yX7_bytesIn ∈ gT := gw2 (i := 76) rfl rfl
theorem cs_RX10_93 : gCS RX10 93 yX7_bytesIn cX7_bytesIn 3 (some .int) 1 := ⟨wml_RX10_93, wst_X7_bytesIn, wini_RX7, wcod_X7_bytesIn, wnm_X7_bytesIn⟩
theorem wml_RX10_172 : Cond.methodLink RX10 172 yJ6_bitCount_0f7a4 ∈ gT := gw4 (i := 75) rfl rfl
theorem cs_RX10_172 : gCS RX10 172 yJ6_bitCount_0f7a4 cJ6_bitCount_0f7a4 1 (some .int) 1 := ⟨wml_RX10_172, wst_J6_bitCount_0f7a4, wini_RJ6, wcod_J6_bitCount_0f7a4, wnm_J6_bitCount_0f7a4⟩
theorem wml_RX10_273 : Cond.methodLink RX10 273 yX1_isPower ∈ gT := gw4 (i := 163) rfl rfl
theorem cs_RX10_273 : gCS RX10 273 yX1_isPower cX1_isPower 1 (some .boolean) 1 := ⟨wml_RX10_273, wst_X1_isPower, wini_RX1, wcod_X1_isPower, wnm_X1_isPower⟩
theorem wml_RX11_96 : Cond.methodLink RX11 96 yX11_byteOf ∈ gT := gw6 (i := 196) rfl rfl
theorem wcod_X11_byteOf : Cond.code yX11_byteOf cX11_byteOf 7 (some .int) ∈ gT := gw6 (i := 198) rfl rfl
theorem wnm_X11_byteOf : gNm yX11_byteOf 6 = true := by decide +kernel
theorem wst_X11_byteOf : Cond.static yX11_byteOf ∈ gT := gw6 (i := 197) rfl rfl
theorem cs_RX11_96 : gCS RX11 96 yX11_byteOf cX11_byteOf 7 (some .int) 6 := ⟨wml_RX11_96, wst_X11_byteOf, wini_RX11, wcod_X11_byteOf, wnm_X11_byteOf⟩
theorem wml_RX11_125 : Cond.methodLink RX11 125 yX11_isDigit ∈ gT := gw7 (i := 6) rfl rfl
theorem wcod_X11_isDigit : Cond.code yX11_isDigit cX11_isDigit 1 (some .boolean) ∈ gT := gw7 (i := 8) rfl rfl
theorem wnm_X11_isDigit : gNm yX11_isDigit 1 = true := by decide +kernel
theorem wst_X11_isDigit : Cond.static yX11_isDigit ∈ gT := gw7 (i := 7) rfl rfl
theorem cs_RX11_125 : gCS RX11 125 yX11_isDigit cX11_isDigit 1 (some .boolean) 1 := ⟨wml_RX11_125, wst_X11_isDigit, wini_RX11, wcod_X11_isDigit, wnm_X11_isDigit⟩
theorem wml_RX11_136 : Cond.methodLink RX11 136 yX11_letterOf ∈ gT := gw7 (i := 68) rfl rfl
theorem wcod_X11_letterOf : Cond.code yX11_letterOf cX11_letterOf 1 (some .int) ∈ gT := gw7 (i := 70) rfl rfl
theorem wnm_X11_letterOf : gNm yX11_letterOf 1 = true := by decide +kernel
theorem wst_X11_letterOf : Cond.static yX11_letterOf ∈ gT := gw7 (i := 69) rfl rfl
theorem cs_RX11_136 : gCS RX11 136 yX11_letterOf cX11_letterOf 1 (some .int) 1 := ⟨wml_RX11_136, wst_X11_letterOf, wini_RX11, wcod_X11_letterOf, wnm_X11_letterOf⟩
theorem wml_RX11_156 : Cond.methodLink RX11 156 yX11_isSign ∈ gT := gw7 (i := 75) rfl rfl
theorem wcod_X11_isSign : Cond.code yX11_isSign cX11_isSign 1 (some .boolean) ∈ gT := gw7 (i := 77) rfl rfl
theorem wnm_X11_isSign : gNm yX11_isSign 1 = true := by decide +kernel
theorem wst_X11_isSign : Cond.static yX11_isSign ∈ gT := gw7 (i := 76) rfl rfl
theorem cs_RX11_156 : gCS RX11 156 yX11_isSign cX11_isSign 1 (some .boolean) 1 := ⟨wml_RX11_156, wst_X11_isSign, wini_RX11, wcod_X11_isSign, wnm_X11_isSign⟩
theorem wml_RX11_196 : Cond.methodLink RX11 196 yX11_bounded ∈ gT := gw7 (i := 207) rfl rfl
theorem wcod_X11_bounded : Cond.code yX11_bounded cX11_bounded 2 (some .int) ∈ gT := gw7 (i := 209) rfl rfl
theorem wnm_X11_bounded : gNm yX11_bounded 1 = true := by decide +kernel
theorem wst_X11_bounded : Cond.static yX11_bounded ∈ gT := gw7 (i := 208) rfl rfl
theorem cs_RX11_196 : gCS RX11 196 yX11_bounded cX11_bounded 2 (some .int) 1 := ⟨wml_RX11_196, wst_X11_bounded, wini_RX11, wcod_X11_bounded, wnm_X11_bounded⟩
theorem wml_RX11_200 : Cond.methodLink RX11 200 yX11_worked ∈ gT := gw7 (i := 204) rfl rfl
theorem wcod_X11_worked : Cond.code yX11_worked cX11_worked 5 (some .int) ∈ gT := gw7 (i := 206) rfl rfl
theorem wnm_X11_worked : gNm yX11_worked 3 = true := by decide +kernel
theorem wst_X11_worked : Cond.static yX11_worked ∈ gT := gw7 (i := 205) rfl rfl
theorem cs_RX11_200 : gCS RX11 200 yX11_worked cX11_worked 5 (some .int) 3 := ⟨wml_RX11_200, wst_X11_worked, wini_RX11, wcod_X11_worked, wnm_X11_worked⟩
theorem wml_RX11_208 : Cond.methodLink RX11 208 yX11_in ∈ gT := gw7 (i := 13) rfl rfl
theorem wcod_X11_in : Cond.code yX11_in cX11_in 3 (some .boolean) ∈ gT := gw7 (i := 15) rfl rfl
theorem wnm_X11_in : gNm yX11_in 3 = true := by decide +kernel
theorem wst_X11_in : Cond.static yX11_in ∈ gT := gw7 (i := 14) rfl rfl
theorem cs_RX11_208 : gCS RX11 208 yX11_in cX11_in 3 (some .boolean) 3 := ⟨wml_RX11_208, wst_X11_in, wini_RX11, wcod_X11_in, wnm_X11_in⟩
theorem wml_RX11_212 : Cond.methodLink RX11 212 yX11_usual ∈ gT := gw6 (i := 211) rfl rfl
theorem wcod_X11_usual : Cond.code yX11_usual cX11_usual 2 (some .int) ∈ gT := gw6 (i := 213) rfl rfl
theorem wnm_X11_usual : gNm yX11_usual 2 = true := by decide +kernel
theorem wst_X11_usual : Cond.static yX11_usual ∈ gT := gw6 (i := 212) rfl rfl
theorem cs_RX11_212 : gCS RX11 212 yX11_usual cX11_usual 2 (some .int) 2 := ⟨wml_RX11_212, wst_X11_usual, wini_RX11, wcod_X11_usual, wnm_X11_usual⟩
theorem wml_RX11_216 : Cond.methodLink RX11 216 yX11_itemOf ∈ gT := gw6 (i := 230) rfl rfl
theorem wcod_X11_itemOf : Cond.code yX11_itemOf cX11_itemOf 2 (some .int) ∈ gT := gw6 (i := 232) rfl rfl
theorem wnm_X11_itemOf : gNm yX11_itemOf 2 = true := by decide +kernel
theorem wst_X11_itemOf : Cond.static yX11_itemOf ∈ gT := gw6 (i := 231) rfl rfl
theorem cs_RX11_216 : gCS RX11 216 yX11_itemOf cX11_itemOf 2 (some .int) 2 := ⟨wml_RX11_216, wst_X11_itemOf, wini_RX11, wcod_X11_itemOf, wnm_X11_itemOf⟩
theorem wml_RX11_219 : Cond.methodLink RX11 219 yX11_has ∈ gT := gw6 (i := 233) rfl rfl
theorem wcod_X11_has : Cond.code yX11_has cX11_has 2 (some .boolean) ∈ gT := gw6 (i := 235) rfl rfl
theorem wnm_X11_has : gNm yX11_has 2 = true := by decide +kernel
theorem wst_X11_has : Cond.static yX11_has ∈ gT := gw6 (i := 234) rfl rfl
theorem cs_RX11_219 : gCS RX11 219 yX11_has cX11_has 2 (some .boolean) 2 := ⟨wml_RX11_219, wst_X11_has, wini_RX11, wcod_X11_has, wnm_X11_has⟩
theorem wml_RX11_223 : Cond.methodLink RX11 223 yX11_lowest ∈ gT := gw6 (i := 236) rfl rfl
theorem wcod_X11_lowest : Cond.code yX11_lowest cX11_lowest 2 (some .int) ∈ gT := gw6 (i := 238) rfl rfl
theorem wnm_X11_lowest : gNm yX11_lowest 2 = true := by decide +kernel
theorem wst_X11_lowest : Cond.static yX11_lowest ∈ gT := gw6 (i := 237) rfl rfl
theorem cs_RX11_223 : gCS RX11 223 yX11_lowest cX11_lowest 2 (some .int) 2 := ⟨wml_RX11_223, wst_X11_lowest, wini_RX11, wcod_X11_lowest, wnm_X11_lowest⟩
theorem wml_RX11_226 : Cond.methodLink RX11 226 yX11_highest ∈ gT := gw6 (i := 239) rfl rfl
theorem wcod_X11_highest : Cond.code yX11_highest cX11_highest 2 (some .int) ∈ gT := gw7 (i := 1) rfl rfl
theorem wnm_X11_highest : gNm yX11_highest 2 = true := by decide +kernel
theorem wst_X11_highest : Cond.static yX11_highest ∈ gT := gw7 (i := 0) rfl rfl
theorem cs_RX11_226 : gCS RX11 226 yX11_highest cX11_highest 2 (some .int) 2 := ⟨wml_RX11_226, wst_X11_highest, wini_RX11, wcod_X11_highest, wnm_X11_highest⟩
theorem wml_RX11_289 : Cond.methodLink RX11 289 yJ6_bitCount_0f7a4 ∈ gT := gw7 (i := 118) rfl rfl
theorem cs_RX11_289 : gCS RX11 289 yJ6_bitCount_0f7a4 cJ6_bitCount_0f7a4 1 (some .int) 1 := ⟨wml_RX11_289, wst_J6_bitCount_0f7a4, wini_RJ6, wcod_J6_bitCount_0f7a4, wnm_J6_bitCount_0f7a4⟩
theorem wml_RX11_338 : Cond.methodLink RX11 338 yX11_isPower ∈ gT := gw7 (i := 173) rfl rfl
theorem wcod_X11_isPower : Cond.code yX11_isPower cX11_isPower 1 (some .boolean) ∈ gT := gw7 (i := 175) rfl rfl
theorem wnm_X11_isPower : gNm yX11_isPower 1 = true := by decide +kernel
theorem wst_X11_isPower : Cond.static yX11_isPower ∈ gT := gw7 (i := 174) rfl rfl
theorem cs_RX11_338 : gCS RX11 338 yX11_isPower cX11_isPower 1 (some .boolean) 1 := ⟨wml_RX11_338, wst_X11_isPower, wini_RX11, wcod_X11_isPower, wnm_X11_isPower⟩
theorem wml_RX11_401 : Cond.methodLink RX11 401 yX11_isPlace ∈ gT := gw8 (i := 82) rfl rfl
theorem wcod_X11_isPlace : Cond.code yX11_isPlace cX11_isPlace 1 (some .boolean) ∈ gT := gw8 (i := 84) rfl rfl
theorem wnm_X11_isPlace : gNm yX11_isPlace 1 = true := by decide +kernel
theorem wst_X11_isPlace : Cond.static yX11_isPlace ∈ gT := gw8 (i := 83) rfl rfl
theorem cs_RX11_401 : gCS RX11 401 yX11_isPlace cX11_isPlace 1 (some .boolean) 1 := ⟨wml_RX11_401, wst_X11_isPlace, wini_RX11, wcod_X11_isPlace, wnm_X11_isPlace⟩
theorem wml_RX11_404 : Cond.methodLink RX11 404 yX11_isKind ∈ gT := gw8 (i := 89) rfl rfl
theorem wcod_X11_isKind : Cond.code yX11_isKind cX11_isKind 1 (some .boolean) ∈ gT := gw8 (i := 91) rfl rfl
theorem wnm_X11_isKind : gNm yX11_isKind 1 = true := by decide +kernel
theorem wst_X11_isKind : Cond.static yX11_isKind ∈ gT := gw8 (i := 90) rfl rfl
theorem cs_RX11_404 : gCS RX11 404 yX11_isKind cX11_isKind 1 (some .boolean) 1 := ⟨wml_RX11_404, wst_X11_isKind, wini_RX11, wcod_X11_isKind, wnm_X11_isKind⟩
theorem wml_RX11_448 : Cond.methodLink RX11 448 yX11_partBy ∈ gT := gw8 (i := 170) rfl rfl
theorem wcod_X11_partBy : Cond.code yX11_partBy cX11_partBy 4 (some .int) ∈ gT := gw8 (i := 172) rfl rfl
theorem wnm_X11_partBy : gNm yX11_partBy 3 = true := by decide +kernel
theorem wst_X11_partBy : Cond.static yX11_partBy ∈ gT := gw8 (i := 171) rfl rfl
theorem cs_RX11_448 : gCS RX11 448 yX11_partBy cX11_partBy 4 (some .int) 3 := ⟨wml_RX11_448, wst_X11_partBy, wini_RX11, wcod_X11_partBy, wnm_X11_partBy⟩
theorem wml_RX11_451 : Cond.methodLink RX11 451 yX11_cellBy ∈ gT := gw8 (i := 174) rfl rfl
theorem wcod_X11_cellBy : Cond.code yX11_cellBy cX11_cellBy 2 (some .int) ∈ gT := gw8 (i := 176) rfl rfl
theorem wnm_X11_cellBy : gNm yX11_cellBy 2 = true := by decide +kernel
theorem wst_X11_cellBy : Cond.static yX11_cellBy ∈ gT := gw8 (i := 175) rfl rfl
theorem cs_RX11_451 : gCS RX11 451 yX11_cellBy cX11_cellBy 2 (some .int) 2 := ⟨wml_RX11_451, wst_X11_cellBy, wini_RX11, wcod_X11_cellBy, wnm_X11_cellBy⟩
theorem wml_RX2_43 : Cond.methodLink RX2 43 yX2_isComparison ∈ gT := gw2 (i := 231) rfl rfl
theorem wcod_X2_isComparison : Cond.code yX2_isComparison cX2_isComparison 1 (some .boolean) ∈ gT := gw2 (i := 233) rfl rfl
theorem wnm_X2_isComparison : gNm yX2_isComparison 1 = true := by decide +kernel
theorem wst_X2_isComparison : Cond.static yX2_isComparison ∈ gT := gw2 (i := 232) rfl rfl
theorem cs_RX2_43 : gCS RX2 43 yX2_isComparison cX2_isComparison 1 (some .boolean) 1 := ⟨wml_RX2_43, wst_X2_isComparison, wini_RX2, wcod_X2_isComparison, wnm_X2_isComparison⟩
theorem wml_RX3_38 : Cond.methodLink RX3 38 yX3_letterOf ∈ gT := gw4 (i := 15) rfl rfl
theorem wcod_X3_letterOf : Cond.code yX3_letterOf cX3_letterOf 2 (some .int) ∈ gT := gw4 (i := 17) rfl rfl
theorem wnm_X3_letterOf : gNm yX3_letterOf 2 = true := by decide +kernel
theorem wst_X3_letterOf : Cond.static yX3_letterOf ∈ gT := gw4 (i := 16) rfl rfl
theorem cs_RX3_38 : gCS RX3 38 yX3_letterOf cX3_letterOf 2 (some .int) 2 := ⟨wml_RX3_38, wst_X3_letterOf, wini_RX3, wcod_X3_letterOf, wnm_X3_letterOf⟩
theorem wml_RX3_42 : Cond.methodLink RX3 42 yX3_joined ∈ gT := gw4 (i := 19) rfl rfl
theorem wcod_X3_joined : Cond.code yX3_joined cX3_joined 3 (some .int) ∈ gT := gw4 (i := 21) rfl rfl
theorem wnm_X3_joined : gNm yX3_joined 3 = true := by decide +kernel
theorem wst_X3_joined : Cond.static yX3_joined ∈ gT := gw4 (i := 20) rfl rfl
theorem cs_RX3_42 : gCS RX3 42 yX3_joined cX3_joined 3 (some .int) 3 := ⟨wml_RX3_42, wst_X3_joined, wini_RX3, wcod_X3_joined, wnm_X3_joined⟩
theorem wml_RX3_46 : Cond.methodLink RX3 46 yX3_held ∈ gT := gw4 (i := 22) rfl rfl
theorem wcod_X3_held : Cond.code yX3_held cX3_held 2 (some .int) ∈ gT := gw4 (i := 24) rfl rfl
theorem wnm_X3_held : gNm yX3_held 1 = true := by decide +kernel
theorem wst_X3_held : Cond.static yX3_held ∈ gT := gw4 (i := 23) rfl rfl
theorem cs_RX3_46 : gCS RX3 46 yX3_held cX3_held 2 (some .int) 1 := ⟨wml_RX3_46, wst_X3_held, wini_RX3, wcod_X3_held, wnm_X3_held⟩
theorem wml_RX6_23 : Cond.methodLink RX6 23 yJ7_fill_53178 ∈ gT := gw3 (i := 141) rfl rfl
theorem cs_RX6_23 : gCS RX6 23 yJ7_fill_53178 cJ7_fill_53178 4 none 2 := ⟨wml_RX6_23, wst_J7_fill_53178, wini_RJ7, wcod_J7_fill_53178, wnm_J7_fill_53178⟩
theorem wml_RX6_111 : Cond.methodLink RX6 111 yJ6_bitCount_0f7a4 ∈ gT := gw5 (i := 14) rfl rfl
theorem cs_RX6_111 : gCS RX6 111 yJ6_bitCount_0f7a4 cJ6_bitCount_0f7a4 1 (some .int) 1 := ⟨wml_RX6_111, wst_J6_bitCount_0f7a4, wini_RJ6, wcod_J6_bitCount_0f7a4, wnm_J6_bitCount_0f7a4⟩
theorem wml_RX8_21 : Cond.methodLink RX8 21 yJ7_fill_53178 ∈ gT := gw2 (i := 106) rfl rfl
theorem cs_RX8_21 : gCS RX8 21 yJ7_fill_53178 cJ7_fill_53178 4 none 2 := ⟨wml_RX8_21, wst_J7_fill_53178, wini_RJ7, wcod_J7_fill_53178, wnm_J7_fill_53178⟩
theorem wml_RX9_45 : Cond.methodLink RX9 45 yX9_sortOf ∈ gT := gw2 (i := 129) rfl rfl
theorem wcod_X9_sortOf : Cond.code yX9_sortOf cX9_sortOf 2 (some .int) ∈ gT := gw2 (i := 131) rfl rfl
theorem wnm_X9_sortOf : gNm yX9_sortOf 1 = true := by decide +kernel
theorem wst_X9_sortOf : Cond.static yX9_sortOf ∈ gT := gw2 (i := 130) rfl rfl
theorem cs_RX9_45 : gCS RX9 45 yX9_sortOf cX9_sortOf 2 (some .int) 1 := ⟨wml_RX9_45, wst_X9_sortOf, wini_RX9, wcod_X9_sortOf, wnm_X9_sortOf⟩
theorem wml_RX9_55 : Cond.methodLink RX9 55 yX9_itemOf ∈ gT := gw2 (i := 143) rfl rfl
theorem wcod_X9_itemOf : Cond.code yX9_itemOf cX9_itemOf 3 (some .int) ∈ gT := gw2 (i := 145) rfl rfl
theorem wnm_X9_itemOf : gNm yX9_itemOf 2 = true := by decide +kernel
theorem wst_X9_itemOf : Cond.static yX9_itemOf ∈ gT := gw2 (i := 144) rfl rfl
theorem cs_RX9_55 : gCS RX9 55 yX9_itemOf cX9_itemOf 3 (some .int) 2 := ⟨wml_RX9_55, wst_X9_itemOf, wini_RX9, wcod_X9_itemOf, wnm_X9_itemOf⟩
