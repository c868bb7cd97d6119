theorem in_X0 : ∀ w ∈ u_ws RX0 TX0 10, w ∈ gT := by decide +kernel
theorem in_X1 : ∀ w ∈ u_ws RX1 TX1 8, w ∈ gT := by decide +kernel
theorem in_X2 : ∀ w ∈ u_ws RX2 TX2 3, w ∈ gT := by decide +kernel
theorem in_X3 : ∀ w ∈ u_ws RX3 TX3 5, w ∈ gT := by decide +kernel
theorem in_X4 : ∀ w ∈ u_ws RX4 TX4 6, w ∈ gT := by decide +kernel
theorem in_X5 : ∀ w ∈ u_ws RX5 TX5 8, w ∈ gT := by decide +kernel
theorem in_X6 : ∀ w ∈ u_ws RX6 TX6 5, w ∈ gT := by decide +kernel
theorem in_X7 : ∀ w ∈ u_ws RX7 TX7 3, w ∈ gT := by decide +kernel
theorem in_X8 : ∀ w ∈ u_ws RX8 TX8 2, w ∈ gT := by decide +kernel
theorem in_X9 : ∀ w ∈ u_ws RX9 TX9 2, w ∈ gT := by decide +kernel
theorem in_X10 : ∀ w ∈ u_ws RX10 TX10 13, w ∈ gT := by decide +kernel
theorem in_X11 : ∀ w ∈ u_ws RX11 TX11 47, w ∈ gT := by decide +kernel
theorem kb_m2 : (Int8.ofInt (-2)).toInt32 = (-2 : Int32) := by decide
theorem kb_6 : (Int8.ofInt (6)).toInt32 = (6 : Int32) := by decide
theorem kb_7 : (Int8.ofInt (7)).toInt32 = (7 : Int32) := by decide
theorem kb_8 : (Int8.ofInt (8)).toInt32 = (8 : Int32) := by decide
theorem kb_9 : (Int8.ofInt (9)).toInt32 = (9 : Int32) := by decide
theorem kb_10 : (Int8.ofInt (10)).toInt32 = (10 : Int32) := by decide
theorem kb_11 : (Int8.ofInt (11)).toInt32 = (11 : Int32) := by decide
theorem kb_12 : (Int8.ofInt (12)).toInt32 = (12 : Int32) := by decide
theorem kb_16 : (Int8.ofInt (16)).toInt32 = (16 : Int32) := by decide
theorem kb_18 : (Int8.ofInt (18)).toInt32 = (18 : Int32) := by decide
theorem kb_20 : (Int8.ofInt (20)).toInt32 = (20 : Int32) := by decide
theorem kb_24 : (Int8.ofInt (24)).toInt32 = (24 : Int32) := by decide
theorem kb_30 : (Int8.ofInt (30)).toInt32 = (30 : Int32) := by decide
theorem kb_32 : (Int8.ofInt (32)).toInt32 = (32 : Int32) := by decide
theorem kb_33 : (Int8.ofInt (33)).toInt32 = (33 : Int32) := by decide
theorem kb_38 : (Int8.ofInt (38)).toInt32 = (38 : Int32) := by decide
theorem kb_40 : (Int8.ofInt (40)).toInt32 = (40 : Int32) := by decide
theorem kb_41 : (Int8.ofInt (41)).toInt32 = (41 : Int32) := by decide
theorem kb_42 : (Int8.ofInt (42)).toInt32 = (42 : Int32) := by decide
theorem kb_43 : (Int8.ofInt (43)).toInt32 = (43 : Int32) := by decide
theorem kb_45 : (Int8.ofInt (45)).toInt32 = (45 : Int32) := by decide
theorem kb_47 : (Int8.ofInt (47)).toInt32 = (47 : Int32) := by decide
theorem kb_48 : (Int8.ofInt (48)).toInt32 = (48 : Int32) := by decide
theorem kb_57 : (Int8.ofInt (57)).toInt32 = (57 : Int32) := by decide
theorem kb_58 : (Int8.ofInt (58)).toInt32 = (58 : Int32) := by decide
theorem kb_59 : (Int8.ofInt (59)).toInt32 = (59 : Int32) := by decide
theorem kb_60 : (Int8.ofInt (60)).toInt32 = (60 : Int32) := by decide
theorem kb_61 : (Int8.ofInt (61)).toInt32 = (61 : Int32) := by decide
theorem kb_62 : (Int8.ofInt (62)).toInt32 = (62 : Int32) := by decide
theorem kb_63 : (Int8.ofInt (63)).toInt32 = (63 : Int32) := by decide
theorem kb_91 : (Int8.ofInt (91)).toInt32 = (91 : Int32) := by decide
theorem kb_93 : (Int8.ofInt (93)).toInt32 = (93 : Int32) := by decide
theorem kb_99 : (Int8.ofInt (99)).toInt32 = (99 : Int32) := by decide
theorem kb_100 : (Int8.ofInt (100)).toInt32 = (100 : Int32) := by decide
theorem kb_104 : (Int8.ofInt (104)).toInt32 = (104 : Int32) := by decide
theorem kb_107 : (Int8.ofInt (107)).toInt32 = (107 : Int32) := by decide
theorem kb_108 : (Int8.ofInt (108)).toInt32 = (108 : Int32) := by decide
theorem kb_110 : (Int8.ofInt (110)).toInt32 = (110 : Int32) := by decide
theorem kb_111 : (Int8.ofInt (111)).toInt32 = (111 : Int32) := by decide
theorem kb_112 : (Int8.ofInt (112)).toInt32 = (112 : Int32) := by decide
theorem kb_114 : (Int8.ofInt (114)).toInt32 = (114 : Int32) := by decide
theorem kb_115 : (Int8.ofInt (115)).toInt32 = (115 : Int32) := by decide
theorem kb_119 : (Int8.ofInt (119)).toInt32 = (119 : Int32) := by decide
theorem kb_120 : (Int8.ofInt (120)).toInt32 = (120 : Int32) := by decide
theorem kb_121 : (Int8.ofInt (121)).toInt32 = (121 : Int32) := by decide
theorem kb_124 : (Int8.ofInt (124)).toInt32 = (124 : Int32) := by decide
theorem kb_127 : (Int8.ofInt (127)).toInt32 = (127 : Int32) := by decide
theorem ki_m8 : Int32.ofInt (-8) = (-8 : Int32) := by decide
theorem ki_m1 : Int32.ofInt (-1) = (-1 : Int32) := by decide
theorem ki_0 : Int32.ofInt (0) = (0 : Int32) := by decide
theorem ki_1 : Int32.ofInt (1) = (1 : Int32) := by decide
theorem ki_2 : Int32.ofInt (2) = (2 : Int32) := by decide
theorem ki_3 : Int32.ofInt (3) = (3 : Int32) := by decide
theorem ki_4 : Int32.ofInt (4) = (4 : Int32) := by decide
theorem ki_5 : Int32.ofInt (5) = (5 : Int32) := by decide
theorem ks_131 : (Int16.ofInt (131)).toInt32 = (131 : Int32) := by decide
theorem ks_140 : (Int16.ofInt (140)).toInt32 = (140 : Int32) := by decide
theorem ks_240 : (Int16.ofInt (240)).toInt32 = (240 : Int32) := by decide
theorem ks_255 : (Int16.ofInt (255)).toInt32 = (255 : Int32) := by decide
theorem ks_520 : (Int16.ofInt (520)).toInt32 = (520 : Int32) := by decide
theorem ks_999 : (Int16.ofInt (999)).toInt32 = (999 : Int32) := by decide
theorem ks_5240 : (Int16.ofInt (5240)).toInt32 = (5240 : Int32) := by decide
theorem ks_9999 : (Int16.ofInt (9999)).toInt32 = (9999 : Int32) := by decide
theorem ks_10000 : (Int16.ofInt (10000)).toInt32 = (10000 : Int32) := by decide
theorem ks_20000 : (Int16.ofInt (20000)).toInt32 = (20000 : Int32) := by decide
theorem ks_20033 : (Int16.ofInt (20033)).toInt32 = (20033 : Int32) := by decide
theorem ks_20038 : (Int16.ofInt (20038)).toInt32 = (20038 : Int32) := by decide
theorem ks_20124 : (Int16.ofInt (20124)).toInt32 = (20124 : Int32) := by decide
theorem ks_30000 : (Int16.ofInt (30000)).toInt32 = (30000 : Int32) := by decide
theorem fl_RX0_9 : Cond.fieldLink RX0 9 "WeatherMarbles$Clues" "places" "[I" ∈ gT := by decide +kernel
theorem fl_RX0_15 : Cond.fieldLink RX0 15 "WeatherMarbles$Clues" "kinds" "[I" ∈ gT := by decide +kernel
theorem fl_RX0_18 : Cond.fieldLink RX0 18 "WeatherMarbles$Clues" "holds" "[Z" ∈ gT := by decide +kernel
theorem fl_RX0_22 : Cond.fieldLink RX0 22 "WeatherMarbles$Clues" "fitting" "[I" ∈ gT := by decide +kernel
theorem fl_RX0_25 : Cond.fieldLink RX0 25 "WeatherMarbles$Clues" "tally" "[I" ∈ gT := by decide +kernel
theorem fl_RX0_28 : Cond.fieldLink RX0 28 "WeatherMarbles$Clues" "yard" "LWeatherMarbles$Yard;" ∈ gT := by decide +kernel
theorem fl_RX0_32 : Cond.fieldLink RX0 32 "WeatherMarbles$Clues" "now" "LWeatherMarbles$Now;" ∈ gT := by decide +kernel
theorem fl_RX0_36 : Cond.fieldLink RX0 36 "WeatherMarbles$Clues" "sky" "LWeatherMarbles$Sky;" ∈ gT := by decide +kernel
theorem fl_RX0_40 : Cond.fieldLink RX0 40 "WeatherMarbles$Clues" "size" "I" ∈ gT := by decide +kernel
theorem fl_RX0_50 : Cond.fieldLink RX0 50 "WeatherMarbles$Clues" "found" "I" ∈ gT := by decide +kernel
theorem fl_RX1_13 : Cond.fieldLink RX1 13 "WeatherMarbles$Lane" "letters" "[I" ∈ gT := by decide +kernel
theorem fl_RX1_18 : Cond.fieldLink RX1 18 "WeatherMarbles$Lane" "firstCells" "[I" ∈ gT := by decide +kernel
theorem fl_RX1_21 : Cond.fieldLink RX1 21 "WeatherMarbles$Lane" "secondCells" "[I" ∈ gT := by decide +kernel
theorem fl_RX1_24 : Cond.fieldLink RX1 24 "WeatherMarbles$Lane" "firstBest" "[I" ∈ gT := by decide +kernel
theorem fl_RX1_27 : Cond.fieldLink RX1 27 "WeatherMarbles$Lane" "secondBest" "[I" ∈ gT := by decide +kernel
theorem fl_RX1_30 : Cond.fieldLink RX1 30 "WeatherMarbles$Lane" "yard" "LWeatherMarbles$Yard;" ∈ gT := by decide +kernel
theorem fl_RX1_34 : Cond.fieldLink RX1 34 "WeatherMarbles$Lane" "now" "LWeatherMarbles$Now;" ∈ gT := by decide +kernel
theorem fl_RX1_38 : Cond.fieldLink RX1 38 "WeatherMarbles$Lane" "laws" "LWeatherMarbles$Laws;" ∈ gT := by decide +kernel
theorem fl_RX1_83 : Cond.fieldLink RX1 83 "WeatherMarbles$Now" "day" "I" ∈ gT := by decide +kernel
theorem fl_RX10_10 : Cond.fieldLink RX10 10 "WeatherMarbles" "tape" "LWeatherMarbles$Tape;" ∈ gT := by decide +kernel
theorem fl_RX10_21 : Cond.fieldLink RX10 21 "WeatherMarbles" "yardReader" "LWeatherMarbles$YardReader;" ∈ gT := by decide +kernel
theorem fl_RX10_28 : Cond.fieldLink RX10 28 "WeatherMarbles" "lawReader" "LWeatherMarbles$LawReader;" ∈ gT := by decide +kernel
theorem fl_RX10_35 : Cond.fieldLink RX10 35 "WeatherMarbles" "laws" "LWeatherMarbles$Laws;" ∈ gT := by decide +kernel
theorem fl_RX10_42 : Cond.fieldLink RX10 42 "WeatherMarbles" "yard" "LWeatherMarbles$Yard;" ∈ gT := by decide +kernel
theorem fl_RX10_49 : Cond.fieldLink RX10 49 "WeatherMarbles" "now" "LWeatherMarbles$Now;" ∈ gT := by decide +kernel
theorem fl_RX10_58 : Cond.fieldLink RX10 58 "WeatherMarbles" "past" "LWeatherMarbles$Past;" ∈ gT := by decide +kernel
theorem fl_RX10_67 : Cond.fieldLink RX10 67 "WeatherMarbles" "sky" "LWeatherMarbles$Sky;" ∈ gT := by decide +kernel
theorem fl_RX10_76 : Cond.fieldLink RX10 76 "WeatherMarbles" "clues" "LWeatherMarbles$Clues;" ∈ gT := by decide +kernel
theorem fl_RX10_85 : Cond.fieldLink RX10 85 "WeatherMarbles" "lane" "LWeatherMarbles$Lane;" ∈ gT := by decide +kernel
theorem fl_RX10_89 : Cond.fieldLink RX10 89 "WeatherMarbles" "refusals" "[I" ∈ gT := by decide +kernel
theorem fl_RX10_148 : Cond.fieldLink RX10 148 "WeatherMarbles$Now" "sweets" "I" ∈ gT := by decide +kernel
theorem fl_RX10_236 : Cond.fieldLink RX10 236 "WeatherMarbles$Now" "chipped" "I" ∈ gT := by decide +kernel
theorem fl_RX10_239 : Cond.fieldLink RX10 239 "WeatherMarbles$Now" "swallowed" "I" ∈ gT := by decide +kernel
theorem fl_RX10_242 : Cond.fieldLink RX10 242 "WeatherMarbles$Now" "day" "I" ∈ gT := by decide +kernel
theorem fl_RX10_248 : Cond.fieldLink RX10 248 "WeatherMarbles" "spillsNow" "I" ∈ gT := by decide +kernel
theorem fl_RX10_251 : Cond.fieldLink RX10 251 "WeatherMarbles" "drawn" "J" ∈ gT := by decide +kernel
theorem fl_RX11_9 : Cond.fieldLink RX11 9 "WeatherMarblesModel" "tape" "[I" ∈ gT := by decide +kernel
theorem fl_RX11_13 : Cond.fieldLink RX11 13 "WeatherMarblesModel" "code" "[I" ∈ gT := by decide +kernel
theorem fl_RX11_16 : Cond.fieldLink RX11 16 "WeatherMarblesModel" "value" "[I" ∈ gT := by decide +kernel
theorem fl_RX11_19 : Cond.fieldLink RX11 19 "WeatherMarblesModel" "codes" "[I" ∈ gT := by decide +kernel
theorem fl_RX11_22 : Cond.fieldLink RX11 22 "WeatherMarblesModel" "clauses" "[I" ∈ gT := by decide +kernel
theorem fl_RX11_25 : Cond.fieldLink RX11 25 "WeatherMarblesModel" "testFrom" "[I" ∈ gT := by decide +kernel
theorem fl_RX11_28 : Cond.fieldLink RX11 28 "WeatherMarblesModel" "sumFrom" "[I" ∈ gT := by decide +kernel
theorem fl_RX11_31 : Cond.fieldLink RX11 31 "WeatherMarblesModel" "sumTo" "[I" ∈ gT := by decide +kernel
theorem fl_RX11_34 : Cond.fieldLink RX11 34 "WeatherMarblesModel" "letters" "[I" ∈ gT := by decide +kernel
theorem fl_RX11_37 : Cond.fieldLink RX11 37 "WeatherMarblesModel" "stack" "[I" ∈ gT := by decide +kernel
theorem fl_RX11_40 : Cond.fieldLink RX11 40 "WeatherMarblesModel" "readRule" "[I" ∈ gT := by decide +kernel
theorem fl_RX11_43 : Cond.fieldLink RX11 43 "WeatherMarblesModel" "readBoy" "[I" ∈ gT := by decide +kernel
theorem fl_RX11_46 : Cond.fieldLink RX11 46 "WeatherMarblesModel" "readMarble" "[I" ∈ gT := by decide +kernel
theorem fl_RX11_49 : Cond.fieldLink RX11 49 "WeatherMarblesModel" "readFarm" "[I" ∈ gT := by decide +kernel
theorem fl_RX11_52 : Cond.fieldLink RX11 52 "WeatherMarblesModel" "rule" "[I" ∈ gT := by decide +kernel
theorem fl_RX11_55 : Cond.fieldLink RX11 55 "WeatherMarblesModel" "boy" "[I" ∈ gT := by decide +kernel
theorem fl_RX11_58 : Cond.fieldLink RX11 58 "WeatherMarblesModel" "marble" "[I" ∈ gT := by decide +kernel
theorem fl_RX11_61 : Cond.fieldLink RX11 61 "WeatherMarblesModel" "farm" "[I" ∈ gT := by decide +kernel
theorem fl_RX11_64 : Cond.fieldLink RX11 64 "WeatherMarblesModel" "now" "[I" ∈ gT := by decide +kernel
theorem fl_RX11_67 : Cond.fieldLink RX11 67 "WeatherMarblesModel" "refused" "[I" ∈ gT := by decide +kernel
theorem fl_RX11_70 : Cond.fieldLink RX11 70 "WeatherMarblesModel" "holding" "I" ∈ gT := by decide +kernel
theorem fl_RX11_74 : Cond.fieldLink RX11 74 "WeatherMarblesModel" "kept" "[I" ∈ gT := by decide +kernel
theorem fl_RX11_77 : Cond.fieldLink RX11 77 "WeatherMarblesModel" "notePlace" "[I" ∈ gT := by decide +kernel
theorem fl_RX11_80 : Cond.fieldLink RX11 80 "WeatherMarblesModel" "noteKind" "[I" ∈ gT := by decide +kernel
theorem fl_RX11_83 : Cond.fieldLink RX11 83 "WeatherMarblesModel" "noteIs" "[Z" ∈ gT := by decide +kernel
theorem fl_RX11_87 : Cond.fieldLink RX11 87 "WeatherMarblesModel" "toldBy" "[I" ∈ gT := by decide +kernel
theorem fl_RX11_90 : Cond.fieldLink RX11 90 "WeatherMarblesModel" "image" "[I" ∈ gT := by decide +kernel
theorem fl_RX11_93 : Cond.fieldLink RX11 93 "WeatherMarblesModel" "thrown" "I" ∈ gT := by decide +kernel
theorem fl_RX11_100 : Cond.fieldLink RX11 100 "WeatherMarblesModel" "size" "I" ∈ gT := by decide +kernel
theorem fl_RX11_103 : Cond.fieldLink RX11 103 "WeatherMarblesModel" "at" "I" ∈ gT := by decide +kernel
theorem fl_RX11_110 : Cond.fieldLink RX11 110 "WeatherMarblesModel" "wrong" "I" ∈ gT := by decide +kernel
theorem fl_RX11_113 : Cond.fieldLink RX11 113 "WeatherMarblesModel" "text" "I" ∈ gT := by decide +kernel
theorem fl_RX11_116 : Cond.fieldLink RX11 116 "WeatherMarblesModel" "deep" "I" ∈ gT := by decide +kernel
theorem fl_RX11_236 : Cond.fieldLink RX11 236 "WeatherMarblesModel" "readBoys" "I" ∈ gT := by decide +kernel
theorem fl_RX11_239 : Cond.fieldLink RX11 239 "WeatherMarblesModel" "readMarbles" "I" ∈ gT := by decide +kernel
theorem fl_RX11_242 : Cond.fieldLink RX11 242 "WeatherMarblesModel" "readFarms" "I" ∈ gT := by decide +kernel
theorem fl_RX11_258 : Cond.fieldLink RX11 258 "WeatherMarblesModel" "boys" "I" ∈ gT := by decide +kernel
theorem fl_RX11_261 : Cond.fieldLink RX11 261 "WeatherMarblesModel" "marbles" "I" ∈ gT := by decide +kernel
theorem fl_RX11_264 : Cond.fieldLink RX11 264 "WeatherMarblesModel" "farms" "I" ∈ gT := by decide +kernel
theorem fl_RX11_270 : Cond.fieldLink RX11 270 "WeatherMarblesModel" "noted" "I" ∈ gT := by decide +kernel
theorem fl_RX11_273 : Cond.fieldLink RX11 273 "WeatherMarblesModel" "acts" "I" ∈ gT := by decide +kernel
theorem fl_RX11_276 : Cond.fieldLink RX11 276 "WeatherMarblesModel" "hasImage" "Z" ∈ gT := by decide +kernel
theorem fl_RX11_283 : Cond.fieldLink RX11 283 "WeatherMarblesModel" "laws" "I" ∈ gT := by decide +kernel
theorem fl_RX11_381 : Cond.fieldLink RX11 381 "WeatherMarblesModel" "spills" "I" ∈ gT := by decide +kernel
theorem fl_RX11_384 : Cond.fieldLink RX11 384 "WeatherMarblesModel" "draws" "J" ∈ gT := by decide +kernel
theorem fl_RX11_407 : Cond.fieldLink RX11 407 "WeatherMarblesModel" "bestRow" "I" ∈ gT := by decide +kernel
theorem fl_RX11_410 : Cond.fieldLink RX11 410 "WeatherMarblesModel" "bestMany" "I" ∈ gT := by decide +kernel
theorem fl_RX2_9 : Cond.fieldLink RX2 9 "WeatherMarbles$LawReader" "code" "[I" ∈ gT := by decide +kernel
theorem fl_RX2_15 : Cond.fieldLink RX2 15 "WeatherMarbles$LawReader" "tape" "LWeatherMarbles$Tape;" ∈ gT := by decide +kernel
theorem fl_RX2_19 : Cond.fieldLink RX2 19 "WeatherMarbles$LawReader" "length" "I" ∈ gT := by decide +kernel
theorem fl_RX3_9 : Cond.fieldLink RX3 9 "WeatherMarbles$Laws" "codes" "[I" ∈ gT := by decide +kernel
theorem fl_RX3_15 : Cond.fieldLink RX3 15 "WeatherMarbles$Laws" "lengths" "[I" ∈ gT := by decide +kernel
theorem fl_RX3_18 : Cond.fieldLink RX3 18 "WeatherMarbles$Laws" "chosen" "I" ∈ gT := by decide +kernel
theorem fl_RX3_22 : Cond.fieldLink RX3 22 "WeatherMarbles$Laws" "stack" "[I" ∈ gT := by decide +kernel
theorem fl_RX3_25 : Cond.fieldLink RX3 25 "WeatherMarbles$Laws" "size" "I" ∈ gT := by decide +kernel
theorem fl_RX4_9 : Cond.fieldLink RX4 9 "WeatherMarbles$Now" "owners" "[I" ∈ gT := by decide +kernel
theorem fl_RX4_27 : Cond.fieldLink RX4 27 "WeatherMarbles$Now" "marbles" "I" ∈ gT := by decide +kernel
theorem fl_RX4_34 : Cond.fieldLink RX4 34 "WeatherMarbles$Now" "chipped" "I" ∈ gT := by decide +kernel
theorem fl_RX4_37 : Cond.fieldLink RX4 37 "WeatherMarbles$Now" "swallowed" "I" ∈ gT := by decide +kernel
theorem fl_RX4_43 : Cond.fieldLink RX4 43 "WeatherMarbles$Now" "sweets" "I" ∈ gT := by decide +kernel
theorem fl_RX4_46 : Cond.fieldLink RX4 46 "WeatherMarbles$Now" "day" "I" ∈ gT := by decide +kernel
theorem fl_RX5_9 : Cond.fieldLink RX5 9 "WeatherMarbles$Past" "acts" "[J" ∈ gT := by decide +kernel
theorem fl_RX5_15 : Cond.fieldLink RX5 15 "WeatherMarbles$Past" "entries" "[I" ∈ gT := by decide +kernel
theorem fl_RX5_19 : Cond.fieldLink RX5 19 "WeatherMarbles$Past" "imageEntries" "[I" ∈ gT := by decide +kernel
theorem fl_RX5_22 : Cond.fieldLink RX5 22 "WeatherMarbles$Past" "now" "LWeatherMarbles$Now;" ∈ gT := by decide +kernel
theorem fl_RX5_26 : Cond.fieldLink RX5 26 "WeatherMarbles$Past" "kept" "I" ∈ gT := by decide +kernel
theorem fl_RX5_30 : Cond.fieldLink RX5 30 "WeatherMarbles$Past" "hasImage" "Z" ∈ gT := by decide +kernel
theorem fl_RX5_34 : Cond.fieldLink RX5 34 "WeatherMarbles$Past" "next" "I" ∈ gT := by decide +kernel
theorem fl_RX5_53 : Cond.fieldLink RX5 53 "WeatherMarbles$Now" "day" "I" ∈ gT := by decide +kernel
theorem fl_RX5_60 : Cond.fieldLink RX5 60 "WeatherMarbles$Now" "sweets" "I" ∈ gT := by decide +kernel
theorem fl_RX5_63 : Cond.fieldLink RX5 63 "WeatherMarbles$Past" "image" "J" ∈ gT := by decide +kernel
theorem fl_RX6_9 : Cond.fieldLink RX6 9 "WeatherMarbles$Sky" "strengths" "[I" ∈ gT := by decide +kernel
theorem fl_RX6_15 : Cond.fieldLink RX6 15 "WeatherMarbles$Sky" "yard" "LWeatherMarbles$Yard;" ∈ gT := by decide +kernel
theorem fl_RX6_19 : Cond.fieldLink RX6 19 "WeatherMarbles$Sky" "now" "LWeatherMarbles$Now;" ∈ gT := by decide +kernel
theorem fl_RX6_81 : Cond.fieldLink RX6 81 "WeatherMarbles$Sky" "fewest" "I" ∈ gT := by decide +kernel
theorem fl_RX6_85 : Cond.fieldLink RX6 85 "WeatherMarbles$Sky" "row" "I" ∈ gT := by decide +kernel
theorem fl_RX7_9 : Cond.fieldLink RX7 9 "WeatherMarbles$Tape" "bytes" "[I" ∈ gT := by decide +kernel
theorem fl_RX7_15 : Cond.fieldLink RX7 15 "WeatherMarbles$Tape" "length" "I" ∈ gT := by decide +kernel
theorem fl_RX7_19 : Cond.fieldLink RX7 19 "WeatherMarbles$Tape" "at" "I" ∈ gT := by decide +kernel
theorem fl_RX8_9 : Cond.fieldLink RX8 9 "WeatherMarbles$Yard" "cells" "[I" ∈ gT := by decide +kernel
theorem fl_RX8_18 : Cond.fieldLink RX8 18 "WeatherMarbles$Yard" "clauses" "[I" ∈ gT := by decide +kernel
theorem fl_RX9_12 : Cond.fieldLink RX9 12 "WeatherMarbles$YardReader" "read" "LWeatherMarbles$Yard;" ∈ gT := by decide +kernel
theorem fl_RX9_18 : Cond.fieldLink RX9 18 "WeatherMarbles$YardReader" "tape" "LWeatherMarbles$Tape;" ∈ gT := by decide +kernel
theorem cst_RJ6_265 : Cond.constant RJ6 265 (1431655765) ∈ gT := by decide +kernel
theorem cst_RJ6_266 : Cond.constant RJ6 266 (858993459) ∈ gT := by decide +kernel
theorem cst_RJ6_267 : Cond.constant RJ6 267 (252645135) ∈ gT := by decide +kernel
theorem cst_RX1_134 : Cond.constant RX1 134 (1000000000) ∈ gT := by decide +kernel
theorem cst_RX10_180 : Cond.constant RX10 180 (-1000000) ∈ gT := by decide +kernel
theorem cst_RX11_331 : Cond.constant RX11 331 (-1000000) ∈ gT := by decide +kernel
theorem cst_RX11_447 : Cond.constant RX11 447 (1000000000) ∈ gT := by decide +kernel
theorem cst_RX2_54 : Cond.constant RX2 54 (40000) ∈ gT := by decide +kernel
theorem cst_RX3_41 : Cond.constant RX3 41 (40000) ∈ gT := by decide +kernel
theorem cstl_RX1_138 : Cond.constantLong RX1 138 (100) ∈ gT := by decide +kernel
theorem cstl_RX10_384 : Cond.constantLong RX10 384 (6364136223846793005) ∈ gT := by decide +kernel
theorem cstl_RX10_386 : Cond.constantLong RX10 386 (1442695040888963407) ∈ gT := by decide +kernel
theorem cstl_RX11_183 : Cond.constantLong RX11 183 (-1000000) ∈ gT := by decide +kernel
theorem cstl_RX11_185 : Cond.constantLong RX11 185 (1000000) ∈ gT := by decide +kernel
theorem cstl_RX11_388 : Cond.constantLong RX11 388 (6364136223846793005) ∈ gT := by decide +kernel
theorem cstl_RX11_390 : Cond.constantLong RX11 390 (1442695040888963407) ∈ gT := by decide +kernel
theorem cstl_RX11_445 : Cond.constantLong RX11 445 (100) ∈ gT := by decide +kernel
theorem cstl_RX3_50 : Cond.constantLong RX3 50 (-1000000) ∈ gT := by decide +kernel
theorem cstl_RX3_52 : Cond.constantLong RX3 52 (1000000) ∈ gT := by decide +kernel
theorem cstl_RX4_71 : Cond.constantLong RX4 71 (7) ∈ gT := by decide +kernel
theorem cv_RX0_44 : gCV RX0 44 RX6 yX6_strongestKind cX6_strongestKind 5 (some .int) 1 := ⟨by decide +kernel, by decide +kernel, by decide +kernel, by decide +kernel, by decide +kernel, rfl, by decide +kernel⟩
theorem cv_RX0_53 : gCV RX0 53 RX6 yX6_measure cX6_measure 2 none 0 := ⟨by decide +kernel, by decide +kernel, by decide +kernel, by decide +kernel, by decide +kernel, rfl, by decide +kernel⟩
theorem cv_RX0_56 : gCV RX0 56 RX8 yX8_marbles cX8_marbles 1 (some .int) 0 := ⟨by decide +kernel, by decide +kernel, by decide +kernel, by decide +kernel, by decide +kernel, rfl, by decide +kernel⟩
theorem cv_RX0_62 : gCV RX0 62 RX4 yX4_ownerOf cX4_ownerOf 2 (some .int) 1 := ⟨by decide +kernel, by decide +kernel, by decide +kernel, by decide +kernel, by decide +kernel, rfl, by decide +kernel⟩
theorem cv_RX0_67 : gCV RX0 67 RX8 yX8_boys cX8_boys 1 (some .int) 0 := ⟨by decide +kernel, by decide +kernel, by decide +kernel, by decide +kernel, by decide +kernel, rfl, by decide +kernel⟩
theorem cv_RX0_70 : gCV RX0 70 RX6 yX6_move cX6_move 4 none 3 := ⟨by decide +kernel, by decide +kernel, by decide +kernel, by decide +kernel, by decide +kernel, rfl, by decide +kernel⟩
theorem cv_RX0_74 : gCV RX0 74 RX0 yX0_keepIfSo cX0_keepIfSo 2 none 1 := ⟨by decide +kernel, by decide +kernel, by decide +kernel, by decide +kernel, by decide +kernel, rfl, by decide +kernel⟩
theorem cv_RX0_78 : gCV RX0 78 RX0 yX0_areAllSo cX0_areAllSo 2 (some .boolean) 0 := ⟨by decide +kernel, by decide +kernel, by decide +kernel, by decide +kernel, by decide +kernel, rfl, by decide +kernel⟩
theorem cv_RX0_82 : gCV RX0 82 RX0 yX0_search cX0_search 4 (some .int) 0 := ⟨by decide +kernel, by decide +kernel, by decide +kernel, by decide +kernel, by decide +kernel, rfl, by decide +kernel⟩
theorem cv_RX0_91 : gCV RX0 91 RX0 yX0_countTold cX0_countTold 6 none 1 := ⟨by decide +kernel, by decide +kernel, by decide +kernel, by decide +kernel, by decide +kernel, rfl, by decide +kernel⟩
theorem cv_RX1_42 : gCV RX1 42 RX8 yX8_hasMarble cX8_hasMarble 2 (some .boolean) 1 := ⟨by decide +kernel, by decide +kernel, by decide +kernel, by decide +kernel, by decide +kernel, rfl, by decide +kernel⟩
theorem cv_RX1_51 : gCV RX1 51 RX4 yX4_isFree cX4_isFree 2 (some .boolean) 1 := ⟨by decide +kernel, by decide +kernel, by decide +kernel, by decide +kernel, by decide +kernel, rfl, by decide +kernel⟩
theorem cv_RX1_56 : gCV RX1 56 RX4 yX4_ownerOf cX4_ownerOf 2 (some .int) 1 := ⟨by decide +kernel, by decide +kernel, by decide +kernel, by decide +kernel, by decide +kernel, rfl, by decide +kernel⟩
theorem cv_RX1_60 : gCV RX1 60 RX8 yX8_skill cX8_skill 2 (some .int) 1 := ⟨by decide +kernel, by decide +kernel, by decide +kernel, by decide +kernel, by decide +kernel, rfl, by decide +kernel⟩
theorem cv_RX1_63 : gCV RX1 63 RX8 yX8_size cX8_size 2 (some .int) 1 := ⟨by decide +kernel, by decide +kernel, by decide +kernel, by decide +kernel, by decide +kernel, rfl, by decide +kernel⟩
theorem cv_RX1_66 : gCV RX1 66 RX3 yX3_anyHolds cX3_anyHolds 1 (some .boolean) 0 := ⟨by decide +kernel, by decide +kernel, by decide +kernel, by decide +kernel, by decide +kernel, rfl, by decide +kernel⟩
theorem cv_RX1_72 : gCV RX1 72 RX4 yX4_isChipped cX4_isChipped 2 (some .boolean) 1 := ⟨by decide +kernel, by decide +kernel, by decide +kernel, by decide +kernel, by decide +kernel, rfl, by decide +kernel⟩
theorem cv_RX1_75 : gCV RX1 75 RX4 yX4_handOf cX4_handOf 4 (some .int) 1 := ⟨by decide +kernel, by decide +kernel, by decide +kernel, by decide +kernel, by decide +kernel, rfl, by decide +kernel⟩
theorem cv_RX1_87 : gCV RX1 87 RX3 yX3_worth cX3_worth 8 (some .int) 1 := ⟨by decide +kernel, by decide +kernel, by decide +kernel, by decide +kernel, by decide +kernel, rfl, by decide +kernel⟩
theorem cv_RX1_100 : gCV RX1 100 RX8 yX8_hole cX8_hole 1 (some .int) 0 := ⟨by decide +kernel, by decide +kernel, by decide +kernel, by decide +kernel, by decide +kernel, rfl, by decide +kernel⟩
theorem cv_RX1_104 : gCV RX1 104 RX8 yX8_behind cX8_behind 1 (some .int) 0 := ⟨by decide +kernel, by decide +kernel, by decide +kernel, by decide +kernel, by decide +kernel, rfl, by decide +kernel⟩
theorem cv_RX1_110 : gCV RX1 110 RX1 yX1_isDrain cX1_isDrain 2 (some .boolean) 1 := ⟨by decide +kernel, by decide +kernel, by decide +kernel, by decide +kernel, by decide +kernel, rfl, by decide +kernel⟩
theorem cv_RX1_113 : gCV RX1 113 RX1 yX1_distance cX1_distance 2 (some .int) 1 := ⟨by decide +kernel, by decide +kernel, by decide +kernel, by decide +kernel, by decide +kernel, rfl, by decide +kernel⟩
theorem cv_RX1_116 : gCV RX1 116 RX1 yX1_flick cX1_flick 5 (some .int) 3 := ⟨by decide +kernel, by decide +kernel, by decide +kernel, by decide +kernel, by decide +kernel, rfl, by decide +kernel⟩
theorem cv_RX1_120 : gCV RX1 120 RX1 yX1_nearerOf cX1_nearerOf 3 (some .int) 2 := ⟨by decide +kernel, by decide +kernel, by decide +kernel, by decide +kernel, by decide +kernel, rfl, by decide +kernel⟩
theorem cv_RX1_123 : gCV RX1 123 RX4 yX4_hand cX4_hand 3 none 2 := ⟨by decide +kernel, by decide +kernel, by decide +kernel, by decide +kernel, by decide +kernel, rfl, by decide +kernel⟩
theorem cv_RX1_127 : gCV RX1 127 RX1 yX1_findBestAnswers cX1_findBestAnswers 9 none 2 := ⟨by decide +kernel, by decide +kernel, by decide +kernel, by decide +kernel, by decide +kernel, rfl, by decide +kernel⟩
theorem cv_RX1_130 : gCV RX1 130 RX1 yX1_gain cX1_gain 6 (some .int) 4 := ⟨by decide +kernel, by decide +kernel, by decide +kernel, by decide +kernel, by decide +kernel, rfl, by decide +kernel⟩
theorem cv_RX10_97 : gCV RX10 97 RX7 yX7_size cX7_size 1 (some .int) 0 := ⟨by decide +kernel, by decide +kernel, by decide +kernel, by decide +kernel, by decide +kernel, rfl, by decide +kernel⟩
theorem cv_RX10_101 : gCV RX10 101 RX7 yX7_append cX7_append 4 none 1 := ⟨by decide +kernel, by decide +kernel, by decide +kernel, by decide +kernel, by decide +kernel, rfl, by decide +kernel⟩
theorem cv_RX10_105 : gCV RX10 105 RX7 yX7_cutTo cX7_cutTo 2 none 1 := ⟨by decide +kernel, by decide +kernel, by decide +kernel, by decide +kernel, by decide +kernel, rfl, by decide +kernel⟩
theorem cv_RX10_108 : gCV RX10 108 RX9 yX9_reads cX9_reads 3 (some .boolean) 0 := ⟨by decide +kernel, by decide +kernel, by decide +kernel, by decide +kernel, by decide +kernel, rfl, by decide +kernel⟩
theorem cv_RX10_112 : gCV RX10 112 RX7 yX7_position cX7_position 1 (some .int) 0 := ⟨by decide +kernel, by decide +kernel, by decide +kernel, by decide +kernel, by decide +kernel, rfl, by decide +kernel⟩
theorem cv_RX10_115 : gCV RX10 115 RX2 yX2_reads cX2_reads 3 (some .boolean) 0 := ⟨by decide +kernel, by decide +kernel, by decide +kernel, by decide +kernel, by decide +kernel, rfl, by decide +kernel⟩
theorem cv_RX10_116 : gCV RX10 116 RX9 yX9_draft cX9_draft 1 (some (.object "WeatherMarbles$Yard")) 0 := ⟨by decide +kernel, by decide +kernel, by decide +kernel, by decide +kernel, by decide +kernel, rfl, by decide +kernel⟩
theorem cv_RX10_120 : gCV RX10 120 RX8 yX8_takeOver cX8_takeOver 2 none 1 := ⟨by decide +kernel, by decide +kernel, by decide +kernel, by decide +kernel, by decide +kernel, rfl, by decide +kernel⟩
theorem cv_RX10_124 : gCV RX10 124 RX4 yX4_begin cX4_begin 3 none 1 := ⟨by decide +kernel, by decide +kernel, by decide +kernel, by decide +kernel, by decide +kernel, rfl, by decide +kernel⟩
theorem cv_RX10_127 : gCV RX10 127 RX5 yX5_forgetAll cX5_forgetAll 1 none 0 := ⟨by decide +kernel, by decide +kernel, by decide +kernel, by decide +kernel, by decide +kernel, rfl, by decide +kernel⟩
theorem cv_RX10_130 : gCV RX10 130 RX0 yX0_forgetAll cX0_forgetAll 1 none 0 := ⟨by decide +kernel, by decide +kernel, by decide +kernel, by decide +kernel, by decide +kernel, rfl, by decide +kernel⟩
theorem cv_RX10_131 : gCV RX10 131 RX8 yX8_marbles cX8_marbles 1 (some .int) 0 := ⟨by decide +kernel, by decide +kernel, by decide +kernel, by decide +kernel, by decide +kernel, rfl, by decide +kernel⟩
theorem cv_RX10_134 : gCV RX10 134 RX3 yX3_size cX3_size 1 (some .int) 0 := ⟨by decide +kernel, by decide +kernel, by decide +kernel, by decide +kernel, by decide +kernel, rfl, by decide +kernel⟩
theorem cv_RX10_135 : gCV RX10 135 RX3 yX3_add cX3_add 2 none 1 := ⟨by decide +kernel, by decide +kernel, by decide +kernel, by decide +kernel, by decide +kernel, rfl, by decide +kernel⟩
theorem cv_RX10_139 : gCV RX10 139 RX8 yX8_stands cX8_stands 1 (some .boolean) 0 := ⟨by decide +kernel, by decide +kernel, by decide +kernel, by decide +kernel, by decide +kernel, rfl, by decide +kernel⟩
theorem cv_RX10_142 : gCV RX10 142 RX8 yX8_hole cX8_hole 1 (some .int) 0 := ⟨by decide +kernel, by decide +kernel, by decide +kernel, by decide +kernel, by decide +kernel, rfl, by decide +kernel⟩
theorem cv_RX10_145 : gCV RX10 145 RX8 yX8_behind cX8_behind 1 (some .int) 0 := ⟨by decide +kernel, by decide +kernel, by decide +kernel, by decide +kernel, by decide +kernel, rfl, by decide +kernel⟩
theorem cv_RX10_152 : gCV RX10 152 RX8 yX8_hasBoy cX8_hasBoy 2 (some .boolean) 1 := ⟨by decide +kernel, by decide +kernel, by decide +kernel, by decide +kernel, by decide +kernel, rfl, by decide +kernel⟩
theorem cv_RX10_166 : gCV RX10 166 RX8 yX8_boyPlace cX8_boyPlace 2 (some .int) 1 := ⟨by decide +kernel, by decide +kernel, by decide +kernel, by decide +kernel, by decide +kernel, rfl, by decide +kernel⟩
theorem cv_RX10_169 : gCV RX10 169 RX4 yX4_handOf cX4_handOf 4 (some .int) 1 := ⟨by decide +kernel, by decide +kernel, by decide +kernel, by decide +kernel, by decide +kernel, rfl, by decide +kernel⟩
theorem cv_RX10_177 : gCV RX10 177 RX8 yX8_hasMarble cX8_hasMarble 2 (some .boolean) 1 := ⟨by decide +kernel, by decide +kernel, by decide +kernel, by decide +kernel, by decide +kernel, rfl, by decide +kernel⟩
theorem cv_RX10_181 : gCV RX10 181 RX4 yX4_ownerOf cX4_ownerOf 2 (some .int) 1 := ⟨by decide +kernel, by decide +kernel, by decide +kernel, by decide +kernel, by decide +kernel, rfl, by decide +kernel⟩
theorem cv_RX10_184 : gCV RX10 184 RX8 yX8_kind cX8_kind 2 (some .int) 1 := ⟨by decide +kernel, by decide +kernel, by decide +kernel, by decide +kernel, by decide +kernel, rfl, by decide +kernel⟩
theorem cv_RX10_187 : gCV RX10 187 RX8 yX8_size cX8_size 2 (some .int) 1 := ⟨by decide +kernel, by decide +kernel, by decide +kernel, by decide +kernel, by decide +kernel, rfl, by decide +kernel⟩
theorem cv_RX10_189 : gCV RX10 189 RX4 yX4_isChipped cX4_isChipped 2 (some .boolean) 1 := ⟨by decide +kernel, by decide +kernel, by decide +kernel, by decide +kernel, by decide +kernel, rfl, by decide +kernel⟩
theorem cv_RX10_192 : gCV RX10 192 RX4 yX4_isSwallowed cX4_isSwallowed 2 (some .boolean) 1 := ⟨by decide +kernel, by decide +kernel, by decide +kernel, by decide +kernel, by decide +kernel, rfl, by decide +kernel⟩
theorem cv_RX10_195 : gCV RX10 195 RX8 yX8_hasFarm cX8_hasFarm 2 (some .boolean) 1 := ⟨by decide +kernel, by decide +kernel, by decide +kernel, by decide +kernel, by decide +kernel, rfl, by decide +kernel⟩
theorem cv_RX10_198 : gCV RX10 198 RX8 yX8_farmPlace cX8_farmPlace 2 (some .int) 1 := ⟨by decide +kernel, by decide +kernel, by decide +kernel, by decide +kernel, by decide +kernel, rfl, by decide +kernel⟩
theorem cv_RX10_201 : gCV RX10 201 RX8 yX8_wanted cX8_wanted 2 (some .int) 1 := ⟨by decide +kernel, by decide +kernel, by decide +kernel, by decide +kernel, by decide +kernel, rfl, by decide +kernel⟩
theorem cv_RX10_204 : gCV RX10 204 RX8 yX8_payment cX8_payment 2 (some .int) 1 := ⟨by decide +kernel, by decide +kernel, by decide +kernel, by decide +kernel, by decide +kernel, rfl, by decide +kernel⟩
theorem cv_RX10_207 : gCV RX10 207 RX10 yX10_contentNow cX10_contentNow 1 (some .int) 0 := ⟨by decide +kernel, by decide +kernel, by decide +kernel, by decide +kernel, by decide +kernel, rfl, by decide +kernel⟩
theorem cv_RX10_210 : gCV RX10 210 RX3 yX3_choose cX3_choose 2 (some .boolean) 1 := ⟨by decide +kernel, by decide +kernel, by decide +kernel, by decide +kernel, by decide +kernel, rfl, by decide +kernel⟩
theorem cv_RX10_213 : gCV RX10 213 RX1 yX1_refusalOf cX1_refusalOf 6 (some .int) 4 := ⟨by decide +kernel, by decide +kernel, by decide +kernel, by decide +kernel, by decide +kernel, rfl, by decide +kernel⟩
theorem cv_RX10_217 : gCV RX10 217 RX10 yX10_refuse cX10_refuse 2 (some .int) 1 := ⟨by decide +kernel, by decide +kernel, by decide +kernel, by decide +kernel, by decide +kernel, rfl, by decide +kernel⟩
theorem cv_RX10_220 : gCV RX10 220 RX5 yX5_remember cX5_remember 1 none 0 := ⟨by decide +kernel, by decide +kernel, by decide +kernel, by decide +kernel, by decide +kernel, rfl, by decide +kernel⟩
theorem cv_RX10_223 : gCV RX10 223 RX1 yX1_carryOut cX1_carryOut 10 (some .int) 4 := ⟨by decide +kernel, by decide +kernel, by decide +kernel, by decide +kernel, by decide +kernel, rfl, by decide +kernel⟩
theorem cv_RX10_226 : gCV RX10 226 RX4 yX4_hand cX4_hand 3 none 2 := ⟨by decide +kernel, by decide +kernel, by decide +kernel, by decide +kernel, by decide +kernel, rfl, by decide +kernel⟩
theorem cv_RX10_230 : gCV RX10 230 RX4 yX4_isFree cX4_isFree 2 (some .boolean) 1 := ⟨by decide +kernel, by decide +kernel, by decide +kernel, by decide +kernel, by decide +kernel, rfl, by decide +kernel⟩
theorem cv_RX10_233 : gCV RX10 233 RX4 yX4_isDrained cX4_isDrained 2 (some .boolean) 1 := ⟨by decide +kernel, by decide +kernel, by decide +kernel, by decide +kernel, by decide +kernel, rfl, by decide +kernel⟩
theorem cv_RX10_245 : gCV RX10 245 RX10 yX10_passDay cX10_passDay 2 none 0 := ⟨by decide +kernel, by decide +kernel, by decide +kernel, by decide +kernel, by decide +kernel, rfl, by decide +kernel⟩
theorem cv_RX10_255 : gCV RX10 255 RX10 yX10_playByDraws cX10_playByDraws 5 none 0 := ⟨by decide +kernel, by decide +kernel, by decide +kernel, by decide +kernel, by decide +kernel, rfl, by decide +kernel⟩
theorem cv_RX10_258 : gCV RX10 258 RX10 yX10_spillByDraws cX10_spillByDraws 2 none 0 := ⟨by decide +kernel, by decide +kernel, by decide +kernel, by decide +kernel, by decide +kernel, rfl, by decide +kernel⟩
theorem cv_RX10_261 : gCV RX10 261 RX5 yX5_goBackOne cX5_goBackOne 1 (some .int) 0 := ⟨by decide +kernel, by decide +kernel, by decide +kernel, by decide +kernel, by decide +kernel, rfl, by decide +kernel⟩
theorem cv_RX10_264 : gCV RX10 264 RX5 yX5_logLength cX5_logLength 1 (some .int) 0 := ⟨by decide +kernel, by decide +kernel, by decide +kernel, by decide +kernel, by decide +kernel, rfl, by decide +kernel⟩
theorem cv_RX10_267 : gCV RX10 267 RX5 yX5_sweetsThen cX5_sweetsThen 2 (some .int) 1 := ⟨by decide +kernel, by decide +kernel, by decide +kernel, by decide +kernel, by decide +kernel, rfl, by decide +kernel⟩
theorem cv_RX10_270 : gCV RX10 270 RX5 yX5_contentThen cX5_contentThen 2 (some .int) 1 := ⟨by decide +kernel, by decide +kernel, by decide +kernel, by decide +kernel, by decide +kernel, rfl, by decide +kernel⟩
theorem cv_RX10_276 : gCV RX10 276 RX1 yX1_flick cX1_flick 5 (some .int) 3 := ⟨by decide +kernel, by decide +kernel, by decide +kernel, by decide +kernel, by decide +kernel, rfl, by decide +kernel⟩
theorem cv_RX10_280 : gCV RX10 280 RX1 yX1_nearestPower cX1_nearestPower 7 (some .int) 2 := ⟨by decide +kernel, by decide +kernel, by decide +kernel, by decide +kernel, by decide +kernel, rfl, by decide +kernel⟩
theorem cv_RX10_284 : gCV RX10 284 RX1 yX1_winnerOf cX1_winnerOf 5 (some .int) 4 := ⟨by decide +kernel, by decide +kernel, by decide +kernel, by decide +kernel, by decide +kernel, rfl, by decide +kernel⟩
theorem cv_RX10_287 : gCV RX10 287 RX1 yX1_gain cX1_gain 6 (some .int) 4 := ⟨by decide +kernel, by decide +kernel, by decide +kernel, by decide +kernel, by decide +kernel, rfl, by decide +kernel⟩
theorem cv_RX10_290 : gCV RX10 290 RX1 yX1_restingPowers cX1_restingPowers 9 (some .int) 3 := ⟨by decide +kernel, by decide +kernel, by decide +kernel, by decide +kernel, by decide +kernel, rfl, by decide +kernel⟩
theorem cv_RX10_293 : gCV RX10 293 RX1 yX1_winningParts cX1_winningParts 8 (some .int) 3 := ⟨by decide +kernel, by decide +kernel, by decide +kernel, by decide +kernel, by decide +kernel, rfl, by decide +kernel⟩
theorem cv_RX10_296 : gCV RX10 296 RX6 yX6_measure cX6_measure 2 none 0 := ⟨by decide +kernel, by decide +kernel, by decide +kernel, by decide +kernel, by decide +kernel, rfl, by decide +kernel⟩
theorem cv_RX10_299 : gCV RX10 299 RX6 yX6_strongestKind cX6_strongestKind 5 (some .int) 1 := ⟨by decide +kernel, by decide +kernel, by decide +kernel, by decide +kernel, by decide +kernel, rfl, by decide +kernel⟩
theorem cv_RX10_302 : gCV RX10 302 RX10 yX10_isPlaceAndKind cX10_isPlaceAndKind 3 (some .boolean) 2 := ⟨by decide +kernel, by decide +kernel, by decide +kernel, by decide +kernel, by decide +kernel, rfl, by decide +kernel⟩
theorem cv_RX10_306 : gCV RX10 306 RX6 yX6_strengthOf cX6_strengthOf 3 (some .int) 2 := ⟨by decide +kernel, by decide +kernel, by decide +kernel, by decide +kernel, by decide +kernel, rfl, by decide +kernel⟩
theorem cv_RX10_309 : gCV RX10 309 RX6 yX6_findArrangement cX6_findArrangement 1 (some .boolean) 0 := ⟨by decide +kernel, by decide +kernel, by decide +kernel, by decide +kernel, by decide +kernel, rfl, by decide +kernel⟩
theorem cv_RX10_312 : gCV RX10 312 RX6 yX6_fewestChanges cX6_fewestChanges 1 (some .int) 0 := ⟨by decide +kernel, by decide +kernel, by decide +kernel, by decide +kernel, by decide +kernel, rfl, by decide +kernel⟩
theorem cv_RX10_315 : gCV RX10 315 RX6 yX6_leastRow cX6_leastRow 1 (some .int) 0 := ⟨by decide +kernel, by decide +kernel, by decide +kernel, by decide +kernel, by decide +kernel, rfl, by decide +kernel⟩
theorem cv_RX10_318 : gCV RX10 318 RX0 yX0_size cX0_size 1 (some .int) 0 := ⟨by decide +kernel, by decide +kernel, by decide +kernel, by decide +kernel, by decide +kernel, rfl, by decide +kernel⟩
theorem cv_RX10_319 : gCV RX10 319 RX0 yX0_add cX0_add 4 none 3 := ⟨by decide +kernel, by decide +kernel, by decide +kernel, by decide +kernel, by decide +kernel, rfl, by decide +kernel⟩
theorem cv_RX10_322 : gCV RX10 322 RX0 yX0_search cX0_search 4 (some .int) 0 := ⟨by decide +kernel, by decide +kernel, by decide +kernel, by decide +kernel, by decide +kernel, rfl, by decide +kernel⟩
theorem cv_RX10_325 : gCV RX10 325 RX0 yX0_fittingAt cX0_fittingAt 2 (some .int) 1 := ⟨by decide +kernel, by decide +kernel, by decide +kernel, by decide +kernel, by decide +kernel, rfl, by decide +kernel⟩
theorem cv_RX10_328 : gCV RX10 328 RX0 yX0_placeToLook cX0_placeToLook 3 (some .int) 0 := ⟨by decide +kernel, by decide +kernel, by decide +kernel, by decide +kernel, by decide +kernel, rfl, by decide +kernel⟩
theorem cv_RX10_331 : gCV RX10 331 RX10 yX10_likingFor cX10_likingFor 5 (some .int) 2 := ⟨by decide +kernel, by decide +kernel, by decide +kernel, by decide +kernel, by decide +kernel, rfl, by decide +kernel⟩
theorem cv_RX10_334 : gCV RX10 334 RX10 yX10_bothWouldSwap cX10_bothWouldSwap 5 (some .boolean) 2 := ⟨by decide +kernel, by decide +kernel, by decide +kernel, by decide +kernel, by decide +kernel, rfl, by decide +kernel⟩
theorem cv_RX10_337 : gCV RX10 337 RX8 yX8_paymentOf cX8_paymentOf 4 (some .int) 1 := ⟨by decide +kernel, by decide +kernel, by decide +kernel, by decide +kernel, by decide +kernel, rfl, by decide +kernel⟩
theorem cv_RX10_340 : gCV RX10 340 RX10 yX10_richestBoy cX10_richestBoy 3 (some .int) 0 := ⟨by decide +kernel, by decide +kernel, by decide +kernel, by decide +kernel, by decide +kernel, rfl, by decide +kernel⟩
theorem cv_RX10_343 : gCV RX10 343 RX10 yX10_strongestMarble cX10_strongestMarble 3 (some .int) 0 := ⟨by decide +kernel, by decide +kernel, by decide +kernel, by decide +kernel, by decide +kernel, rfl, by decide +kernel⟩
theorem cv_RX10_346 : gCV RX10 346 RX6 yX6_placesWithout cX6_placesWithout 3 (some .int) 0 := ⟨by decide +kernel, by decide +kernel, by decide +kernel, by decide +kernel, by decide +kernel, rfl, by decide +kernel⟩
theorem cv_RX10_349 : gCV RX10 349 RX10 yX10_champion cX10_champion 7 (some .int) 0 := ⟨by decide +kernel, by decide +kernel, by decide +kernel, by decide +kernel, by decide +kernel, rfl, by decide +kernel⟩
theorem cv_RX10_352 : gCV RX10 352 RX5 yX5_keepImage cX5_keepImage 2 none 0 := ⟨by decide +kernel, by decide +kernel, by decide +kernel, by decide +kernel, by decide +kernel, rfl, by decide +kernel⟩
theorem cv_RX10_355 : gCV RX10 355 RX5 yX5_restoreImage cX5_restoreImage 2 (some .boolean) 0 := ⟨by decide +kernel, by decide +kernel, by decide +kernel, by decide +kernel, by decide +kernel, rfl, by decide +kernel⟩
theorem cv_RX10_358 : gCV RX10 358 RX8 yX8_boys cX8_boys 1 (some .int) 0 := ⟨by decide +kernel, by decide +kernel, by decide +kernel, by decide +kernel, by decide +kernel, rfl, by decide +kernel⟩
theorem cv_RX10_361 : gCV RX10 361 RX8 yX8_farms cX8_farms 1 (some .int) 0 := ⟨by decide +kernel, by decide +kernel, by decide +kernel, by decide +kernel, by decide +kernel, rfl, by decide +kernel⟩
theorem cv_RX10_364 : gCV RX10 364 RX3 yX3_chosen cX3_chosen 1 (some .int) 0 := ⟨by decide +kernel, by decide +kernel, by decide +kernel, by decide +kernel, by decide +kernel, rfl, by decide +kernel⟩
theorem cv_RX10_367 : gCV RX10 367 RX4 yX4_drainedBits cX4_drainedBits 1 (some .int) 0 := ⟨by decide +kernel, by decide +kernel, by decide +kernel, by decide +kernel, by decide +kernel, rfl, by decide +kernel⟩
theorem cv_RX10_370 : gCV RX10 370 RX5 yX5_undoable cX5_undoable 1 (some .int) 0 := ⟨by decide +kernel, by decide +kernel, by decide +kernel, by decide +kernel, by decide +kernel, rfl, by decide +kernel⟩
theorem cv_RX10_373 : gCV RX10 373 RX6 yX6_contentBits cX6_contentBits 3 (some .int) 0 := ⟨by decide +kernel, by decide +kernel, by decide +kernel, by decide +kernel, by decide +kernel, rfl, by decide +kernel⟩
theorem cv_RX10_381 : gCV RX10 381 RX5 yX5_write cX5_write 2 none 1 := ⟨by decide +kernel, by decide +kernel, by decide +kernel, by decide +kernel, by decide +kernel, rfl, by decide +kernel⟩
theorem cv_RX10_388 : gCV RX10 388 RX10 yX10_draw cX10_draw 2 (some .int) 1 := ⟨by decide +kernel, by decide +kernel, by decide +kernel, by decide +kernel, by decide +kernel, rfl, by decide +kernel⟩
theorem cv_RX10_395 : gCV RX10 395 RX10 yX10_greatestOf cX10_greatestOf 4 (some .int) 1 := ⟨by decide +kernel, by decide +kernel, by decide +kernel, by decide +kernel, by decide +kernel, rfl, by decide +kernel⟩
theorem cv_RX10_398 : gCV RX10 398 RX1 yX1_distance cX1_distance 2 (some .int) 1 := ⟨by decide +kernel, by decide +kernel, by decide +kernel, by decide +kernel, by decide +kernel, rfl, by decide +kernel⟩
theorem cv_RX11_106 : gCV RX11 106 RX11 yX11_here cX11_here 1 (some .int) 0 := ⟨by decide +kernel, by decide +kernel, by decide +kernel, by decide +kernel, by decide +kernel, rfl, by decide +kernel⟩
theorem cv_RX11_119 : gCV RX11 119 RX11 yX11_bad cX11_bad 1 none 0 := ⟨by decide +kernel, by decide +kernel, by decide +kernel, by decide +kernel, by decide +kernel, rfl, by decide +kernel⟩
theorem cv_RX11_122 : gCV RX11 122 RX11 yX11_look cX11_look 1 (some .int) 0 := ⟨by decide +kernel, by decide +kernel, by decide +kernel, by decide +kernel, by decide +kernel, rfl, by decide +kernel⟩
theorem cv_RX11_129 : gCV RX11 129 RX11 yX11_plainNumber cX11_plainNumber 3 (some .int) 0 := ⟨by decide +kernel, by decide +kernel, by decide +kernel, by decide +kernel, by decide +kernel, rfl, by decide +kernel⟩
theorem cv_RX11_132 : gCV RX11 132 RX11 yX11_put cX11_put 3 none 2 := ⟨by decide +kernel, by decide +kernel, by decide +kernel, by decide +kernel, by decide +kernel, rfl, by decide +kernel⟩
theorem cv_RX11_140 : gCV RX11 140 RX11 yX11_opens cX11_opens 1 none 0 := ⟨by decide +kernel, by decide +kernel, by decide +kernel, by decide +kernel, by decide +kernel, rfl, by decide +kernel⟩
theorem cv_RX11_143 : gCV RX11 143 RX11 yX11_sum cX11_sum 2 none 0 := ⟨by decide +kernel, by decide +kernel, by decide +kernel, by decide +kernel, by decide +kernel, rfl, by decide +kernel⟩
theorem cv_RX11_146 : gCV RX11 146 RX11 yX11_closes cX11_closes 2 none 1 := ⟨by decide +kernel, by decide +kernel, by decide +kernel, by decide +kernel, by decide +kernel, rfl, by decide +kernel⟩
theorem cv_RX11_150 : gCV RX11 150 RX11 yX11_atom cX11_atom 2 none 0 := ⟨by decide +kernel, by decide +kernel, by decide +kernel, by decide +kernel, by decide +kernel, rfl, by decide +kernel⟩
theorem cv_RX11_153 : gCV RX11 153 RX11 yX11_term cX11_term 2 none 0 := ⟨by decide +kernel, by decide +kernel, by decide +kernel, by decide +kernel, by decide +kernel, rfl, by decide +kernel⟩
theorem cv_RX11_159 : gCV RX11 159 RX11 yX11_unit cX11_unit 2 none 0 := ⟨by decide +kernel, by decide +kernel, by decide +kernel, by decide +kernel, by decide +kernel, rfl, by decide +kernel⟩
theorem cv_RX11_162 : gCV RX11 162 RX11 yX11_condition cX11_condition 1 none 0 := ⟨by decide +kernel, by decide +kernel, by decide +kernel, by decide +kernel, by decide +kernel, rfl, by decide +kernel⟩
theorem cv_RX11_165 : gCV RX11 165 RX11 yX11_compare cX11_compare 2 none 0 := ⟨by decide +kernel, by decide +kernel, by decide +kernel, by decide +kernel, by decide +kernel, rfl, by decide +kernel⟩
theorem cv_RX11_168 : gCV RX11 168 RX11 yX11_goOnAnd cX11_goOnAnd 1 none 0 := ⟨by decide +kernel, by decide +kernel, by decide +kernel, by decide +kernel, by decide +kernel, rfl, by decide +kernel⟩
theorem cv_RX11_171 : gCV RX11 171 RX11 yX11_goOnOr cX11_goOnOr 1 none 0 := ⟨by decide +kernel, by decide +kernel, by decide +kernel, by decide +kernel, by decide +kernel, rfl, by decide +kernel⟩
theorem cv_RX11_174 : gCV RX11 174 RX11 yX11_open cX11_open 2 none 1 := ⟨by decide +kernel, by decide +kernel, by decide +kernel, by decide +kernel, by decide +kernel, rfl, by decide +kernel⟩
theorem cv_RX11_177 : gCV RX11 177 RX11 yX11_clause cX11_clause 3 none 0 := ⟨by decide +kernel, by decide +kernel, by decide +kernel, by decide +kernel, by decide +kernel, rfl, by decide +kernel⟩
theorem cv_RX11_180 : gCV RX11 180 RX11 yX11_atEnd cX11_atEnd 1 (some .int) 0 := ⟨by decide +kernel, by decide +kernel, by decide +kernel, by decide +kernel, by decide +kernel, rfl, by decide +kernel⟩
theorem cv_RX11_204 : gCV RX11 204 RX11 yX11_workOut cX11_workOut 6 (some .int) 3 := ⟨by decide +kernel, by decide +kernel, by decide +kernel, by decide +kernel, by decide +kernel, rfl, by decide +kernel⟩
theorem cv_RX11_232 : gCV RX11 232 RX11 yX11_items cX11_items 7 none 4 := ⟨by decide +kernel, by decide +kernel, by decide +kernel, by decide +kernel, by decide +kernel, rfl, by decide +kernel⟩
theorem cv_RX11_252 : gCV RX11 252 RX11 yX11_readYard cX11_readYard 5 (some .int) 0 := ⟨by decide +kernel, by decide +kernel, by decide +kernel, by decide +kernel, by decide +kernel, rfl, by decide +kernel⟩
theorem cv_RX11_255 : gCV RX11 255 RX11 yX11_readLaw cX11_readLaw 2 (some .int) 1 := ⟨by decide +kernel, by decide +kernel, by decide +kernel, by decide +kernel, by decide +kernel, rfl, by decide +kernel⟩
theorem cv_RX11_267 : gCV RX11 267 RX11 yX11_of cX11_of 3 (some .int) 2 := ⟨by decide +kernel, by decide +kernel, by decide +kernel, by decide +kernel, by decide +kernel, rfl, by decide +kernel⟩
theorem cv_RX11_280 : gCV RX11 280 RX11 yX11_takeYard cX11_takeYard 2 (some .int) 0 := ⟨by decide +kernel, by decide +kernel, by decide +kernel, by decide +kernel, by decide +kernel, rfl, by decide +kernel⟩
theorem cv_RX11_286 : gCV RX11 286 RX11 yX11_handsOf cX11_handsOf 4 (some .int) 1 := ⟨by decide +kernel, by decide +kernel, by decide +kernel, by decide +kernel, by decide +kernel, rfl, by decide +kernel⟩
theorem cv_RX11_294 : gCV RX11 294 RX11 yX11_worthOf cX11_worthOf 3 (some .int) 1 := ⟨by decide +kernel, by decide +kernel, by decide +kernel, by decide +kernel, by decide +kernel, rfl, by decide +kernel⟩
theorem cv_RX11_304 : gCV RX11 304 RX11 yX11_isDrain cX11_isDrain 2 (some .boolean) 1 := ⟨by decide +kernel, by decide +kernel, by decide +kernel, by decide +kernel, by decide +kernel, rfl, by decide +kernel⟩
theorem cv_RX11_307 : gCV RX11 307 RX11 yX11_offHole cX11_offHole 2 (some .int) 1 := ⟨by decide +kernel, by decide +kernel, by decide +kernel, by decide +kernel, by decide +kernel, rfl, by decide +kernel⟩
theorem cv_RX11_310 : gCV RX11 310 RX11 yX11_worthNow cX11_worthNow 2 (some .int) 1 := ⟨by decide +kernel, by decide +kernel, by decide +kernel, by decide +kernel, by decide +kernel, rfl, by decide +kernel⟩
theorem cv_RX11_313 : gCV RX11 313 RX11 yX11_strengthOf cX11_strengthOf 6 (some .int) 2 := ⟨by decide +kernel, by decide +kernel, by decide +kernel, by decide +kernel, by decide +kernel, rfl, by decide +kernel⟩
theorem cv_RX11_316 : gCV RX11 316 RX11 yX11_ofFarm cX11_ofFarm 3 (some .int) 2 := ⟨by decide +kernel, by decide +kernel, by decide +kernel, by decide +kernel, by decide +kernel, rfl, by decide +kernel⟩
theorem cv_RX11_319 : gCV RX11 319 RX11 yX11_weatherOf cX11_weatherOf 6 (some .int) 1 := ⟨by decide +kernel, by decide +kernel, by decide +kernel, by decide +kernel, by decide +kernel, rfl, by decide +kernel⟩
theorem cv_RX11_322 : gCV RX11 322 RX11 yX11_isContent cX11_isContent 2 (some .boolean) 1 := ⟨by decide +kernel, by decide +kernel, by decide +kernel, by decide +kernel, by decide +kernel, rfl, by decide +kernel⟩
theorem cv_RX11_325 : gCV RX11 325 RX11 yX11_isBoy cX11_isBoy 2 (some .boolean) 1 := ⟨by decide +kernel, by decide +kernel, by decide +kernel, by decide +kernel, by decide +kernel, rfl, by decide +kernel⟩
theorem cv_RX11_328 : gCV RX11 328 RX11 yX11_isMarble cX11_isMarble 2 (some .boolean) 1 := ⟨by decide +kernel, by decide +kernel, by decide +kernel, by decide +kernel, by decide +kernel, rfl, by decide +kernel⟩
theorem cv_RX11_332 : gCV RX11 332 RX11 yX11_isLoose cX11_isLoose 2 (some .boolean) 1 := ⟨by decide +kernel, by decide +kernel, by decide +kernel, by decide +kernel, by decide +kernel, rfl, by decide +kernel⟩
theorem cv_RX11_335 : gCV RX11 335 RX11 yX11_whyNot cX11_whyNot 3 (some .int) 2 := ⟨by decide +kernel, by decide +kernel, by decide +kernel, by decide +kernel, by decide +kernel, rfl, by decide +kernel⟩
theorem cv_RX11_341 : gCV RX11 341 RX11 yX11_landsAt cX11_landsAt 5 (some .int) 3 := ⟨by decide +kernel, by decide +kernel, by decide +kernel, by decide +kernel, by decide +kernel, rfl, by decide +kernel⟩
theorem cv_RX11_344 : gCV RX11 344 RX11 yX11_cellOf cX11_cellOf 3 (some .int) 2 := ⟨by decide +kernel, by decide +kernel, by decide +kernel, by decide +kernel, by decide +kernel, rfl, by decide +kernel⟩
theorem cv_RX11_347 : gCV RX11 347 RX11 yX11_winner cX11_winner 3 (some .int) 2 := ⟨by decide +kernel, by decide +kernel, by decide +kernel, by decide +kernel, by decide +kernel, rfl, by decide +kernel⟩
theorem cv_RX11_350 : gCV RX11 350 RX11 yX11_whyNotPlay cX11_whyNotPlay 6 (some .int) 4 := ⟨by decide +kernel, by decide +kernel, by decide +kernel, by decide +kernel, by decide +kernel, rfl, by decide +kernel⟩
theorem cv_RX11_354 : gCV RX11 354 RX11 yX11_isRefused cX11_isRefused 2 (some .boolean) 1 := ⟨by decide +kernel, by decide +kernel, by decide +kernel, by decide +kernel, by decide +kernel, rfl, by decide +kernel⟩
theorem cv_RX11_357 : gCV RX11 357 RX11 yX11_keep cX11_keep 2 none 0 := ⟨by decide +kernel, by decide +kernel, by decide +kernel, by decide +kernel, by decide +kernel, rfl, by decide +kernel⟩
theorem cv_RX11_360 : gCV RX11 360 RX11 yX11_playNow cX11_playNow 8 (some .int) 4 := ⟨by decide +kernel, by decide +kernel, by decide +kernel, by decide +kernel, by decide +kernel, rfl, by decide +kernel⟩
theorem cv_RX11_363 : gCV RX11 363 RX11 yX11_swapNow cX11_swapNow 4 none 2 := ⟨by decide +kernel, by decide +kernel, by decide +kernel, by decide +kernel, by decide +kernel, rfl, by decide +kernel⟩
theorem cv_RX11_366 : gCV RX11 366 RX11 yX11_mark cX11_mark 3 (some .int) 2 := ⟨by decide +kernel, by decide +kernel, by decide +kernel, by decide +kernel, by decide +kernel, rfl, by decide +kernel⟩
theorem cv_RX11_369 : gCV RX11 369 RX11 yX11_contents cX11_contents 3 (some .int) 0 := ⟨by decide +kernel, by decide +kernel, by decide +kernel, by decide +kernel, by decide +kernel, rfl, by decide +kernel⟩
theorem cv_RX11_372 : gCV RX11 372 RX11 yX11_payOf cX11_payOf 4 (some .int) 1 := ⟨by decide +kernel, by decide +kernel, by decide +kernel, by decide +kernel, by decide +kernel, rfl, by decide +kernel⟩
theorem cv_RX11_375 : gCV RX11 375 RX11 yX11_areDays cX11_areDays 2 (some .boolean) 1 := ⟨by decide +kernel, by decide +kernel, by decide +kernel, by decide +kernel, by decide +kernel, rfl, by decide +kernel⟩
theorem cv_RX11_378 : gCV RX11 378 RX11 yX11_passDay cX11_passDay 3 none 0 := ⟨by decide +kernel, by decide +kernel, by decide +kernel, by decide +kernel, by decide +kernel, rfl, by decide +kernel⟩
theorem cv_RX11_392 : gCV RX11 392 RX11 yX11_draw cX11_draw 2 (some .int) 1 := ⟨by decide +kernel, by decide +kernel, by decide +kernel, by decide +kernel, by decide +kernel, rfl, by decide +kernel⟩
theorem cv_RX11_395 : gCV RX11 395 RX11 yX11_drawDay cX11_drawDay 6 none 0 := ⟨by decide +kernel, by decide +kernel, by decide +kernel, by decide +kernel, by decide +kernel, rfl, by decide +kernel⟩
theorem cv_RX11_398 : gCV RX11 398 RX11 yX11_aimOf cX11_aimOf 6 (some .int) 2 := ⟨by decide +kernel, by decide +kernel, by decide +kernel, by decide +kernel, by decide +kernel, rfl, by decide +kernel⟩
theorem cv_RX11_413 : gCV RX11 413 RX11 yX11_tryOwners cX11_tryOwners 6 none 3 := ⟨by decide +kernel, by decide +kernel, by decide +kernel, by decide +kernel, by decide +kernel, rfl, by decide +kernel⟩
theorem cv_RX11_417 : gCV RX11 417 RX11 yX11_isCase cX11_isCase 4 (some .boolean) 1 := ⟨by decide +kernel, by decide +kernel, by decide +kernel, by decide +kernel, by decide +kernel, rfl, by decide +kernel⟩
theorem cv_RX11_420 : gCV RX11 420 RX11 yX11_layCase cX11_layCase 3 (some .int) 1 := ⟨by decide +kernel, by decide +kernel, by decide +kernel, by decide +kernel, by decide +kernel, rfl, by decide +kernel⟩
theorem cv_RX11_423 : gCV RX11 423 RX11 yX11_takeCase cX11_takeCase 3 none 2 := ⟨by decide +kernel, by decide +kernel, by decide +kernel, by decide +kernel, by decide +kernel, rfl, by decide +kernel⟩
theorem cv_RX11_426 : gCV RX11 426 RX11 yX11_isSo cX11_isSo 5 (some .boolean) 1 := ⟨by decide +kernel, by decide +kernel, by decide +kernel, by decide +kernel, by decide +kernel, rfl, by decide +kernel⟩
theorem cv_RX11_429 : gCV RX11 429 RX11 yX11_who cX11_who 4 (some .int) 1 := ⟨by decide +kernel, by decide +kernel, by decide +kernel, by decide +kernel, by decide +kernel, rfl, by decide +kernel⟩
theorem cv_RX11_432 : gCV RX11 432 RX11 yX11_gameOf cX11_gameOf 7 (some .int) 4 := ⟨by decide +kernel, by decide +kernel, by decide +kernel, by decide +kernel, by decide +kernel, rfl, by decide +kernel⟩
theorem cv_RX11_435 : gCV RX11 435 RX11 yX11_isRest cX11_isRest 6 (some .boolean) 4 := ⟨by decide +kernel, by decide +kernel, by decide +kernel, by decide +kernel, by decide +kernel, rfl, by decide +kernel⟩
theorem cv_RX11_439 : gCV RX11 439 RX11 yX11_likingOf cX11_likingOf 5 (some .int) 2 := ⟨by decide +kernel, by decide +kernel, by decide +kernel, by decide +kernel, by decide +kernel, rfl, by decide +kernel⟩
theorem cv_RX11_442 : gCV RX11 442 RX11 yX11_isTrade cX11_isTrade 5 (some .boolean) 2 := ⟨by decide +kernel, by decide +kernel, by decide +kernel, by decide +kernel, by decide +kernel, rfl, by decide +kernel⟩
theorem cv_RX11_454 : gCV RX11 454 RX11 yX11_drained cX11_drained 3 (some .int) 0 := ⟨by decide +kernel, by decide +kernel, by decide +kernel, by decide +kernel, by decide +kernel, rfl, by decide +kernel⟩
theorem cv_RX11_457 : gCV RX11 457 RX11 yX11_sizesOf cX11_sizesOf 4 (some .int) 1 := ⟨by decide +kernel, by decide +kernel, by decide +kernel, by decide +kernel, by decide +kernel, rfl, by decide +kernel⟩
theorem cv_RX11_460 : gCV RX11 460 RX11 yX11_strongest cX11_strongest 4 (some .int) 1 := ⟨by decide +kernel, by decide +kernel, by decide +kernel, by decide +kernel, by decide +kernel, rfl, by decide +kernel⟩
theorem cv_RX2_23 : gCV RX2 23 RX7 yX7_rewind cX7_rewind 1 none 0 := ⟨by decide +kernel, by decide +kernel, by decide +kernel, by decide +kernel, by decide +kernel, rfl, by decide +kernel⟩
theorem cv_RX2_28 : gCV RX2 28 RX2 yX2_readClause cX2_readClause 4 (some .boolean) 0 := ⟨by decide +kernel, by decide +kernel, by decide +kernel, by decide +kernel, by decide +kernel, rfl, by decide +kernel⟩
theorem cv_RX2_32 : gCV RX2 32 RX7 yX7_takes cX7_takes 2 (some .boolean) 1 := ⟨by decide +kernel, by decide +kernel, by decide +kernel, by decide +kernel, by decide +kernel, rfl, by decide +kernel⟩
theorem cv_RX2_36 : gCV RX2 36 RX7 yX7_sign cX7_sign 1 (some .int) 0 := ⟨by decide +kernel, by decide +kernel, by decide +kernel, by decide +kernel, by decide +kernel, rfl, by decide +kernel⟩
theorem cv_RX2_40 : gCV RX2 40 RX2 yX2_readSum cX2_readSum 4 (some .boolean) 1 := ⟨by decide +kernel, by decide +kernel, by decide +kernel, by decide +kernel, by decide +kernel, rfl, by decide +kernel⟩
theorem cv_RX2_46 : gCV RX2 46 RX2 yX2_emit cX2_emit 2 none 1 := ⟨by decide +kernel, by decide +kernel, by decide +kernel, by decide +kernel, by decide +kernel, rfl, by decide +kernel⟩
theorem cv_RX2_50 : gCV RX2 50 RX2 yX2_readCondition cX2_readCondition 4 (some .boolean) 2 := ⟨by decide +kernel, by decide +kernel, by decide +kernel, by decide +kernel, by decide +kernel, rfl, by decide +kernel⟩
theorem cv_RX2_55 : gCV RX2 55 RX2 yX2_aimJump cX2_aimJump 2 none 1 := ⟨by decide +kernel, by decide +kernel, by decide +kernel, by decide +kernel, by decide +kernel, rfl, by decide +kernel⟩
theorem cv_RX2_58 : gCV RX2 58 RX2 yX2_readTruth cX2_readTruth 5 (some .boolean) 2 := ⟨by decide +kernel, by decide +kernel, by decide +kernel, by decide +kernel, by decide +kernel, rfl, by decide +kernel⟩
theorem cv_RX2_61 : gCV RX2 61 RX2 yX2_readRightOfComparison cX2_readRightOfComparison 3 (some .boolean) 1 := ⟨by decide +kernel, by decide +kernel, by decide +kernel, by decide +kernel, by decide +kernel, rfl, by decide +kernel⟩
theorem cv_RX2_64 : gCV RX2 64 RX2 yX2_readUnit cX2_readUnit 3 (some .boolean) 1 := ⟨by decide +kernel, by decide +kernel, by decide +kernel, by decide +kernel, by decide +kernel, rfl, by decide +kernel⟩
theorem cv_RX2_67 : gCV RX2 67 RX7 yX7_step cX7_step 1 none 0 := ⟨by decide +kernel, by decide +kernel, by decide +kernel, by decide +kernel, by decide +kernel, rfl, by decide +kernel⟩
theorem cv_RX2_70 : gCV RX2 70 RX2 yX2_readTerm cX2_readTerm 4 (some .boolean) 1 := ⟨by decide +kernel, by decide +kernel, by decide +kernel, by decide +kernel, by decide +kernel, rfl, by decide +kernel⟩
theorem cv_RX2_73 : gCV RX2 73 RX2 yX2_readAtom cX2_readAtom 4 (some .boolean) 1 := ⟨by decide +kernel, by decide +kernel, by decide +kernel, by decide +kernel, by decide +kernel, rfl, by decide +kernel⟩
theorem cv_RX3_28 : gCV RX3 28 RX2 yX2_copyCode cX2_copyCode 4 (some .int) 2 := ⟨by decide +kernel, by decide +kernel, by decide +kernel, by decide +kernel, by decide +kernel, rfl, by decide +kernel⟩
theorem cv_RX3_34 : gCV RX3 34 RX3 yX3_anyHolds cX3_anyHolds 1 (some .boolean) 0 := ⟨by decide +kernel, by decide +kernel, by decide +kernel, by decide +kernel, by decide +kernel, rfl, by decide +kernel⟩
theorem cv_RX4_15 : gCV RX4 15 RX8 yX8_marbles cX8_marbles 1 (some .int) 0 := ⟨by decide +kernel, by decide +kernel, by decide +kernel, by decide +kernel, by decide +kernel, rfl, by decide +kernel⟩
theorem cv_RX4_30 : gCV RX4 30 RX8 yX8_firstOwner cX8_firstOwner 2 (some .int) 1 := ⟨by decide +kernel, by decide +kernel, by decide +kernel, by decide +kernel, by decide +kernel, rfl, by decide +kernel⟩
theorem cv_RX4_49 : gCV RX4 49 RX4 yX4_ownerOf cX4_ownerOf 2 (some .int) 1 := ⟨by decide +kernel, by decide +kernel, by decide +kernel, by decide +kernel, by decide +kernel, rfl, by decide +kernel⟩
theorem cv_RX4_52 : gCV RX4 52 RX4 yX4_isDrained cX4_isDrained 2 (some .boolean) 1 := ⟨by decide +kernel, by decide +kernel, by decide +kernel, by decide +kernel, by decide +kernel, rfl, by decide +kernel⟩
theorem cv_RX4_56 : gCV RX4 56 RX4 yX4_isSwallowed cX4_isSwallowed 2 (some .boolean) 1 := ⟨by decide +kernel, by decide +kernel, by decide +kernel, by decide +kernel, by decide +kernel, rfl, by decide +kernel⟩
theorem cv_RX4_59 : gCV RX4 59 RX4 yX4_handOf cX4_handOf 4 (some .int) 1 := ⟨by decide +kernel, by decide +kernel, by decide +kernel, by decide +kernel, by decide +kernel, rfl, by decide +kernel⟩
theorem cv_RX4_62 : gCV RX4 62 RX8 yX8_size cX8_size 2 (some .int) 1 := ⟨by decide +kernel, by decide +kernel, by decide +kernel, by decide +kernel, by decide +kernel, rfl, by decide +kernel⟩
theorem cv_RX4_65 : gCV RX4 65 RX4 yX4_isChipped cX4_isChipped 2 (some .boolean) 1 := ⟨by decide +kernel, by decide +kernel, by decide +kernel, by decide +kernel, by decide +kernel, rfl, by decide +kernel⟩
theorem cv_RX5_37 : gCV RX5 37 RX4 yX4_packed cX4_packed 4 (some .long) 0 := ⟨by decide +kernel, by decide +kernel, by decide +kernel, by decide +kernel, by decide +kernel, rfl, by decide +kernel⟩
theorem cv_RX5_49 : gCV RX5 49 RX4 yX4_unpack cX4_unpack 4 none 1 := ⟨by decide +kernel, by decide +kernel, by decide +kernel, by decide +kernel, by decide +kernel, rfl, by decide +kernel⟩
theorem cv_RX5_56 : gCV RX5 56 RX5 yX5_ringIndex cX5_ringIndex 2 (some .int) 1 := ⟨by decide +kernel, by decide +kernel, by decide +kernel, by decide +kernel, by decide +kernel, rfl, by decide +kernel⟩
theorem cv_RX5_67 : gCV RX5 67 RX5 yX5_logLength cX5_logLength 1 (some .int) 0 := ⟨by decide +kernel, by decide +kernel, by decide +kernel, by decide +kernel, by decide +kernel, rfl, by decide +kernel⟩
theorem cv_RX6_29 : gCV RX6 29 RX8 yX8_marbles cX8_marbles 1 (some .int) 0 := ⟨by decide +kernel, by decide +kernel, by decide +kernel, by decide +kernel, by decide +kernel, rfl, by decide +kernel⟩
theorem cv_RX6_35 : gCV RX6 35 RX4 yX4_isDrained cX4_isDrained 2 (some .boolean) 1 := ⟨by decide +kernel, by decide +kernel, by decide +kernel, by decide +kernel, by decide +kernel, rfl, by decide +kernel⟩
theorem cv_RX6_41 : gCV RX6 41 RX4 yX4_ownerOf cX4_ownerOf 2 (some .int) 1 := ⟨by decide +kernel, by decide +kernel, by decide +kernel, by decide +kernel, by decide +kernel, rfl, by decide +kernel⟩
theorem cv_RX6_45 : gCV RX6 45 RX6 yX6_indexOf cX6_indexOf 3 (some .int) 2 := ⟨by decide +kernel, by decide +kernel, by decide +kernel, by decide +kernel, by decide +kernel, rfl, by decide +kernel⟩
theorem cv_RX6_49 : gCV RX6 49 RX4 yX4_soundSize cX4_soundSize 4 (some .int) 2 := ⟨by decide +kernel, by decide +kernel, by decide +kernel, by decide +kernel, by decide +kernel, rfl, by decide +kernel⟩
theorem cv_RX6_53 : gCV RX6 53 RX8 yX8_boyPlace cX8_boyPlace 2 (some .int) 1 := ⟨by decide +kernel, by decide +kernel, by decide +kernel, by decide +kernel, by decide +kernel, rfl, by decide +kernel⟩
theorem cv_RX6_56 : gCV RX6 56 RX8 yX8_kind cX8_kind 2 (some .int) 1 := ⟨by decide +kernel, by decide +kernel, by decide +kernel, by decide +kernel, by decide +kernel, rfl, by decide +kernel⟩
theorem cv_RX6_59 : gCV RX6 59 RX6 yX6_lift cX6_lift 3 none 2 := ⟨by decide +kernel, by decide +kernel, by decide +kernel, by decide +kernel, by decide +kernel, rfl, by decide +kernel⟩
theorem cv_RX6_63 : gCV RX6 63 RX6 yX6_put cX6_put 3 none 2 := ⟨by decide +kernel, by decide +kernel, by decide +kernel, by decide +kernel, by decide +kernel, rfl, by decide +kernel⟩
theorem cv_RX6_66 : gCV RX6 66 RX6 yX6_strengthOf cX6_strengthOf 3 (some .int) 2 := ⟨by decide +kernel, by decide +kernel, by decide +kernel, by decide +kernel, by decide +kernel, rfl, by decide +kernel⟩
theorem cv_RX6_69 : gCV RX6 69 RX8 yX8_farms cX8_farms 1 (some .int) 0 := ⟨by decide +kernel, by decide +kernel, by decide +kernel, by decide +kernel, by decide +kernel, rfl, by decide +kernel⟩
theorem cv_RX6_72 : gCV RX6 72 RX8 yX8_farmPlace cX8_farmPlace 2 (some .int) 1 := ⟨by decide +kernel, by decide +kernel, by decide +kernel, by decide +kernel, by decide +kernel, rfl, by decide +kernel⟩
theorem cv_RX6_75 : gCV RX6 75 RX6 yX6_strongestKind cX6_strongestKind 5 (some .int) 1 := ⟨by decide +kernel, by decide +kernel, by decide +kernel, by decide +kernel, by decide +kernel, rfl, by decide +kernel⟩
theorem cv_RX6_78 : gCV RX6 78 RX8 yX8_wanted cX8_wanted 2 (some .int) 1 := ⟨by decide +kernel, by decide +kernel, by decide +kernel, by decide +kernel, by decide +kernel, rfl, by decide +kernel⟩
theorem cv_RX6_88 : gCV RX6 88 RX6 yX6_isHopeless cX6_isHopeless 2 (some .boolean) 0 := ⟨by decide +kernel, by decide +kernel, by decide +kernel, by decide +kernel, by decide +kernel, rfl, by decide +kernel⟩
theorem cv_RX6_92 : gCV RX6 92 RX6 yX6_measure cX6_measure 2 none 0 := ⟨by decide +kernel, by decide +kernel, by decide +kernel, by decide +kernel, by decide +kernel, rfl, by decide +kernel⟩
theorem cv_RX6_95 : gCV RX6 95 RX6 yX6_tryOwners cX6_tryOwners 6 none 3 := ⟨by decide +kernel, by decide +kernel, by decide +kernel, by decide +kernel, by decide +kernel, rfl, by decide +kernel⟩
theorem cv_RX6_99 : gCV RX6 99 RX6 yX6_isInhabited cX6_isInhabited 3 (some .boolean) 1 := ⟨by decide +kernel, by decide +kernel, by decide +kernel, by decide +kernel, by decide +kernel, rfl, by decide +kernel⟩
theorem cv_RX6_102 : gCV RX6 102 RX6 yX6_isTorn cX6_isTorn 3 (some .boolean) 1 := ⟨by decide +kernel, by decide +kernel, by decide +kernel, by decide +kernel, by decide +kernel, rfl, by decide +kernel⟩
theorem cv_RX6_105 : gCV RX6 105 RX6 yX6_isTooRare cX6_isTooRare 5 (some .boolean) 1 := ⟨by decide +kernel, by decide +kernel, by decide +kernel, by decide +kernel, by decide +kernel, rfl, by decide +kernel⟩
theorem cv_RX6_108 : gCV RX6 108 RX8 yX8_boys cX8_boys 1 (some .int) 0 := ⟨by decide +kernel, by decide +kernel, by decide +kernel, by decide +kernel, by decide +kernel, rfl, by decide +kernel⟩
theorem cv_RX6_116 : gCV RX6 116 RX6 yX6_areAllContent cX6_areAllContent 2 (some .boolean) 0 := ⟨by decide +kernel, by decide +kernel, by decide +kernel, by decide +kernel, by decide +kernel, rfl, by decide +kernel⟩
theorem cv_RX6_119 : gCV RX6 119 RX4 yX4_isFree cX4_isFree 2 (some .boolean) 1 := ⟨by decide +kernel, by decide +kernel, by decide +kernel, by decide +kernel, by decide +kernel, rfl, by decide +kernel⟩
theorem cv_RX6_122 : gCV RX6 122 RX6 yX6_isFirstElsewhere cX6_isFirstElsewhere 4 (some .boolean) 2 := ⟨by decide +kernel, by decide +kernel, by decide +kernel, by decide +kernel, by decide +kernel, rfl, by decide +kernel⟩
theorem cv_RX7_22 : gCV RX7 22 RX7 yX7_sign cX7_sign 1 (some .int) 0 := ⟨by decide +kernel, by decide +kernel, by decide +kernel, by decide +kernel, by decide +kernel, rfl, by decide +kernel⟩
theorem cv_RX7_26 : gCV RX7 26 RX7 yX7_isAtDigit cX7_isAtDigit 1 (some .boolean) 0 := ⟨by decide +kernel, by decide +kernel, by decide +kernel, by decide +kernel, by decide +kernel, rfl, by decide +kernel⟩
theorem cv_RX8_27 : gCV RX8 27 RX8 yX8_fillUsual cX8_fillUsual 4 none 2 := ⟨by decide +kernel, by decide +kernel, by decide +kernel, by decide +kernel, by decide +kernel, rfl, by decide +kernel⟩
theorem cv_RX8_46 : gCV RX8 46 RX8 yX8_boys cX8_boys 1 (some .int) 0 := ⟨by decide +kernel, by decide +kernel, by decide +kernel, by decide +kernel, by decide +kernel, rfl, by decide +kernel⟩
theorem cv_RX8_50 : gCV RX8 50 RX8 yX8_marbles cX8_marbles 1 (some .int) 0 := ⟨by decide +kernel, by decide +kernel, by decide +kernel, by decide +kernel, by decide +kernel, rfl, by decide +kernel⟩
theorem cv_RX8_53 : gCV RX8 53 RX8 yX8_firstOwner cX8_firstOwner 2 (some .int) 1 := ⟨by decide +kernel, by decide +kernel, by decide +kernel, by decide +kernel, by decide +kernel, rfl, by decide +kernel⟩
theorem cv_RX8_57 : gCV RX8 57 RX8 yX8_farms cX8_farms 1 (some .int) 0 := ⟨by decide +kernel, by decide +kernel, by decide +kernel, by decide +kernel, by decide +kernel, rfl, by decide +kernel⟩
theorem cv_RX8_60 : gCV RX8 60 RX8 yX8_cell cX8_cell 4 (some .int) 3 := ⟨by decide +kernel, by decide +kernel, by decide +kernel, by decide +kernel, by decide +kernel, rfl, by decide +kernel⟩
theorem cv_RX8_64 : gCV RX8 64 RX8 yX8_payment cX8_payment 2 (some .int) 1 := ⟨by decide +kernel, by decide +kernel, by decide +kernel, by decide +kernel, by decide +kernel, rfl, by decide +kernel⟩
theorem cv_RX9_22 : gCV RX9 22 RX8 yX8_clear cX8_clear 1 none 0 := ⟨by decide +kernel, by decide +kernel, by decide +kernel, by decide +kernel, by decide +kernel, rfl, by decide +kernel⟩
theorem cv_RX9_25 : gCV RX9 25 RX7 yX7_rewind cX7_rewind 1 none 0 := ⟨by decide +kernel, by decide +kernel, by decide +kernel, by decide +kernel, by decide +kernel, rfl, by decide +kernel⟩
theorem cv_RX9_30 : gCV RX9 30 RX9 yX9_readClause cX9_readClause 5 (some .boolean) 0 := ⟨by decide +kernel, by decide +kernel, by decide +kernel, by decide +kernel, by decide +kernel, rfl, by decide +kernel⟩
theorem cv_RX9_34 : gCV RX9 34 RX7 yX7_takes cX7_takes 2 (some .boolean) 1 := ⟨by decide +kernel, by decide +kernel, by decide +kernel, by decide +kernel, by decide +kernel, rfl, by decide +kernel⟩
theorem cv_RX9_38 : gCV RX9 38 RX7 yX7_sign cX7_sign 1 (some .int) 0 := ⟨by decide +kernel, by decide +kernel, by decide +kernel, by decide +kernel, by decide +kernel, rfl, by decide +kernel⟩
theorem cv_RX9_42 : gCV RX9 42 RX8 yX8_isWhole cX8_isWhole 2 (some .boolean) 0 := ⟨by decide +kernel, by decide +kernel, by decide +kernel, by decide +kernel, by decide +kernel, rfl, by decide +kernel⟩
theorem cv_RX9_49 : gCV RX9 49 RX8 yX8_opens cX8_opens 2 (some .boolean) 1 := ⟨by decide +kernel, by decide +kernel, by decide +kernel, by decide +kernel, by decide +kernel, rfl, by decide +kernel⟩
theorem cv_RX9_52 : gCV RX9 52 RX7 yX7_step cX7_step 1 none 0 := ⟨by decide +kernel, by decide +kernel, by decide +kernel, by decide +kernel, by decide +kernel, rfl, by decide +kernel⟩
theorem cv_RX9_59 : gCV RX9 59 RX9 yX9_readValue cX9_readValue 4 (some .boolean) 2 := ⟨by decide +kernel, by decide +kernel, by decide +kernel, by decide +kernel, by decide +kernel, rfl, by decide +kernel⟩
theorem cv_RX9_63 : gCV RX9 63 RX7 yX7_number cX7_number 4 (some .int) 1 := ⟨by decide +kernel, by decide +kernel, by decide +kernel, by decide +kernel, by decide +kernel, rfl, by decide +kernel⟩
theorem cv_RX9_73 : gCV RX9 73 RX7 yX7_stepBack cX7_stepBack 1 none 0 := ⟨by decide +kernel, by decide +kernel, by decide +kernel, by decide +kernel, by decide +kernel, rfl, by decide +kernel⟩
theorem cv_RX9_76 : gCV RX9 76 RX8 yX8_tellLatest cX8_tellLatest 4 none 3 := ⟨by decide +kernel, by decide +kernel, by decide +kernel, by decide +kernel, by decide +kernel, rfl, by decide +kernel⟩
theorem cs_RX0_85 : gCS RX0 85 yJ7_fill_53178 cJ7_fill_53178 4 none 2 := ⟨by decide +kernel, by decide +kernel, by decide +kernel, by decide +kernel, by decide +kernel⟩
theorem cs_RX0_97 : gCS RX0 97 yJ9_max_7cf53 cJ9_max_7cf53 2 (some .int) 2 := ⟨by decide +kernel, by decide +kernel, by decide +kernel, by decide +kernel, by decide +kernel⟩
theorem cs_RX1_48 : gCS RX1 48 yX1_isPower cX1_isPower 1 (some .boolean) 1 := ⟨by decide +kernel, by decide +kernel, by decide +kernel, by decide +kernel, by decide +kernel⟩
theorem cs_RX1_78 : gCS RX1 78 yJ6_bitCount_0f7a4 cJ6_bitCount_0f7a4 1 (some .int) 1 := ⟨by decide +kernel, by decide +kernel, by decide +kernel, by decide +kernel, by decide +kernel⟩
theorem cs_RX1_91 : gCS RX1 91 yJ9_min_7cf53 cJ9_min_7cf53 2 (some .int) 2 := ⟨by decide +kernel, by decide +kernel, by decide +kernel, by decide +kernel, by decide +kernel⟩
theorem cs_RX1_97 : gCS RX1 97 yJ9_max_7cf53 cJ9_max_7cf53 2 (some .int) 2 := ⟨by decide +kernel, by decide +kernel, by decide +kernel, by decide +kernel, by decide +kernel⟩
theorem cs_RX1_107 : gCS RX1 107 yJ9_abs_0f7a4 cJ9_abs_0f7a4 1 (some .int) 1 := ⟨by decide +kernel, by decide +kernel, by decide +kernel, by decide +kernel, by decide +kernel⟩
theorem cs_RX1_135 : gCS RX1 135 yX1_partsOf cX1_partsOf 5 (some .int) 3 := ⟨by decide +kernel, by decide +kernel, by decide +kernel, by decide +kernel, by decide +kernel⟩
theorem cs_RX10_93 : gCS RX10 93 yX7_bytesIn cX7_bytesIn 3 (some .int) 1 := ⟨by decide +kernel, by decide +kernel, by decide +kernel, by decide +kernel, by decide +kernel⟩
theorem cs_RX10_172 : gCS RX10 172 yJ6_bitCount_0f7a4 cJ6_bitCount_0f7a4 1 (some .int) 1 := ⟨by decide +kernel, by decide +kernel, by decide +kernel, by decide +kernel, by decide +kernel⟩
theorem cs_RX10_273 : gCS RX10 273 yX1_isPower cX1_isPower 1 (some .boolean) 1 := ⟨by decide +kernel, by decide +kernel, by decide +kernel, by decide +kernel, by decide +kernel⟩
theorem cs_RX10_376 : gCS RX10 376 yJ9_min_7cf53 cJ9_min_7cf53 2 (some .int) 2 := ⟨by decide +kernel, by decide +kernel, by decide +kernel, by decide +kernel, by decide +kernel⟩
theorem cs_RX11_96 : gCS RX11 96 yX11_byteOf cX11_byteOf 7 (some .int) 6 := ⟨by decide +kernel, by decide +kernel, by decide +kernel, by decide +kernel, by decide +kernel⟩
theorem cs_RX11_125 : gCS RX11 125 yX11_isDigit cX11_isDigit 1 (some .boolean) 1 := ⟨by decide +kernel, by decide +kernel, by decide +kernel, by decide +kernel, by decide +kernel⟩
theorem cs_RX11_136 : gCS RX11 136 yX11_letterOf cX11_letterOf 1 (some .int) 1 := ⟨by decide +kernel, by decide +kernel, by decide +kernel, by decide +kernel, by decide +kernel⟩
theorem cs_RX11_156 : gCS RX11 156 yX11_isSign cX11_isSign 1 (some .boolean) 1 := ⟨by decide +kernel, by decide +kernel, by decide +kernel, by decide +kernel, by decide +kernel⟩
theorem cs_RX11_187 : gCS RX11 187 yJ9_min_f86c9 cJ9_min_f86c9 4 (some .long) 2 := ⟨by decide +kernel, by decide +kernel, by decide +kernel, by decide +kernel, by decide +kernel⟩
theorem cs_RX11_193 : gCS RX11 193 yJ9_max_f86c9 cJ9_max_f86c9 4 (some .long) 2 := ⟨by decide +kernel, by decide +kernel, by decide +kernel, by decide +kernel, by decide +kernel⟩
theorem cs_RX11_196 : gCS RX11 196 yX11_bounded cX11_bounded 2 (some .int) 1 := ⟨by decide +kernel, by decide +kernel, by decide +kernel, by decide +kernel, by decide +kernel⟩
theorem cs_RX11_200 : gCS RX11 200 yX11_worked cX11_worked 5 (some .int) 3 := ⟨by decide +kernel, by decide +kernel, by decide +kernel, by decide +kernel, by decide +kernel⟩
theorem cs_RX11_208 : gCS RX11 208 yX11_in cX11_in 3 (some .boolean) 3 := ⟨by decide +kernel, by decide +kernel, by decide +kernel, by decide +kernel, by decide +kernel⟩
theorem cs_RX11_212 : gCS RX11 212 yX11_usual cX11_usual 2 (some .int) 2 := ⟨by decide +kernel, by decide +kernel, by decide +kernel, by decide +kernel, by decide +kernel⟩
theorem cs_RX11_219 : gCS RX11 219 yX11_has cX11_has 2 (some .boolean) 2 := ⟨by decide +kernel, by decide +kernel, by decide +kernel, by decide +kernel, by decide +kernel⟩
theorem cs_RX11_289 : gCS RX11 289 yJ6_bitCount_0f7a4 cJ6_bitCount_0f7a4 1 (some .int) 1 := ⟨by decide +kernel, by decide +kernel, by decide +kernel, by decide +kernel, by decide +kernel⟩
theorem cs_RX11_297 : gCS RX11 297 yJ9_min_7cf53 cJ9_min_7cf53 2 (some .int) 2 := ⟨by decide +kernel, by decide +kernel, by decide +kernel, by decide +kernel, by decide +kernel⟩
theorem cs_RX11_299 : gCS RX11 299 yJ9_max_7cf53 cJ9_max_7cf53 2 (some .int) 2 := ⟨by decide +kernel, by decide +kernel, by decide +kernel, by decide +kernel, by decide +kernel⟩
theorem cs_RX11_301 : gCS RX11 301 yJ9_abs_0f7a4 cJ9_abs_0f7a4 1 (some .int) 1 := ⟨by decide +kernel, by decide +kernel, by decide +kernel, by decide +kernel, by decide +kernel⟩
theorem cs_RX11_338 : gCS RX11 338 yX11_isPower cX11_isPower 1 (some .boolean) 1 := ⟨by decide +kernel, by decide +kernel, by decide +kernel, by decide +kernel, by decide +kernel⟩
theorem cs_RX11_401 : gCS RX11 401 yX11_isPlace cX11_isPlace 1 (some .boolean) 1 := ⟨by decide +kernel, by decide +kernel, by decide +kernel, by decide +kernel, by decide +kernel⟩
theorem cs_RX11_404 : gCS RX11 404 yX11_isKind cX11_isKind 1 (some .boolean) 1 := ⟨by decide +kernel, by decide +kernel, by decide +kernel, by decide +kernel, by decide +kernel⟩
theorem cs_RX11_448 : gCS RX11 448 yX11_partBy cX11_partBy 4 (some .int) 3 := ⟨by decide +kernel, by decide +kernel, by decide +kernel, by decide +kernel, by decide +kernel⟩
theorem cs_RX11_451 : gCS RX11 451 yX11_cellBy cX11_cellBy 2 (some .int) 2 := ⟨by decide +kernel, by decide +kernel, by decide +kernel, by decide +kernel, by decide +kernel⟩
theorem cs_RX2_43 : gCS RX2 43 yX2_isComparison cX2_isComparison 1 (some .boolean) 1 := ⟨by decide +kernel, by decide +kernel, by decide +kernel, by decide +kernel, by decide +kernel⟩
theorem cs_RX3_38 : gCS RX3 38 yX3_letterOf cX3_letterOf 2 (some .int) 2 := ⟨by decide +kernel, by decide +kernel, by decide +kernel, by decide +kernel, by decide +kernel⟩
theorem cs_RX3_42 : gCS RX3 42 yX3_joined cX3_joined 3 (some .int) 3 := ⟨by decide +kernel, by decide +kernel, by decide +kernel, by decide +kernel, by decide +kernel⟩
theorem cs_RX3_46 : gCS RX3 46 yX3_held cX3_held 2 (some .int) 1 := ⟨by decide +kernel, by decide +kernel, by decide +kernel, by decide +kernel, by decide +kernel⟩
theorem cs_RX3_54 : gCS RX3 54 yJ9_min_f86c9 cJ9_min_f86c9 4 (some .long) 2 := ⟨by decide +kernel, by decide +kernel, by decide +kernel, by decide +kernel, by decide +kernel⟩
theorem cs_RX3_60 : gCS RX3 60 yJ9_max_f86c9 cJ9_max_f86c9 4 (some .long) 2 := ⟨by decide +kernel, by decide +kernel, by decide +kernel, by decide +kernel, by decide +kernel⟩
theorem cs_RX4_21 : gCS RX4 21 yJ9_min_7cf53 cJ9_min_7cf53 2 (some .int) 2 := ⟨by decide +kernel, by decide +kernel, by decide +kernel, by decide +kernel, by decide +kernel⟩
theorem cs_RX4_68 : gCS RX4 68 yJ9_max_7cf53 cJ9_max_7cf53 2 (some .int) 2 := ⟨by decide +kernel, by decide +kernel, by decide +kernel, by decide +kernel, by decide +kernel⟩
theorem cs_RX5_43 : gCS RX5 43 yJ9_min_7cf53 cJ9_min_7cf53 2 (some .int) 2 := ⟨by decide +kernel, by decide +kernel, by decide +kernel, by decide +kernel, by decide +kernel⟩
theorem cs_RX6_23 : gCS RX6 23 yJ7_fill_53178 cJ7_fill_53178 4 none 2 := ⟨by decide +kernel, by decide +kernel, by decide +kernel, by decide +kernel, by decide +kernel⟩
theorem cs_RX8_21 : gCS RX8 21 yJ7_fill_53178 cJ7_fill_53178 4 none 2 := ⟨by decide +kernel, by decide +kernel, by decide +kernel, by decide +kernel, by decide +kernel⟩
theorem cs_RX9_45 : gCS RX9 45 yX9_sortOf cX9_sortOf 2 (some .int) 1 := ⟨by decide +kernel, by decide +kernel, by decide +kernel, by decide +kernel, by decide +kernel⟩
theorem cs_RX9_55 : gCS RX9 55 yX9_itemOf cX9_itemOf 3 (some .int) 2 := ⟨by decide +kernel, by decide +kernel, by decide +kernel, by decide +kernel, by decide +kernel⟩
