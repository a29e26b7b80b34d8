abbrev mX3_isOpen : zMi := (yX3_isOpen, cX3_isOpen, 2, (some .boolean), { frames := 0, cells := 0, slots := 0, locals := 0 }, none)
theorem okX3_isOpen : zOK mX3_isOpen 1 := ⟨by decide +kernel, zmem 769 (by decide +kernel) rfl, zmem 64 (by decide +kernel) rfl, ⟨by decide +kernel, by decide +kernel, by decide +kernel⟩, rfl⟩
abbrev mX3_ahead : zMi := (yX3_ahead, cX3_ahead, 5, (some .int), { frames := 1, cells := 0, slots := 0, locals := 21 }, none)
theorem okX3_ahead : zOK mX3_ahead 2 := ⟨by decide +kernel, zmem 861 (by decide +kernel) rfl, zmem 64 (by decide +kernel) rfl, ⟨by decide +kernel, by decide +kernel, by decide +kernel⟩, rfl⟩
abbrev mX0_spread : zMi := (yX0_spread, cX0_spread, 8, none, { frames := 2, cells := 0, slots := 0, locals := 45 }, none)
theorem okX0_spread : zOK mX0_spread 3 := ⟨by decide +kernel, zmem 1126 (by decide +kernel) rfl, zmem 73 (by decide +kernel) rfl, ⟨by decide +kernel, by decide +kernel, by decide +kernel⟩, rfl⟩
abbrev mJ7_fill_d0a16 : zMi := (yJ7_fill_d0a16, cJ7_fill_d0a16, 5, none, { frames := 0, cells := 0, slots := 0, locals := 0 }, none)
theorem okJ7_fill_d0a16 : zOK mJ7_fill_d0a16 2 := ⟨by decide +kernel, zmem 1117 (by decide +kernel) rfl, zmem 65 (by decide +kernel) rfl, ⟨by decide +kernel, by decide +kernel, by decide +kernel⟩, rfl⟩
abbrev mX0_goStep : zMi := (yX0_goStep, cX0_goStep, 4, none, { frames := 3, cells := 0, slots := 0, locals := 72 }, none)
theorem okX0_goStep : zOK mX0_goStep 2 := ⟨by decide +kernel, zmem 1121 (by decide +kernel) rfl, zmem 73 (by decide +kernel) rfl, ⟨by decide +kernel, by decide +kernel, by decide +kernel⟩, rfl⟩
abbrev mX0_weigh : zMi := (yX0_weigh, cX0_weigh, 6, none, { frames := 4, cells := 0, slots := 0, locals := 95 }, none)
theorem okX0_weigh : zOK mX0_weigh 4 := ⟨by decide +kernel, zmem 1114 (by decide +kernel) rfl, zmem 73 (by decide +kernel) rfl, ⟨by decide +kernel, by decide +kernel, by decide +kernel⟩, rfl⟩
abbrev mX11_isCell : zMi := (yX11_isCell, cX11_isCell, 1, (some .boolean), { frames := 0, cells := 0, slots := 0, locals := 0 }, none)
theorem okX11_isCell : zOK mX11_isCell 1 := ⟨by decide +kernel, zmem 157 (by decide +kernel) rfl, zmem 61 (by decide +kernel) rfl, ⟨by decide +kernel, by decide +kernel, by decide +kernel⟩, rfl⟩
abbrev mX1_layOn : zMi := (yX1_layOn, cX1_layOn, 2, none, { frames := 1, cells := 0, slots := 0, locals := 20 }, none)
theorem okX1_layOn : zOK mX1_layOn 1 := ⟨by decide +kernel, zmem 896 (by decide +kernel) rfl, zmem 69 (by decide +kernel) rfl, ⟨by decide +kernel, by decide +kernel, by decide +kernel⟩, rfl⟩
abbrev mX1_drawTo : zMi := (yX1_drawTo, cX1_drawTo, 3, none, { frames := 2, cells := 0, slots := 0, locals := 41 }, none)
theorem okX1_drawTo : zOK mX1_drawTo 2 := ⟨by decide +kernel, zmem 904 (by decide +kernel) rfl, zmem 69 (by decide +kernel) rfl, ⟨by decide +kernel, by decide +kernel, by decide +kernel⟩, rfl⟩
abbrev mJ7_fill_53178 : zMi := (yJ7_fill_53178, cJ7_fill_53178, 4, none, { frames := 0, cells := 0, slots := 0, locals := 0 }, none)
theorem okJ7_fill_53178 : zOK mJ7_fill_53178 2 := ⟨by decide +kernel, zmem 141 (by decide +kernel) rfl, zmem 65 (by decide +kernel) rfl, ⟨by decide +kernel, by decide +kernel, by decide +kernel⟩, rfl⟩
abbrev mX1_startAt : zMi := (yX1_startAt, cX1_startAt, 2, none, { frames := 2, cells := 0, slots := 0, locals := 41 }, none)
theorem okX1_startAt : zOK mX1_startAt 1 := ⟨by decide +kernel, zmem 891 (by decide +kernel) rfl, zmem 69 (by decide +kernel) rfl, ⟨by decide +kernel, by decide +kernel, by decide +kernel⟩, rfl⟩
abbrev mX11_isWithin : zMi := (yX11_isWithin, cX11_isWithin, 3, (some .boolean), { frames := 0, cells := 0, slots := 0, locals := 0 }, none)
theorem okX11_isWithin : zOK mX11_isWithin 3 := ⟨by decide +kernel, zmem 751 (by decide +kernel) rfl, zmem 61 (by decide +kernel) rfl, ⟨by decide +kernel, by decide +kernel, by decide +kernel⟩, rfl⟩
abbrev mX3_told : zMi := (yX3_told, cX3_told, 2, (some .int), { frames := 1, cells := 0, slots := 0, locals := 22 }, none)
theorem okX3_told : zOK mX3_told 1 := ⟨by decide +kernel, zmem 764 (by decide +kernel) rfl, zmem 64 (by decide +kernel) rfl, ⟨by decide +kernel, by decide +kernel, by decide +kernel⟩, rfl⟩
abbrev mX5_stepsOf : zMi := (yX5_stepsOf, cX5_stepsOf, 2, (some .int), { frames := 1, cells := 0, slots := 0, locals := 22 }, none)
theorem okX5_stepsOf : zOK mX5_stepsOf 1 := ⟨by decide +kernel, zmem 831 (by decide +kernel) rfl, zmem 67 (by decide +kernel) rfl, ⟨by decide +kernel, by decide +kernel, by decide +kernel⟩, rfl⟩
abbrev mX5_wayOf : zMi := (yX5_wayOf, cX5_wayOf, 2, (some .int), { frames := 1, cells := 0, slots := 0, locals := 22 }, none)
theorem okX5_wayOf : zOK mX5_wayOf 1 := ⟨by decide +kernel, zmem 826 (by decide +kernel) rfl, zmem 67 (by decide +kernel) rfl, ⟨by decide +kernel, by decide +kernel, by decide +kernel⟩, rfl⟩
abbrev mX1_draw : zMi := (yX1_draw, cX1_draw, 7, none, { frames := 3, cells := 0, slots := 0, locals := 63 }, none)
theorem okX1_draw : zOK mX1_draw 3 := ⟨by decide +kernel, zmem 886 (by decide +kernel) rfl, zmem 69 (by decide +kernel) rfl, ⟨by decide +kernel, by decide +kernel, by decide +kernel⟩, rfl⟩
abbrev mX1_bits : zMi := (yX1_bits, cX1_bits, 4, (some .long), { frames := 0, cells := 0, slots := 0, locals := 0 }, none)
theorem okX1_bits : zOK mX1_bits 0 := ⟨by decide +kernel, zmem 909 (by decide +kernel) rfl, zmem 69 (by decide +kernel) rfl, ⟨by decide +kernel, by decide +kernel, by decide +kernel⟩, rfl⟩
abbrev mX2_measure : zMi := (yX2_measure, cX2_measure, 7, none, { frames := 2, cells := 0, slots := 0, locals := 45 }, none)
theorem okX2_measure : zOK mX2_measure 2 := ⟨by decide +kernel, zmem 1046 (by decide +kernel) rfl, zmem 70 (by decide +kernel) rfl, ⟨by decide +kernel, by decide +kernel, by decide +kernel⟩, rfl⟩
abbrev mX3_isGrass : zMi := (yX3_isGrass, cX3_isGrass, 2, (some .boolean), { frames := 1, cells := 0, slots := 0, locals := 20 }, none)
theorem okX3_isGrass : zOK mX3_isGrass 1 := ⟨by decide +kernel, zmem 154 (by decide +kernel) rfl, zmem 64 (by decide +kernel) rfl, ⟨by decide +kernel, by decide +kernel, by decide +kernel⟩, rfl⟩
abbrev mX2_toFarthestGrass : zMi := (yX2_toFarthestGrass, cX2_toFarthestGrass, 5, (some .int), { frames := 3, cells := 0, slots := 0, locals := 71 }, none)
theorem okX2_toFarthestGrass : zOK mX2_toFarthestGrass 2 := ⟨by decide +kernel, zmem 1062 (by decide +kernel) rfl, zmem 70 (by decide +kernel) rfl, ⟨by decide +kernel, by decide +kernel, by decide +kernel⟩, rfl⟩
abbrev mX3_growToTold : zMi := (yX3_growToTold, cX3_growToTold, 2, none, { frames := 2, cells := 0, slots := 0, locals := 41 }, none)
theorem okX3_growToTold : zOK mX3_growToTold 0 := ⟨by decide +kernel, zmem 150 (by decide +kernel) rfl, zmem 64 (by decide +kernel) rfl, ⟨by decide +kernel, by decide +kernel, by decide +kernel⟩, rfl⟩
abbrev mX3_startAnew : zMi := (yX3_startAnew, cX3_startAnew, 1, none, { frames := 3, cells := 0, slots := 0, locals := 62 }, none)
theorem okX3_startAnew : zOK mX3_startAnew 0 := ⟨by decide +kernel, zmem 138 (by decide +kernel) rfl, zmem 64 (by decide +kernel) rfl, ⟨by decide +kernel, by decide +kernel, by decide +kernel⟩, rfl⟩
abbrev mX3_takeCells : zMi := (yX3_takeCells, cX3_takeCells, 2, none, { frames := 1, cells := 0, slots := 0, locals := 26 }, none)
theorem okX3_takeCells : zOK mX3_takeCells 1 := ⟨by decide +kernel, zmem 777 (by decide +kernel) rfl, zmem 64 (by decide +kernel) rfl, ⟨by decide +kernel, by decide +kernel, by decide +kernel⟩, rfl⟩
abbrev mX3_takeAll : zMi := (yX3_takeAll, cX3_takeAll, 2, none, { frames := 2, cells := 0, slots := 0, locals := 47 }, none)
theorem okX3_takeAll : zOK mX3_takeAll 1 := ⟨by decide +kernel, zmem 773 (by decide +kernel) rfl, zmem 64 (by decide +kernel) rfl, ⟨by decide +kernel, by decide +kernel, by decide +kernel⟩, rfl⟩
abbrev mX3_minutesOfStep : zMi := (yX3_minutesOfStep, cX3_minutesOfStep, 3, (some .int), { frames := 1, cells := 0, slots := 0, locals := 20 }, none)
theorem okX3_minutesOfStep : zOK mX3_minutesOfStep 2 := ⟨by decide +kernel, zmem 866 (by decide +kernel) rfl, zmem 64 (by decide +kernel) rfl, ⟨by decide +kernel, by decide +kernel, by decide +kernel⟩, rfl⟩
abbrev mX3_grassBits : zMi := (yX3_grassBits, cX3_grassBits, 4, (some .long), { frames := 2, cells := 0, slots := 0, locals := 41 }, none)
theorem okX3_grassBits : zOK mX3_grassBits 0 := ⟨by decide +kernel, zmem 938 (by decide +kernel) rfl, zmem 64 (by decide +kernel) rfl, ⟨by decide +kernel, by decide +kernel, by decide +kernel⟩, rfl⟩
abbrev mJ13_bitCount_95d88 : zMi := (yJ13_bitCount_95d88, cJ13_bitCount_95d88, 2, (some .int), { frames := 0, cells := 0, slots := 0, locals := 0 }, none)
theorem okJ13_bitCount_95d88 : zOK mJ13_bitCount_95d88 1 := ⟨by decide +kernel, zmem 941 (by decide +kernel) rfl, zmem 82 (by decide +kernel) rfl, ⟨by decide +kernel, by decide +kernel, by decide +kernel⟩, rfl⟩
abbrev mX3_grassCells : zMi := (yX3_grassCells, cX3_grassCells, 1, (some .int), { frames := 3, cells := 0, slots := 0, locals := 64 }, none)
theorem okX3_grassCells : zOK mX3_grassCells 0 := ⟨by decide +kernel, zmem 934 (by decide +kernel) rfl, zmem 64 (by decide +kernel) rfl, ⟨by decide +kernel, by decide +kernel, by decide +kernel⟩, rfl⟩
abbrev mX3_barredCells : zMi := (yX3_barredCells, cX3_barredCells, 3, (some .int), { frames := 1, cells := 0, slots := 0, locals := 21 }, none)
theorem okX3_barredCells : zOK mX3_barredCells 0 := ⟨by decide +kernel, zmem 1220 (by decide +kernel) rfl, zmem 64 (by decide +kernel) rfl, ⟨by decide +kernel, by decide +kernel, by decide +kernel⟩, rfl⟩
abbrev mX3_heightsSummed : zMi := (yX3_heightsSummed, cX3_heightsSummed, 3, (some .int), { frames := 0, cells := 0, slots := 0, locals := 0 }, none)
theorem okX3_heightsSummed : zOK mX3_heightsSummed 0 := ⟨by decide +kernel, zmem 1225 (by decide +kernel) rfl, zmem 64 (by decide +kernel) rfl, ⟨by decide +kernel, by decide +kernel, by decide +kernel⟩, rfl⟩
abbrev mX3_heightIn : zMi := (yX3_heightIn, cX3_heightIn, 3, (some .int), { frames := 2, cells := 0, slots := 0, locals := 41 }, none)
theorem okX3_heightIn : zOK mX3_heightIn 2 := ⟨by decide +kernel, zmem 1137 (by decide +kernel) rfl, zmem 64 (by decide +kernel) rfl, ⟨by decide +kernel, by decide +kernel, by decide +kernel⟩, rfl⟩
abbrev mX3_stripeOf : zMi := (yX3_stripeOf, cX3_stripeOf, 3, (some .int), { frames := 1, cells := 0, slots := 0, locals := 20 }, none)
theorem okX3_stripeOf : zOK mX3_stripeOf 1 := ⟨by decide +kernel, zmem 1154 (by decide +kernel) rfl, zmem 64 (by decide +kernel) rfl, ⟨by decide +kernel, by decide +kernel, by decide +kernel⟩, rfl⟩
abbrev mX4_forget : zMi := (yX4_forget, cX4_forget, 1, none, { frames := 0, cells := 0, slots := 0, locals := 0 }, none)
theorem okX4_forget : zOK mX4_forget 0 := ⟨by decide +kernel, zmem 781 (by decide +kernel) rfl, zmem 71 (by decide +kernel) rfl, ⟨by decide +kernel, by decide +kernel, by decide +kernel⟩, rfl⟩
abbrev mX4_isFound : zMi := (yX4_isFound, cX4_isFound, 1, (some .boolean), { frames := 0, cells := 0, slots := 0, locals := 0 }, none)
theorem okX4_isFound : zOK mX4_isFound 0 := ⟨by decide +kernel, zmem 994 (by decide +kernel) rfl, zmem 71 (by decide +kernel) rfl, ⟨by decide +kernel, by decide +kernel, by decide +kernel⟩, rfl⟩
abbrev mX4_wayOf : zMi := (yX4_wayOf, cX4_wayOf, 2, (some .int), { frames := 1, cells := 0, slots := 0, locals := 22 }, none)
theorem okX4_wayOf : zOK mX4_wayOf 1 := ⟨by decide +kernel, zmem 1003 (by decide +kernel) rfl, zmem 71 (by decide +kernel) rfl, ⟨by decide +kernel, by decide +kernel, by decide +kernel⟩, rfl⟩
abbrev mX11_quartersBetween : zMi := (yX11_quartersBetween, cX11_quartersBetween, 3, (some .int), { frames := 0, cells := 0, slots := 0, locals := 0 }, none)
theorem okX11_quartersBetween : zOK mX11_quartersBetween 2 := ⟨by decide +kernel, zmem 852 (by decide +kernel) rfl, zmem 61 (by decide +kernel) rfl, ⟨by decide +kernel, by decide +kernel, by decide +kernel⟩, rfl⟩
abbrev mX4_minutesFrom : zMi := (yX4_minutesFrom, cX4_minutesFrom, 8, (some .int), { frames := 1, cells := 0, slots := 0, locals := 26 }, none)
theorem okX4_minutesFrom : zOK mX4_minutesFrom 2 := ⟨by decide +kernel, zmem 985 (by decide +kernel) rfl, zmem 71 (by decide +kernel) rfl, ⟨by decide +kernel, by decide +kernel, by decide +kernel⟩, rfl⟩
abbrev mX4_minutesToGo : zMi := (yX4_minutesToGo, cX4_minutesToGo, 4, (some .int), { frames := 1, cells := 0, slots := 0, locals := 22 }, none)
theorem okX4_minutesToGo : zOK mX4_minutesToGo 2 := ⟨by decide +kernel, zmem 972 (by decide +kernel) rfl, zmem 71 (by decide +kernel) rfl, ⟨by decide +kernel, by decide +kernel, by decide +kernel⟩, rfl⟩
abbrev mX4_firstWay : zMi := (yX4_firstWay, cX4_firstWay, 7, (some .int), { frames := 2, cells := 0, slots := 0, locals := 53 }, none)
theorem okX4_firstWay : zOK mX4_firstWay 2 := ⟨by decide +kernel, zmem 998 (by decide +kernel) rfl, zmem 71 (by decide +kernel) rfl, ⟨by decide +kernel, by decide +kernel, by decide +kernel⟩, rfl⟩
abbrev mX4_seenAtFirst : zMi := (yX4_seenAtFirst, cX4_seenAtFirst, 2, (some .int), { frames := 2, cells := 0, slots := 0, locals := 43 }, none)
theorem okX4_seenAtFirst : zOK mX4_seenAtFirst 0 := ⟨by decide +kernel, zmem 977 (by decide +kernel) rfl, zmem 71 (by decide +kernel) rfl, ⟨by decide +kernel, by decide +kernel, by decide +kernel⟩, rfl⟩
abbrev mX4_follow : zMi := (yX4_follow, cX4_follow, 8, none, { frames := 3, cells := 0, slots := 0, locals := 79 }, none)
theorem okX4_follow : zOK mX4_follow 0 := ⟨by decide +kernel, zmem 990 (by decide +kernel) rfl, zmem 71 (by decide +kernel) rfl, ⟨by decide +kernel, by decide +kernel, by decide +kernel⟩, rfl⟩
abbrev mX4_chart : zMi := (yX4_chart, cX4_chart, 4, none, { frames := 2, cells := 0, slots := 0, locals := 45 }, none)
theorem okX4_chart : zOK mX4_chart 0 := ⟨by decide +kernel, zmem 958 (by decide +kernel) rfl, zmem 71 (by decide +kernel) rfl, ⟨by decide +kernel, by decide +kernel, by decide +kernel⟩, rfl⟩
abbrev mX4_measure : zMi := (yX4_measure, cX4_measure, 14, none, { frames := 2, cells := 0, slots := 0, locals := 45 }, none)
theorem okX4_measure : zOK mX4_measure 2 := ⟨by decide +kernel, zmem 968 (by decide +kernel) rfl, zmem 71 (by decide +kernel) rfl, ⟨by decide +kernel, by decide +kernel, by decide +kernel⟩, rfl⟩
abbrev mX4_weigh : zMi := (yX4_weigh, cX4_weigh, 5, none, { frames := 2, cells := 0, slots := 0, locals := 53 }, none)
theorem okX4_weigh : zOK mX4_weigh 1 := ⟨by decide +kernel, zmem 981 (by decide +kernel) rfl, zmem 71 (by decide +kernel) rfl, ⟨by decide +kernel, by decide +kernel, by decide +kernel⟩, rfl⟩
abbrev mX4_minutesWith : zMi := (yX4_minutesWith, cX4_minutesWith, 5, (some .int), { frames := 3, cells := 0, slots := 0, locals := 78 }, none)
theorem okX4_minutesWith : zOK mX4_minutesWith 2 := ⟨by decide +kernel, zmem 952 (by decide +kernel) rfl, zmem 71 (by decide +kernel) rfl, ⟨by decide +kernel, by decide +kernel, by decide +kernel⟩, rfl⟩
abbrev mX4_seek : zMi := (yX4_seek, cX4_seek, 2, none, { frames := 4, cells := 0, slots := 0, locals := 106 }, none)
theorem okX4_seek : zOK mX4_seek 1 := ⟨by decide +kernel, zmem 948 (by decide +kernel) rfl, zmem 71 (by decide +kernel) rfl, ⟨by decide +kernel, by decide +kernel, by decide +kernel⟩, rfl⟩
abbrev mX4_costOf : zMi := (yX4_costOf, cX4_costOf, 5, (some .int), { frames := 4, cells := 0, slots := 0, locals := 102 }, none)
theorem okX4_costOf : zOK mX4_costOf 2 := ⟨by decide +kernel, zmem 1012 (by decide +kernel) rfl, zmem 71 (by decide +kernel) rfl, ⟨by decide +kernel, by decide +kernel, by decide +kernel⟩, rfl⟩
abbrev mX4_seekDearest : zMi := (yX4_seekDearest, cX4_seekDearest, 4, none, { frames := 5, cells := 0, slots := 0, locals := 126 }, none)
theorem okX4_seekDearest : zOK mX4_seekDearest 1 := ⟨by decide +kernel, zmem 1020 (by decide +kernel) rfl, zmem 71 (by decide +kernel) rfl, ⟨by decide +kernel, by decide +kernel, by decide +kernel⟩, rfl⟩
abbrev mX5_append : zMi := (yX5_append, cX5_append, 3, (some .boolean), { frames := 0, cells := 0, slots := 0, locals := 0 }, none)
theorem okX5_append : zOK mX5_append 2 := ⟨by decide +kernel, zmem 814 (by decide +kernel) rfl, zmem 67 (by decide +kernel) rfl, ⟨by decide +kernel, by decide +kernel, by decide +kernel⟩, rfl⟩
abbrev mX5_appendStep : zMi := (yX5_appendStep, cX5_appendStep, 3, (some .boolean), { frames := 2, cells := 0, slots := 0, locals := 43 }, none)
theorem okX5_appendStep : zOK mX5_appendStep 1 := ⟨by decide +kernel, zmem 1030 (by decide +kernel) rfl, zmem 67 (by decide +kernel) rfl, ⟨by decide +kernel, by decide +kernel, by decide +kernel⟩, rfl⟩
abbrev mX5_takeAll : zMi := (yX5_takeAll, cX5_takeAll, 2, none, { frames := 1, cells := 0, slots := 0, locals := 26 }, none)
theorem okX5_takeAll : zOK mX5_takeAll 1 := ⟨by decide +kernel, zmem 1037 (by decide +kernel) rfl, zmem 67 (by decide +kernel) rfl, ⟨by decide +kernel, by decide +kernel, by decide +kernel⟩, rfl⟩
abbrev mX6_standAt : zMi := (yX6_standAt, cX6_standAt, 4, none, { frames := 0, cells := 0, slots := 0, locals := 0 }, none)
theorem okX6_standAt : zOK mX6_standAt 3 := ⟨by decide +kernel, zmem 1078 (by decide +kernel) rfl, zmem 72 (by decide +kernel) rfl, ⟨by decide +kernel, by decide +kernel, by decide +kernel⟩, rfl⟩
abbrev mX6_quartersOf : zMi := (yX6_quartersOf, cX6_quartersOf, 1, (some .int), { frames := 0, cells := 0, slots := 0, locals := 0 }, none)
theorem okX6_quartersOf : zOK mX6_quartersOf 1 := ⟨by decide +kernel, zmem 1091 (by decide +kernel) rfl, zmem 72 (by decide +kernel) rfl, ⟨by decide +kernel, by decide +kernel, by decide +kernel⟩, rfl⟩
abbrev mX6_goStep : zMi := (yX6_goStep, cX6_goStep, 4, none, { frames := 2, cells := 0, slots := 0, locals := 45 }, none)
theorem okX6_goStep : zOK mX6_goStep 2 := ⟨by decide +kernel, zmem 1086 (by decide +kernel) rfl, zmem 72 (by decide +kernel) rfl, ⟨by decide +kernel, by decide +kernel, by decide +kernel⟩, rfl⟩
abbrev mX6_goSteps : zMi := (yX6_goSteps, cX6_goSteps, 5, none, { frames := 3, cells := 0, slots := 0, locals := 68 }, none)
theorem okX6_goSteps : zOK mX6_goSteps 3 := ⟨by decide +kernel, zmem 1082 (by decide +kernel) rfl, zmem 72 (by decide +kernel) rfl, ⟨by decide +kernel, by decide +kernel, by decide +kernel⟩, rfl⟩
abbrev mX7_startAnew : zMi := (yX7_startAnew, cX7_startAnew, 3, none, { frames := 1, cells := 0, slots := 0, locals := 23 }, none)
theorem okX7_startAnew : zOK mX7_startAnew 2 := ⟨by decide +kernel, zmem 1177 (by decide +kernel) rfl, zmem 74 (by decide +kernel) rfl, ⟨by decide +kernel, by decide +kernel, by decide +kernel⟩, rfl⟩
abbrev mX7_isNothing : zMi := (yX7_isNothing, cX7_isNothing, 1, (some .boolean), { frames := 0, cells := 0, slots := 0, locals := 0 }, none)
theorem okX7_isNothing : zOK mX7_isNothing 0 := ⟨by decide +kernel, zmem 1190 (by decide +kernel) rfl, zmem 74 (by decide +kernel) rfl, ⟨by decide +kernel, by decide +kernel, by decide +kernel⟩, rfl⟩
abbrev mX7_faultOf : zMi := (yX7_faultOf, cX7_faultOf, 4, (some .int), { frames := 1, cells := 0, slots := 0, locals := 20 }, none)
theorem okX7_faultOf : zOK mX7_faultOf 2 := ⟨by decide +kernel, zmem 1186 (by decide +kernel) rfl, zmem 74 (by decide +kernel) rfl, ⟨by decide +kernel, by decide +kernel, by decide +kernel⟩, rfl⟩
abbrev mX7_write : zMi := (yX7_write, cX7_write, 3, none, { frames := 1, cells := 0, slots := 0, locals := 22 }, none)
theorem okX7_write : zOK mX7_write 2 := ⟨by decide +kernel, zmem 1194 (by decide +kernel) rfl, zmem 74 (by decide +kernel) rfl, ⟨by decide +kernel, by decide +kernel, by decide +kernel⟩, rfl⟩
abbrev mX7_valueAt : zMi := (yX7_valueAt, cX7_valueAt, 2, (some .int), { frames := 1, cells := 0, slots := 0, locals := 22 }, none)
theorem okX7_valueAt : zOK mX7_valueAt 1 := ⟨by decide +kernel, zmem 1208 (by decide +kernel) rfl, zmem 74 (by decide +kernel) rfl, ⟨by decide +kernel, by decide +kernel, by decide +kernel⟩, rfl⟩
abbrev mX8_append : zMi := (yX8_append, cX8_append, 4, (some .boolean), { frames := 0, cells := 0, slots := 0, locals := 0 }, none)
theorem okX8_append : zOK mX8_append 1 := ⟨by decide +kernel, zmem 557 (by decide +kernel) rfl, zmem 62 (by decide +kernel) rfl, ⟨by decide +kernel, by decide +kernel, by decide +kernel⟩, rfl⟩
abbrev mX8_rewind : zMi := (yX8_rewind, cX8_rewind, 1, none, { frames := 0, cells := 0, slots := 0, locals := 0 }, none)
theorem okX8_rewind : zOK mX8_rewind 0 := ⟨by decide +kernel, zmem 578 (by decide +kernel) rfl, zmem 62 (by decide +kernel) rfl, ⟨by decide +kernel, by decide +kernel, by decide +kernel⟩, rfl⟩
abbrev mX8_tokenAt : zMi := (yX8_tokenAt, cX8_tokenAt, 3, (some .int), { frames := 0, cells := 0, slots := 0, locals := 0 }, none)
theorem okX8_tokenAt : zOK mX8_tokenAt 1 := ⟨by decide +kernel, zmem 586 (by decide +kernel) rfl, zmem 62 (by decide +kernel) rfl, ⟨by decide +kernel, by decide +kernel, by decide +kernel⟩, rfl⟩
abbrev mX8_takeFigures : zMi := (yX8_takeFigures, cX8_takeFigures, 2, none, { frames := 0, cells := 0, slots := 0, locals := 0 }, none)
theorem okX8_takeFigures : zOK mX8_takeFigures 0 := ⟨by decide +kernel, zmem 590 (by decide +kernel) rfl, zmem 62 (by decide +kernel) rfl, ⟨by decide +kernel, by decide +kernel, by decide +kernel⟩, rfl⟩
abbrev mX8_readToken : zMi := (yX8_readToken, cX8_readToken, 2, none, { frames := 1, cells := 0, slots := 0, locals := 22 }, none)
theorem okX8_readToken : zOK mX8_readToken 0 := ⟨by decide +kernel, zmem 582 (by decide +kernel) rfl, zmem 62 (by decide +kernel) rfl, ⟨by decide +kernel, by decide +kernel, by decide +kernel⟩, rfl⟩
abbrev mX8_letterOf : zMi := (yX8_letterOf, cX8_letterOf, 3, (some .char), { frames := 0, cells := 0, slots := 0, locals := 0 }, none)
theorem okX8_letterOf : zOK mX8_letterOf 1 := ⟨by decide +kernel, zmem 675 (by decide +kernel) rfl, zmem 62 (by decide +kernel) rfl, ⟨by decide +kernel, by decide +kernel, by decide +kernel⟩, rfl⟩
abbrev mJ0_isLatin1_aae02 : zMi := (yJ0_isLatin1_aae02, cJ0_isLatin1_aae02, 1, (some .boolean), { frames := 0, cells := 0, slots := 0, locals := 0 }, none)
theorem okJ0_isLatin1_aae02 : zOK mJ0_isLatin1_aae02 0 := ⟨by decide +kernel, zmem 641 (by decide +kernel) rfl, zmem 76 (by decide +kernel) rfl, ⟨by decide +kernel, by decide +kernel, by decide +kernel⟩, rfl⟩
abbrev mJ3_checkIndex_8e157 : zMi := (yJ3_checkIndex_8e157, cJ3_checkIndex_8e157, 3, (some .int), { frames := 0, cells := 0, slots := 0, locals := 0 }, none)
theorem okJ3_checkIndex_8e157 : zOK mJ3_checkIndex_8e157 3 := ⟨by decide +kernel, zmem 652 (by decide +kernel) rfl, zmem 78 (by decide +kernel) rfl, ⟨by decide +kernel, by decide +kernel, by decide +kernel⟩, rfl⟩
abbrev mJ0_checkIndex_df160 : zMi := (yJ0_checkIndex_df160, cJ0_checkIndex_df160, 2, none, { frames := 1, cells := 0, slots := 0, locals := 22 }, none)
theorem okJ0_checkIndex_df160 : zOK mJ0_checkIndex_df160 2 := ⟨by decide +kernel, zmem 647 (by decide +kernel) rfl, zmem 76 (by decide +kernel) rfl, ⟨by decide +kernel, by decide +kernel, by decide +kernel⟩, rfl⟩
abbrev mJ1_charAt_3b067 : zMi := (yJ1_charAt_3b067, cJ1_charAt_3b067, 2, (some .char), { frames := 2, cells := 0, slots := 0, locals := 43 }, none)
theorem okJ1_charAt_3b067 : zOK mJ1_charAt_3b067 2 := ⟨by decide +kernel, zmem 644 (by decide +kernel) rfl, zmem 77 (by decide +kernel) rfl, ⟨by decide +kernel, by decide +kernel, by decide +kernel⟩, rfl⟩
abbrev mJ0_charAt_5068e : zMi := (yJ0_charAt_5068e, cJ0_charAt_5068e, 2, (some .char), { frames := 3, cells := 0, slots := 0, locals := 64 }, none)
theorem okJ0_charAt_5068e : zOK mJ0_charAt_5068e 1 := ⟨by decide +kernel, zmem 637 (by decide +kernel) rfl, zmem 76 (by decide +kernel) rfl, ⟨by decide +kernel, by decide +kernel, by decide +kernel⟩, rfl⟩
abbrev mJ0_coder_7d493 : zMi := (yJ0_coder_7d493, cJ0_coder_7d493, 1, (some .byte), { frames := 0, cells := 0, slots := 0, locals := 0 }, none)
theorem okJ0_coder_7d493 : zOK mJ0_coder_7d493 0 := ⟨by decide +kernel, zmem 631 (by decide +kernel) rfl, zmem 76 (by decide +kernel) rfl, ⟨by decide +kernel, by decide +kernel, by decide +kernel⟩, rfl⟩
abbrev mJ0_length_8abf5 : zMi := (yJ0_length_8abf5, cJ0_length_8abf5, 1, (some .int), { frames := 1, cells := 0, slots := 0, locals := 20 }, none)
theorem okJ0_length_8abf5 : zOK mJ0_length_8abf5 0 := ⟨by decide +kernel, zmem 627 (by decide +kernel) rfl, zmem 76 (by decide +kernel) rfl, ⟨by decide +kernel, by decide +kernel, by decide +kernel⟩, rfl⟩
abbrev mX8_spells : zMi := (yX8_spells, cX8_spells, 3, (some .boolean), { frames := 4, cells := 0, slots := 0, locals := 85 }, none)
theorem okX8_spells : zOK mX8_spells 1 := ⟨by decide +kernel, zmem 623 (by decide +kernel) rfl, zmem 62 (by decide +kernel) rfl, ⟨by decide +kernel, by decide +kernel, by decide +kernel⟩, rfl⟩
abbrev mX9_refuse : zMi := (yX9_refuse, cX9_refuse, 3, (some .boolean), { frames := 0, cells := 0, slots := 0, locals := 0 }, none)
theorem okX9_refuse : zOK mX9_refuse 2 := ⟨by decide +kernel, zmem 602 (by decide +kernel) rfl, zmem 63 (by decide +kernel) rfl, ⟨by decide +kernel, by decide +kernel, by decide +kernel⟩, rfl⟩
abbrev mX9_startAnew : zMi := (yX9_startAnew, cX9_startAnew, 2, none, { frames := 4, cells := 0, slots := 0, locals := 82 }, none)
theorem okX9_startAnew : zOK mX9_startAnew 1 := ⟨by decide +kernel, zmem 573 (by decide +kernel) rfl, zmem 63 (by decide +kernel) rfl, ⟨by decide +kernel, by decide +kernel, by decide +kernel⟩, rfl⟩
abbrev mX9_isDue : zMi := (yX9_isDue, cX9_isDue, 3, (some .boolean), { frames := 1, cells := 0, slots := 0, locals := 22 }, none)
theorem okX9_isDue : zOK mX9_isDue 2 := ⟨by decide +kernel, zmem 598 (by decide +kernel) rfl, zmem 63 (by decide +kernel) rfl, ⟨by decide +kernel, by decide +kernel, by decide +kernel⟩, rfl⟩
abbrev mX9_nameOf : zMi := (yX9_nameOf, cX9_nameOf, 1, (some ((.object "java/lang/String"))), { frames := 0, cells := 0, slots := 0, locals := 0 }, none)
theorem okX9_nameOf : zOK mX9_nameOf 1 := ⟨by decide +kernel, zmem 609 (by decide +kernel) rfl, zmem 63 (by decide +kernel) rfl, ⟨by decide +kernel, by decide +kernel, by decide +kernel⟩, rfl⟩
abbrev mX9_kindOfLine : zMi := (yX9_kindOfLine, cX9_kindOfLine, 3, (some .int), { frames := 5, cells := 0, slots := 0, locals := 107 }, none)
theorem okX9_kindOfLine : zOK mX9_kindOfLine 1 := ⟨by decide +kernel, zmem 606 (by decide +kernel) rfl, zmem 63 (by decide +kernel) rfl, ⟨by decide +kernel, by decide +kernel, by decide +kernel⟩, rfl⟩
abbrev mJ1_canEncode_9a6ad : zMi := (yJ1_canEncode_9a6ad, cJ1_canEncode_9a6ad, 1, (some .boolean), { frames := 0, cells := 0, slots := 0, locals := 0 }, none)
theorem okJ1_canEncode_9a6ad : zOK mJ1_canEncode_9a6ad 1 := ⟨by decide +kernel, zmem 696 (by decide +kernel) rfl, zmem 77 (by decide +kernel) rfl, ⟨by decide +kernel, by decide +kernel, by decide +kernel⟩, rfl⟩
abbrev mJ1_indexOfChar_4cfef : zMi := (yJ1_indexOfChar_4cfef, cJ1_indexOfChar_4cfef, 6, (some .int), { frames := 0, cells := 0, slots := 0, locals := 0 }, none)
theorem okJ1_indexOfChar_4cfef : zOK mJ1_indexOfChar_4cfef 4 := ⟨by decide +kernel, zmem 705 (by decide +kernel) rfl, zmem 77 (by decide +kernel) rfl, ⟨by decide +kernel, by decide +kernel, by decide +kernel⟩, rfl⟩
abbrev mJ1_indexOf_4cfef : zMi := (yJ1_indexOf_4cfef, cJ1_indexOf_4cfef, 4, (some .int), { frames := 1, cells := 0, slots := 0, locals := 26 }, none)
theorem okJ1_indexOf_4cfef : zOK mJ1_indexOf_4cfef 4 := ⟨by decide +kernel, zmem 693 (by decide +kernel) rfl, zmem 77 (by decide +kernel) rfl, ⟨by decide +kernel, by decide +kernel, by decide +kernel⟩, rfl⟩
abbrev mJ0_indexOf_7cf53 : zMi := (yJ0_indexOf_7cf53, cJ0_indexOf_7cf53, 3, (some .int), { frames := 2, cells := 0, slots := 0, locals := 49 }, none)
theorem okJ0_indexOf_7cf53 : zOK mJ0_indexOf_7cf53 2 := ⟨by decide +kernel, zmem 689 (by decide +kernel) rfl, zmem 76 (by decide +kernel) rfl, ⟨by decide +kernel, by decide +kernel, by decide +kernel⟩, rfl⟩
abbrev mJ0_indexOf_0f7a4 : zMi := (yJ0_indexOf_0f7a4, cJ0_indexOf_0f7a4, 2, (some .int), { frames := 3, cells := 0, slots := 0, locals := 71 }, none)
theorem okJ0_indexOf_0f7a4 : zOK mJ0_indexOf_0f7a4 1 := ⟨by decide +kernel, zmem 685 (by decide +kernel) rfl, zmem 76 (by decide +kernel) rfl, ⟨by decide +kernel, by decide +kernel, by decide +kernel⟩, rfl⟩
abbrev mX9_takeRow : zMi := (yX9_takeRow, cX9_takeRow, 4, (some .boolean), { frames := 4, cells := 0, slots := 0, locals := 92 }, none)
theorem okX9_takeRow : zOK mX9_takeRow 1 := ⟨by decide +kernel, zmem 679 (by decide +kernel) rfl, zmem 63 (by decide +kernel) rfl, ⟨by decide +kernel, by decide +kernel, by decide +kernel⟩, rfl⟩
abbrev mX9_takeNumber : zMi := (yX9_takeNumber, cX9_takeNumber, 4, (some .boolean), { frames := 2, cells := 0, slots := 0, locals := 44 }, none)
theorem okX9_takeNumber : zOK mX9_takeNumber 3 := ⟨by decide +kernel, zmem 748 (by decide +kernel) rfl, zmem 63 (by decide +kernel) rfl, ⟨by decide +kernel, by decide +kernel, by decide +kernel⟩, rfl⟩
abbrev mX9_takeRule : zMi := (yX9_takeRule, cX9_takeRule, 3, (some .boolean), { frames := 3, cells := 0, slots := 0, locals := 67 }, none)
theorem okX9_takeRule : zOK mX9_takeRule 2 := ⟨by decide +kernel, zmem 755 (by decide +kernel) rfl, zmem 63 (by decide +kernel) rfl, ⟨by decide +kernel, by decide +kernel, by decide +kernel⟩, rfl⟩
abbrev mX9_takeSun : zMi := (yX9_takeSun, cX9_takeSun, 3, (some .boolean), { frames := 3, cells := 0, slots := 0, locals := 67 }, none)
theorem okX9_takeSun : zOK mX9_takeSun 1 := ⟨by decide +kernel, zmem 744 (by decide +kernel) rfl, zmem 63 (by decide +kernel) rfl, ⟨by decide +kernel, by decide +kernel, by decide +kernel⟩, rfl⟩
abbrev mX9_takeLine : zMi := (yX9_takeLine, cX9_takeLine, 4, (some .boolean), { frames := 6, cells := 0, slots := 0, locals := 129 }, none)
theorem okX9_takeLine : zOK mX9_takeLine 1 := ⟨by decide +kernel, zmem 594 (by decide +kernel) rfl, zmem 63 (by decide +kernel) rfl, ⟨by decide +kernel, by decide +kernel, by decide +kernel⟩, rfl⟩
abbrev mX9_readText : zMi := (yX9_readText, cX9_readText, 3, (some .boolean), { frames := 7, cells := 0, slots := 0, locals := 152 }, none)
theorem okX9_readText : zOK mX9_readText 1 := ⟨by decide +kernel, zmem 569 (by decide +kernel) rfl, zmem 63 (by decide +kernel) rfl, ⟨by decide +kernel, by decide +kernel, by decide +kernel⟩, rfl⟩
abbrev mX10_meetGrass : zMi := (yX10_meetGrass, cX10_meetGrass, 3, none, { frames := 1, cells := 0, slots := 0, locals := 26 }, none)
theorem okX10_meetGrass : zOK mX10_meetGrass 2 := ⟨by decide +kernel, zmem 870 (by decide +kernel) rfl, zmem 68 (by decide +kernel) rfl, ⟨by decide +kernel, by decide +kernel, by decide +kernel⟩, rfl⟩
abbrev mX10_goStep : zMi := (yX10_goStep, cX10_goStep, 4, none, { frames := 2, cells := 0, slots := 0, locals := 48 }, none)
theorem okX10_goStep : zOK mX10_goStep 2 := ⟨by decide +kernel, zmem 857 (by decide +kernel) rfl, zmem 68 (by decide +kernel) rfl, ⟨by decide +kernel, by decide +kernel, by decide +kernel⟩, rfl⟩
abbrev mX10_startAnew : zMi := (yX10_startAnew, cX10_startAnew, 4, none, { frames := 2, cells := 0, slots := 0, locals := 43 }, none)
theorem okX10_startAnew : zOK mX10_startAnew 3 := ⟨by decide +kernel, zmem 846 (by decide +kernel) rfl, zmem 68 (by decide +kernel) rfl, ⟨by decide +kernel, by decide +kernel, by decide +kernel⟩, rfl⟩
abbrev mX10_follow : zMi := (yX10_follow, cX10_follow, 10, none, { frames := 3, cells := 0, slots := 0, locals := 71 }, none)
theorem okX10_follow : zOK mX10_follow 4 := ⟨by decide +kernel, zmem 842 (by decide +kernel) rfl, zmem 68 (by decide +kernel) rfl, ⟨by decide +kernel, by decide +kernel, by decide +kernel⟩, rfl⟩
abbrev mX11_feed : zMi := (yX11_feed, cX11_feed, 3, (some .int), { frames := 1, cells := 0, slots := 0, locals := 23 }, none)
theorem okX11_feed : zOK mX11_feed 1 := ⟨by decide +kernel, zmem 553 (by decide +kernel) rfl, zmem 61 (by decide +kernel) rfl, ⟨by decide +kernel, by decide +kernel, by decide +kernel⟩, rfl⟩
abbrev mX11_end : zMi := (yX11_end, cX11_end, 3, (some .int), { frames := 0, cells := 0, slots := 0, locals := 0 }, none)
theorem okX11_end : zOK mX11_end 1 := ⟨by decide +kernel, zmem 561 (by decide +kernel) rfl, zmem 61 (by decide +kernel) rfl, ⟨by decide +kernel, by decide +kernel, by decide +kernel⟩, rfl⟩
abbrev mX11_garden : zMi := (yX11_garden, cX11_garden, 2, (some .int), { frames := 8, cells := 0, slots := 0, locals := 174 }, none)
theorem okX11_garden : zOK mX11_garden 0 := ⟨by decide +kernel, zmem 565 (by decide +kernel) rfl, zmem 61 (by decide +kernel) rfl, ⟨by decide +kernel, by decide +kernel, by decide +kernel⟩, rfl⟩
abbrev mX11_fault : zMi := (yX11_fault, cX11_fault, 1, (some .int), { frames := 0, cells := 0, slots := 0, locals := 0 }, none)
theorem okX11_fault : zOK mX11_fault 0 := ⟨by decide +kernel, zmem 785 (by decide +kernel) rfl, zmem 61 (by decide +kernel) rfl, ⟨by decide +kernel, by decide +kernel, by decide +kernel⟩, rfl⟩
abbrev mX11_rule : zMi := (yX11_rule, cX11_rule, 2, (some .int), { frames := 2, cells := 0, slots := 0, locals := 43 }, none)
theorem okX11_rule : zOK mX11_rule 1 := ⟨by decide +kernel, zmem 789 (by decide +kernel) rfl, zmem 61 (by decide +kernel) rfl, ⟨by decide +kernel, by decide +kernel, by decide +kernel⟩, rfl⟩
abbrev mX11_cell : zMi := (yX11_cell, cX11_cell, 3, (some .int), { frames := 1, cells := 0, slots := 0, locals := 20 }, none)
theorem okX11_cell : zOK mX11_cell 2 := ⟨by decide +kernel, zmem 795 (by decide +kernel) rfl, zmem 61 (by decide +kernel) rfl, ⟨by decide +kernel, by decide +kernel, by decide +kernel⟩, rfl⟩
abbrev mX11_put : zMi := (yX11_put, cX11_put, 4, (some .int), { frames := 2, cells := 0, slots := 0, locals := 43 }, none)
theorem okX11_put : zOK mX11_put 2 := ⟨by decide +kernel, zmem 800 (by decide +kernel) rfl, zmem 61 (by decide +kernel) rfl, ⟨by decide +kernel, by decide +kernel, by decide +kernel⟩, rfl⟩
abbrev mX11_isWay : zMi := (yX11_isWay, cX11_isWay, 1, (some .boolean), { frames := 1, cells := 0, slots := 0, locals := 22 }, none)
theorem okX11_isWay : zOK mX11_isWay 1 := ⟨by decide +kernel, zmem 810 (by decide +kernel) rfl, zmem 61 (by decide +kernel) rfl, ⟨by decide +kernel, by decide +kernel, by decide +kernel⟩, rfl⟩
abbrev mX11_isMove : zMi := (yX11_isMove, cX11_isMove, 2, (some .boolean), { frames := 2, cells := 0, slots := 0, locals := 42 }, none)
theorem okX11_isMove : zOK mX11_isMove 2 := ⟨by decide +kernel, zmem 807 (by decide +kernel) rfl, zmem 61 (by decide +kernel) rfl, ⟨by decide +kernel, by decide +kernel, by decide +kernel⟩, rfl⟩
abbrev mX11_move : zMi := (yX11_move, cX11_move, 3, (some .int), { frames := 3, cells := 0, slots := 0, locals := 63 }, none)
theorem okX11_move : zOK mX11_move 2 := ⟨by decide +kernel, zmem 804 (by decide +kernel) rfl, zmem 61 (by decide +kernel) rfl, ⟨by decide +kernel, by decide +kernel, by decide +kernel⟩, rfl⟩
abbrev mX11_clear : zMi := (yX11_clear, cX11_clear, 2, (some .int), { frames := 0, cells := 0, slots := 0, locals := 0 }, none)
theorem okX11_clear : zOK mX11_clear 0 := ⟨by decide +kernel, zmem 818 (by decide +kernel) rfl, zmem 61 (by decide +kernel) rfl, ⟨by decide +kernel, by decide +kernel, by decide +kernel⟩, rfl⟩
abbrev mX11_moved : zMi := (yX11_moved, cX11_moved, 3, (some .int), { frames := 2, cells := 0, slots := 0, locals := 43 }, none)
theorem okX11_moved : zOK mX11_moved 2 := ⟨by decide +kernel, zmem 822 (by decide +kernel) rfl, zmem 61 (by decide +kernel) rfl, ⟨by decide +kernel, by decide +kernel, by decide +kernel⟩, rfl⟩
abbrev mX11_isMinute : zMi := (yX11_isMinute, cX11_isMinute, 1, (some .boolean), { frames := 1, cells := 0, slots := 0, locals := 22 }, none)
theorem okX11_isMinute : zOK mX11_isMinute 1 := ⟨by decide +kernel, zmem 838 (by decide +kernel) rfl, zmem 61 (by decide +kernel) rfl, ⟨by decide +kernel, by decide +kernel, by decide +kernel⟩, rfl⟩
abbrev mX11_run : zMi := (yX11_run, cX11_run, 3, (some .int), { frames := 4, cells := 0, slots := 0, locals := 100 }, none)
theorem okX11_run : zOK mX11_run 2 := ⟨by decide +kernel, zmem 835 (by decide +kernel) rfl, zmem 61 (by decide +kernel) rfl, ⟨by decide +kernel, by decide +kernel, by decide +kernel⟩, rfl⟩
abbrev mX11_mow : zMi := (yX11_mow, cX11_mow, 2, (some .int), { frames := 4, cells := 0, slots := 0, locals := 100 }, none)
theorem okX11_mow : zOK mX11_mow 1 := ⟨by decide +kernel, zmem 876 (by decide +kernel) rfl, zmem 61 (by decide +kernel) rfl, ⟨by decide +kernel, by decide +kernel, by decide +kernel⟩, rfl⟩
abbrev mX11_cord : zMi := (yX11_cord, cX11_cord, 3, (some .long), { frames := 4, cells := 0, slots := 0, locals := 89 }, none)
theorem okX11_cord : zOK mX11_cord 2 := ⟨by decide +kernel, zmem 881 (by decide +kernel) rfl, zmem 61 (by decide +kernel) rfl, ⟨by decide +kernel, by decide +kernel, by decide +kernel⟩, rfl⟩
abbrev mX11_trips : zMi := (yX11_trips, cX11_trips, 3, (some .int), { frames := 4, cells := 0, slots := 0, locals := 89 }, none)
theorem okX11_trips : zOK mX11_trips 1 := ⟨by decide +kernel, zmem 913 (by decide +kernel) rfl, zmem 61 (by decide +kernel) rfl, ⟨by decide +kernel, by decide +kernel, by decide +kernel⟩, rfl⟩
abbrev mX11_begin : zMi := (yX11_begin, cX11_begin, 2, (some .int), { frames := 4, cells := 0, slots := 0, locals := 100 }, none)
theorem okX11_begin : zOK mX11_begin 0 := ⟨by decide +kernel, zmem 917 (by decide +kernel) rfl, zmem 61 (by decide +kernel) rfl, ⟨by decide +kernel, by decide +kernel, by decide +kernel⟩, rfl⟩
abbrev mX11_need : zMi := (yX11_need, cX11_need, 3, (some .int), { frames := 4, cells := 0, slots := 0, locals := 100 }, none)
theorem okX11_need : zOK mX11_need 1 := ⟨by decide +kernel, zmem 922 (by decide +kernel) rfl, zmem 61 (by decide +kernel) rfl, ⟨by decide +kernel, by decide +kernel, by decide +kernel⟩, rfl⟩
abbrev mX11_seekLeast : zMi := (yX11_seekLeast, cX11_seekLeast, 1, (some .int), { frames := 5, cells := 0, slots := 0, locals := 127 }, none)
theorem okX11_seekLeast : zOK mX11_seekLeast 0 := ⟨by decide +kernel, zmem 930 (by decide +kernel) rfl, zmem 61 (by decide +kernel) rfl, ⟨by decide +kernel, by decide +kernel, by decide +kernel⟩, rfl⟩
abbrev mX11_least : zMi := (yX11_least, cX11_least, 3, (some .int), { frames := 6, cells := 0, slots := 0, locals := 147 }, none)
theorem okX11_least : zOK mX11_least 1 := ⟨by decide +kernel, zmem 926 (by decide +kernel) rfl, zmem 61 (by decide +kernel) rfl, ⟨by decide +kernel, by decide +kernel, by decide +kernel⟩, rfl⟩
abbrev mX11_tree : zMi := (yX11_tree, cX11_tree, 3, (some .int), { frames := 6, cells := 0, slots := 0, locals := 147 }, none)
theorem okX11_tree : zOK mX11_tree 1 := ⟨by decide +kernel, zmem 1008 (by decide +kernel) rfl, zmem 61 (by decide +kernel) rfl, ⟨by decide +kernel, by decide +kernel, by decide +kernel⟩, rfl⟩
abbrev mX11_dearest : zMi := (yX11_dearest, cX11_dearest, 3, (some .int), { frames := 6, cells := 0, slots := 0, locals := 149 }, none)
theorem okX11_dearest : zOK mX11_dearest 1 := ⟨by decide +kernel, zmem 1016 (by decide +kernel) rfl, zmem 61 (by decide +kernel) rfl, ⟨by decide +kernel, by decide +kernel, by decide +kernel⟩, rfl⟩
abbrev mX11_adopt : zMi := (yX11_adopt, cX11_adopt, 3, (some .int), { frames := 6, cells := 0, slots := 0, locals := 147 }, none)
theorem okX11_adopt : zOK mX11_adopt 0 := ⟨by decide +kernel, zmem 1026 (by decide +kernel) rfl, zmem 61 (by decide +kernel) rfl, ⟨by decide +kernel, by decide +kernel, by decide +kernel⟩, rfl⟩
abbrev mX11_steps : zMi := (yX11_steps, cX11_steps, 4, (some .int), { frames := 3, cells := 0, slots := 0, locals := 71 }, none)
theorem okX11_steps : zOK mX11_steps 2 := ⟨by decide +kernel, zmem 1042 (by decide +kernel) rfl, zmem 61 (by decide +kernel) rfl, ⟨by decide +kernel, by decide +kernel, by decide +kernel⟩, rfl⟩
abbrev mX11_beyond : zMi := (yX11_beyond, cX11_beyond, 5, (some .long), { frames := 3, cells := 0, slots := 0, locals := 71 }, none)
theorem okX11_beyond : zOK mX11_beyond 0 := ⟨by decide +kernel, zmem 1053 (by decide +kernel) rfl, zmem 61 (by decide +kernel) rfl, ⟨by decide +kernel, by decide +kernel, by decide +kernel⟩, rfl⟩
abbrev mX11_middle : zMi := (yX11_middle, cX11_middle, 6, (some .int), { frames := 4, cells := 0, slots := 0, locals := 95 }, none)
theorem okX11_middle : zOK mX11_middle 1 := ⟨by decide +kernel, zmem 1058 (by decide +kernel) rfl, zmem 61 (by decide +kernel) rfl, ⟨by decide +kernel, by decide +kernel, by decide +kernel⟩, rfl⟩
abbrev mX11_isRobot : zMi := (yX11_isRobot, cX11_isRobot, 4, (some .boolean), { frames := 2, cells := 0, slots := 0, locals := 42 }, none)
theorem okX11_isRobot : zOK mX11_isRobot 4 := ⟨by decide +kernel, zmem 1072 (by decide +kernel) rfl, zmem 61 (by decide +kernel) rfl, ⟨by decide +kernel, by decide +kernel, by decide +kernel⟩, rfl⟩
abbrev mX11_robot : zMi := (yX11_robot, cX11_robot, 7, (some .long), { frames := 4, cells := 0, slots := 0, locals := 92 }, none)
theorem okX11_robot : zOK mX11_robot 6 := ⟨by decide +kernel, zmem 1069 (by decide +kernel) rfl, zmem 61 (by decide +kernel) rfl, ⟨by decide +kernel, by decide +kernel, by decide +kernel⟩, rfl⟩
abbrev mX11_until : zMi := (yX11_until, cX11_until, 11, (some .int), { frames := 3, cells := 0, slots := 0, locals := 68 }, none)
theorem okX11_until : zOK mX11_until 6 := ⟨by decide +kernel, zmem 1096 (by decide +kernel) rfl, zmem 61 (by decide +kernel) rfl, ⟨by decide +kernel, by decide +kernel, by decide +kernel⟩, rfl⟩
abbrev mX11_never : zMi := (yX11_never, cX11_never, 4, (some .long), { frames := 4, cells := 0, slots := 0, locals := 92 }, none)
theorem okX11_never : zOK mX11_never 3 := ⟨by decide +kernel, zmem 1102 (by decide +kernel) rfl, zmem 61 (by decide +kernel) rfl, ⟨by decide +kernel, by decide +kernel, by decide +kernel⟩, rfl⟩
abbrev mX11_best : zMi := (yX11_best, cX11_best, 10, (some .int), { frames := 4, cells := 0, slots := 0, locals := 92 }, none)
theorem okX11_best : zOK mX11_best 5 := ⟨by decide +kernel, zmem 1106 (by decide +kernel) rfl, zmem 61 (by decide +kernel) rfl, ⟨by decide +kernel, by decide +kernel, by decide +kernel⟩, rfl⟩
abbrev mX11_odds : zMi := (yX11_odds, cX11_odds, 6, (some .long), { frames := 5, cells := 0, slots := 0, locals := 120 }, none)
theorem okX11_odds : zOK mX11_odds 5 := ⟨by decide +kernel, zmem 1110 (by decide +kernel) rfl, zmem 61 (by decide +kernel) rfl, ⟨by decide +kernel, by decide +kernel, by decide +kernel⟩, rfl⟩
abbrev mX11_week : zMi := (yX11_week, cX11_week, 4, (some .int), { frames := 3, cells := 0, slots := 0, locals := 63 }, none)
theorem okX11_week : zOK mX11_week 1 := ⟨by decide +kernel, zmem 1133 (by decide +kernel) rfl, zmem 61 (by decide +kernel) rfl, ⟨by decide +kernel, by decide +kernel, by decide +kernel⟩, rfl⟩
abbrev mX11_high : zMi := (yX11_high, cX11_high, 8, (some .long), { frames := 3, cells := 0, slots := 0, locals := 63 }, none)
theorem okX11_high : zOK mX11_high 2 := ⟨by decide +kernel, zmem 1142 (by decide +kernel) rfl, zmem 61 (by decide +kernel) rfl, ⟨by decide +kernel, by decide +kernel, by decide +kernel⟩, rfl⟩
abbrev mX11_weeks : zMi := (yX11_weeks, cX11_weeks, 4, (some .int), { frames := 3, cells := 0, slots := 0, locals := 63 }, none)
theorem okX11_weeks : zOK mX11_weeks 1 := ⟨by decide +kernel, zmem 1146 (by decide +kernel) rfl, zmem 61 (by decide +kernel) rfl, ⟨by decide +kernel, by decide +kernel, by decide +kernel⟩, rfl⟩
abbrev mX11_stripes : zMi := (yX11_stripes, cX11_stripes, 4, (some .int), { frames := 2, cells := 0, slots := 0, locals := 42 }, none)
theorem okX11_stripes : zOK mX11_stripes 1 := ⟨by decide +kernel, zmem 1150 (by decide +kernel) rfl, zmem 61 (by decide +kernel) rfl, ⟨by decide +kernel, by decide +kernel, by decide +kernel⟩, rfl⟩
abbrev mX11_keep : zMi := (yX11_keep, cX11_keep, 3, (some .int), { frames := 2, cells := 0, slots := 0, locals := 47 }, none)
theorem okX11_keep : zOK mX11_keep 1 := ⟨by decide +kernel, zmem 1158 (by decide +kernel) rfl, zmem 61 (by decide +kernel) rfl, ⟨by decide +kernel, by decide +kernel, by decide +kernel⟩, rfl⟩
abbrev mX11_back : zMi := (yX11_back, cX11_back, 2, (some .int), { frames := 2, cells := 0, slots := 0, locals := 47 }, none)
theorem okX11_back : zOK mX11_back 1 := ⟨by decide +kernel, zmem 1163 (by decide +kernel) rfl, zmem 61 (by decide +kernel) rfl, ⟨by decide +kernel, by decide +kernel, by decide +kernel⟩, rfl⟩
abbrev mX11_isLane : zMi := (yX11_isLane, cX11_isLane, 1, (some .boolean), { frames := 1, cells := 0, slots := 0, locals := 22 }, none)
theorem okX11_isLane : zOK mX11_isLane 1 := ⟨by decide +kernel, zmem 1173 (by decide +kernel) rfl, zmem 61 (by decide +kernel) rfl, ⟨by decide +kernel, by decide +kernel, by decide +kernel⟩, rfl⟩
abbrev mX11_isSheet : zMi := (yX11_isSheet, cX11_isSheet, 1, (some .boolean), { frames := 1, cells := 0, slots := 0, locals := 22 }, none)
theorem okX11_isSheet : zOK mX11_isSheet 1 := ⟨by decide +kernel, zmem 1170 (by decide +kernel) rfl, zmem 61 (by decide +kernel) rfl, ⟨by decide +kernel, by decide +kernel, by decide +kernel⟩, rfl⟩
abbrev mX11_sheet : zMi := (yX11_sheet, cX11_sheet, 4, (some .int), { frames := 2, cells := 0, slots := 0, locals := 45 }, none)
theorem okX11_sheet : zOK mX11_sheet 3 := ⟨by decide +kernel, zmem 1167 (by decide +kernel) rfl, zmem 61 (by decide +kernel) rfl, ⟨by decide +kernel, by decide +kernel, by decide +kernel⟩, rfl⟩
abbrev mX11_lay : zMi := (yX11_lay, cX11_lay, 6, (some .int), { frames := 2, cells := 0, slots := 0, locals := 44 }, none)
theorem okX11_lay : zOK mX11_lay 3 := ⟨by decide +kernel, zmem 1182 (by decide +kernel) rfl, zmem 61 (by decide +kernel) rfl, ⟨by decide +kernel, by decide +kernel, by decide +kernel⟩, rfl⟩
abbrev mX11_moveFrom : zMi := (yX11_moveFrom, cX11_moveFrom, 6, (some .int), { frames := 3, cells := 0, slots := 0, locals := 63 }, none)
theorem okX11_moveFrom : zOK mX11_moveFrom 3 := ⟨by decide +kernel, zmem 1204 (by decide +kernel) rfl, zmem 61 (by decide +kernel) rfl, ⟨by decide +kernel, by decide +kernel, by decide +kernel⟩, rfl⟩
abbrev mX11_read : zMi := (yX11_read, cX11_read, 12, (some .int), { frames := 4, cells := 0, slots := 0, locals := 88 }, none)
theorem okX11_read : zOK mX11_read 4 := ⟨by decide +kernel, zmem 1199 (by decide +kernel) rfl, zmem 61 (by decide +kernel) rfl, ⟨by decide +kernel, by decide +kernel, by decide +kernel⟩, rfl⟩
abbrev mX11_torn : zMi := (yX11_torn, cX11_torn, 1, (some .int), { frames := 0, cells := 0, slots := 0, locals := 0 }, none)
theorem okX11_torn : zOK mX11_torn 0 := ⟨by decide +kernel, zmem 1212 (by decide +kernel) rfl, zmem 61 (by decide +kernel) rfl, ⟨by decide +kernel, by decide +kernel, by decide +kernel⟩, rfl⟩
abbrev mX11_count : zMi := (yX11_count, cX11_count, 2, (some .int), { frames := 4, cells := 0, slots := 0, locals := 84 }, none)
theorem okX11_count : zOK mX11_count 1 := ⟨by decide +kernel, zmem 1216 (by decide +kernel) rfl, zmem 61 (by decide +kernel) rfl, ⟨by decide +kernel, by decide +kernel, by decide +kernel⟩, rfl⟩
abbrev mX12_in : zMi := (yX12_in, cX12_in, 6, (some .boolean), { frames := 0, cells := 0, slots := 0, locals := 0 }, none)
theorem okX12_in : zOK mX12_in 3 := ⟨by decide +kernel, zmem 1396 (by decide +kernel) rfl, zmem 75 (by decide +kernel) rfl, ⟨by decide +kernel, by decide +kernel, by decide +kernel⟩, rfl⟩
abbrev mX12_feed : zMi := (yX12_feed, cX12_feed, 4, (some .int), { frames := 0, cells := 0, slots := 0, locals := 0 }, none)
theorem okX12_feed : zOK mX12_feed 1 := ⟨by decide +kernel, zmem 1389 (by decide +kernel) rfl, zmem 75 (by decide +kernel) rfl, ⟨by decide +kernel, by decide +kernel, by decide +kernel⟩, rfl⟩
abbrev mX12_end : zMi := (yX12_end, cX12_end, 3, (some .int), { frames := 1, cells := 0, slots := 0, locals := 25 }, none)
theorem okX12_end : zOK mX12_end 1 := ⟨by decide +kernel, zmem 1393 (by decide +kernel) rfl, zmem 75 (by decide +kernel) rfl, ⟨by decide +kernel, by decide +kernel, by decide +kernel⟩, rfl⟩
abbrev mX12_byteAt : zMi := (yX12_byteAt, cX12_byteAt, 2, (some .int), { frames := 0, cells := 0, slots := 0, locals := 0 }, none)
theorem okX12_byteAt : zOK mX12_byteAt 1 := ⟨by decide +kernel, zmem 1408 (by decide +kernel) rfl, zmem 75 (by decide +kernel) rfl, ⟨by decide +kernel, by decide +kernel, by decide +kernel⟩, rfl⟩
abbrev mX12_fails : zMi := (yX12_fails, cX12_fails, 2, none, { frames := 0, cells := 0, slots := 0, locals := 0 }, none)
theorem okX12_fails : zOK mX12_fails 1 := ⟨by decide +kernel, zmem 1416 (by decide +kernel) rfl, zmem 75 (by decide +kernel) rfl, ⟨by decide +kernel, by decide +kernel, by decide +kernel⟩, rfl⟩
abbrev mX12_nameHere : zMi := (yX12_nameHere, cX12_nameHere, 4, (some .int), { frames := 1, cells := 0, slots := 0, locals := 21 }, none)
theorem okX12_nameHere : zOK mX12_nameHere 0 := ⟨by decide +kernel, zmem 1424 (by decide +kernel) rfl, zmem 75 (by decide +kernel) rfl, ⟨by decide +kernel, by decide +kernel, by decide +kernel⟩, rfl⟩
abbrev mX12_next : zMi := (yX12_next, cX12_next, 2, none, { frames := 1, cells := 0, slots := 0, locals := 25 }, none)
theorem okX12_next : zOK mX12_next 0 := ⟨by decide +kernel, zmem 1404 (by decide +kernel) rfl, zmem 75 (by decide +kernel) rfl, ⟨by decide +kernel, by decide +kernel, by decide +kernel⟩, rfl⟩
abbrev mX12_here : zMi := (yX12_here, cX12_here, 3, (some .int), { frames := 1, cells := 0, slots := 0, locals := 25 }, none)
theorem okX12_here : zOK mX12_here 2 := ⟨by decide +kernel, zmem 1439 (by decide +kernel) rfl, zmem 75 (by decide +kernel) rfl, ⟨by decide +kernel, by decide +kernel, by decide +kernel⟩, rfl⟩
abbrev mX12_kindOf : zMi := (yX12_kindOf, cX12_kindOf, 1, (some .int), { frames := 0, cells := 0, slots := 0, locals := 0 }, none)
theorem okX12_kindOf : zOK mX12_kindOf 1 := ⟨by decide +kernel, zmem 1431 (by decide +kernel) rfl, zmem 75 (by decide +kernel) rfl, ⟨by decide +kernel, by decide +kernel, by decide +kernel⟩, rfl⟩
abbrev mX12_readRow : zMi := (yX12_readRow, cX12_readRow, 4, none, { frames := 2, cells := 0, slots := 0, locals := 46 }, none)
theorem okX12_readRow : zOK mX12_readRow 0 := ⟨by decide +kernel, zmem 1428 (by decide +kernel) rfl, zmem 75 (by decide +kernel) rfl, ⟨by decide +kernel, by decide +kernel, by decide +kernel⟩, rfl⟩
abbrev mX12_readSun : zMi := (yX12_readSun, cX12_readSun, 3, none, { frames := 2, cells := 0, slots := 0, locals := 47 }, none)
theorem okX12_readSun : zOK mX12_readSun 0 := ⟨by decide +kernel, zmem 1435 (by decide +kernel) rfl, zmem 75 (by decide +kernel) rfl, ⟨by decide +kernel, by decide +kernel, by decide +kernel⟩, rfl⟩
abbrev mX12_readLine : zMi := (yX12_readLine, cX12_readLine, 2, none, { frames := 3, cells := 0, slots := 0, locals := 69 }, none)
theorem okX12_readLine : zOK mX12_readLine 0 := ⟨by decide +kernel, zmem 1420 (by decide +kernel) rfl, zmem 75 (by decide +kernel) rfl, ⟨by decide +kernel, by decide +kernel, by decide +kernel⟩, rfl⟩
abbrev mX12_takeAll : zMi := (yX12_takeAll, cX12_takeAll, 2, none, { frames := 0, cells := 0, slots := 0, locals := 0 }, none)
theorem okX12_takeAll : zOK mX12_takeAll 0 := ⟨by decide +kernel, zmem 1443 (by decide +kernel) rfl, zmem 75 (by decide +kernel) rfl, ⟨by decide +kernel, by decide +kernel, by decide +kernel⟩, rfl⟩
abbrev mX12_garden : zMi := (yX12_garden, cX12_garden, 3, (some .int), { frames := 4, cells := 0, slots := 0, locals := 90 }, none)
theorem okX12_garden : zOK mX12_garden 0 := ⟨by decide +kernel, zmem 1400 (by decide +kernel) rfl, zmem 75 (by decide +kernel) rfl, ⟨by decide +kernel, by decide +kernel, by decide +kernel⟩, rfl⟩
abbrev mX12_fault : zMi := (yX12_fault, cX12_fault, 1, (some .int), { frames := 0, cells := 0, slots := 0, locals := 0 }, none)
theorem okX12_fault : zOK mX12_fault 0 := ⟨by decide +kernel, zmem 1447 (by decide +kernel) rfl, zmem 75 (by decide +kernel) rfl, ⟨by decide +kernel, by decide +kernel, by decide +kernel⟩, rfl⟩
abbrev mX12_rule : zMi := (yX12_rule, cX12_rule, 2, (some .int), { frames := 1, cells := 0, slots := 0, locals := 25 }, none)
theorem okX12_rule : zOK mX12_rule 1 := ⟨by decide +kernel, zmem 1451 (by decide +kernel) rfl, zmem 75 (by decide +kernel) rfl, ⟨by decide +kernel, by decide +kernel, by decide +kernel⟩, rfl⟩
abbrev mX12_awake : zMi := (yX12_awake, cX12_awake, 2, none, { frames := 0, cells := 0, slots := 0, locals := 0 }, none)
theorem okX12_awake : zOK mX12_awake 0 := ⟨by decide +kernel, zmem 1460 (by decide +kernel) rfl, zmem 75 (by decide +kernel) rfl, ⟨by decide +kernel, by decide +kernel, by decide +kernel⟩, rfl⟩
abbrev mX12_isCell : zMi := (yX12_isCell, cX12_isCell, 1, (some .boolean), { frames := 1, cells := 0, slots := 0, locals := 25 }, none)
theorem okX12_isCell : zOK mX12_isCell 1 := ⟨by decide +kernel, zmem 1463 (by decide +kernel) rfl, zmem 75 (by decide +kernel) rfl, ⟨by decide +kernel, by decide +kernel, by decide +kernel⟩, rfl⟩
abbrev mX12_isGrass : zMi := (yX12_isGrass, cX12_isGrass, 2, (some .boolean), { frames := 0, cells := 0, slots := 0, locals := 0 }, none)
theorem okX12_isGrass : zOK mX12_isGrass 1 := ⟨by decide +kernel, zmem 1522 (by decide +kernel) rfl, zmem 75 (by decide +kernel) rfl, ⟨by decide +kernel, by decide +kernel, by decide +kernel⟩, rfl⟩
abbrev mX12_cell : zMi := (yX12_cell, cX12_cell, 3, (some .int), { frames := 2, cells := 0, slots := 0, locals := 45 }, none)
theorem okX12_cell : zOK mX12_cell 2 := ⟨by decide +kernel, zmem 1456 (by decide +kernel) rfl, zmem 75 (by decide +kernel) rfl, ⟨by decide +kernel, by decide +kernel, by decide +kernel⟩, rfl⟩
abbrev mX12_put : zMi := (yX12_put, cX12_put, 4, (some .int), { frames := 2, cells := 0, slots := 0, locals := 45 }, none)
theorem okX12_put : zOK mX12_put 2 := ⟨by decide +kernel, zmem 1469 (by decide +kernel) rfl, zmem 75 (by decide +kernel) rfl, ⟨by decide +kernel, by decide +kernel, by decide +kernel⟩, rfl⟩
abbrev mX12_isMove : zMi := (yX12_isMove, cX12_isMove, 2, (some .boolean), { frames := 1, cells := 0, slots := 0, locals := 25 }, none)
theorem okX12_isMove : zOK mX12_isMove 2 := ⟨by decide +kernel, zmem 1477 (by decide +kernel) rfl, zmem 75 (by decide +kernel) rfl, ⟨by decide +kernel, by decide +kernel, by decide +kernel⟩, rfl⟩
abbrev mX12_addMove : zMi := (yX12_addMove, cX12_addMove, 3, none, { frames := 0, cells := 0, slots := 0, locals := 0 }, none)
theorem okX12_addMove : zOK mX12_addMove 2 := ⟨by decide +kernel, zmem 1482 (by decide +kernel) rfl, zmem 75 (by decide +kernel) rfl, ⟨by decide +kernel, by decide +kernel, by decide +kernel⟩, rfl⟩
abbrev mX12_move : zMi := (yX12_move, cX12_move, 3, (some .int), { frames := 2, cells := 0, slots := 0, locals := 46 }, none)
theorem okX12_move : zOK mX12_move 2 := ⟨by decide +kernel, zmem 1474 (by decide +kernel) rfl, zmem 75 (by decide +kernel) rfl, ⟨by decide +kernel, by decide +kernel, by decide +kernel⟩, rfl⟩
abbrev mX12_clear : zMi := (yX12_clear, cX12_clear, 2, (some .int), { frames := 0, cells := 0, slots := 0, locals := 0 }, none)
theorem okX12_clear : zOK mX12_clear 0 := ⟨by decide +kernel, zmem 1486 (by decide +kernel) rfl, zmem 75 (by decide +kernel) rfl, ⟨by decide +kernel, by decide +kernel, by decide +kernel⟩, rfl⟩
abbrev mX12_moved : zMi := (yX12_moved, cX12_moved, 3, (some .int), { frames := 1, cells := 0, slots := 0, locals := 25 }, none)
theorem okX12_moved : zOK mX12_moved 2 := ⟨by decide +kernel, zmem 1490 (by decide +kernel) rfl, zmem 75 (by decide +kernel) rfl, ⟨by decide +kernel, by decide +kernel, by decide +kernel⟩, rfl⟩
abbrev mX12_nextOf : zMi := (yX12_nextOf, cX12_nextOf, 6, (some .int), { frames := 1, cells := 0, slots := 0, locals := 25 }, none)
theorem okX12_nextOf : zOK mX12_nextOf 2 := ⟨by decide +kernel, zmem 1510 (by decide +kernel) rfl, zmem 75 (by decide +kernel) rfl, ⟨by decide +kernel, by decide +kernel, by decide +kernel⟩, rfl⟩
abbrev mX12_quarters : zMi := (yX12_quarters, cX12_quarters, 3, (some .int), { frames := 0, cells := 0, slots := 0, locals := 0 }, none)
theorem okX12_quarters : zOK mX12_quarters 2 := ⟨by decide +kernel, zmem 1506 (by decide +kernel) rfl, zmem 75 (by decide +kernel) rfl, ⟨by decide +kernel, by decide +kernel, by decide +kernel⟩, rfl⟩
abbrev mX12_minutesOf : zMi := (yX12_minutesOf, cX12_minutesOf, 3, (some .int), { frames := 0, cells := 0, slots := 0, locals := 0 }, none)
theorem okX12_minutesOf : zOK mX12_minutesOf 2 := ⟨by decide +kernel, zmem 1514 (by decide +kernel) rfl, zmem 75 (by decide +kernel) rfl, ⟨by decide +kernel, by decide +kernel, by decide +kernel⟩, rfl⟩
abbrev mX12_isThere : zMi := (yX12_isThere, cX12_isThere, 5, none, { frames := 1, cells := 0, slots := 0, locals := 21 }, none)
theorem okX12_isThere : zOK mX12_isThere 4 := ⟨by decide +kernel, zmem 1518 (by decide +kernel) rfl, zmem 75 (by decide +kernel) rfl, ⟨by decide +kernel, by decide +kernel, by decide +kernel⟩, rfl⟩
abbrev mX12_walks : zMi := (yX12_walks, cX12_walks, 9, none, { frames := 2, cells := 0, slots := 0, locals := 50 }, none)
theorem okX12_walks : zOK mX12_walks 2 := ⟨by decide +kernel, zmem 1503 (by decide +kernel) rfl, zmem 75 (by decide +kernel) rfl, ⟨by decide +kernel, by decide +kernel, by decide +kernel⟩, rfl⟩
abbrev mX12_isMinute : zMi := (yX12_isMinute, cX12_isMinute, 1, (some .boolean), { frames := 1, cells := 0, slots := 0, locals := 25 }, none)
theorem okX12_isMinute : zOK mX12_isMinute 1 := ⟨by decide +kernel, zmem 1497 (by decide +kernel) rfl, zmem 75 (by decide +kernel) rfl, ⟨by decide +kernel, by decide +kernel, by decide +kernel⟩, rfl⟩
abbrev mX12_run : zMi := (yX12_run, cX12_run, 3, (some .int), { frames := 3, cells := 0, slots := 0, locals := 78 }, none)
theorem okX12_run : zOK mX12_run 2 := ⟨by decide +kernel, zmem 1494 (by decide +kernel) rfl, zmem 75 (by decide +kernel) rfl, ⟨by decide +kernel, by decide +kernel, by decide +kernel⟩, rfl⟩
abbrev mX12_mow : zMi := (yX12_mow, cX12_mow, 3, (some .int), { frames := 3, cells := 0, slots := 0, locals := 78 }, none)
theorem okX12_mow : zOK mX12_mow 1 := ⟨by decide +kernel, zmem 1526 (by decide +kernel) rfl, zmem 75 (by decide +kernel) rfl, ⟨by decide +kernel, by decide +kernel, by decide +kernel⟩, rfl⟩
abbrev mX12_layCord : zMi := (yX12_layCord, cX12_layCord, 6, none, { frames := 0, cells := 0, slots := 0, locals := 0 }, none)
theorem okX12_layCord : zOK mX12_layCord 1 := ⟨by decide +kernel, zmem 1535 (by decide +kernel) rfl, zmem 75 (by decide +kernel) rfl, ⟨by decide +kernel, by decide +kernel, by decide +kernel⟩, rfl⟩
abbrev mX12_cord : zMi := (yX12_cord, cX12_cord, 6, (some .long), { frames := 3, cells := 0, slots := 0, locals := 78 }, none)
theorem okX12_cord : zOK mX12_cord 2 := ⟨by decide +kernel, zmem 1530 (by decide +kernel) rfl, zmem 75 (by decide +kernel) rfl, ⟨by decide +kernel, by decide +kernel, by decide +kernel⟩, rfl⟩
abbrev mX12_trips : zMi := (yX12_trips, cX12_trips, 2, (some .int), { frames := 3, cells := 0, slots := 0, locals := 78 }, none)
theorem okX12_trips : zOK mX12_trips 1 := ⟨by decide +kernel, zmem 1539 (by decide +kernel) rfl, zmem 75 (by decide +kernel) rfl, ⟨by decide +kernel, by decide +kernel, by decide +kernel⟩, rfl⟩
abbrev mX12_begin : zMi := (yX12_begin, cX12_begin, 2, (some .int), { frames := 3, cells := 0, slots := 0, locals := 78 }, none)
theorem okX12_begin : zOK mX12_begin 0 := ⟨by decide +kernel, zmem 1543 (by decide +kernel) rfl, zmem 75 (by decide +kernel) rfl, ⟨by decide +kernel, by decide +kernel, by decide +kernel⟩, rfl⟩
abbrev mX12_need : zMi := (yX12_need, cX12_need, 3, (some .int), { frames := 3, cells := 0, slots := 0, locals := 78 }, none)
theorem okX12_need : zOK mX12_need 1 := ⟨by decide +kernel, zmem 1547 (by decide +kernel) rfl, zmem 75 (by decide +kernel) rfl, ⟨by decide +kernel, by decide +kernel, by decide +kernel⟩, rfl⟩
abbrev mX12_grassMany : zMi := (yX12_grassMany, cX12_grassMany, 3, (some .int), { frames := 1, cells := 0, slots := 0, locals := 21 }, none)
theorem okX12_grassMany : zOK mX12_grassMany 0 := ⟨by decide +kernel, zmem 1560 (by decide +kernel) rfl, zmem 75 (by decide +kernel) rfl, ⟨by decide +kernel, by decide +kernel, by decide +kernel⟩, rfl⟩
abbrev mX12_stepCost : zMi := (yX12_stepCost, cX12_stepCost, 4, (some .int), { frames := 2, cells := 0, slots := 0, locals := 50 }, none)
theorem okX12_stepCost : zOK mX12_stepCost 3 := ⟨by decide +kernel, zmem 1573 (by decide +kernel) rfl, zmem 75 (by decide +kernel) rfl, ⟨by decide +kernel, by decide +kernel, by decide +kernel⟩, rfl⟩
abbrev mX12_behind : zMi := (yX12_behind, cX12_behind, 5, (some .int), { frames := 2, cells := 0, slots := 0, locals := 50 }, none)
theorem okX12_behind : zOK mX12_behind 3 := ⟨by decide +kernel, zmem 1577 (by decide +kernel) rfl, zmem 75 (by decide +kernel) rfl, ⟨by decide +kernel, by decide +kernel, by decide +kernel⟩, rfl⟩
abbrev mX12_oneSet : zMi := (yX12_oneSet, cX12_oneSet, 8, none, { frames := 3, cells := 0, slots := 0, locals := 74 }, none)
theorem okX12_oneSet : zOK mX12_oneSet 1 := ⟨by decide +kernel, zmem 1569 (by decide +kernel) rfl, zmem 75 (by decide +kernel) rfl, ⟨by decide +kernel, by decide +kernel, by decide +kernel⟩, rfl⟩
abbrev mX12_layLeast : zMi := (yX12_layLeast, cX12_layLeast, 4, (some .int), { frames := 4, cells := 0, slots := 0, locals := 101 }, none)
theorem okX12_layLeast : zOK mX12_layLeast 0 := ⟨by decide +kernel, zmem 1564 (by decide +kernel) rfl, zmem 75 (by decide +kernel) rfl, ⟨by decide +kernel, by decide +kernel, by decide +kernel⟩, rfl⟩
abbrev mX12_layWay : zMi := (yX12_layWay, cX12_layWay, 7, none, { frames := 3, cells := 0, slots := 0, locals := 74 }, none)
theorem okX12_layWay : zOK mX12_layWay 0 := ⟨by decide +kernel, zmem 1581 (by decide +kernel) rfl, zmem 75 (by decide +kernel) rfl, ⟨by decide +kernel, by decide +kernel, by decide +kernel⟩, rfl⟩
abbrev mX12_hinders : zMi := (yX12_hinders, cX12_hinders, 1, (some .int), { frames := 5, cells := 0, slots := 0, locals := 124 }, none)
theorem okX12_hinders : zOK mX12_hinders 0 := ⟨by decide +kernel, zmem 1556 (by decide +kernel) rfl, zmem 75 (by decide +kernel) rfl, ⟨by decide +kernel, by decide +kernel, by decide +kernel⟩, rfl⟩
abbrev mX12_least : zMi := (yX12_least, cX12_least, 4, (some .int), { frames := 6, cells := 0, slots := 0, locals := 144 }, none)
theorem okX12_least : zOK mX12_least 1 := ⟨by decide +kernel, zmem 1551 (by decide +kernel) rfl, zmem 75 (by decide +kernel) rfl, ⟨by decide +kernel, by decide +kernel, by decide +kernel⟩, rfl⟩
abbrev mX12_withoutTree : zMi := (yX12_withoutTree, cX12_withoutTree, 3, (some .int), { frames := 5, cells := 0, slots := 0, locals := 124 }, none)
theorem okX12_withoutTree : zOK mX12_withoutTree 1 := ⟨by decide +kernel, zmem 1589 (by decide +kernel) rfl, zmem 75 (by decide +kernel) rfl, ⟨by decide +kernel, by decide +kernel, by decide +kernel⟩, rfl⟩
abbrev mX12_tree : zMi := (yX12_tree, cX12_tree, 4, (some .int), { frames := 6, cells := 0, slots := 0, locals := 146 }, none)
theorem okX12_tree : zOK mX12_tree 1 := ⟨by decide +kernel, zmem 1585 (by decide +kernel) rfl, zmem 75 (by decide +kernel) rfl, ⟨by decide +kernel, by decide +kernel, by decide +kernel⟩, rfl⟩
abbrev mX12_dearest : zMi := (yX12_dearest, cX12_dearest, 8, (some .int), { frames := 6, cells := 0, slots := 0, locals := 146 }, none)
theorem okX12_dearest : zOK mX12_dearest 1 := ⟨by decide +kernel, zmem 1593 (by decide +kernel) rfl, zmem 75 (by decide +kernel) rfl, ⟨by decide +kernel, by decide +kernel, by decide +kernel⟩, rfl⟩
abbrev mX12_adopt : zMi := (yX12_adopt, cX12_adopt, 6, (some .int), { frames := 6, cells := 0, slots := 0, locals := 144 }, none)
theorem okX12_adopt : zOK mX12_adopt 0 := ⟨by decide +kernel, zmem 1597 (by decide +kernel) rfl, zmem 75 (by decide +kernel) rfl, ⟨by decide +kernel, by decide +kernel, by decide +kernel⟩, rfl⟩
abbrev mX12_laySteps : zMi := (yX12_laySteps, cX12_laySteps, 5, none, { frames := 2, cells := 0, slots := 0, locals := 50 }, none)
theorem okX12_laySteps : zOK mX12_laySteps 1 := ⟨by decide +kernel, zmem 1605 (by decide +kernel) rfl, zmem 75 (by decide +kernel) rfl, ⟨by decide +kernel, by decide +kernel, by decide +kernel⟩, rfl⟩
abbrev mX12_steps : zMi := (yX12_steps, cX12_steps, 3, (some .int), { frames := 3, cells := 0, slots := 0, locals := 74 }, none)
theorem okX12_steps : zOK mX12_steps 2 := ⟨by decide +kernel, zmem 1601 (by decide +kernel) rfl, zmem 75 (by decide +kernel) rfl, ⟨by decide +kernel, by decide +kernel, by decide +kernel⟩, rfl⟩
abbrev mX12_beyond : zMi := (yX12_beyond, cX12_beyond, 4, (some .long), { frames := 3, cells := 0, slots := 0, locals := 74 }, none)
theorem okX12_beyond : zOK mX12_beyond 0 := ⟨by decide +kernel, zmem 1609 (by decide +kernel) rfl, zmem 75 (by decide +kernel) rfl, ⟨by decide +kernel, by decide +kernel, by decide +kernel⟩, rfl⟩
abbrev mX12_middle : zMi := (yX12_middle, cX12_middle, 7, (some .int), { frames := 3, cells := 0, slots := 0, locals := 74 }, none)
theorem okX12_middle : zOK mX12_middle 1 := ⟨by decide +kernel, zmem 1613 (by decide +kernel) rfl, zmem 75 (by decide +kernel) rfl, ⟨by decide +kernel, by decide +kernel, by decide +kernel⟩, rfl⟩
abbrev mX12_begins : zMi := (yX12_begins, cX12_begins, 4, none, { frames := 0, cells := 0, slots := 0, locals := 0 }, none)
theorem okX12_begins : zOK mX12_begins 3 := ⟨by decide +kernel, zmem 1625 (by decide +kernel) rfl, zmem 75 (by decide +kernel) rfl, ⟨by decide +kernel, by decide +kernel, by decide +kernel⟩, rfl⟩
abbrev mX12_robotStep : zMi := (yX12_robotStep, cX12_robotStep, 3, none, { frames := 2, cells := 0, slots := 0, locals := 50 }, none)
theorem okX12_robotStep : zOK mX12_robotStep 1 := ⟨by decide +kernel, zmem 1629 (by decide +kernel) rfl, zmem 75 (by decide +kernel) rfl, ⟨by decide +kernel, by decide +kernel, by decide +kernel⟩, rfl⟩
abbrev mX12_isRobot : zMi := (yX12_isRobot, cX12_isRobot, 2, (some .boolean), { frames := 2, cells := 0, slots := 0, locals := 45 }, none)
theorem okX12_isRobot : zOK mX12_isRobot 2 := ⟨by decide +kernel, zmem 1620 (by decide +kernel) rfl, zmem 75 (by decide +kernel) rfl, ⟨by decide +kernel, by decide +kernel, by decide +kernel⟩, rfl⟩
abbrev mX12_bitsOf : zMi := (yX12_bitsOf, cX12_bitsOf, 4, (some .int), { frames := 0, cells := 0, slots := 0, locals := 0 }, none)
theorem okX12_bitsOf : zOK mX12_bitsOf 1 := ⟨by decide +kernel, zmem 1633 (by decide +kernel) rfl, zmem 75 (by decide +kernel) rfl, ⟨by decide +kernel, by decide +kernel, by decide +kernel⟩, rfl⟩
abbrev mX12_grass : zMi := (yX12_grass, cX12_grass, 4, (some .long), { frames := 1, cells := 0, slots := 0, locals := 21 }, none)
theorem okX12_grass : zOK mX12_grass 0 := ⟨by decide +kernel, zmem 1642 (by decide +kernel) rfl, zmem 75 (by decide +kernel) rfl, ⟨by decide +kernel, by decide +kernel, by decide +kernel⟩, rfl⟩
abbrev mX12_robot : zMi := (yX12_robot, cX12_robot, 8, (some .long), { frames := 3, cells := 0, slots := 0, locals := 72 }, none)
theorem okX12_robot : zOK mX12_robot 6 := ⟨by decide +kernel, zmem 1617 (by decide +kernel) rfl, zmem 75 (by decide +kernel) rfl, ⟨by decide +kernel, by decide +kernel, by decide +kernel⟩, rfl⟩
abbrev mX12_until : zMi := (yX12_until, cX12_until, 10, (some .int), { frames := 3, cells := 0, slots := 0, locals := 72 }, none)
theorem okX12_until : zOK mX12_until 6 := ⟨by decide +kernel, zmem 1637 (by decide +kernel) rfl, zmem 75 (by decide +kernel) rfl, ⟨by decide +kernel, by decide +kernel, by decide +kernel⟩, rfl⟩
abbrev mX12_never : zMi := (yX12_never, cX12_never, 5, (some .long), { frames := 3, cells := 0, slots := 0, locals := 72 }, none)
theorem okX12_never : zOK mX12_never 3 := ⟨by decide +kernel, zmem 1646 (by decide +kernel) rfl, zmem 75 (by decide +kernel) rfl, ⟨by decide +kernel, by decide +kernel, by decide +kernel⟩, rfl⟩
abbrev mX12_best : zMi := (yX12_best, cX12_best, 10, (some .int), { frames := 3, cells := 0, slots := 0, locals := 72 }, none)
theorem okX12_best : zOK mX12_best 5 := ⟨by decide +kernel, zmem 1650 (by decide +kernel) rfl, zmem 75 (by decide +kernel) rfl, ⟨by decide +kernel, by decide +kernel, by decide +kernel⟩, rfl⟩
abbrev mX12_odds : zMi := (yX12_odds, cX12_odds, 14, (some .long), { frames := 3, cells := 0, slots := 0, locals := 66 }, none)
theorem okX12_odds : zOK mX12_odds 5 := ⟨by decide +kernel, zmem 1654 (by decide +kernel) rfl, zmem 75 (by decide +kernel) rfl, ⟨by decide +kernel, by decide +kernel, by decide +kernel⟩, rfl⟩
abbrev mX12_grownTo : zMi := (yX12_grownTo, cX12_grownTo, 3, (some .int), { frames := 0, cells := 0, slots := 0, locals := 0 }, none)
theorem okX12_grownTo : zOK mX12_grownTo 1 := ⟨by decide +kernel, zmem 1663 (by decide +kernel) rfl, zmem 75 (by decide +kernel) rfl, ⟨by decide +kernel, by decide +kernel, by decide +kernel⟩, rfl⟩
abbrev mX12_week : zMi := (yX12_week, cX12_week, 5, (some .int), { frames := 1, cells := 0, slots := 0, locals := 25 }, none)
theorem okX12_week : zOK mX12_week 1 := ⟨by decide +kernel, zmem 1659 (by decide +kernel) rfl, zmem 75 (by decide +kernel) rfl, ⟨by decide +kernel, by decide +kernel, by decide +kernel⟩, rfl⟩
abbrev mX12_high : zMi := (yX12_high, cX12_high, 8, (some .long), { frames := 1, cells := 0, slots := 0, locals := 25 }, none)
theorem okX12_high : zOK mX12_high 2 := ⟨by decide +kernel, zmem 1667 (by decide +kernel) rfl, zmem 75 (by decide +kernel) rfl, ⟨by decide +kernel, by decide +kernel, by decide +kernel⟩, rfl⟩
abbrev mX12_weeks : zMi := (yX12_weeks, cX12_weeks, 8, (some .int), { frames := 1, cells := 0, slots := 0, locals := 25 }, none)
theorem okX12_weeks : zOK mX12_weeks 1 := ⟨by decide +kernel, zmem 1672 (by decide +kernel) rfl, zmem 75 (by decide +kernel) rfl, ⟨by decide +kernel, by decide +kernel, by decide +kernel⟩, rfl⟩
abbrev mX12_stripes : zMi := (yX12_stripes, cX12_stripes, 7, (some .int), { frames := 1, cells := 0, slots := 0, locals := 25 }, none)
theorem okX12_stripes : zOK mX12_stripes 1 := ⟨by decide +kernel, zmem 1676 (by decide +kernel) rfl, zmem 75 (by decide +kernel) rfl, ⟨by decide +kernel, by decide +kernel, by decide +kernel⟩, rfl⟩
abbrev mX12_keep : zMi := (yX12_keep, cX12_keep, 3, (some .int), { frames := 1, cells := 0, slots := 0, locals := 25 }, none)
theorem okX12_keep : zOK mX12_keep 1 := ⟨by decide +kernel, zmem 1680 (by decide +kernel) rfl, zmem 75 (by decide +kernel) rfl, ⟨by decide +kernel, by decide +kernel, by decide +kernel⟩, rfl⟩
abbrev mX12_back : zMi := (yX12_back, cX12_back, 3, (some .int), { frames := 1, cells := 0, slots := 0, locals := 25 }, none)
theorem okX12_back : zOK mX12_back 1 := ⟨by decide +kernel, zmem 1684 (by decide +kernel) rfl, zmem 75 (by decide +kernel) rfl, ⟨by decide +kernel, by decide +kernel, by decide +kernel⟩, rfl⟩
abbrev mX12_sheet : zMi := (yX12_sheet, cX12_sheet, 5, (some .int), { frames := 1, cells := 0, slots := 0, locals := 25 }, none)
theorem okX12_sheet : zOK mX12_sheet 3 := ⟨by decide +kernel, zmem 1690 (by decide +kernel) rfl, zmem 75 (by decide +kernel) rfl, ⟨by decide +kernel, by decide +kernel, by decide +kernel⟩, rfl⟩
abbrev mX12_lay : zMi := (yX12_lay, cX12_lay, 4, (some .int), { frames := 1, cells := 0, slots := 0, locals := 25 }, none)
theorem okX12_lay : zOK mX12_lay 3 := ⟨by decide +kernel, zmem 1694 (by decide +kernel) rfl, zmem 75 (by decide +kernel) rfl, ⟨by decide +kernel, by decide +kernel, by decide +kernel⟩, rfl⟩
abbrev mX12_read : zMi := (yX12_read, cX12_read, 9, (some .int), { frames := 2, cells := 0, slots := 0, locals := 46 }, none)
theorem okX12_read : zOK mX12_read 4 := ⟨by decide +kernel, zmem 1698 (by decide +kernel) rfl, zmem 75 (by decide +kernel) rfl, ⟨by decide +kernel, by decide +kernel, by decide +kernel⟩, rfl⟩
abbrev mX12_torn : zMi := (yX12_torn, cX12_torn, 1, (some .int), { frames := 0, cells := 0, slots := 0, locals := 0 }, none)
theorem okX12_torn : zOK mX12_torn 0 := ⟨by decide +kernel, zmem 1703 (by decide +kernel) rfl, zmem 75 (by decide +kernel) rfl, ⟨by decide +kernel, by decide +kernel, by decide +kernel⟩, rfl⟩
abbrev mX12_count : zMi := (yX12_count, cX12_count, 5, (some .int), { frames := 2, cells := 0, slots := 0, locals := 43 }, none)
theorem okX12_count : zOK mX12_count 1 := ⟨by decide +kernel, zmem 1707 (by decide +kernel) rfl, zmem 75 (by decide +kernel) rfl, ⟨by decide +kernel, by decide +kernel, by decide +kernel⟩, rfl⟩
