/-! the class, methods: X7_beginsBestOrder X7_noteStanding X7_findStanding X7_mayStandAhead X11_fixed X10_unbound X10_findEnds X10_findCrossing X11_series X10_jobOfCrossing X11_shows X11_turned X0_begin X0_take X11_act -/
theorem lk_X7_105 : LkV RX7 105 yX7_beginsBestOrder cX7_beginsBestOrder 5 (some .boolean) 2 := ⟨wd_29_3, wd_29_4, wd_29_5, wd_1_18, wd_29_6, by decide +kernel⟩
theorem lk_X7_109 : LkV RX7 109 yX7_noteStanding cX7_noteStanding 6 none 2 := ⟨wd_29_7, wd_29_8, wd_29_9, wd_1_18, wd_29_10, by decide +kernel⟩
theorem lk_X7_60 : LkV RX7 60 yX7_findStanding cX7_findStanding 4 none 1 := ⟨wd_28_23, wd_29_0, wd_29_1, wd_1_18, wd_29_2, by decide +kernel⟩
theorem lk_X11_221 : LkV RX11 221 yX7_mayStandAhead cX7_mayStandAhead 4 (some .boolean) 3 := ⟨wd_28_19, wd_28_20, wd_28_21, wd_1_18, wd_28_22, by decide +kernel⟩
theorem lk_X10_65 : LkV RX10 65 yX10_unbound cX10_unbound 2 (some .int) 1 := ⟨wd_29_23, wd_30_0, wd_30_1, wd_1_14, wd_30_2, by decide +kernel⟩
theorem lk_X10_69 : LkV RX10 69 yX10_findEnds cX10_findEnds 5 (some .int) 2 := ⟨wd_30_3, wd_30_4, wd_30_5, wd_1_14, wd_30_6, by decide +kernel⟩
theorem lk_X11_225 : LkV RX11 225 yX10_findCrossing cX10_findCrossing 4 (some .int) 0 := ⟨wd_29_19, wd_29_20, wd_29_21, wd_1_14, wd_29_22, by decide +kernel⟩
theorem lk_X11_228 : LkS RX11 228 yX10_jobOfCrossing cX10_jobOfCrossing 2 (some .int) 2 := ⟨wd_30_23, wd_31_0, wd_1_14, wd_31_1, by decide +kernel⟩
theorem lk_X0_19 : LkV RX0 19 yX10_measure cX10_measure 3 (some .int) 2 := ⟨wd_32_2, wd_10_19, wd_10_20, wd_1_14, wd_10_21, by decide +kernel⟩
theorem lk_X0_34 : LkV RX0 34 yX10_aheadOf cX10_aheadOf 2 (some .int) 1 := ⟨wd_32_3, wd_15_1, wd_15_2, wd_1_14, wd_15_3, by decide +kernel⟩
theorem lk_X0_38 : LkS RX0 38 yJ6_bitCount_0f7a4 cJ6_bitCount_0f7a4 1 (some .int) 1 := ⟨wd_32_4, wd_15_5, wd_8_18, wd_15_6, by decide +kernel⟩
theorem lk_X11_231 : LkV RX11 231 yX0_take cX0_take 3 none 2 := ⟨wd_31_18, wd_31_19, wd_31_20, wd_2_6, wd_31_21, by decide +kernel⟩
theorem lk_X4_7 : LkV RX4 7 yX0_begin cX0_begin 2 none 1 := ⟨wd_33_1, wd_32_12, wd_32_13, wd_2_6, wd_32_14, by decide +kernel⟩
theorem lk_X9_7 : LkV RX9 7 yX0_begin cX0_begin 2 none 1 := ⟨wd_32_20, wd_32_12, wd_32_13, wd_2_6, wd_32_14, by decide +kernel⟩
theorem lk_X1_7 : LkV RX1 7 yX0_begin cX0_begin 2 none 1 := ⟨wd_32_11, wd_32_12, wd_32_13, wd_2_6, wd_32_14, by decide +kernel⟩
theorem lk_X5_7 : LkV RX5 7 yX0_begin cX0_begin 2 none 1 := ⟨wd_33_8, wd_32_12, wd_32_13, wd_2_6, wd_32_14, by decide +kernel⟩
theorem lk_X3_7 : LkV RX3 7 yX0_begin cX0_begin 2 none 1 := ⟨wd_33_23, wd_32_12, wd_32_13, wd_2_6, wd_32_14, by decide +kernel⟩
theorem lkU_X11_235_0 : LkU RX11 235 RX4 "FellersOrder$JobKind" ⟨"FellersOrder$JobKind", "last", "(LFellersOrder$Acting;I)I"⟩ yX4_last cX4_last 3 (some .int) 2 := ⟨wd_32_5, wd_32_6, wd_32_23, wd_33_4, wd_32_23, wd_2_10, wd_33_0, ⟨_, _, _, wd_33_0⟩, by decide +kernel⟩
theorem lkS_X9_13 : LkSU RX9 13 yX4_last cX4_last 3 (some .int) 2 := ⟨wd_32_21, wd_32_6, wd_32_22, wd_32_23, wd_2_10, wd_33_0, by decide +kernel⟩
theorem lkU_X11_235_1 : LkU RX11 235 RX9 "FellersOrder$JobKind" ⟨"FellersOrder$JobKind", "last", "(LFellersOrder$Acting;I)I"⟩ yX9_last cX9_last 3 (some .int) 2 := ⟨wd_32_5, wd_32_6, wd_32_23, wd_33_11, wd_32_18, wd_2_13, wd_32_19, ⟨_, _, _, wd_33_0⟩, by decide +kernel⟩
theorem lkU_X11_235_2 : LkU RX11 235 RX3 "FellersOrder$JobKind" ⟨"FellersOrder$JobKind", "last", "(LFellersOrder$Acting;I)I"⟩ yX4_last cX4_last 3 (some .int) 2 := ⟨wd_32_5, wd_32_6, wd_32_23, wd_33_2, wd_32_23, wd_2_10, wd_33_0, ⟨_, _, _, wd_33_0⟩, by decide +kernel⟩
theorem lkS_X1_13 : LkS2 RX1 13 ⟨RX9, "follow", "(LFellersOrder$Acting;I)I"⟩ yX4_follow cX4_follow 3 (some .int) 2 := ⟨List.mem_append_right _ (List.mem_of_getElem? (i := 0) rfl), List.mem_append_right _ (List.mem_of_getElem? (i := 1) rfl), wd_32_17, wd_32_22, wd_34_14, wd_2_10, wd_34_12, by decide +kernel, by decide +kernel⟩
theorem lkS_X1_17 : LkSU RX1 17 yX9_last cX9_last 3 (some .int) 2 := ⟨wd_32_15, wd_32_16, wd_32_17, wd_32_18, wd_2_13, wd_32_19, by decide +kernel⟩
theorem lkU_X11_235_3 : LkU RX11 235 RX1 "FellersOrder$JobKind" ⟨"FellersOrder$JobKind", "last", "(LFellersOrder$Acting;I)I"⟩ yX1_last cX1_last 3 (some .int) 2 := ⟨wd_32_5, wd_32_6, wd_32_23, wd_32_8, wd_32_9, wd_2_19, wd_32_10, ⟨_, _, _, wd_33_0⟩, by decide +kernel⟩
theorem lkS_X5_17 : LkSU RX5 17 yX4_last cX4_last 3 (some .int) 2 := ⟨wd_33_9, wd_32_6, wd_33_10, wd_32_23, wd_2_10, wd_33_0, by decide +kernel⟩
theorem lkU_X11_235_4 : LkU RX11 235 RX5 "FellersOrder$JobKind" ⟨"FellersOrder$JobKind", "last", "(LFellersOrder$Acting;I)I"⟩ yX5_last cX5_last 3 (some .int) 2 := ⟨wd_32_5, wd_32_6, wd_32_23, wd_33_5, wd_33_6, wd_2_22, wd_33_7, ⟨_, _, _, wd_33_0⟩, by decide +kernel⟩
theorem lkU_X4_17_0 : LkU RX4 17 RX4 "FellersOrder$JobKind" ⟨"FellersOrder$JobKind", "last", "(LFellersOrder$Acting;I)I"⟩ yX4_last cX4_last 3 (some .int) 2 := ⟨wd_33_17, wd_32_6, wd_32_23, wd_33_4, wd_32_23, wd_2_10, wd_33_0, ⟨_, _, _, wd_33_0⟩, by decide +kernel⟩
theorem lkU_X11_239_0 : LkU RX11 239 RX4 "FellersOrder$JobKind" ⟨"FellersOrder$JobKind", "weigh", "(LFellersOrder$Acting;I)I"⟩ yX4_weigh cX4_weigh 3 (some .int) 2 := ⟨wd_33_12, wd_33_13, wd_33_15, wd_34_3, wd_33_15, wd_2_10, wd_33_16, ⟨_, _, _, wd_33_16⟩, by decide +kernel⟩
theorem lkU_X4_17_1 : LkU RX4 17 RX9 "FellersOrder$JobKind" ⟨"FellersOrder$JobKind", "last", "(LFellersOrder$Acting;I)I"⟩ yX9_last cX9_last 3 (some .int) 2 := ⟨wd_33_17, wd_32_6, wd_32_23, wd_33_11, wd_32_18, wd_2_13, wd_32_19, ⟨_, _, _, wd_33_0⟩, by decide +kernel⟩
theorem lkU_X11_239_1 : LkU RX11 239 RX9 "FellersOrder$JobKind" ⟨"FellersOrder$JobKind", "weigh", "(LFellersOrder$Acting;I)I"⟩ yX4_weigh cX4_weigh 3 (some .int) 2 := ⟨wd_33_12, wd_33_13, wd_33_15, wd_34_5, wd_33_15, wd_2_10, wd_33_16, ⟨_, _, _, wd_33_16⟩, by decide +kernel⟩
theorem lkU_X4_17_2 : LkU RX4 17 RX3 "FellersOrder$JobKind" ⟨"FellersOrder$JobKind", "last", "(LFellersOrder$Acting;I)I"⟩ yX4_last cX4_last 3 (some .int) 2 := ⟨wd_33_17, wd_32_6, wd_32_23, wd_33_2, wd_32_23, wd_2_10, wd_33_0, ⟨_, _, _, wd_33_0⟩, by decide +kernel⟩
theorem lkS_X3_13 : LkSU RX3 13 yX4_weigh cX4_weigh 3 (some .int) 2 := ⟨wd_34_0, wd_33_13, wd_34_1, wd_33_15, wd_2_10, wd_33_16, by decide +kernel⟩
theorem lkU_X11_239_2 : LkU RX11 239 RX3 "FellersOrder$JobKind" ⟨"FellersOrder$JobKind", "weigh", "(LFellersOrder$Acting;I)I"⟩ yX3_weigh cX3_weigh 3 (some .int) 2 := ⟨wd_33_12, wd_33_13, wd_33_15, wd_33_20, wd_33_21, wd_2_16, wd_33_22, ⟨_, _, _, wd_33_16⟩, by decide +kernel⟩
theorem lkU_X4_17_3 : LkU RX4 17 RX1 "FellersOrder$JobKind" ⟨"FellersOrder$JobKind", "last", "(LFellersOrder$Acting;I)I"⟩ yX1_last cX1_last 3 (some .int) 2 := ⟨wd_33_17, wd_32_6, wd_32_23, wd_32_8, wd_32_9, wd_2_19, wd_32_10, ⟨_, _, _, wd_33_0⟩, by decide +kernel⟩
theorem lkU_X11_239_3 : LkU RX11 239 RX1 "FellersOrder$JobKind" ⟨"FellersOrder$JobKind", "weigh", "(LFellersOrder$Acting;I)I"⟩ yX4_weigh cX4_weigh 3 (some .int) 2 := ⟨wd_33_12, wd_33_13, wd_33_15, wd_33_14, wd_33_15, wd_2_10, wd_33_16, ⟨_, _, _, wd_33_16⟩, by decide +kernel⟩
theorem lkU_X4_17_4 : LkU RX4 17 RX5 "FellersOrder$JobKind" ⟨"FellersOrder$JobKind", "last", "(LFellersOrder$Acting;I)I"⟩ yX5_last cX5_last 3 (some .int) 2 := ⟨wd_33_17, wd_32_6, wd_32_23, wd_33_5, wd_33_6, wd_2_22, wd_33_7, ⟨_, _, _, wd_33_0⟩, by decide +kernel⟩
theorem lkU_X11_239_4 : LkU RX11 239 RX5 "FellersOrder$JobKind" ⟨"FellersOrder$JobKind", "weigh", "(LFellersOrder$Acting;I)I"⟩ yX4_weigh cX4_weigh 3 (some .int) 2 := ⟨wd_33_12, wd_33_13, wd_33_15, wd_34_4, wd_33_15, wd_2_10, wd_33_16, ⟨_, _, _, wd_33_16⟩, by decide +kernel⟩
theorem lkU_X11_242_0 : LkU RX11 242 RX4 "FellersOrder$JobKind" ⟨"FellersOrder$JobKind", "follow", "(LFellersOrder$Acting;I)I"⟩ yX4_follow cX4_follow 3 (some .int) 2 := ⟨wd_34_6, wd_34_7, wd_34_14, wd_34_16, wd_34_14, wd_2_10, wd_34_12, ⟨_, _, _, wd_34_12⟩, by decide +kernel⟩
theorem lkU_X11_242_1 : LkU RX11 242 RX9 "FellersOrder$JobKind" ⟨"FellersOrder$JobKind", "follow", "(LFellersOrder$Acting;I)I"⟩ yX4_follow cX4_follow 3 (some .int) 2 := ⟨wd_34_6, wd_34_7, wd_34_14, wd_34_18, wd_34_14, wd_2_10, wd_34_12, ⟨_, _, _, wd_34_12⟩, by decide +kernel⟩
theorem lkU_X11_242_2 : LkU RX11 242 RX3 "FellersOrder$JobKind" ⟨"FellersOrder$JobKind", "follow", "(LFellersOrder$Acting;I)I"⟩ yX4_follow cX4_follow 3 (some .int) 2 := ⟨wd_34_6, wd_34_7, wd_34_14, wd_34_13, wd_34_14, wd_2_10, wd_34_12, ⟨_, _, _, wd_34_12⟩, by decide +kernel⟩
theorem lkU_X11_242_3 : LkU RX11 242 RX1 "FellersOrder$JobKind" ⟨"FellersOrder$JobKind", "follow", "(LFellersOrder$Acting;I)I"⟩ yX1_follow cX1_follow 3 (some .int) 2 := ⟨wd_34_6, wd_34_7, wd_34_14, wd_34_9, wd_34_10, wd_2_19, wd_34_11, ⟨_, _, _, wd_34_12⟩, by decide +kernel⟩
theorem lkU_X11_242_4 : LkU RX11 242 RX5 "FellersOrder$JobKind" ⟨"FellersOrder$JobKind", "follow", "(LFellersOrder$Acting;I)I"⟩ yX4_follow cX4_follow 3 (some .int) 2 := ⟨wd_34_6, wd_34_7, wd_34_14, wd_34_17, wd_34_14, wd_2_10, wd_34_12, ⟨_, _, _, wd_34_12⟩, by decide +kernel⟩
theorem lkU_X4_32_0 : LkU RX4 32 RX4 "FellersOrder$JobKind" ⟨"FellersOrder$JobKind", "follow", "(LFellersOrder$Acting;I)I"⟩ yX4_follow cX4_follow 3 (some .int) 2 := ⟨wd_35_6, wd_34_7, wd_34_14, wd_34_16, wd_34_14, wd_2_10, wd_34_12, ⟨_, _, _, wd_34_12⟩, by decide +kernel⟩
theorem lkU_X4_29_0 : LkU RX4 29 RX4 "FellersOrder$JobKind" ⟨"FellersOrder$JobKind", "weigh", "(LFellersOrder$Acting;I)I"⟩ yX4_weigh cX4_weigh 3 (some .int) 2 := ⟨wd_35_4, wd_33_13, wd_33_15, wd_34_3, wd_33_15, wd_2_10, wd_33_16, ⟨_, _, _, wd_33_16⟩, by decide +kernel⟩
theorem lkU_X11_245_0 : LkU RX11 245 RX4 "FellersOrder$JobKind" ⟨"FellersOrder$JobKind", "tell", "(LFellersOrder$Acting;I)I"⟩ yX4_tell cX4_tell 3 (some .int) 2 := ⟨wd_34_19, wd_34_20, wd_35_2, wd_35_10, wd_35_2, wd_2_10, wd_35_3, ⟨_, _, _, wd_35_3⟩, by decide +kernel⟩
theorem lkU_X4_32_1 : LkU RX4 32 RX9 "FellersOrder$JobKind" ⟨"FellersOrder$JobKind", "follow", "(LFellersOrder$Acting;I)I"⟩ yX4_follow cX4_follow 3 (some .int) 2 := ⟨wd_35_6, wd_34_7, wd_34_14, wd_34_18, wd_34_14, wd_2_10, wd_34_12, ⟨_, _, _, wd_34_12⟩, by decide +kernel⟩
theorem lkU_X4_29_1 : LkU RX4 29 RX9 "FellersOrder$JobKind" ⟨"FellersOrder$JobKind", "weigh", "(LFellersOrder$Acting;I)I"⟩ yX4_weigh cX4_weigh 3 (some .int) 2 := ⟨wd_35_4, wd_33_13, wd_33_15, wd_34_5, wd_33_15, wd_2_10, wd_33_16, ⟨_, _, _, wd_33_16⟩, by decide +kernel⟩
theorem lkS_X9_17 : LkSU RX9 17 yX4_tell cX4_tell 3 (some .int) 2 := ⟨wd_35_1, wd_34_20, wd_32_22, wd_35_2, wd_2_10, wd_35_3, by decide +kernel⟩
theorem lkU_X11_245_1 : LkU RX11 245 RX9 "FellersOrder$JobKind" ⟨"FellersOrder$JobKind", "tell", "(LFellersOrder$Acting;I)I"⟩ yX9_tell cX9_tell 3 (some .int) 2 := ⟨wd_34_19, wd_34_20, wd_35_2, wd_35_18, wd_34_23, wd_2_13, wd_35_0, ⟨_, _, _, wd_35_3⟩, by decide +kernel⟩
theorem lkU_X4_32_2 : LkU RX4 32 RX3 "FellersOrder$JobKind" ⟨"FellersOrder$JobKind", "follow", "(LFellersOrder$Acting;I)I"⟩ yX4_follow cX4_follow 3 (some .int) 2 := ⟨wd_35_6, wd_34_7, wd_34_14, wd_34_13, wd_34_14, wd_2_10, wd_34_12, ⟨_, _, _, wd_34_12⟩, by decide +kernel⟩
theorem lkU_X4_29_2 : LkU RX4 29 RX3 "FellersOrder$JobKind" ⟨"FellersOrder$JobKind", "weigh", "(LFellersOrder$Acting;I)I"⟩ yX3_weigh cX3_weigh 3 (some .int) 2 := ⟨wd_35_4, wd_33_13, wd_33_15, wd_33_20, wd_33_21, wd_2_16, wd_33_22, ⟨_, _, _, wd_33_16⟩, by decide +kernel⟩
theorem lkU_X11_245_2 : LkU RX11 245 RX3 "FellersOrder$JobKind" ⟨"FellersOrder$JobKind", "tell", "(LFellersOrder$Acting;I)I"⟩ yX4_tell cX4_tell 3 (some .int) 2 := ⟨wd_34_19, wd_34_20, wd_35_2, wd_35_8, wd_35_2, wd_2_10, wd_35_3, ⟨_, _, _, wd_35_3⟩, by decide +kernel⟩
theorem lkU_X4_32_3 : LkU RX4 32 RX1 "FellersOrder$JobKind" ⟨"FellersOrder$JobKind", "follow", "(LFellersOrder$Acting;I)I"⟩ yX1_follow cX1_follow 3 (some .int) 2 := ⟨wd_35_6, wd_34_7, wd_34_14, wd_34_9, wd_34_10, wd_2_19, wd_34_11, ⟨_, _, _, wd_34_12⟩, by decide +kernel⟩
theorem lkU_X4_29_3 : LkU RX4 29 RX1 "FellersOrder$JobKind" ⟨"FellersOrder$JobKind", "weigh", "(LFellersOrder$Acting;I)I"⟩ yX4_weigh cX4_weigh 3 (some .int) 2 := ⟨wd_35_4, wd_33_13, wd_33_15, wd_33_14, wd_33_15, wd_2_10, wd_33_16, ⟨_, _, _, wd_33_16⟩, by decide +kernel⟩
theorem lkU_X11_245_3 : LkU RX11 245 RX1 "FellersOrder$JobKind" ⟨"FellersOrder$JobKind", "tell", "(LFellersOrder$Acting;I)I"⟩ yX9_tell cX9_tell 3 (some .int) 2 := ⟨wd_34_19, wd_34_20, wd_35_2, wd_34_22, wd_34_23, wd_2_13, wd_35_0, ⟨_, _, _, wd_35_3⟩, by decide +kernel⟩
theorem lkU_X4_32_4 : LkU RX4 32 RX5 "FellersOrder$JobKind" ⟨"FellersOrder$JobKind", "follow", "(LFellersOrder$Acting;I)I"⟩ yX4_follow cX4_follow 3 (some .int) 2 := ⟨wd_35_6, wd_34_7, wd_34_14, wd_34_17, wd_34_14, wd_2_10, wd_34_12, ⟨_, _, _, wd_34_12⟩, by decide +kernel⟩
theorem lkU_X4_29_4 : LkU RX4 29 RX5 "FellersOrder$JobKind" ⟨"FellersOrder$JobKind", "weigh", "(LFellersOrder$Acting;I)I"⟩ yX4_weigh cX4_weigh 3 (some .int) 2 := ⟨wd_35_4, wd_33_13, wd_33_15, wd_34_4, wd_33_15, wd_2_10, wd_33_16, ⟨_, _, _, wd_33_16⟩, by decide +kernel⟩
theorem lkS_X5_26 : LkSU RX5 26 yX4_tell cX4_tell 3 (some .int) 2 := ⟨wd_35_17, wd_34_20, wd_33_10, wd_35_2, wd_2_10, wd_35_3, by decide +kernel⟩
theorem lkU_X5_21_4 : LkU RX5 21 RX5 "FellersOrder$JobKind" ⟨"FellersOrder$LateKind", "follow", "(LFellersOrder$Acting;I)I"⟩ yX4_follow cX4_follow 3 (some .int) 2 := ⟨wd_35_14, wd_35_15, wd_34_14, wd_35_16, wd_34_14, wd_2_10, wd_34_12, ⟨_, _, _, wd_34_12⟩, by decide +kernel⟩
theorem lkU_X11_245_4 : LkU RX11 245 RX5 "FellersOrder$JobKind" ⟨"FellersOrder$JobKind", "tell", "(LFellersOrder$Acting;I)I"⟩ yX5_tell cX5_tell 3 (some .int) 2 := ⟨wd_34_19, wd_34_20, wd_35_2, wd_35_11, wd_35_12, wd_2_22, wd_35_13, ⟨_, _, _, wd_35_3⟩, by decide +kernel⟩
section PT
variable {p : Program} {l : Launch} {e : Env} {s : State} {m : MethodId} {args : Array Value} {below : List Frame} {meth : Method} {c : Code} {A : Nat → Prop} {D : va_G} {b : Nat → ClassId} {h : Nat → Nat}
-- FellersOrder$Plan.beginsBestOrder(LFellersOrder$Yard;I)Z
abbrev rm_X7_beginsBestOrder : Room := { frames := 2, cells := 0, slots := 0, locals := 45 }
def wb_X7_beginsBestOrder_2 (Post : Int32 → St → Prop) (K2 : Int32 → Int32 → St → Prop) (x2 : Int32) (x3 : Int32) (u : St) : Prop := wp_X10_jobs u (fun r4 u4 => ((r4 ≤ x3) → (Post (0 : Int32) u4)) ∧ ((¬ r4 ≤ x3) → ((((x2 &&& (((1 : Int32) <<< (x3 &&& 31)) ^^^ (-1 : Int32))) = x2) → (K2 x2 (x3 + 1) u4)) ∧ ((¬ (x2 &&& (((1 : Int32) <<< (x3 &&& 31)) ^^^ (-1 : Int32))) = x2) → (vp_in (x2 &&& (((1 : Int32) <<< (x3 &&& 31)) ^^^ (-1 : Int32))) 4096 ∧ ((((u4 14 (Int32.toNatClampNeg (x2 &&& (((1 : Int32) <<< (x3 &&& 31)) ^^^ (-1 : Int32))))) = (1000000000 : Int32)) → (K2 x2 (x3 + 1) u4)) ∧ ((¬ (u4 14 (Int32.toNatClampNeg (x2 &&& (((1 : Int32) <<< (x3 &&& 31)) ^^^ (-1 : Int32))))) = (1000000000 : Int32)) → (wp_X7_isBestNext (x2 &&& (((1 : Int32) <<< (x3 &&& 31)) ^^^ (-1 : Int32))) x3 u4 (fun r42 u42 => ((r42 = 0) → (K2 x2 (x3 + 1) u42)) ∧ ((¬ r42 = 0) → (Post (1 : Int32) u42)))))))))))
set_option maxHeartbeats 4000000 in
set_option maxRecDepth 100000 in
theorem tb_X7_beginsBestOrder_2 (X : Cx p s m args meth c cX7_beginsBestOrder 5 (some .boolean) RX7 D (tyF b) A) (hA : ∀ q, s.heap.size ≤ q → A q) {Post : Int32 → St → Prop} {K2 : Int32 → Int32 → St → Prop} (k2 : ∀ (x2 : Int32) (x3 : Int32) (u : St) (H : Heap) (locs : List Loc) (ls : Array Slot), K2 x2 x3 u → wO D 46 (gF b h) h u A s.heap H locs → lv_has ls 5 [(0, .ref (h 12)), (1, .ref (h 1)), (2, .int x2), (3, .int x3)] → W p l e rm_X7_beginsBestOrder s m args below meth c H locs 0 0 (MQ below (va_Qi Post (cB D (tyF b) 46 (gF b h) h A) A) args s 0 0 A) (F0 m 2 ls [])) : ∀ (x2 : Int32) (x3 : Int32) (u : St) (H : Heap) (locs : List Loc) (ls : Array Slot), wb_X7_beginsBestOrder_2 Post K2 x2 x3 u → wO D 46 (gF b h) h u A s.heap H locs → lv_has ls 5 [(0, .ref (h 12)), (1, .ref (h 1)), (2, .int x2), (3, .int x3)] → W p l e rm_X7_beginsBestOrder s m args below meth c H locs 0 0 (MQ below (va_Qi Post (cB D (tyF b) 46 (gF b h) h A) A) args s 0 0 A) (F0 m 2 ls []) := by
  obtain ⟨⟨hx, hb, hml, hown, hts⟩, hK, hNs, hlocks, hr⟩ := id X
  intro x2 x3 u H locs ls hw O hl
  unfold wb_X7_beginsBestOrder_2 at hw
  refine lv_iload_n hx hb dX7_beginsBestOrder_2 rfl (lv_at hl 3 rfl) ?_
  refine lv_aload_n hx hb dX7_beginsBestOrder_3 rfl (lv_at hl 1 rfl) ?_
  refine q_civ (rest := [.int x3]) X O hA 1 (c_X10_jobs hw) lk_X7_88 (by decide) rfl rfl rfl rfl rfl rfl ⟨Nat.le_of_ble_eq_true rfl, Nat.le_of_ble_eq_true rfl⟩ (Nat.le_of_ble_eq_true rfl) hl.1 ⟨Nat.zero_le _, Nat.zero_le _⟩ rfl dX7_beginsBestOrder_4 (fun r4 u4 H locs hw O => ?_)
  refine lv_icmp_ge (tgt := 56) hx hb dX7_beginsBestOrder_7 (by decide) (fun c7 => ?_) (fun c7 => ?_)
  · have hw := hw.1 c7
    refine lv_iconst (v := 0) hx hb dX7_beginsBestOrder_56 (by decide) ?_
    exact q_zret X O rfl hw dX7_beginsBestOrder_57
  · have hw := hw.2 c7
    refine lv_iload_n hx hb dX7_beginsBestOrder_10 rfl (lv_at hl 2 rfl) ?_
    refine lv_iconst (v := 1) hx hb dX7_beginsBestOrder_11 (by decide) ?_
    refine lv_iload_n hx hb dX7_beginsBestOrder_12 rfl (lv_at hl 3 rfl) ?_
    refine lv_ishl hx hb dX7_beginsBestOrder_13 ?_
    refine lv_iconst (v := -1) hx hb dX7_beginsBestOrder_14 (by decide) ?_
    refine lv_ixor hx hb dX7_beginsBestOrder_15 ?_
    refine lv_iand hx hb dX7_beginsBestOrder_16 ?_
    refine lv_istore (lv' := [(4, .int (x2 &&& (((1 : Int32) <<< (x3 &&& 31)) ^^^ (-1 : Int32)))), (0, .ref (h 12)), (1, .ref (h 1)), (2, .int x2), (3, .int x3)]) hx hb dX7_beginsBestOrder_17 hl (by decide) rfl (fun ls hl => ?_)
    refine lv_iload hx hb dX7_beginsBestOrder_19 (lv_at hl 0 rfl) ?_
    refine lv_iload_n hx hb dX7_beginsBestOrder_21 rfl (lv_at hl 3 rfl) ?_
    refine lv_icmp_eq (tgt := 50) hx hb dX7_beginsBestOrder_22 (by decide) (fun c22 => ?_) (fun c22 => ?_)
    · have hw := hw.1 c22
      refine lv_iinc (v := x3 + 1) (lv' := [(3, .int (x3 + 1)), (4, .int (x2 &&& (((1 : Int32) <<< (x3 &&& 31)) ^^^ (-1 : Int32)))), (0, .ref (h 12)), (1, .ref (h 1)), (2, .int x2)]) hx hb dX7_beginsBestOrder_50 hl (k := 4) rfl rfl (by decide) rfl (fun ls hl => ?_)
      refine lv_goto (tgt := 2) hx hb dX7_beginsBestOrder_53 (by decide) ?_
      exact k2 _ _ _ _ _ _ hw O (lv_sub hl [2, 3, 4, 0] rfl)
    · have hw := hw.2 c22
      refine lv_aload_n hx hb dX7_beginsBestOrder_25 rfl (lv_at hl 1 rfl) ?_
      refine gt_X7_19 X O dX7_beginsBestOrder_26 ?_
      refine lv_iload hx hb dX7_beginsBestOrder_29 (lv_at hl 0 rfl) ?_
      obtain ⟨i31, hw⟩ := hw
      refine q_ild X O 14 0 (by decide) rfl rfl i31 dX7_beginsBestOrder_31 ?_
      refine lv_ldc (v := 1000000000) hx hb hown (hts _ wd_25_16) dX7_beginsBestOrder_32 ?_
      refine lv_icmp_eq (tgt := 50) hx hb dX7_beginsBestOrder_34 (by decide) (fun c34 => ?_) (fun c34 => ?_)
      · have hw := hw.1 c34
        refine lv_iinc (v := x3 + 1) (lv' := [(3, .int (x3 + 1)), (4, .int (x2 &&& (((1 : Int32) <<< (x3 &&& 31)) ^^^ (-1 : Int32)))), (0, .ref (h 12)), (1, .ref (h 1)), (2, .int x2)]) hx hb dX7_beginsBestOrder_50 hl (k := 4) rfl rfl (by decide) rfl (fun ls hl => ?_)
        refine lv_goto (tgt := 2) hx hb dX7_beginsBestOrder_53 (by decide) ?_
        exact k2 _ _ _ _ _ _ hw O (lv_sub hl [2, 3, 4, 0] rfl)
      · have hw := hw.2 c34
        refine lv_aload_n hx hb dX7_beginsBestOrder_37 rfl (lv_at hl 1 rfl) ?_
        refine lv_aload_n hx hb dX7_beginsBestOrder_38 rfl (lv_at hl 2 rfl) ?_
        refine lv_iload hx hb dX7_beginsBestOrder_39 (lv_at hl 0 rfl) ?_
        refine lv_iload_n hx hb dX7_beginsBestOrder_41 rfl (lv_at hl 4 rfl) ?_
        refine q_civ (rest := []) X O hA 12 (c_X7_isBestNext hw) lk_X7_101 (by decide) rfl rfl rfl rfl rfl rfl ⟨Nat.le_of_ble_eq_true rfl, Nat.le_of_ble_eq_true rfl⟩ (Nat.le_of_ble_eq_true rfl) hl.1 ⟨Nat.zero_le _, Nat.zero_le _⟩ rfl dX7_beginsBestOrder_42 (fun r42 u42 H locs hw O => ?_)
        refine lv_if_eq (tgt := 50) hx hb dX7_beginsBestOrder_45 (by decide) (fun c45 => ?_) (fun c45 => ?_)
        · have hw := hw.1 c45
          refine lv_iinc (v := x3 + 1) (lv' := [(3, .int (x3 + 1)), (4, .int (x2 &&& (((1 : Int32) <<< (x3 &&& 31)) ^^^ (-1 : Int32)))), (0, .ref (h 12)), (1, .ref (h 1)), (2, .int x2)]) hx hb dX7_beginsBestOrder_50 hl (k := 4) rfl rfl (by decide) rfl (fun ls hl => ?_)
          refine lv_goto (tgt := 2) hx hb dX7_beginsBestOrder_53 (by decide) ?_
          exact k2 _ _ _ _ _ _ hw O (lv_sub hl [2, 3, 4, 0] rfl)
        · have hw := hw.2 c45
          refine lv_iconst (v := 1) hx hb dX7_beginsBestOrder_48 (by decide) ?_
          exact q_zret X O rfl hw dX7_beginsBestOrder_49
def wl_X7_beginsBestOrder_2 (Post : Int32 → St → Prop) : Nat → Int32 → Int32 → St → Prop
  | 0 => fun _ _ _ => False
  | n + 1 => fun x2 x3 u => wb_X7_beginsBestOrder_2 Post (wl_X7_beginsBestOrder_2 Post n) x2 x3 u
set_option maxHeartbeats 4000000 in
set_option maxRecDepth 100000 in
theorem tl_X7_beginsBestOrder_2 (X : Cx p s m args meth c cX7_beginsBestOrder 5 (some .boolean) RX7 D (tyF b) A) (hA : ∀ q, s.heap.size ≤ q → A q) {Post : Int32 → St → Prop} : ∀ n : Nat, ∀ (x2 : Int32) (x3 : Int32) (u : St) (H : Heap) (locs : List Loc) (ls : Array Slot), (wl_X7_beginsBestOrder_2 Post n) x2 x3 u → wO D 46 (gF b h) h u A s.heap H locs → lv_has ls 5 [(0, .ref (h 12)), (1, .ref (h 1)), (2, .int x2), (3, .int x3)] → W p l e rm_X7_beginsBestOrder s m args below meth c H locs 0 0 (MQ below (va_Qi Post (cB D (tyF b) 46 (gF b h) h A) A) args s 0 0 A) (F0 m 2 ls []) := by
  intro n
  induction n with
  | zero => intro x2 x3 u H locs ls hw; exact False.elim hw
  | succ n ih => intro x2 x3 u H locs ls hw O hl; exact tb_X7_beginsBestOrder_2 X hA ih x2 x3 u H locs ls hw O hl
def wp_X7_beginsBestOrder (a2 : Int32) (u : St) (Post : Int32 → St → Prop) : Prop := ∃ n : Nat, wl_X7_beginsBestOrder_2 Post n a2 (0 : Int32) u
set_option maxHeartbeats 4000000 in
set_option maxRecDepth 100000 in
theorem c_X7_beginsBestOrder {a2 : Int32} {l : Launch} {D : va_G} {b : Nat → ClassId} {h : Nat → Nat} {u : St} {Post : Int32 → St → Prop} (hw : wp_X7_beginsBestOrder a2 u Post) : CtI l yX7_beginsBestOrder cX7_beginsBestOrder 5 (some .boolean) rm_X7_beginsBestOrder D (tyF b) 46 (gF b h) h [.ref (h 12), .ref (h 1), .int a2] u Post := by
  refine CtI.of (plainFor_of_name (by decide)) (Nat.le_of_ble_eq_true rfl) ?_
  intro p e s m below meth c A ls X hA O hl
  have X : Cx p s m _ meth c cX7_beginsBestOrder 5 (some .boolean) RX7 D (tyF b) A := X
  obtain ⟨⟨hx, hb, hml, hown, hts⟩, hK, hNs, hlocks, hr⟩ := id X
  have hl : lv_has ls 5 [(0, .ref (h 12)), (1, .ref (h 1)), (2, .int a2)] := hl
  unfold wp_X7_beginsBestOrder at hw
  refine lv_iconst (v := 0) hx hb dX7_beginsBestOrder_0 (by decide) ?_
  refine lv_istore_n (lv' := [(3, .int (0 : Int32)), (0, .ref (h 12)), (1, .ref (h 1)), (2, .int a2)]) hx hb dX7_beginsBestOrder_1 rfl hl (by decide) rfl (fun ls hl => ?_)
  obtain ⟨n, hw⟩ := hw
  exact tl_X7_beginsBestOrder_2 X hA n _ _ _ _ _ _ hw O (lv_sub hl [1, 2, 3, 0] rfl)
-- FellersOrder$Plan.noteStanding(LFellersOrder$Yard;I)V
abbrev rm_X7_noteStanding : Room := { frames := 1, cells := 0, slots := 0, locals := 20 }
def wb_X7_noteStanding_18 (Post : Int32 → St → Prop) (K18 : Int32 → Int32 → Int32 → Int32 → St → Prop) (x2 : Int32) (x3 : Int32) (x4 : Int32) (x5 : Int32) (u : St) : Prop := ((x3 ≤ x5) → (Post 0 u)) ∧ ((¬ x3 ≤ x5) → (((¬ ((x2 >>> (x5 &&& 31)) &&& (1 : Int32)) = (1 : Int32)) → (K18 x2 x3 x4 (x5 + 1) u)) ∧ ((((x2 >>> (x5 &&& 31)) &&& (1 : Int32)) = (1 : Int32)) → (vp_in x5 12 ∧ (vp_in x5 12 ∧ (K18 x2 x3 x4 (x5 + 1) (su u 17 (Int32.toNatClampNeg x5) ((u 17 (Int32.toNatClampNeg x5)) ||| x4))))))))
set_option maxHeartbeats 4000000 in
set_option maxRecDepth 100000 in
theorem tb_X7_noteStanding_18 (X : Cx p s m args meth c cX7_noteStanding 6 none RX7 D (tyF b) A) (hA : ∀ q, s.heap.size ≤ q → A q) {Post : Int32 → St → Prop} {K18 : Int32 → Int32 → Int32 → Int32 → St → Prop} (k18 : ∀ (x2 : Int32) (x3 : Int32) (x4 : Int32) (x5 : Int32) (u : St) (H : Heap) (locs : List Loc) (ls : Array Slot), K18 x2 x3 x4 x5 u → wO D 46 (gF b h) h u A s.heap H locs → lv_has ls 6 [(0, .ref (h 12)), (2, .int x2), (3, .int x3), (4, .int x4), (5, .int x5)] → W p l e rm_X7_noteStanding s m args below meth c H locs 0 0 (MQ below (va_Qv (Post 0) (cB D (tyF b) 46 (gF b h) h A) A) args s 0 0 A) (F0 m 18 ls [])) : ∀ (x2 : Int32) (x3 : Int32) (x4 : Int32) (x5 : Int32) (u : St) (H : Heap) (locs : List Loc) (ls : Array Slot), wb_X7_noteStanding_18 Post K18 x2 x3 x4 x5 u → wO D 46 (gF b h) h u A s.heap H locs → lv_has ls 6 [(0, .ref (h 12)), (2, .int x2), (3, .int x3), (4, .int x4), (5, .int x5)] → W p l e rm_X7_noteStanding s m args below meth c H locs 0 0 (MQ below (va_Qv (Post 0) (cB D (tyF b) 46 (gF b h) h A) A) args s 0 0 A) (F0 m 18 ls []) := by
  obtain ⟨⟨hx, hb, hml, hown, hts⟩, hK, hNs, hlocks, hr⟩ := id X
  intro x2 x3 x4 x5 u H locs ls hw O hl
  unfold wb_X7_noteStanding_18 at hw
  refine lv_iload hx hb dX7_noteStanding_18 (lv_at hl 4 rfl) ?_
  refine lv_iload_n hx hb dX7_noteStanding_20 rfl (lv_at hl 2 rfl) ?_
  refine lv_icmp_ge (tgt := 52) hx hb dX7_noteStanding_21 (by decide) (fun c21 => ?_) (fun c21 => ?_)
  · have hw := hw.1 c21
    exact q_vret X O hw dX7_noteStanding_52
  · have hw := hw.2 c21
    refine lv_iload_n hx hb dX7_noteStanding_24 rfl (lv_at hl 1 rfl) ?_
    refine lv_iload hx hb dX7_noteStanding_25 (lv_at hl 4 rfl) ?_
    refine lv_ishr hx hb dX7_noteStanding_27 ?_
    refine lv_iconst (v := 1) hx hb dX7_noteStanding_28 (by decide) ?_
    refine lv_iand hx hb dX7_noteStanding_29 ?_
    refine lv_iconst (v := 1) hx hb dX7_noteStanding_30 (by decide) ?_
    refine lv_icmp_ne (tgt := 46) hx hb dX7_noteStanding_31 (by decide) (fun c31 => ?_) (fun c31 => ?_)
    · have hw := hw.1 c31
      refine lv_iinc (v := x5 + 1) (lv' := [(5, .int (x5 + 1)), (0, .ref (h 12)), (2, .int x2), (3, .int x3), (4, .int x4)]) hx hb dX7_noteStanding_46 hl (k := 4) rfl rfl (by decide) rfl (fun ls hl => ?_)
      refine lv_goto (tgt := 18) hx hb dX7_noteStanding_49 (by decide) ?_
      exact k18 _ _ _ _ _ _ _ _ hw O (lv_sub hl [1, 2, 3, 4, 0] rfl)
    · have hw := hw.2 c31
      refine lv_aload_n hx hb dX7_noteStanding_34 rfl (lv_at hl 0 rfl) ?_
      refine gt_X7_31 X O dX7_noteStanding_35 ?_
      refine lv_iload hx hb dX7_noteStanding_38 (lv_at hl 4 rfl) ?_
      refine lv_dup2_11 hx hb dX7_noteStanding_40 rfl rfl ?_
      obtain ⟨i41, hw⟩ := hw
      refine q_ild X O 17 0 (by decide) rfl rfl i41 dX7_noteStanding_41 ?_
      refine lv_iload hx hb dX7_noteStanding_42 (lv_at hl 3 rfl) ?_
      refine lv_ior hx hb dX7_noteStanding_44 ?_
      obtain ⟨i45, hw⟩ := hw
      refine q_ist X O 17 0 (by decide) (fun _ => rfl) rfl i45 dX7_noteStanding_45 (fun H locs O => ?_)
      refine lv_iinc (v := x5 + 1) (lv' := [(5, .int (x5 + 1)), (0, .ref (h 12)), (2, .int x2), (3, .int x3), (4, .int x4)]) hx hb dX7_noteStanding_46 hl (k := 4) rfl rfl (by decide) rfl (fun ls hl => ?_)
      refine lv_goto (tgt := 18) hx hb dX7_noteStanding_49 (by decide) ?_
      exact k18 _ _ _ _ _ _ _ _ hw O (lv_sub hl [1, 2, 3, 4, 0] rfl)
def wl_X7_noteStanding_18 (Post : Int32 → St → Prop) : Nat → Int32 → Int32 → Int32 → Int32 → St → Prop
  | 0 => fun _ _ _ _ _ => False
  | n + 1 => fun x2 x3 x4 x5 u => wb_X7_noteStanding_18 Post (wl_X7_noteStanding_18 Post n) x2 x3 x4 x5 u
set_option maxHeartbeats 4000000 in
set_option maxRecDepth 100000 in
theorem tl_X7_noteStanding_18 (X : Cx p s m args meth c cX7_noteStanding 6 none RX7 D (tyF b) A) (hA : ∀ q, s.heap.size ≤ q → A q) {Post : Int32 → St → Prop} : ∀ n : Nat, ∀ (x2 : Int32) (x3 : Int32) (x4 : Int32) (x5 : Int32) (u : St) (H : Heap) (locs : List Loc) (ls : Array Slot), (wl_X7_noteStanding_18 Post n) x2 x3 x4 x5 u → wO D 46 (gF b h) h u A s.heap H locs → lv_has ls 6 [(0, .ref (h 12)), (2, .int x2), (3, .int x3), (4, .int x4), (5, .int x5)] → W p l e rm_X7_noteStanding s m args below meth c H locs 0 0 (MQ below (va_Qv (Post 0) (cB D (tyF b) 46 (gF b h) h A) A) args s 0 0 A) (F0 m 18 ls []) := by
  intro n
  induction n with
  | zero => intro x2 x3 x4 x5 u H locs ls hw; exact False.elim hw
  | succ n ih => intro x2 x3 x4 x5 u H locs ls hw O hl; exact tb_X7_noteStanding_18 X hA ih x2 x3 x4 x5 u H locs ls hw O hl
def wp_X7_noteStanding (a2 : Int32) (u : St) (Post : Int32 → St → Prop) : Prop := wp_X10_jobs u (fun r1 u1 => wp_X10_everyJob u1 (fun r6 u6 => ∃ n : Nat, wl_X7_noteStanding_18 Post n a2 r1 (r6 &&& (a2 ^^^ (-1 : Int32))) (0 : Int32) u6))
set_option maxHeartbeats 4000000 in
set_option maxRecDepth 100000 in
theorem c_X7_noteStanding {a2 : Int32} {l : Launch} {D : va_G} {b : Nat → ClassId} {h : Nat → Nat} {u : St} {Post : Int32 → St → Prop} (hw : wp_X7_noteStanding a2 u Post) : CtV l yX7_noteStanding cX7_noteStanding 6 none rm_X7_noteStanding D (tyF b) 46 (gF b h) h [.ref (h 12), .ref (h 1), .int a2] u Post := by
  refine CtV.of (plainFor_of_name (by decide)) (Nat.le_of_ble_eq_true rfl) ?_
  intro p e s m below meth c A ls X hA O hl
  have X : Cx p s m _ meth c cX7_noteStanding 6 none RX7 D (tyF b) A := X
  obtain ⟨⟨hx, hb, hml, hown, hts⟩, hK, hNs, hlocks, hr⟩ := id X
  have hl : lv_has ls 6 [(0, .ref (h 12)), (1, .ref (h 1)), (2, .int a2)] := hl
  unfold wp_X7_noteStanding at hw
  refine lv_aload_n hx hb dX7_noteStanding_0 rfl (lv_at hl 1 rfl) ?_
  refine q_civ (rest := []) X O hA 1 (c_X10_jobs hw) lk_X7_88 (by decide) rfl rfl rfl rfl rfl rfl ⟨Nat.le_of_ble_eq_true rfl, Nat.le_of_ble_eq_true rfl⟩ (Nat.le_of_ble_eq_true rfl) hl.1 ⟨Nat.zero_le _, Nat.zero_le _⟩ rfl dX7_noteStanding_1 (fun r1 u1 H locs hw O => ?_)
  refine lv_istore_n (lv' := [(3, .int r1), (0, .ref (h 12)), (1, .ref (h 1)), (2, .int a2)]) hx hb dX7_noteStanding_4 rfl hl (by decide) rfl (fun ls hl => ?_)
  refine lv_aload_n hx hb dX7_noteStanding_5 rfl (lv_at hl 2 rfl) ?_
  refine q_civ (rest := []) X O hA 1 (c_X10_everyJob hw) lk_X7_63 (by decide) rfl rfl rfl rfl rfl rfl ⟨Nat.le_of_ble_eq_true rfl, Nat.le_of_ble_eq_true rfl⟩ (Nat.le_of_ble_eq_true rfl) hl.1 ⟨Nat.zero_le _, Nat.zero_le _⟩ rfl dX7_noteStanding_6 (fun r6 u6 H locs hw O => ?_)
  refine lv_iload_n hx hb dX7_noteStanding_9 rfl (lv_at hl 3 rfl) ?_
  refine lv_iconst (v := -1) hx hb dX7_noteStanding_10 (by decide) ?_
  refine lv_ixor hx hb dX7_noteStanding_11 ?_
  refine lv_iand hx hb dX7_noteStanding_12 ?_
  refine lv_istore (lv' := [(4, .int (r6 &&& (a2 ^^^ (-1 : Int32)))), (3, .int r1), (0, .ref (h 12)), (1, .ref (h 1)), (2, .int a2)]) hx hb dX7_noteStanding_13 hl (by decide) rfl (fun ls hl => ?_)
  refine lv_iconst (v := 0) hx hb dX7_noteStanding_15 (by decide) ?_
  refine lv_istore (lv' := [(5, .int (0 : Int32)), (4, .int (r6 &&& (a2 ^^^ (-1 : Int32)))), (3, .int r1), (0, .ref (h 12)), (1, .ref (h 1)), (2, .int a2)]) hx hb dX7_noteStanding_16 hl (by decide) rfl (fun ls hl => ?_)
  obtain ⟨n, hw⟩ := hw
  exact tl_X7_noteStanding_18 X hA n _ _ _ _ _ _ _ _ hw O (lv_sub hl [3, 5, 2, 1, 0] rfl)
-- FellersOrder$Plan.findStanding(LFellersOrder$Yard;)V
abbrev rm_X7_findStanding : Room := { frames := 3, cells := 0, slots := 0, locals := 69 }
def wb_X7_findStanding_30 (Post : Int32 → St → Prop) (K30 : Int32 → Int32 → St → Prop) (x2 : Int32) (x3 : Int32) (u : St) : Prop := ((x2 < x3) → (Post 0 u)) ∧ ((¬ x2 < x3) → (vp_in x3 4096 ∧ ((((u 14 (Int32.toNatClampNeg x3)) = (1000000000 : Int32)) → (K30 x2 (x3 + 1) u)) ∧ ((¬ (u 14 (Int32.toNatClampNeg x3)) = (1000000000 : Int32)) → (wp_X7_beginsBestOrder x3 u (fun r49 u49 => ((r49 = 0) → (vp_in x3 4096 ∧ (K30 x2 (x3 + 1) (su u49 14 (Int32.toNatClampNeg x3) (1000000000 : Int32))))) ∧ ((¬ r49 = 0) → (wp_X7_noteStanding x3 u49 (fun _ u58 => K30 x2 (x3 + 1) u58)))))))))
set_option maxHeartbeats 4000000 in
set_option maxRecDepth 100000 in
theorem tb_X7_findStanding_30 (X : Cx p s m args meth c cX7_findStanding 4 none RX7 D (tyF b) A) (hA : ∀ q, s.heap.size ≤ q → A q) {Post : Int32 → St → Prop} {K30 : Int32 → Int32 → St → Prop} (k30 : ∀ (x2 : Int32) (x3 : Int32) (u : St) (H : Heap) (locs : List Loc) (ls : Array Slot), K30 x2 x3 u → wO D 46 (gF b h) h u A s.heap H locs → lv_has ls 4 [(0, .ref (h 12)), (1, .ref (h 1)), (2, .int x2), (3, .int x3)] → W p l e rm_X7_findStanding s m args below meth c H locs 0 0 (MQ below (va_Qv (Post 0) (cB D (tyF b) 46 (gF b h) h A) A) args s 0 0 A) (F0 m 30 ls [])) : ∀ (x2 : Int32) (x3 : Int32) (u : St) (H : Heap) (locs : List Loc) (ls : Array Slot), wb_X7_findStanding_30 Post K30 x2 x3 u → wO D 46 (gF b h) h u A s.heap H locs → lv_has ls 4 [(0, .ref (h 12)), (1, .ref (h 1)), (2, .int x2), (3, .int x3)] → W p l e rm_X7_findStanding s m args below meth c H locs 0 0 (MQ below (va_Qv (Post 0) (cB D (tyF b) 46 (gF b h) h A) A) args s 0 0 A) (F0 m 30 ls []) := by
  obtain ⟨⟨hx, hb, hml, hown, hts⟩, hK, hNs, hlocks, hr⟩ := id X
  intro x2 x3 u H locs ls hw O hl
  unfold wb_X7_findStanding_30 at hw
  refine lv_iload_n hx hb dX7_findStanding_30 rfl (lv_at hl 3 rfl) ?_
  refine lv_iload_n hx hb dX7_findStanding_31 rfl (lv_at hl 2 rfl) ?_
  refine lv_icmp_gt (tgt := 78) hx hb dX7_findStanding_32 (by decide) (fun c32 => ?_) (fun c32 => ?_)
  · have hw := hw.1 c32
    exact q_vret X O hw dX7_findStanding_78
  · have hw := hw.2 c32
    refine lv_aload_n hx hb dX7_findStanding_35 rfl (lv_at hl 0 rfl) ?_
    refine gt_X7_19 X O dX7_findStanding_36 ?_
    refine lv_iload_n hx hb dX7_findStanding_39 rfl (lv_at hl 3 rfl) ?_
    obtain ⟨i40, hw⟩ := hw
    refine q_ild X O 14 0 (by decide) rfl rfl i40 dX7_findStanding_40 ?_
    refine lv_ldc (v := 1000000000) hx hb hown (hts _ wd_25_16) dX7_findStanding_41 ?_
    refine lv_icmp_eq (tgt := 72) hx hb dX7_findStanding_43 (by decide) (fun c43 => ?_) (fun c43 => ?_)
    · have hw := hw.1 c43
      refine lv_iinc (v := x3 + 1) (lv' := [(3, .int (x3 + 1)), (0, .ref (h 12)), (1, .ref (h 1)), (2, .int x2)]) hx hb dX7_findStanding_72 hl (k := 3) rfl rfl (by decide) rfl (fun ls hl => ?_)
      refine lv_goto (tgt := 30) hx hb dX7_findStanding_75 (by decide) ?_
      exact k30 _ _ _ _ _ _ hw O (lv_sub hl [1, 2, 3, 0] rfl)
    · have hw := hw.2 c43
      refine lv_aload_n hx hb dX7_findStanding_46 rfl (lv_at hl 0 rfl) ?_
      refine lv_aload_n hx hb dX7_findStanding_47 rfl (lv_at hl 1 rfl) ?_
      refine lv_iload_n hx hb dX7_findStanding_48 rfl (lv_at hl 3 rfl) ?_
      refine q_civ (rest := []) X O hA 12 (c_X7_beginsBestOrder hw) lk_X7_105 (by decide) rfl rfl rfl rfl rfl rfl ⟨Nat.le_of_ble_eq_true rfl, Nat.le_of_ble_eq_true rfl⟩ (Nat.le_of_ble_eq_true rfl) hl.1 ⟨Nat.zero_le _, Nat.zero_le _⟩ rfl dX7_findStanding_49 (fun r49 u49 H locs hw O => ?_)
      refine lv_if_eq (tgt := 64) hx hb dX7_findStanding_52 (by decide) (fun c52 => ?_) (fun c52 => ?_)
      · have hw := hw.1 c52
        refine lv_aload_n hx hb dX7_findStanding_64 rfl (lv_at hl 0 rfl) ?_
        refine gt_X7_19 X O dX7_findStanding_65 ?_
        refine lv_iload_n hx hb dX7_findStanding_68 rfl (lv_at hl 3 rfl) ?_
        refine lv_ldc (v := 1000000000) hx hb hown (hts _ wd_25_16) dX7_findStanding_69 ?_
        obtain ⟨i71, hw⟩ := hw
        refine q_ist X O 14 0 (by decide) (fun _ => rfl) rfl i71 dX7_findStanding_71 (fun H locs O => ?_)
        refine lv_iinc (v := x3 + 1) (lv' := [(3, .int (x3 + 1)), (0, .ref (h 12)), (1, .ref (h 1)), (2, .int x2)]) hx hb dX7_findStanding_72 hl (k := 3) rfl rfl (by decide) rfl (fun ls hl => ?_)
        refine lv_goto (tgt := 30) hx hb dX7_findStanding_75 (by decide) ?_
        exact k30 _ _ _ _ _ _ hw O (lv_sub hl [1, 2, 3, 0] rfl)
      · have hw := hw.2 c52
        refine lv_aload_n hx hb dX7_findStanding_55 rfl (lv_at hl 0 rfl) ?_
        refine lv_aload_n hx hb dX7_findStanding_56 rfl (lv_at hl 1 rfl) ?_
        refine lv_iload_n hx hb dX7_findStanding_57 rfl (lv_at hl 3 rfl) ?_
        refine q_cvv (rest := []) X O hA 12 (c_X7_noteStanding hw) lk_X7_109 (by decide) rfl rfl rfl rfl rfl rfl ⟨Nat.le_of_ble_eq_true rfl, Nat.le_of_ble_eq_true rfl⟩ (Nat.le_of_ble_eq_true rfl) hl.1 ⟨Nat.zero_le _, Nat.zero_le _⟩ rfl dX7_findStanding_58 (fun u58 H locs hw O => ?_)
        refine lv_goto (tgt := 72) hx hb dX7_findStanding_61 (by decide) ?_
        refine lv_iinc (v := x3 + 1) (lv' := [(3, .int (x3 + 1)), (0, .ref (h 12)), (1, .ref (h 1)), (2, .int x2)]) hx hb dX7_findStanding_72 hl (k := 3) rfl rfl (by decide) rfl (fun ls hl => ?_)
        refine lv_goto (tgt := 30) hx hb dX7_findStanding_75 (by decide) ?_
        exact k30 _ _ _ _ _ _ hw O (lv_sub hl [1, 2, 3, 0] rfl)
def wl_X7_findStanding_30 (Post : Int32 → St → Prop) : Nat → Int32 → Int32 → St → Prop
  | 0 => fun _ _ _ => False
  | n + 1 => fun x2 x3 u => wb_X7_findStanding_30 Post (wl_X7_findStanding_30 Post n) x2 x3 u
set_option maxHeartbeats 4000000 in
set_option maxRecDepth 100000 in
theorem tl_X7_findStanding_30 (X : Cx p s m args meth c cX7_findStanding 4 none RX7 D (tyF b) A) (hA : ∀ q, s.heap.size ≤ q → A q) {Post : Int32 → St → Prop} : ∀ n : Nat, ∀ (x2 : Int32) (x3 : Int32) (u : St) (H : Heap) (locs : List Loc) (ls : Array Slot), (wl_X7_findStanding_30 Post n) x2 x3 u → wO D 46 (gF b h) h u A s.heap H locs → lv_has ls 4 [(0, .ref (h 12)), (1, .ref (h 1)), (2, .int x2), (3, .int x3)] → W p l e rm_X7_findStanding s m args below meth c H locs 0 0 (MQ below (va_Qv (Post 0) (cB D (tyF b) 46 (gF b h) h A) A) args s 0 0 A) (F0 m 30 ls []) := by
  intro n
  induction n with
  | zero => intro x2 x3 u H locs ls hw; exact False.elim hw
  | succ n ih => intro x2 x3 u H locs ls hw O hl; exact tb_X7_findStanding_30 X hA ih x2 x3 u H locs ls hw O hl
def wb_X7_findStanding_2 (Post : Int32 → St → Prop) (K2 : Int32 → St → Prop) (x2 : Int32) (u : St) : Prop := wp_X10_jobs u (fun r4 u4 => ((r4 ≤ x2) → (wp_X10_everyJob u4 (fun r24 u24 => ∃ n : Nat, wl_X7_findStanding_30 Post n r24 (1 : Int32) u24))) ∧ ((¬ r4 ≤ x2) → (vp_in x2 12 ∧ (K2 (x2 + 1) (su u4 17 (Int32.toNatClampNeg x2) (0 : Int32))))))
set_option maxHeartbeats 4000000 in
set_option maxRecDepth 100000 in
theorem tb_X7_findStanding_2 (X : Cx p s m args meth c cX7_findStanding 4 none RX7 D (tyF b) A) (hA : ∀ q, s.heap.size ≤ q → A q) {Post : Int32 → St → Prop} {K2 : Int32 → St → Prop} (k2 : ∀ (x2 : Int32) (u : St) (H : Heap) (locs : List Loc) (ls : Array Slot), K2 x2 u → wO D 46 (gF b h) h u A s.heap H locs → lv_has ls 4 [(0, .ref (h 12)), (1, .ref (h 1)), (2, .int x2)] → W p l e rm_X7_findStanding s m args below meth c H locs 0 0 (MQ below (va_Qv (Post 0) (cB D (tyF b) 46 (gF b h) h A) A) args s 0 0 A) (F0 m 2 ls [])) : ∀ (x2 : Int32) (u : St) (H : Heap) (locs : List Loc) (ls : Array Slot), wb_X7_findStanding_2 Post K2 x2 u → wO D 46 (gF b h) h u A s.heap H locs → lv_has ls 4 [(0, .ref (h 12)), (1, .ref (h 1)), (2, .int x2)] → W p l e rm_X7_findStanding s m args below meth c H locs 0 0 (MQ below (va_Qv (Post 0) (cB D (tyF b) 46 (gF b h) h A) A) args s 0 0 A) (F0 m 2 ls []) := by
  obtain ⟨⟨hx, hb, hml, hown, hts⟩, hK, hNs, hlocks, hr⟩ := id X
  intro x2 u H locs ls hw O hl
  unfold wb_X7_findStanding_2 at hw
  refine lv_iload_n hx hb dX7_findStanding_2 rfl (lv_at hl 2 rfl) ?_
  refine lv_aload_n hx hb dX7_findStanding_3 rfl (lv_at hl 1 rfl) ?_
  refine q_civ (rest := [.int x2]) X O hA 1 (c_X10_jobs hw) lk_X7_88 (by decide) rfl rfl rfl rfl rfl rfl ⟨Nat.le_of_ble_eq_true rfl, Nat.le_of_ble_eq_true rfl⟩ (Nat.le_of_ble_eq_true rfl) hl.1 ⟨Nat.zero_le _, Nat.zero_le _⟩ rfl dX7_findStanding_4 (fun r4 u4 H locs hw O => ?_)
  refine lv_icmp_ge (tgt := 23) hx hb dX7_findStanding_7 (by decide) (fun c7 => ?_) (fun c7 => ?_)
  · have hw := hw.1 c7
    refine lv_aload_n hx hb dX7_findStanding_23 rfl (lv_at hl 1 rfl) ?_
    refine q_civ (rest := []) X O hA 1 (c_X10_everyJob hw) lk_X7_63 (by decide) rfl rfl rfl rfl rfl rfl ⟨Nat.le_of_ble_eq_true rfl, Nat.le_of_ble_eq_true rfl⟩ (Nat.le_of_ble_eq_true rfl) hl.1 ⟨Nat.zero_le _, Nat.zero_le _⟩ rfl dX7_findStanding_24 (fun r24 u24 H locs hw O => ?_)
    refine lv_istore_n (lv' := [(2, .int r24), (0, .ref (h 12)), (1, .ref (h 1))]) hx hb dX7_findStanding_27 rfl hl (by decide) rfl (fun ls hl => ?_)
    refine lv_iconst (v := 1) hx hb dX7_findStanding_28 (by decide) ?_
    refine lv_istore_n (lv' := [(3, .int (1 : Int32)), (2, .int r24), (0, .ref (h 12)), (1, .ref (h 1))]) hx hb dX7_findStanding_29 rfl hl (by decide) rfl (fun ls hl => ?_)
    obtain ⟨n, hw⟩ := hw
    exact tl_X7_findStanding_30 X hA n _ _ _ _ _ _ hw O (lv_sub hl [2, 3, 1, 0] rfl)
  · have hw := hw.2 c7
    refine lv_aload_n hx hb dX7_findStanding_10 rfl (lv_at hl 0 rfl) ?_
    refine gt_X7_31 X O dX7_findStanding_11 ?_
    refine lv_iload_n hx hb dX7_findStanding_14 rfl (lv_at hl 2 rfl) ?_
    refine lv_iconst (v := 0) hx hb dX7_findStanding_15 (by decide) ?_
    obtain ⟨i16, hw⟩ := hw
    refine q_ist X O 17 0 (by decide) (fun _ => rfl) rfl i16 dX7_findStanding_16 (fun H locs O => ?_)
    refine lv_iinc (v := x2 + 1) (lv' := [(2, .int (x2 + 1)), (0, .ref (h 12)), (1, .ref (h 1))]) hx hb dX7_findStanding_17 hl (k := 2) rfl rfl (by decide) rfl (fun ls hl => ?_)
    refine lv_goto (tgt := 2) hx hb dX7_findStanding_20 (by decide) ?_
    exact k2 _ _ _ _ _ hw O (lv_sub hl [1, 2, 0] rfl)
def wl_X7_findStanding_2 (Post : Int32 → St → Prop) : Nat → Int32 → St → Prop
  | 0 => fun _ _ => False
  | n + 1 => fun x2 u => wb_X7_findStanding_2 Post (wl_X7_findStanding_2 Post n) x2 u
set_option maxHeartbeats 4000000 in
set_option maxRecDepth 100000 in
theorem tl_X7_findStanding_2 (X : Cx p s m args meth c cX7_findStanding 4 none RX7 D (tyF b) A) (hA : ∀ q, s.heap.size ≤ q → A q) {Post : Int32 → St → Prop} : ∀ n : Nat, ∀ (x2 : Int32) (u : St) (H : Heap) (locs : List Loc) (ls : Array Slot), (wl_X7_findStanding_2 Post n) x2 u → wO D 46 (gF b h) h u A s.heap H locs → lv_has ls 4 [(0, .ref (h 12)), (1, .ref (h 1)), (2, .int x2)] → W p l e rm_X7_findStanding s m args below meth c H locs 0 0 (MQ below (va_Qv (Post 0) (cB D (tyF b) 46 (gF b h) h A) A) args s 0 0 A) (F0 m 2 ls []) := by
  intro n
  induction n with
  | zero => intro x2 u H locs ls hw; exact False.elim hw
  | succ n ih => intro x2 u H locs ls hw O hl; exact tb_X7_findStanding_2 X hA ih x2 u H locs ls hw O hl
def wp_X7_findStanding (u : St) (Post : Int32 → St → Prop) : Prop := ∃ n : Nat, wl_X7_findStanding_2 Post n (0 : Int32) u
set_option maxHeartbeats 4000000 in
set_option maxRecDepth 100000 in
theorem c_X7_findStanding {l : Launch} {D : va_G} {b : Nat → ClassId} {h : Nat → Nat} {u : St} {Post : Int32 → St → Prop} (hw : wp_X7_findStanding u Post) : CtV l yX7_findStanding cX7_findStanding 4 none rm_X7_findStanding D (tyF b) 46 (gF b h) h [.ref (h 12), .ref (h 1)] u Post := by
  refine CtV.of (plainFor_of_name (by decide)) (Nat.le_of_ble_eq_true rfl) ?_
  intro p e s m below meth c A ls X hA O hl
  have X : Cx p s m _ meth c cX7_findStanding 4 none RX7 D (tyF b) A := X
  obtain ⟨⟨hx, hb, hml, hown, hts⟩, hK, hNs, hlocks, hr⟩ := id X
  have hl : lv_has ls 4 [(0, .ref (h 12)), (1, .ref (h 1))] := hl
  unfold wp_X7_findStanding at hw
  refine lv_iconst (v := 0) hx hb dX7_findStanding_0 (by decide) ?_
  refine lv_istore_n (lv' := [(2, .int (0 : Int32)), (0, .ref (h 12)), (1, .ref (h 1))]) hx hb dX7_findStanding_1 rfl hl (by decide) rfl (fun ls hl => ?_)
  obtain ⟨n, hw⟩ := hw
  exact tl_X7_findStanding_2 X hA n _ _ _ _ _ hw O (lv_sub hl [1, 2, 0] rfl)
-- FellersOrder$Plan.mayStandAhead(LFellersOrder$Yard;II)Z
abbrev rm_X7_mayStandAhead : Room := { frames := 5, cells := 0, slots := 0, locals := 115 }
def wp_X7_mayStandAhead (a2 : Int32) (a3 : Int32) (u : St) (Post : Int32 → St → Prop) : Prop := wp_X7_findOrders u (fun _ u2 => wp_X10_version u2 (fun r10 u10 => (((u2 12 8) = r10) → (vp_in a2 12 ∧ (wp_X11_hasBit (u10 17 (Int32.toNatClampNeg a2)) a3 u10 (fun r36 u36 => (r36 = 0 ∨ r36 = 1) ∧ Post r36 u36)))) ∧ ((¬ (u2 12 8) = r10) → (wp_X7_findStanding u10 (fun _ u18 => wp_X10_version u18 (fun r23 u23 => vp_in a2 12 ∧ (wp_X11_hasBit ((su u23 12 8 r23) 17 (Int32.toNatClampNeg a2)) a3 (su u23 12 8 r23) (fun r36 u36 => (r36 = 0 ∨ r36 = 1) ∧ Post r36 u36))))))))
set_option maxHeartbeats 4000000 in
set_option maxRecDepth 100000 in
theorem c_X7_mayStandAhead {a2 : Int32} {a3 : Int32} {l : Launch} {D : va_G} {b : Nat → ClassId} {h : Nat → Nat} {u : St} {Post : Int32 → St → Prop} (hw : wp_X7_mayStandAhead a2 a3 u Post) : CtI l yX7_mayStandAhead cX7_mayStandAhead 4 (some .boolean) rm_X7_mayStandAhead D (tyF b) 46 (gF b h) h [.ref (h 12), .ref (h 1), .int a2, .int a3] u Post := by
  refine CtI.of (plainFor_of_name (by decide)) (Nat.le_of_ble_eq_true rfl) ?_
  intro p e s m below meth c A ls X hA O hl
  have X : Cx p s m _ meth c cX7_mayStandAhead 4 (some .boolean) RX7 D (tyF b) A := X
  obtain ⟨⟨hx, hb, hml, hown, hts⟩, hK, hNs, hlocks, hr⟩ := id X
  have hl : lv_has ls 4 [(0, .ref (h 12)), (1, .ref (h 1)), (2, .int a2), (3, .int a3)] := hl
  unfold wp_X7_mayStandAhead at hw
  refine lv_aload_n hx hb dX7_mayStandAhead_0 rfl (lv_at hl 0 rfl) ?_
  refine lv_aload_n hx hb dX7_mayStandAhead_1 rfl (lv_at hl 1 rfl) ?_
  refine q_cvv (rest := []) X O hA 12 (c_X7_findOrders hw) lk_X7_57 (by decide) rfl rfl rfl rfl rfl rfl ⟨Nat.le_of_ble_eq_true rfl, Nat.le_of_ble_eq_true rfl⟩ (Nat.le_of_ble_eq_true rfl) hl.1 ⟨Nat.zero_le _, Nat.zero_le _⟩ rfl dX7_mayStandAhead_2 (fun u2 H locs hw O => ?_)
  refine lv_aload_n hx hb dX7_mayStandAhead_5 rfl (lv_at hl 0 rfl) ?_
  refine gt_X7_34 X O dX7_mayStandAhead_6 ?_
  refine lv_aload_n hx hb dX7_mayStandAhead_9 rfl (lv_at hl 1 rfl) ?_
  refine q_civ (rest := [.int (u2 12 8)]) X O hA 1 (c_X10_version hw) lk_X7_37 (by decide) rfl rfl rfl rfl rfl rfl ⟨Nat.le_of_ble_eq_true rfl, Nat.le_of_ble_eq_true rfl⟩ (Nat.le_of_ble_eq_true rfl) hl.1 ⟨Nat.zero_le _, Nat.zero_le _⟩ rfl dX7_mayStandAhead_10 (fun r10 u10 H locs hw O => ?_)
  refine lv_icmp_eq (tgt := 29) hx hb dX7_mayStandAhead_13 (by decide) (fun c13 => ?_) (fun c13 => ?_)
  · have hw := hw.1 c13
    refine lv_aload_n hx hb dX7_mayStandAhead_29 rfl (lv_at hl 0 rfl) ?_
    refine gt_X7_31 X O dX7_mayStandAhead_30 ?_
    refine lv_iload_n hx hb dX7_mayStandAhead_33 rfl (lv_at hl 2 rfl) ?_
    obtain ⟨i34, hw⟩ := hw
    refine q_ild X O 17 0 (by decide) rfl rfl i34 dX7_mayStandAhead_34 ?_
    refine lv_iload_n hx hb dX7_mayStandAhead_35 rfl (lv_at hl 3 rfl) ?_
    refine q_cisN (rest := []) X O hA (c_X11_hasBit hw) lk_X7_53 rfl rfl rfl ⟨Nat.le_of_ble_eq_true rfl, Nat.le_of_ble_eq_true rfl⟩ (Nat.le_of_ble_eq_true rfl) hl.1 ⟨Nat.zero_le _, Nat.zero_le _⟩ rfl dX7_mayStandAhead_36 (fun r36 u36 H locs hw O => ?_)
    exact q_zret X O (nb01 hw.1) hw.2 dX7_mayStandAhead_39
  · have hw := hw.2 c13
    refine lv_aload_n hx hb dX7_mayStandAhead_16 rfl (lv_at hl 0 rfl) ?_
    refine lv_aload_n hx hb dX7_mayStandAhead_17 rfl (lv_at hl 1 rfl) ?_
    refine q_cvv (rest := []) X O hA 12 (c_X7_findStanding hw) lk_X7_60 (by decide) rfl rfl rfl rfl rfl rfl ⟨Nat.le_of_ble_eq_true rfl, Nat.le_of_ble_eq_true rfl⟩ (Nat.le_of_ble_eq_true rfl) hl.1 ⟨Nat.zero_le _, Nat.zero_le _⟩ rfl dX7_mayStandAhead_18 (fun u18 H locs hw O => ?_)
    refine lv_aload_n hx hb dX7_mayStandAhead_21 rfl (lv_at hl 0 rfl) ?_
    refine lv_aload_n hx hb dX7_mayStandAhead_22 rfl (lv_at hl 1 rfl) ?_
    refine q_civ (rest := [.ref (h 12)]) X O hA 1 (c_X10_version hw) lk_X7_37 (by decide) rfl rfl rfl rfl rfl rfl ⟨Nat.le_of_ble_eq_true rfl, Nat.le_of_ble_eq_true rfl⟩ (Nat.le_of_ble_eq_true rfl) hl.1 ⟨Nat.zero_le _, Nat.zero_le _⟩ rfl dX7_mayStandAhead_23 (fun r23 u23 H locs hw O => ?_)
    refine pt_X7_34 X O dX7_mayStandAhead_26 (fun H locs O => ?_)
    refine lv_aload_n hx hb dX7_mayStandAhead_29 rfl (lv_at hl 0 rfl) ?_
    refine gt_X7_31 X O dX7_mayStandAhead_30 ?_
    refine lv_iload_n hx hb dX7_mayStandAhead_33 rfl (lv_at hl 2 rfl) ?_
    obtain ⟨i34, hw⟩ := hw
    refine q_ild X O 17 0 (by decide) rfl rfl i34 dX7_mayStandAhead_34 ?_
    refine lv_iload_n hx hb dX7_mayStandAhead_35 rfl (lv_at hl 3 rfl) ?_
    refine q_cisN (rest := []) X O hA (c_X11_hasBit hw) lk_X7_53 rfl rfl rfl ⟨Nat.le_of_ble_eq_true rfl, Nat.le_of_ble_eq_true rfl⟩ (Nat.le_of_ble_eq_true rfl) hl.1 ⟨Nat.zero_le _, Nat.zero_le _⟩ rfl dX7_mayStandAhead_36 (fun r36 u36 H locs hw O => ?_)
    exact q_zret X O (nb01 hw.1) hw.2 dX7_mayStandAhead_39
-- FellersOrder.fixed(II)I
abbrev rm_X11_fixed : Room := { frames := 6, cells := 0, slots := 0, locals := 138 }
def wp_X11_fixed (a1 : Int32) (a2 : Int32) (u : St) (Post : Int32 → St → Prop) : Prop := wp_X10_has a1 u (fun r5 u5 => ((r5 = 0) → (Post (-1 : Int32) u5)) ∧ ((¬ r5 = 0) → (wp_X10_has a2 u5 (fun r16 u16 => ((r16 = 0) → (Post (-1 : Int32) u16)) ∧ ((¬ r16 = 0) → (((¬ a1 = a2) → (wp_X7_mayStandAhead a2 a1 u16 (fun r39 u39 => ((¬ r39 = 0) → (wp_X11_asNumber (0 : Int32) u39 (fun r50 u50 => Post r50 u50))) ∧ ((r39 = 0) → (wp_X11_asNumber (1 : Int32) u39 (fun r50 u50 => Post r50 u50)))))) ∧ ((a1 = a2) → (Post (-1 : Int32) u16))))))))
set_option maxHeartbeats 4000000 in
set_option maxRecDepth 100000 in
theorem c_X11_fixed {a1 : Int32} {a2 : Int32} {l : Launch} {D : va_G} {b : Nat → ClassId} {h : Nat → Nat} {u : St} {Post : Int32 → St → Prop} (hw : wp_X11_fixed a1 a2 u Post) : CtI l yX11_fixed cX11_fixed 3 (some .int) rm_X11_fixed D (tyF b) 46 (gF b h) h [.ref (h 0), .int a1, .int a2] u Post := by
  refine CtI.of (plainFor_of_name (by decide)) (Nat.le_of_ble_eq_true rfl) ?_
  intro p e s m below meth c A ls X hA O hl
  have X : Cx p s m _ meth c cX11_fixed 3 (some .int) RX11 D (tyF b) A := X
  obtain ⟨⟨hx, hb, hml, hown, hts⟩, hK, hNs, hlocks, hr⟩ := id X
  have hl : lv_has ls 3 [(0, .ref (h 0)), (1, .int a1), (2, .int a2)] := hl
  unfold wp_X11_fixed at hw
  refine lv_aload_n hx hb dX11_fixed_0 rfl (lv_at hl 0 rfl) ?_
  refine gt_X11_10 X O dX11_fixed_1 ?_
  refine lv_iload_n hx hb dX11_fixed_4 rfl (lv_at hl 1 rfl) ?_
  refine q_civ (rest := []) X O hA 1 (c_X10_has hw) lk_X11_93 (by decide) rfl rfl rfl rfl rfl rfl ⟨Nat.le_of_ble_eq_true rfl, Nat.le_of_ble_eq_true rfl⟩ (Nat.le_of_ble_eq_true rfl) hl.1 ⟨Nat.zero_le _, Nat.zero_le _⟩ rfl dX11_fixed_5 (fun r5 u5 H locs hw O => ?_)
  refine lv_if_eq (tgt := 27) hx hb dX11_fixed_8 (by decide) (fun c8 => ?_) (fun c8 => ?_)
  · have hw := hw.1 c8
    refine lv_iconst (v := -1) hx hb dX11_fixed_27 (by decide) ?_
    exact q_iret X O hw dX11_fixed_28
  · have hw := hw.2 c8
    refine lv_aload_n hx hb dX11_fixed_11 rfl (lv_at hl 0 rfl) ?_
    refine gt_X11_10 X O dX11_fixed_12 ?_
    refine lv_iload_n hx hb dX11_fixed_15 rfl (lv_at hl 2 rfl) ?_
    refine q_civ (rest := []) X O hA 1 (c_X10_has hw) lk_X11_93 (by decide) rfl rfl rfl rfl rfl rfl ⟨Nat.le_of_ble_eq_true rfl, Nat.le_of_ble_eq_true rfl⟩ (Nat.le_of_ble_eq_true rfl) hl.1 ⟨Nat.zero_le _, Nat.zero_le _⟩ rfl dX11_fixed_16 (fun r16 u16 H locs hw O => ?_)
    refine lv_if_eq (tgt := 27) hx hb dX11_fixed_19 (by decide) (fun c19 => ?_) (fun c19 => ?_)
    · have hw := hw.1 c19
      refine lv_iconst (v := -1) hx hb dX11_fixed_27 (by decide) ?_
      exact q_iret X O hw dX11_fixed_28
    · have hw := hw.2 c19
      refine lv_iload_n hx hb dX11_fixed_22 rfl (lv_at hl 1 rfl) ?_
      refine lv_iload_n hx hb dX11_fixed_23 rfl (lv_at hl 2 rfl) ?_
      refine lv_icmp_ne (tgt := 29) hx hb dX11_fixed_24 (by decide) (fun c24 => ?_) (fun c24 => ?_)
      · have hw := hw.1 c24
        refine lv_aload_n hx hb dX11_fixed_29 rfl (lv_at hl 0 rfl) ?_
        refine gt_X11_19 X O dX11_fixed_30 ?_
        refine lv_aload_n hx hb dX11_fixed_33 rfl (lv_at hl 0 rfl) ?_
        refine gt_X11_10 X O dX11_fixed_34 ?_
        refine lv_iload_n hx hb dX11_fixed_37 rfl (lv_at hl 2 rfl) ?_
        refine lv_iload_n hx hb dX11_fixed_38 rfl (lv_at hl 1 rfl) ?_
        refine q_civ (rest := []) X O hA 12 (c_X7_mayStandAhead hw) lk_X11_221 (by decide) rfl rfl rfl rfl rfl rfl ⟨Nat.le_of_ble_eq_true rfl, Nat.le_of_ble_eq_true rfl⟩ (Nat.le_of_ble_eq_true rfl) hl.1 ⟨Nat.zero_le _, Nat.zero_le _⟩ rfl dX11_fixed_39 (fun r39 u39 H locs hw O => ?_)
        refine lv_if_ne (tgt := 49) hx hb dX11_fixed_42 (by decide) (fun c42 => ?_) (fun c42 => ?_)
        · have hw := hw.1 c42
          refine lv_iconst (v := 0) hx hb dX11_fixed_49 (by decide) ?_
          refine q_cis (rest := []) X O hA (c_X11_asNumber hw) lk_X11_153 rfl rfl rfl ⟨Nat.le_of_ble_eq_true rfl, Nat.le_of_ble_eq_true rfl⟩ (Nat.le_of_ble_eq_true rfl) hl.1 ⟨Nat.zero_le _, Nat.zero_le _⟩ rfl dX11_fixed_50 (fun r50 u50 H locs hw O => ?_)
          exact q_iret X O hw dX11_fixed_53
        · have hw := hw.2 c42
          refine lv_iconst (v := 1) hx hb dX11_fixed_45 (by decide) ?_
          refine lv_goto (tgt := 50) hx hb dX11_fixed_46 (by decide) ?_
          refine q_cis (rest := []) X O hA (c_X11_asNumber hw) lk_X11_153 rfl rfl rfl ⟨Nat.le_of_ble_eq_true rfl, Nat.le_of_ble_eq_true rfl⟩ (Nat.le_of_ble_eq_true rfl) hl.1 ⟨Nat.zero_le _, Nat.zero_le _⟩ rfl dX11_fixed_50 (fun r50 u50 H locs hw O => ?_)
          exact q_iret X O hw dX11_fixed_53
      · have hw := hw.2 c24
        refine lv_iconst (v := -1) hx hb dX11_fixed_27 (by decide) ?_
        exact q_iret X O hw dX11_fixed_28
-- FellersOrder$Yard.unbound(I)I
abbrev rm_X10_unbound : Room := { frames := 1, cells := 0, slots := 0, locals := 20 }
def wp_X10_unbound (a1 : Int32) (u : St) (Post : Int32 → St → Prop) : Prop := wp_X10_everyJob u (fun r1 u1 => vp_in a1 12 ∧ (vp_in a1 12 ∧ (Post (r1 &&& ((((u1 7 (Int32.toNatClampNeg a1)) ||| (u1 8 (Int32.toNatClampNeg a1))) ||| ((1 : Int32) <<< (a1 &&& 31))) ^^^ (-1 : Int32))) u1)))
set_option maxHeartbeats 4000000 in
set_option maxRecDepth 100000 in
theorem c_X10_unbound {a1 : Int32} {l : Launch} {D : va_G} {b : Nat → ClassId} {h : Nat → Nat} {u : St} {Post : Int32 → St → Prop} (hw : wp_X10_unbound a1 u Post) : CtI l yX10_unbound cX10_unbound 2 (some .int) rm_X10_unbound D (tyF b) 46 (gF b h) h [.ref (h 1), .int a1] u Post := by
  refine CtI.of (plainFor_of_name (by decide)) (Nat.le_of_ble_eq_true rfl) ?_
  intro p e s m below meth c A ls X hA O hl
  have X : Cx p s m _ meth c cX10_unbound 2 (some .int) RX10 D (tyF b) A := X
  obtain ⟨⟨hx, hb, hml, hown, hts⟩, hK, hNs, hlocks, hr⟩ := id X
  have hl : lv_has ls 2 [(0, .ref (h 1)), (1, .int a1)] := hl
  unfold wp_X10_unbound at hw
  refine lv_aload_n hx hb dX10_unbound_0 rfl (lv_at hl 0 rfl) ?_
  refine q_civ (rest := []) X O hA 1 (c_X10_everyJob hw) lk_X10_58 (by decide) rfl rfl rfl rfl rfl rfl ⟨Nat.le_of_ble_eq_true rfl, Nat.le_of_ble_eq_true rfl⟩ (Nat.le_of_ble_eq_true rfl) hl.1 ⟨Nat.zero_le _, Nat.zero_le _⟩ rfl dX10_unbound_1 (fun r1 u1 H locs hw O => ?_)
  refine lv_aload_n hx hb dX10_unbound_4 rfl (lv_at hl 0 rfl) ?_
  refine gt_X10_20 X O dX10_unbound_5 ?_
  refine lv_iload_n hx hb dX10_unbound_8 rfl (lv_at hl 1 rfl) ?_
  obtain ⟨i9, hw⟩ := hw
  refine q_ild X O 7 0 (by decide) rfl rfl i9 dX10_unbound_9 ?_
  refine lv_aload_n hx hb dX10_unbound_10 rfl (lv_at hl 0 rfl) ?_
  refine gt_X10_23 X O dX10_unbound_11 ?_
  refine lv_iload_n hx hb dX10_unbound_14 rfl (lv_at hl 1 rfl) ?_
  obtain ⟨i15, hw⟩ := hw
  refine q_ild X O 8 0 (by decide) rfl rfl i15 dX10_unbound_15 ?_
  refine lv_ior hx hb dX10_unbound_16 ?_
  refine lv_iconst (v := 1) hx hb dX10_unbound_17 (by decide) ?_
  refine lv_iload_n hx hb dX10_unbound_18 rfl (lv_at hl 1 rfl) ?_
  refine lv_ishl hx hb dX10_unbound_19 ?_
  refine lv_ior hx hb dX10_unbound_20 ?_
  refine lv_iconst (v := -1) hx hb dX10_unbound_21 (by decide) ?_
  refine lv_ixor hx hb dX10_unbound_22 ?_
  refine lv_iand hx hb dX10_unbound_23 ?_
  exact q_iret X O hw dX10_unbound_24
-- FellersOrder$Yard.findEnds(II)I
abbrev rm_X10_findEnds : Room := { frames := 2, cells := 0, slots := 0, locals := 41 }
def wb_X10_findEnds_2 (Post : Int32 → St → Prop) (K2 : Int32 → Int32 → Int32 → St → Prop) (x1 : Int32) (x2 : Int32) (x3 : Int32) (u : St) : Prop := (((u 1 7) ≤ x3) → (Post (-1 : Int32) u)) ∧ ((¬ (u 1 7) ≤ x3) → (vp_in x2 12 ∧ (wp_X10_unbound x1 u (fun r18 u18 => wp_X10_unbound x3 u18 (fun r24 u24 => vp_in x1 12 ∧ (vp_in x2 12 ∧ (wp_X11_hasBit ((u24 8 (Int32.toNatClampNeg x1)) &&& (u24 8 (Int32.toNatClampNeg x2))) x3 u24 (fun r44 u44 => ((r44 = 0) → (K2 x1 x2 (x3 + 1) u44)) ∧ ((¬ r44 = 0) → ((((((u 8 (Int32.toNatClampNeg x2)) &&& r18) &&& r24) = 0) → (K2 x1 x2 (x3 + 1) u44)) ∧ ((¬ (((u 8 (Int32.toNatClampNeg x2)) &&& r18) &&& r24) = 0) → (wp_J6_numberOfTrailingZeros_0f7a4 (((u 8 (Int32.toNatClampNeg x2)) &&& r18) &&& r24) u44 (fun r58 u58 => Post (x3 ||| (r58 <<< ((4 : Int32) &&& 31))) u58)))))))))))))
set_option maxHeartbeats 4000000 in
set_option maxRecDepth 100000 in
theorem tb_X10_findEnds_2 (X : Cx p s m args meth c cX10_findEnds 5 (some .int) RX10 D (tyF b) A) (hA : ∀ q, s.heap.size ≤ q → A q) {Post : Int32 → St → Prop} {K2 : Int32 → Int32 → Int32 → St → Prop} (k2 : ∀ (x1 : Int32) (x2 : Int32) (x3 : Int32) (u : St) (H : Heap) (locs : List Loc) (ls : Array Slot), K2 x1 x2 x3 u → wO D 46 (gF b h) h u A s.heap H locs → lv_has ls 5 [(0, .ref (h 1)), (1, .int x1), (2, .int x2), (3, .int x3)] → W p l e rm_X10_findEnds s m args below meth c H locs 0 0 (MQ below (va_Qi Post (cB D (tyF b) 46 (gF b h) h A) A) args s 0 0 A) (F0 m 2 ls [])) : ∀ (x1 : Int32) (x2 : Int32) (x3 : Int32) (u : St) (H : Heap) (locs : List Loc) (ls : Array Slot), wb_X10_findEnds_2 Post K2 x1 x2 x3 u → wO D 46 (gF b h) h u A s.heap H locs → lv_has ls 5 [(0, .ref (h 1)), (1, .int x1), (2, .int x2), (3, .int x3)] → W p l e rm_X10_findEnds s m args below meth c H locs 0 0 (MQ below (va_Qi Post (cB D (tyF b) 46 (gF b h) h A) A) args s 0 0 A) (F0 m 2 ls []) := by
  obtain ⟨⟨hx, hb, hml, hown, hts⟩, hK, hNs, hlocks, hr⟩ := id X
  intro x1 x2 x3 u H locs ls hw O hl
  unfold wb_X10_findEnds_2 at hw
  refine lv_iload_n hx hb dX10_findEnds_2 rfl (lv_at hl 3 rfl) ?_
  refine lv_aload_n hx hb dX10_findEnds_3 rfl (lv_at hl 0 rfl) ?_
  refine gt_X10_41 X O dX10_findEnds_4 ?_
  refine lv_icmp_ge (tgt := 71) hx hb dX10_findEnds_7 (by decide) (fun c7 => ?_) (fun c7 => ?_)
  · have hw := hw.1 c7
    refine lv_iconst (v := -1) hx hb dX10_findEnds_71 (by decide) ?_
    exact q_iret X O hw dX10_findEnds_72
  · have hw := hw.2 c7
    refine lv_aload_n hx hb dX10_findEnds_10 rfl (lv_at hl 0 rfl) ?_
    refine gt_X10_23 X O dX10_findEnds_11 ?_
    refine lv_iload_n hx hb dX10_findEnds_14 rfl (lv_at hl 2 rfl) ?_
    obtain ⟨i15, hw⟩ := hw
    refine q_ild X O 8 0 (by decide) rfl rfl i15 dX10_findEnds_15 ?_
    refine lv_aload_n hx hb dX10_findEnds_16 rfl (lv_at hl 0 rfl) ?_
    refine lv_iload_n hx hb dX10_findEnds_17 rfl (lv_at hl 1 rfl) ?_
    refine q_civ (rest := [.int (u 8 (Int32.toNatClampNeg x2))]) X O hA 1 (c_X10_unbound hw) lk_X10_65 (by decide) rfl rfl rfl rfl rfl rfl ⟨Nat.le_of_ble_eq_true rfl, Nat.le_of_ble_eq_true rfl⟩ (Nat.le_of_ble_eq_true rfl) hl.1 ⟨Nat.zero_le _, Nat.zero_le _⟩ rfl dX10_findEnds_18 (fun r18 u18 H locs hw O => ?_)
    refine lv_iand hx hb dX10_findEnds_21 ?_
    refine lv_aload_n hx hb dX10_findEnds_22 rfl (lv_at hl 0 rfl) ?_
    refine lv_iload_n hx hb dX10_findEnds_23 rfl (lv_at hl 3 rfl) ?_
    refine q_civ (rest := [.int ((u 8 (Int32.toNatClampNeg x2)) &&& r18)]) X O hA 1 (c_X10_unbound hw) lk_X10_65 (by decide) rfl rfl rfl rfl rfl rfl ⟨Nat.le_of_ble_eq_true rfl, Nat.le_of_ble_eq_true rfl⟩ (Nat.le_of_ble_eq_true rfl) hl.1 ⟨Nat.zero_le _, Nat.zero_le _⟩ rfl dX10_findEnds_24 (fun r24 u24 H locs hw O => ?_)
    refine lv_iand hx hb dX10_findEnds_27 ?_
    refine lv_istore (lv' := [(4, .int (((u 8 (Int32.toNatClampNeg x2)) &&& r18) &&& r24)), (0, .ref (h 1)), (1, .int x1), (2, .int x2), (3, .int x3)]) hx hb dX10_findEnds_28 hl (by decide) rfl (fun ls hl => ?_)
    refine lv_aload_n hx hb dX10_findEnds_30 rfl (lv_at hl 1 rfl) ?_
    refine gt_X10_23 X O dX10_findEnds_31 ?_
    refine lv_iload_n hx hb dX10_findEnds_34 rfl (lv_at hl 2 rfl) ?_
    obtain ⟨i35, hw⟩ := hw
    refine q_ild X O 8 0 (by decide) rfl rfl i35 dX10_findEnds_35 ?_
    refine lv_aload_n hx hb dX10_findEnds_36 rfl (lv_at hl 1 rfl) ?_
    refine gt_X10_23 X O dX10_findEnds_37 ?_
    refine lv_iload_n hx hb dX10_findEnds_40 rfl (lv_at hl 3 rfl) ?_
    obtain ⟨i41, hw⟩ := hw
    refine q_ild X O 8 0 (by decide) rfl rfl i41 dX10_findEnds_41 ?_
    refine lv_iand hx hb dX10_findEnds_42 ?_
    refine lv_iload_n hx hb dX10_findEnds_43 rfl (lv_at hl 4 rfl) ?_
    refine q_cisN (rest := []) X O hA (c_X11_hasBit hw) lk_X10_51 rfl rfl rfl ⟨Nat.le_of_ble_eq_true rfl, Nat.le_of_ble_eq_true rfl⟩ (Nat.le_of_ble_eq_true rfl) hl.1 ⟨Nat.zero_le _, Nat.zero_le _⟩ rfl dX10_findEnds_44 (fun r44 u44 H locs hw O => ?_)
    refine lv_if_eq (tgt := 65) hx hb dX10_findEnds_47 (by decide) (fun c47 => ?_) (fun c47 => ?_)
    · have hw := hw.1 c47
      refine lv_iinc (v := x3 + 1) (lv' := [(3, .int (x3 + 1)), (4, .int (((u 8 (Int32.toNatClampNeg x2)) &&& r18) &&& r24)), (0, .ref (h 1)), (1, .int x1), (2, .int x2)]) hx hb dX10_findEnds_65 hl (k := 4) rfl rfl (by decide) rfl (fun ls hl => ?_)
      refine lv_goto (tgt := 2) hx hb dX10_findEnds_68 (by decide) ?_
      exact k2 _ _ _ _ _ _ _ hw O (lv_sub hl [2, 3, 4, 0] rfl)
    · have hw := hw.2 c47
      refine lv_iload hx hb dX10_findEnds_50 (lv_at hl 0 rfl) ?_
      refine lv_if_eq (tgt := 65) hx hb dX10_findEnds_52 (by decide) (fun c52 => ?_) (fun c52 => ?_)
      · have hw := hw.1 c52
        refine lv_iinc (v := x3 + 1) (lv' := [(3, .int (x3 + 1)), (4, .int (((u 8 (Int32.toNatClampNeg x2)) &&& r18) &&& r24)), (0, .ref (h 1)), (1, .int x1), (2, .int x2)]) hx hb dX10_findEnds_65 hl (k := 4) rfl rfl (by decide) rfl (fun ls hl => ?_)
        refine lv_goto (tgt := 2) hx hb dX10_findEnds_68 (by decide) ?_
        exact k2 _ _ _ _ _ _ _ hw O (lv_sub hl [2, 3, 4, 0] rfl)
      · have hw := hw.2 c52
        refine lv_iload_n hx hb dX10_findEnds_55 rfl (lv_at hl 4 rfl) ?_
        refine lv_iload hx hb dX10_findEnds_56 (lv_at hl 0 rfl) ?_
        refine q_cis (rest := [.int x3]) X O hA (c_J6_numberOfTrailingZeros_0f7a4 hw) lk_X10_73 rfl rfl rfl ⟨Nat.le_of_ble_eq_true rfl, Nat.le_of_ble_eq_true rfl⟩ (Nat.le_of_ble_eq_true rfl) hl.1 ⟨Nat.zero_le _, Nat.zero_le _⟩ rfl dX10_findEnds_58 (fun r58 u58 H locs hw O => ?_)
        refine lv_iconst (v := 4) hx hb dX10_findEnds_61 (by decide) ?_
        refine lv_ishl hx hb dX10_findEnds_62 ?_
        refine lv_ior hx hb dX10_findEnds_63 ?_
        exact q_iret X O hw dX10_findEnds_64
def wl_X10_findEnds_2 (Post : Int32 → St → Prop) : Nat → Int32 → Int32 → Int32 → St → Prop
  | 0 => fun _ _ _ _ => False
  | n + 1 => fun x1 x2 x3 u => wb_X10_findEnds_2 Post (wl_X10_findEnds_2 Post n) x1 x2 x3 u
set_option maxHeartbeats 4000000 in
set_option maxRecDepth 100000 in
theorem tl_X10_findEnds_2 (X : Cx p s m args meth c cX10_findEnds 5 (some .int) RX10 D (tyF b) A) (hA : ∀ q, s.heap.size ≤ q → A q) {Post : Int32 → St → Prop} : ∀ n : Nat, ∀ (x1 : Int32) (x2 : Int32) (x3 : Int32) (u : St) (H : Heap) (locs : List Loc) (ls : Array Slot), (wl_X10_findEnds_2 Post n) x1 x2 x3 u → wO D 46 (gF b h) h u A s.heap H locs → lv_has ls 5 [(0, .ref (h 1)), (1, .int x1), (2, .int x2), (3, .int x3)] → W p l e rm_X10_findEnds s m args below meth c H locs 0 0 (MQ below (va_Qi Post (cB D (tyF b) 46 (gF b h) h A) A) args s 0 0 A) (F0 m 2 ls []) := by
  intro n
  induction n with
  | zero => intro x1 x2 x3 u H locs ls hw; exact False.elim hw
  | succ n ih => intro x1 x2 x3 u H locs ls hw O hl; exact tb_X10_findEnds_2 X hA ih x1 x2 x3 u H locs ls hw O hl
def wp_X10_findEnds (a1 : Int32) (a2 : Int32) (u : St) (Post : Int32 → St → Prop) : Prop := ∃ n : Nat, wl_X10_findEnds_2 Post n a1 a2 (0 : Int32) u
set_option maxHeartbeats 4000000 in
set_option maxRecDepth 100000 in
theorem c_X10_findEnds {a1 : Int32} {a2 : Int32} {l : Launch} {D : va_G} {b : Nat → ClassId} {h : Nat → Nat} {u : St} {Post : Int32 → St → Prop} (hw : wp_X10_findEnds a1 a2 u Post) : CtI l yX10_findEnds cX10_findEnds 5 (some .int) rm_X10_findEnds D (tyF b) 46 (gF b h) h [.ref (h 1), .int a1, .int a2] u Post := by
  refine CtI.of (plainFor_of_name (by decide)) (Nat.le_of_ble_eq_true rfl) ?_
  intro p e s m below meth c A ls X hA O hl
  have X : Cx p s m _ meth c cX10_findEnds 5 (some .int) RX10 D (tyF b) A := X
  obtain ⟨⟨hx, hb, hml, hown, hts⟩, hK, hNs, hlocks, hr⟩ := id X
  have hl : lv_has ls 5 [(0, .ref (h 1)), (1, .int a1), (2, .int a2)] := hl
  unfold wp_X10_findEnds at hw
  refine lv_iconst (v := 0) hx hb dX10_findEnds_0 (by decide) ?_
  refine lv_istore_n (lv' := [(3, .int (0 : Int32)), (0, .ref (h 1)), (1, .int a1), (2, .int a2)]) hx hb dX10_findEnds_1 rfl hl (by decide) rfl (fun ls hl => ?_)
  obtain ⟨n, hw⟩ := hw
  exact tl_X10_findEnds_2 X hA n _ _ _ _ _ _ _ hw O (lv_sub hl [1, 2, 3, 0] rfl)
-- FellersOrder$Yard.findCrossing()I
abbrev rm_X10_findCrossing : Room := { frames := 3, cells := 0, slots := 0, locals := 65 }
def wb_X10_findCrossing_42 (Post : Int32 → St → Prop) (K2 : Int32 → St → Prop) (K12 : Int32 → Int32 → St → Prop) (x1 : Int32) (x2 : Int32) (t0 : Int32) (u : St) : Prop := ((t0 = (-1 : Int32)) → (K12 x1 (x2 + 1) u)) ∧ ((¬ t0 = (-1 : Int32)) → (Post ((x1 ||| (x2 <<< ((4 : Int32) &&& 31))) ||| (t0 <<< ((8 : Int32) &&& 31))) u))
set_option maxHeartbeats 4000000 in
set_option maxRecDepth 100000 in
theorem tb_X10_findCrossing_42 (X : Cx p s m args meth c cX10_findCrossing 4 (some .int) RX10 D (tyF b) A) (hA : ∀ q, s.heap.size ≤ q → A q) {Post : Int32 → St → Prop} {K2 : Int32 → St → Prop} (k2 : ∀ (x1 : Int32) (u : St) (H : Heap) (locs : List Loc) (ls : Array Slot), K2 x1 u → wO D 46 (gF b h) h u A s.heap H locs → lv_has ls 4 [(0, .ref (h 1)), (1, .int x1)] → W p l e rm_X10_findCrossing s m args below meth c H locs 0 0 (MQ below (va_Qi Post (cB D (tyF b) 46 (gF b h) h A) A) args s 0 0 A) (F0 m 2 ls [])) {K12 : Int32 → Int32 → St → Prop} (k12 : ∀ (x1 : Int32) (x2 : Int32) (u : St) (H : Heap) (locs : List Loc) (ls : Array Slot), K12 x1 x2 u → wO D 46 (gF b h) h u A s.heap H locs → lv_has ls 4 [(0, .ref (h 1)), (1, .int x1), (2, .int x2)] → W p l e rm_X10_findCrossing s m args below meth c H locs 0 0 (MQ below (va_Qi Post (cB D (tyF b) 46 (gF b h) h A) A) args s 0 0 A) (F0 m 12 ls [])) : ∀ (x1 : Int32) (x2 : Int32) (t0 : Int32) (u : St) (H : Heap) (locs : List Loc) (ls : Array Slot), wb_X10_findCrossing_42 Post K2 K12 x1 x2 t0 u → wO D 46 (gF b h) h u A s.heap H locs → lv_has ls 4 [(0, .ref (h 1)), (1, .int x1), (2, .int x2)] → W p l e rm_X10_findCrossing s m args below meth c H locs 0 0 (MQ below (va_Qi Post (cB D (tyF b) 46 (gF b h) h A) A) args s 0 0 A) (F0 m 42 ls [.int t0]) := by
  obtain ⟨⟨hx, hb, hml, hown, hts⟩, hK, hNs, hlocks, hr⟩ := id X
  intro x1 x2 t0 u H locs ls hw O hl
  unfold wb_X10_findCrossing_42 at hw
  refine lv_istore_n (lv' := [(3, .int t0), (0, .ref (h 1)), (1, .int x1), (2, .int x2)]) hx hb dX10_findCrossing_42 rfl hl (by decide) rfl (fun ls hl => ?_)
  refine lv_iload_n hx hb dX10_findCrossing_43 rfl (lv_at hl 0 rfl) ?_
  refine lv_iconst (v := -1) hx hb dX10_findCrossing_44 (by decide) ?_
  refine lv_icmp_eq (tgt := 59) hx hb dX10_findCrossing_45 (by decide) (fun c45 => ?_) (fun c45 => ?_)
  · have hw := hw.1 c45
    refine lv_iinc (v := x2 + 1) (lv' := [(2, .int (x2 + 1)), (3, .int t0), (0, .ref (h 1)), (1, .int x1)]) hx hb dX10_findCrossing_59 hl (k := 3) rfl rfl (by decide) rfl (fun ls hl => ?_)
    refine lv_goto (tgt := 12) hx hb dX10_findCrossing_62 (by decide) ?_
    exact k12 _ _ _ _ _ _ hw O (lv_sub hl [2, 3, 0] rfl)
  · have hw := hw.2 c45
    refine lv_iload_n hx hb dX10_findCrossing_48 rfl (lv_at hl 2 rfl) ?_
    refine lv_iload_n hx hb dX10_findCrossing_49 rfl (lv_at hl 3 rfl) ?_
    refine lv_iconst (v := 4) hx hb dX10_findCrossing_50 (by decide) ?_
    refine lv_ishl hx hb dX10_findCrossing_51 ?_
    refine lv_ior hx hb dX10_findCrossing_52 ?_
    refine lv_iload_n hx hb dX10_findCrossing_53 rfl (lv_at hl 0 rfl) ?_
    refine lv_bipush (v := 8) hx hb dX10_findCrossing_54 (by decide) ?_
    refine lv_ishl hx hb dX10_findCrossing_56 ?_
    refine lv_ior hx hb dX10_findCrossing_57 ?_
    exact q_iret X O hw dX10_findCrossing_58
def wb_X10_findCrossing_12 (Post : Int32 → St → Prop) (K2 : Int32 → St → Prop) (K12 : Int32 → Int32 → St → Prop) (x1 : Int32) (x2 : Int32) (u : St) : Prop := (((u 1 7) ≤ x2) → (K2 (x1 + 1) u)) ∧ ((¬ (u 1 7) ≤ x2) → (wp_X10_unbound x1 u (fun r22 u22 => wp_X11_hasBit r22 x2 u22 (fun r26 u26 => ((r26 = 0) → (wb_X10_findCrossing_42 Post K2 K12 x1 x2 (-1 : Int32) u26)) ∧ ((¬ r26 = 0) → (wp_X10_findEnds x1 x2 u26 (fun r35 u35 => wb_X10_findCrossing_42 Post K2 K12 x1 x2 r35 u35)))))))
set_option maxHeartbeats 4000000 in
set_option maxRecDepth 100000 in
theorem tb_X10_findCrossing_12 (X : Cx p s m args meth c cX10_findCrossing 4 (some .int) RX10 D (tyF b) A) (hA : ∀ q, s.heap.size ≤ q → A q) {Post : Int32 → St → Prop} {K2 : Int32 → St → Prop} (k2 : ∀ (x1 : Int32) (u : St) (H : Heap) (locs : List Loc) (ls : Array Slot), K2 x1 u → wO D 46 (gF b h) h u A s.heap H locs → lv_has ls 4 [(0, .ref (h 1)), (1, .int x1)] → W p l e rm_X10_findCrossing s m args below meth c H locs 0 0 (MQ below (va_Qi Post (cB D (tyF b) 46 (gF b h) h A) A) args s 0 0 A) (F0 m 2 ls [])) {K12 : Int32 → Int32 → St → Prop} (k12 : ∀ (x1 : Int32) (x2 : Int32) (u : St) (H : Heap) (locs : List Loc) (ls : Array Slot), K12 x1 x2 u → wO D 46 (gF b h) h u A s.heap H locs → lv_has ls 4 [(0, .ref (h 1)), (1, .int x1), (2, .int x2)] → W p l e rm_X10_findCrossing s m args below meth c H locs 0 0 (MQ below (va_Qi Post (cB D (tyF b) 46 (gF b h) h A) A) args s 0 0 A) (F0 m 12 ls [])) : ∀ (x1 : Int32) (x2 : Int32) (u : St) (H : Heap) (locs : List Loc) (ls : Array Slot), wb_X10_findCrossing_12 Post K2 K12 x1 x2 u → wO D 46 (gF b h) h u A s.heap H locs → lv_has ls 4 [(0, .ref (h 1)), (1, .int x1), (2, .int x2)] → W p l e rm_X10_findCrossing s m args below meth c H locs 0 0 (MQ below (va_Qi Post (cB D (tyF b) 46 (gF b h) h A) A) args s 0 0 A) (F0 m 12 ls []) := by
  obtain ⟨⟨hx, hb, hml, hown, hts⟩, hK, hNs, hlocks, hr⟩ := id X
  intro x1 x2 u H locs ls hw O hl
  unfold wb_X10_findCrossing_12 at hw
  refine lv_iload_n hx hb dX10_findCrossing_12 rfl (lv_at hl 2 rfl) ?_
  refine lv_aload_n hx hb dX10_findCrossing_13 rfl (lv_at hl 0 rfl) ?_
  refine gt_X10_41 X O dX10_findCrossing_14 ?_
  refine lv_icmp_ge (tgt := 65) hx hb dX10_findCrossing_17 (by decide) (fun c17 => ?_) (fun c17 => ?_)
  · have hw := hw.1 c17
    refine lv_iinc (v := x1 + 1) (lv' := [(1, .int (x1 + 1)), (0, .ref (h 1)), (2, .int x2)]) hx hb dX10_findCrossing_65 hl (k := 1) rfl rfl (by decide) rfl (fun ls hl => ?_)
    refine lv_goto (tgt := 2) hx hb dX10_findCrossing_68 (by decide) ?_
    exact k2 _ _ _ _ _ hw O (lv_sub hl [1, 0] rfl)
  · have hw := hw.2 c17
    refine lv_aload_n hx hb dX10_findCrossing_20 rfl (lv_at hl 0 rfl) ?_
    refine lv_iload_n hx hb dX10_findCrossing_21 rfl (lv_at hl 1 rfl) ?_
    refine q_civ (rest := []) X O hA 1 (c_X10_unbound hw) lk_X10_65 (by decide) rfl rfl rfl rfl rfl rfl ⟨Nat.le_of_ble_eq_true rfl, Nat.le_of_ble_eq_true rfl⟩ (Nat.le_of_ble_eq_true rfl) hl.1 ⟨Nat.zero_le _, Nat.zero_le _⟩ rfl dX10_findCrossing_22 (fun r22 u22 H locs hw O => ?_)
    refine lv_iload_n hx hb dX10_findCrossing_25 rfl (lv_at hl 2 rfl) ?_
    refine q_cisN (rest := []) X O hA (c_X11_hasBit hw) lk_X10_51 rfl rfl rfl ⟨Nat.le_of_ble_eq_true rfl, Nat.le_of_ble_eq_true rfl⟩ (Nat.le_of_ble_eq_true rfl) hl.1 ⟨Nat.zero_le _, Nat.zero_le _⟩ rfl dX10_findCrossing_26 (fun r26 u26 H locs hw O => ?_)
    refine lv_if_eq (tgt := 41) hx hb dX10_findCrossing_29 (by decide) (fun c29 => ?_) (fun c29 => ?_)
    · have hw := hw.1 c29
      refine lv_iconst (v := -1) hx hb dX10_findCrossing_41 (by decide) ?_
      exact tb_X10_findCrossing_42 X hA k2 k12 _ _ _ _ _ _ _ hw O (lv_sub hl [0, 1, 2] rfl)
    · have hw := hw.2 c29
      refine lv_aload_n hx hb dX10_findCrossing_32 rfl (lv_at hl 0 rfl) ?_
      refine lv_iload_n hx hb dX10_findCrossing_33 rfl (lv_at hl 1 rfl) ?_
      refine lv_iload_n hx hb dX10_findCrossing_34 rfl (lv_at hl 2 rfl) ?_
      refine q_civ (rest := []) X O hA 1 (c_X10_findEnds hw) lk_X10_69 (by decide) rfl rfl rfl rfl rfl rfl ⟨Nat.le_of_ble_eq_true rfl, Nat.le_of_ble_eq_true rfl⟩ (Nat.le_of_ble_eq_true rfl) hl.1 ⟨Nat.zero_le _, Nat.zero_le _⟩ rfl dX10_findCrossing_35 (fun r35 u35 H locs hw O => ?_)
      refine lv_goto (tgt := 42) hx hb dX10_findCrossing_38 (by decide) ?_
      exact tb_X10_findCrossing_42 X hA k2 k12 _ _ _ _ _ _ _ hw O (lv_sub hl [0, 1, 2] rfl)
def wl_X10_findCrossing_12 (Post : Int32 → St → Prop) (K2 : Int32 → St → Prop) : Nat → Int32 → Int32 → St → Prop
  | 0 => fun _ _ _ => False
  | n + 1 => fun x1 x2 u => wb_X10_findCrossing_12 Post K2 (wl_X10_findCrossing_12 Post K2 n) x1 x2 u
set_option maxHeartbeats 4000000 in
set_option maxRecDepth 100000 in
theorem tl_X10_findCrossing_12 (X : Cx p s m args meth c cX10_findCrossing 4 (some .int) RX10 D (tyF b) A) (hA : ∀ q, s.heap.size ≤ q → A q) {Post : Int32 → St → Prop} {K2 : Int32 → St → Prop} (k2 : ∀ (x1 : Int32) (u : St) (H : Heap) (locs : List Loc) (ls : Array Slot), K2 x1 u → wO D 46 (gF b h) h u A s.heap H locs → lv_has ls 4 [(0, .ref (h 1)), (1, .int x1)] → W p l e rm_X10_findCrossing s m args below meth c H locs 0 0 (MQ below (va_Qi Post (cB D (tyF b) 46 (gF b h) h A) A) args s 0 0 A) (F0 m 2 ls [])) : ∀ n : Nat, ∀ (x1 : Int32) (x2 : Int32) (u : St) (H : Heap) (locs : List Loc) (ls : Array Slot), (wl_X10_findCrossing_12 Post K2 n) x1 x2 u → wO D 46 (gF b h) h u A s.heap H locs → lv_has ls 4 [(0, .ref (h 1)), (1, .int x1), (2, .int x2)] → W p l e rm_X10_findCrossing s m args below meth c H locs 0 0 (MQ below (va_Qi Post (cB D (tyF b) 46 (gF b h) h A) A) args s 0 0 A) (F0 m 12 ls []) := by
  intro n
  induction n with
  | zero => intro x1 x2 u H locs ls hw; exact False.elim hw
  | succ n ih => intro x1 x2 u H locs ls hw O hl; exact tb_X10_findCrossing_12 X hA k2 ih x1 x2 u H locs ls hw O hl
def wb_X10_findCrossing_2 (Post : Int32 → St → Prop) (K2 : Int32 → St → Prop) (x1 : Int32) (u : St) : Prop := (((u 1 7) ≤ x1) → (Post (-1 : Int32) u)) ∧ ((¬ (u 1 7) ≤ x1) → (∃ n : Nat, wl_X10_findCrossing_12 Post K2 n x1 (0 : Int32) u))
set_option maxHeartbeats 4000000 in
set_option maxRecDepth 100000 in
theorem tb_X10_findCrossing_2 (X : Cx p s m args meth c cX10_findCrossing 4 (some .int) RX10 D (tyF b) A) (hA : ∀ q, s.heap.size ≤ q → A q) {Post : Int32 → St → Prop} {K2 : Int32 → St → Prop} (k2 : ∀ (x1 : Int32) (u : St) (H : Heap) (locs : List Loc) (ls : Array Slot), K2 x1 u → wO D 46 (gF b h) h u A s.heap H locs → lv_has ls 4 [(0, .ref (h 1)), (1, .int x1)] → W p l e rm_X10_findCrossing s m args below meth c H locs 0 0 (MQ below (va_Qi Post (cB D (tyF b) 46 (gF b h) h A) A) args s 0 0 A) (F0 m 2 ls [])) : ∀ (x1 : Int32) (u : St) (H : Heap) (locs : List Loc) (ls : Array Slot), wb_X10_findCrossing_2 Post K2 x1 u → wO D 46 (gF b h) h u A s.heap H locs → lv_has ls 4 [(0, .ref (h 1)), (1, .int x1)] → W p l e rm_X10_findCrossing s m args below meth c H locs 0 0 (MQ below (va_Qi Post (cB D (tyF b) 46 (gF b h) h A) A) args s 0 0 A) (F0 m 2 ls []) := by
  obtain ⟨⟨hx, hb, hml, hown, hts⟩, hK, hNs, hlocks, hr⟩ := id X
  intro x1 u H locs ls hw O hl
  unfold wb_X10_findCrossing_2 at hw
  refine lv_iload_n hx hb dX10_findCrossing_2 rfl (lv_at hl 1 rfl) ?_
  refine lv_aload_n hx hb dX10_findCrossing_3 rfl (lv_at hl 0 rfl) ?_
  refine gt_X10_41 X O dX10_findCrossing_4 ?_
  refine lv_icmp_ge (tgt := 71) hx hb dX10_findCrossing_7 (by decide) (fun c7 => ?_) (fun c7 => ?_)
  · have hw := hw.1 c7
    refine lv_iconst (v := -1) hx hb dX10_findCrossing_71 (by decide) ?_
    exact q_iret X O hw dX10_findCrossing_72
  · have hw := hw.2 c7
    refine lv_iconst (v := 0) hx hb dX10_findCrossing_10 (by decide) ?_
    refine lv_istore_n (lv' := [(2, .int (0 : Int32)), (0, .ref (h 1)), (1, .int x1)]) hx hb dX10_findCrossing_11 rfl hl (by decide) rfl (fun ls hl => ?_)
    obtain ⟨n, hw⟩ := hw
    exact tl_X10_findCrossing_12 X hA k2 n _ _ _ _ _ _ hw O (lv_sub hl [1, 2, 0] rfl)
def wl_X10_findCrossing_2 (Post : Int32 → St → Prop) : Nat → Int32 → St → Prop
  | 0 => fun _ _ => False
  | n + 1 => fun x1 u => wb_X10_findCrossing_2 Post (wl_X10_findCrossing_2 Post n) x1 u
set_option maxHeartbeats 4000000 in
set_option maxRecDepth 100000 in
theorem tl_X10_findCrossing_2 (X : Cx p s m args meth c cX10_findCrossing 4 (some .int) RX10 D (tyF b) A) (hA : ∀ q, s.heap.size ≤ q → A q) {Post : Int32 → St → Prop} : ∀ n : Nat, ∀ (x1 : Int32) (u : St) (H : Heap) (locs : List Loc) (ls : Array Slot), (wl_X10_findCrossing_2 Post n) x1 u → wO D 46 (gF b h) h u A s.heap H locs → lv_has ls 4 [(0, .ref (h 1)), (1, .int x1)] → W p l e rm_X10_findCrossing s m args below meth c H locs 0 0 (MQ below (va_Qi Post (cB D (tyF b) 46 (gF b h) h A) A) args s 0 0 A) (F0 m 2 ls []) := by
  intro n
  induction n with
  | zero => intro x1 u H locs ls hw; exact False.elim hw
  | succ n ih => intro x1 u H locs ls hw O hl; exact tb_X10_findCrossing_2 X hA ih x1 u H locs ls hw O hl
def wp_X10_findCrossing (u : St) (Post : Int32 → St → Prop) : Prop := ∃ n : Nat, wl_X10_findCrossing_2 Post n (0 : Int32) u
set_option maxHeartbeats 4000000 in
set_option maxRecDepth 100000 in
theorem c_X10_findCrossing {l : Launch} {D : va_G} {b : Nat → ClassId} {h : Nat → Nat} {u : St} {Post : Int32 → St → Prop} (hw : wp_X10_findCrossing u Post) : CtI l yX10_findCrossing cX10_findCrossing 4 (some .int) rm_X10_findCrossing D (tyF b) 46 (gF b h) h [.ref (h 1)] u Post := by
  refine CtI.of (plainFor_of_name (by decide)) (Nat.le_of_ble_eq_true rfl) ?_
  intro p e s m below meth c A ls X hA O hl
  have X : Cx p s m _ meth c cX10_findCrossing 4 (some .int) RX10 D (tyF b) A := X
  obtain ⟨⟨hx, hb, hml, hown, hts⟩, hK, hNs, hlocks, hr⟩ := id X
  have hl : lv_has ls 4 [(0, .ref (h 1))] := hl
  unfold wp_X10_findCrossing at hw
  refine lv_iconst (v := 0) hx hb dX10_findCrossing_0 (by decide) ?_
  refine lv_istore_n (lv' := [(1, .int (0 : Int32)), (0, .ref (h 1))]) hx hb dX10_findCrossing_1 rfl hl (by decide) rfl (fun ls hl => ?_)
  obtain ⟨n, hw⟩ := hw
  exact tl_X10_findCrossing_2 X hA n _ _ _ _ _ hw O (lv_sub hl [1, 0] rfl)
-- FellersOrder.series()I
abbrev rm_X11_series : Room := { frames := 4, cells := 0, slots := 0, locals := 88 }
def wp_X11_series (u : St) (Post : Int32 → St → Prop) : Prop := wp_X10_findCrossing u (fun r4 u4 => ((¬ r4 = (-1 : Int32)) → (wp_X11_asNumber (0 : Int32) u4 (fun r16 u16 => Post r16 u16))) ∧ ((r4 = (-1 : Int32)) → (wp_X11_asNumber (1 : Int32) u4 (fun r16 u16 => Post r16 u16))))
set_option maxHeartbeats 4000000 in
set_option maxRecDepth 100000 in
theorem c_X11_series {l : Launch} {D : va_G} {b : Nat → ClassId} {h : Nat → Nat} {u : St} {Post : Int32 → St → Prop} (hw : wp_X11_series u Post) : CtI l yX11_series cX11_series 1 (some .int) rm_X11_series D (tyF b) 46 (gF b h) h [.ref (h 0)] u Post := by
  refine CtI.of (plainFor_of_name (by decide)) (Nat.le_of_ble_eq_true rfl) ?_
  intro p e s m below meth c A ls X hA O hl
  have X : Cx p s m _ meth c cX11_series 1 (some .int) RX11 D (tyF b) A := X
  obtain ⟨⟨hx, hb, hml, hown, hts⟩, hK, hNs, hlocks, hr⟩ := id X
  have hl : lv_has ls 1 [(0, .ref (h 0))] := hl
  unfold wp_X11_series at hw
  refine lv_aload_n hx hb dX11_series_0 rfl (lv_at hl 0 rfl) ?_
  refine gt_X11_10 X O dX11_series_1 ?_
  refine q_civ (rest := []) X O hA 1 (c_X10_findCrossing hw) lk_X11_225 (by decide) rfl rfl rfl rfl rfl rfl ⟨Nat.le_of_ble_eq_true rfl, Nat.le_of_ble_eq_true rfl⟩ (Nat.le_of_ble_eq_true rfl) hl.1 ⟨Nat.zero_le _, Nat.zero_le _⟩ rfl dX11_series_4 (fun r4 u4 H locs hw O => ?_)
  refine lv_iconst (v := -1) hx hb dX11_series_7 (by decide) ?_
  refine lv_icmp_ne (tgt := 15) hx hb dX11_series_8 (by decide) (fun c8 => ?_) (fun c8 => ?_)
  · have hw := hw.1 c8
    refine lv_iconst (v := 0) hx hb dX11_series_15 (by decide) ?_
    refine q_cis (rest := []) X O hA (c_X11_asNumber hw) lk_X11_153 rfl rfl rfl ⟨Nat.le_of_ble_eq_true rfl, Nat.le_of_ble_eq_true rfl⟩ (Nat.le_of_ble_eq_true rfl) hl.1 ⟨Nat.zero_le _, Nat.zero_le _⟩ rfl dX11_series_16 (fun r16 u16 H locs hw O => ?_)
    exact q_iret X O hw dX11_series_19
  · have hw := hw.2 c8
    refine lv_iconst (v := 1) hx hb dX11_series_11 (by decide) ?_
    refine lv_goto (tgt := 16) hx hb dX11_series_12 (by decide) ?_
    refine q_cis (rest := []) X O hA (c_X11_asNumber hw) lk_X11_153 rfl rfl rfl ⟨Nat.le_of_ble_eq_true rfl, Nat.le_of_ble_eq_true rfl⟩ (Nat.le_of_ble_eq_true rfl) hl.1 ⟨Nat.zero_le _, Nat.zero_le _⟩ rfl dX11_series_16 (fun r16 u16 H locs hw O => ?_)
    exact q_iret X O hw dX11_series_19
-- FellersOrder$Yard.jobOfCrossing(II)I
abbrev rm_X10_jobOfCrossing : Room := { frames := 0, cells := 0, slots := 0, locals := 0 }
def wp_X10_jobOfCrossing (a0 : Int32) (a1 : Int32) (u : St) (Post : Int32 → St → Prop) : Prop := Post ((a0 >>> (((4 : Int32) * a1) &&& 31)) &&& (15 : Int32)) u
set_option maxHeartbeats 4000000 in
set_option maxRecDepth 100000 in
theorem c_X10_jobOfCrossing {a0 : Int32} {a1 : Int32} {l : Launch} {D : va_G} {b : Nat → ClassId} {h : Nat → Nat} {u : St} {Post : Int32 → St → Prop} (hw : wp_X10_jobOfCrossing a0 a1 u Post) : CtI l yX10_jobOfCrossing cX10_jobOfCrossing 2 (some .int) rm_X10_jobOfCrossing D (tyF b) 46 (gF b h) h [.int a0, .int a1] u Post := by
  refine CtI.of (plainFor_of_name (by decide)) (Nat.le_of_ble_eq_true rfl) ?_
  intro p e s m below meth c A ls X hA O hl
  have X : Cx p s m _ meth c cX10_jobOfCrossing 2 (some .int) RX10 D (tyF b) A := X
  obtain ⟨⟨hx, hb, hml, hown, hts⟩, hK, hNs, hlocks, hr⟩ := id X
  have hl : lv_has ls 2 [(0, .int a0), (1, .int a1)] := hl
  unfold wp_X10_jobOfCrossing at hw
  refine lv_iload_n hx hb dX10_jobOfCrossing_0 rfl (lv_at hl 0 rfl) ?_
  refine lv_iconst (v := 4) hx hb dX10_jobOfCrossing_1 (by decide) ?_
  refine lv_iload_n hx hb dX10_jobOfCrossing_2 rfl (lv_at hl 1 rfl) ?_
  refine lv_imul hx hb dX10_jobOfCrossing_3 ?_
  refine lv_ishr hx hb dX10_jobOfCrossing_4 ?_
  refine lv_bipush (v := 15) hx hb dX10_jobOfCrossing_5 (by decide) ?_
  refine lv_iand hx hb dX10_jobOfCrossing_7 ?_
  exact q_iret X O hw dX10_jobOfCrossing_8
-- FellersOrder.shows(I)I
abbrev rm_X11_shows : Room := { frames := 4, cells := 0, slots := 0, locals := 88 }
def wp_X11_shows (a1 : Int32) (u : St) (Post : Int32 → St → Prop) : Prop := wp_X10_findCrossing u (fun r4 u4 => ((r4 = (-1 : Int32)) → (Post (-1 : Int32) u4)) ∧ ((¬ r4 = (-1 : Int32)) → (((a1 < 0) → (Post (-1 : Int32) u4)) ∧ ((¬ a1 < 0) → (((a1 ≤ (3 : Int32)) → (wp_X10_jobOfCrossing r4 a1 u4 (fun r26 u26 => Post r26 u26))) ∧ ((¬ a1 ≤ (3 : Int32)) → (Post (-1 : Int32) u4)))))))
set_option maxHeartbeats 4000000 in
set_option maxRecDepth 100000 in
theorem c_X11_shows {a1 : Int32} {l : Launch} {D : va_G} {b : Nat → ClassId} {h : Nat → Nat} {u : St} {Post : Int32 → St → Prop} (hw : wp_X11_shows a1 u Post) : CtI l yX11_shows cX11_shows 3 (some .int) rm_X11_shows D (tyF b) 46 (gF b h) h [.ref (h 0), .int a1] u Post := by
  refine CtI.of (plainFor_of_name (by decide)) (Nat.le_of_ble_eq_true rfl) ?_
  intro p e s m below meth c A ls X hA O hl
  have X : Cx p s m _ meth c cX11_shows 3 (some .int) RX11 D (tyF b) A := X
  obtain ⟨⟨hx, hb, hml, hown, hts⟩, hK, hNs, hlocks, hr⟩ := id X
  have hl : lv_has ls 3 [(0, .ref (h 0)), (1, .int a1)] := hl
  unfold wp_X11_shows at hw
  refine lv_aload_n hx hb dX11_shows_0 rfl (lv_at hl 0 rfl) ?_
  refine gt_X11_10 X O dX11_shows_1 ?_
  refine q_civ (rest := []) X O hA 1 (c_X10_findCrossing hw) lk_X11_225 (by decide) rfl rfl rfl rfl rfl rfl ⟨Nat.le_of_ble_eq_true rfl, Nat.le_of_ble_eq_true rfl⟩ (Nat.le_of_ble_eq_true rfl) hl.1 ⟨Nat.zero_le _, Nat.zero_le _⟩ rfl dX11_shows_4 (fun r4 u4 H locs hw O => ?_)
  refine lv_istore_n (lv' := [(2, .int r4), (0, .ref (h 0)), (1, .int a1)]) hx hb dX11_shows_7 rfl hl (by decide) rfl (fun ls hl => ?_)
  refine lv_iload_n hx hb dX11_shows_8 rfl (lv_at hl 0 rfl) ?_
  refine lv_iconst (v := -1) hx hb dX11_shows_9 (by decide) ?_
  refine lv_icmp_eq (tgt := 22) hx hb dX11_shows_10 (by decide) (fun c10 => ?_) (fun c10 => ?_)
  · have hw := hw.1 c10
    refine lv_iconst (v := -1) hx hb dX11_shows_22 (by decide) ?_
    exact q_iret X O hw dX11_shows_23
  · have hw := hw.2 c10
    refine lv_iload_n hx hb dX11_shows_13 rfl (lv_at hl 2 rfl) ?_
    refine lv_if_lt (tgt := 22) hx hb dX11_shows_14 (by decide) (fun c14 => ?_) (fun c14 => ?_)
    · have hw := hw.1 c14
      refine lv_iconst (v := -1) hx hb dX11_shows_22 (by decide) ?_
      exact q_iret X O hw dX11_shows_23
    · have hw := hw.2 c14
      refine lv_iload_n hx hb dX11_shows_17 rfl (lv_at hl 2 rfl) ?_
      refine lv_iconst (v := 3) hx hb dX11_shows_18 (by decide) ?_
      refine lv_icmp_le (tgt := 24) hx hb dX11_shows_19 (by decide) (fun c19 => ?_) (fun c19 => ?_)
      · have hw := hw.1 c19
        refine lv_iload_n hx hb dX11_shows_24 rfl (lv_at hl 0 rfl) ?_
        refine lv_iload_n hx hb dX11_shows_25 rfl (lv_at hl 2 rfl) ?_
        refine q_cis (rest := []) X O hA (c_X10_jobOfCrossing hw) lk_X11_228 rfl rfl rfl ⟨Nat.le_of_ble_eq_true rfl, Nat.le_of_ble_eq_true rfl⟩ (Nat.le_of_ble_eq_true rfl) hl.1 ⟨Nat.zero_le _, Nat.zero_le _⟩ rfl dX11_shows_26 (fun r26 u26 H locs hw O => ?_)
        exact q_iret X O hw dX11_shows_29
      · have hw := hw.2 c19
        refine lv_iconst (v := -1) hx hb dX11_shows_22 (by decide) ?_
        exact q_iret X O hw dX11_shows_23
-- FellersOrder.turned()I
abbrev rm_X11_turned : Room := { frames := 6, cells := 0, slots := 0, locals := 136 }
def wb_X11_turned_2 (Post : Int32 → St → Prop) (K2 : Int32 → St → Prop) (x1 : Int32) (u : St) : Prop := wp_X10_jobs u (fun r7 u7 => ((r7 ≤ x1) → (wp_X7_leastCost u7 (fun r41 u41 => Post r41 u41))) ∧ ((¬ r7 ≤ x1) → (wp_X10_measure x1 (1 : Int32) u7 (fun r19 u19 => ((¬ r19 = 0) → (K2 (x1 + 1) u19)) ∧ ((r19 = 0) → (Post (-1 : Int32) u19))))))
set_option maxHeartbeats 4000000 in
set_option maxRecDepth 100000 in
theorem tb_X11_turned_2 (X : Cx p s m args meth c cX11_turned 2 (some .int) RX11 D (tyF b) A) (hA : ∀ q, s.heap.size ≤ q → A q) {Post : Int32 → St → Prop} {K2 : Int32 → St → Prop} (k2 : ∀ (x1 : Int32) (u : St) (H : Heap) (locs : List Loc) (ls : Array Slot), K2 x1 u → wO D 46 (gF b h) h u A s.heap H locs → lv_has ls 2 [(0, .ref (h 0)), (1, .int x1)] → W p l e rm_X11_turned s m args below meth c H locs 0 0 (MQ below (va_Qi Post (cB D (tyF b) 46 (gF b h) h A) A) args s 0 0 A) (F0 m 2 ls [])) : ∀ (x1 : Int32) (u : St) (H : Heap) (locs : List Loc) (ls : Array Slot), wb_X11_turned_2 Post K2 x1 u → wO D 46 (gF b h) h u A s.heap H locs → lv_has ls 2 [(0, .ref (h 0)), (1, .int x1)] → W p l e rm_X11_turned s m args below meth c H locs 0 0 (MQ below (va_Qi Post (cB D (tyF b) 46 (gF b h) h A) A) args s 0 0 A) (F0 m 2 ls []) := by
  obtain ⟨⟨hx, hb, hml, hown, hts⟩, hK, hNs, hlocks, hr⟩ := id X
  intro x1 u H locs ls hw O hl
  unfold wb_X11_turned_2 at hw
  refine lv_iload_n hx hb dX11_turned_2 rfl (lv_at hl 1 rfl) ?_
  refine lv_aload_n hx hb dX11_turned_3 rfl (lv_at hl 0 rfl) ?_
  refine gt_X11_10 X O dX11_turned_4 ?_
  refine q_civ (rest := [.int x1]) X O hA 1 (c_X10_jobs hw) lk_X11_157 (by decide) rfl rfl rfl rfl rfl rfl ⟨Nat.le_of_ble_eq_true rfl, Nat.le_of_ble_eq_true rfl⟩ (Nat.le_of_ble_eq_true rfl) hl.1 ⟨Nat.zero_le _, Nat.zero_le _⟩ rfl dX11_turned_7 (fun r7 u7 H locs hw O => ?_)
  refine lv_icmp_ge (tgt := 33) hx hb dX11_turned_10 (by decide) (fun c10 => ?_) (fun c10 => ?_)
  · have hw := hw.1 c10
    refine lv_aload_n hx hb dX11_turned_33 rfl (lv_at hl 0 rfl) ?_
    refine gt_X11_19 X O dX11_turned_34 ?_
    refine lv_aload_n hx hb dX11_turned_37 rfl (lv_at hl 0 rfl) ?_
    refine gt_X11_10 X O dX11_turned_38 ?_
    refine q_civ (rest := []) X O hA 12 (c_X7_leastCost hw) lk_X11_212 (by decide) rfl rfl rfl rfl rfl rfl ⟨Nat.le_of_ble_eq_true rfl, Nat.le_of_ble_eq_true rfl⟩ (Nat.le_of_ble_eq_true rfl) hl.1 ⟨Nat.zero_le _, Nat.zero_le _⟩ rfl dX11_turned_41 (fun r41 u41 H locs hw O => ?_)
    exact q_iret X O hw dX11_turned_44
  · have hw := hw.2 c10
    refine lv_aload_n hx hb dX11_turned_13 rfl (lv_at hl 0 rfl) ?_
    refine gt_X11_10 X O dX11_turned_14 ?_
    refine lv_iload_n hx hb dX11_turned_17 rfl (lv_at hl 1 rfl) ?_
    refine lv_iconst (v := 1) hx hb dX11_turned_18 (by decide) ?_
    refine q_civ (rest := []) X O hA 1 (c_X10_measure hw) lk_X11_97 (by decide) rfl rfl rfl rfl rfl rfl ⟨Nat.le_of_ble_eq_true rfl, Nat.le_of_ble_eq_true rfl⟩ (Nat.le_of_ble_eq_true rfl) hl.1 ⟨Nat.zero_le _, Nat.zero_le _⟩ rfl dX11_turned_19 (fun r19 u19 H locs hw O => ?_)
    refine lv_if_ne (tgt := 27) hx hb dX11_turned_22 (by decide) (fun c22 => ?_) (fun c22 => ?_)
    · have hw := hw.1 c22
      refine lv_iinc (v := x1 + 1) (lv' := [(1, .int (x1 + 1)), (0, .ref (h 0))]) hx hb dX11_turned_27 hl (k := 1) rfl rfl (by decide) rfl (fun ls hl => ?_)
      refine lv_goto (tgt := 2) hx hb dX11_turned_30 (by decide) ?_
      exact k2 _ _ _ _ _ hw O (lv_sub hl [1, 0] rfl)
    · have hw := hw.2 c22
      refine lv_iconst (v := -1) hx hb dX11_turned_25 (by decide) ?_
      exact q_iret X O hw dX11_turned_26
def wl_X11_turned_2 (Post : Int32 → St → Prop) : Nat → Int32 → St → Prop
  | 0 => fun _ _ => False
  | n + 1 => fun x1 u => wb_X11_turned_2 Post (wl_X11_turned_2 Post n) x1 u
set_option maxHeartbeats 4000000 in
set_option maxRecDepth 100000 in
theorem tl_X11_turned_2 (X : Cx p s m args meth c cX11_turned 2 (some .int) RX11 D (tyF b) A) (hA : ∀ q, s.heap.size ≤ q → A q) {Post : Int32 → St → Prop} : ∀ n : Nat, ∀ (x1 : Int32) (u : St) (H : Heap) (locs : List Loc) (ls : Array Slot), (wl_X11_turned_2 Post n) x1 u → wO D 46 (gF b h) h u A s.heap H locs → lv_has ls 2 [(0, .ref (h 0)), (1, .int x1)] → W p l e rm_X11_turned s m args below meth c H locs 0 0 (MQ below (va_Qi Post (cB D (tyF b) 46 (gF b h) h A) A) args s 0 0 A) (F0 m 2 ls []) := by
  intro n
  induction n with
  | zero => intro x1 u H locs ls hw; exact False.elim hw
  | succ n ih => intro x1 u H locs ls hw O hl; exact tb_X11_turned_2 X hA ih x1 u H locs ls hw O hl
def wp_X11_turned (u : St) (Post : Int32 → St → Prop) : Prop := ∃ n : Nat, wl_X11_turned_2 Post n (0 : Int32) u
set_option maxHeartbeats 4000000 in
set_option maxRecDepth 100000 in
theorem c_X11_turned {l : Launch} {D : va_G} {b : Nat → ClassId} {h : Nat → Nat} {u : St} {Post : Int32 → St → Prop} (hw : wp_X11_turned u Post) : CtI l yX11_turned cX11_turned 2 (some .int) rm_X11_turned D (tyF b) 46 (gF b h) h [.ref (h 0)] u Post := by
  refine CtI.of (plainFor_of_name (by decide)) (Nat.le_of_ble_eq_true rfl) ?_
  intro p e s m below meth c A ls X hA O hl
  have X : Cx p s m _ meth c cX11_turned 2 (some .int) RX11 D (tyF b) A := X
  obtain ⟨⟨hx, hb, hml, hown, hts⟩, hK, hNs, hlocks, hr⟩ := id X
  have hl : lv_has ls 2 [(0, .ref (h 0))] := hl
  unfold wp_X11_turned at hw
  refine lv_iconst (v := 0) hx hb dX11_turned_0 (by decide) ?_
  refine lv_istore_n (lv' := [(1, .int (0 : Int32)), (0, .ref (h 0))]) hx hb dX11_turned_1 rfl hl (by decide) rfl (fun ls hl => ?_)
  obtain ⟨n, hw⟩ := hw
  exact tl_X11_turned_2 X hA n _ _ _ _ _ hw O (lv_sub hl [1, 0] rfl)
-- FellersOrder$Acting.begin(I)V
abbrev rm_X0_begin : Room := { frames := 0, cells := 0, slots := 0, locals := 0 }
def wp_X0_begin (a1 : Int32) (u : St) (Post : Int32 → St → Prop) : Prop := (((50 : Int32) ≤ (u 25 1)) → (Post 0 u)) ∧ ((¬ (50 : Int32) ≤ (u 25 1)) → (vp_in (u 25 1) 50 ∧ (Post 0 (su (su u 26 (Int32.toNatClampNeg (u 25 1)) a1) 25 1 (((su u 26 (Int32.toNatClampNeg (u 25 1)) a1) 25 1) + (1 : Int32))))))
set_option maxHeartbeats 4000000 in
set_option maxRecDepth 100000 in
theorem c_X0_begin {a1 : Int32} {l : Launch} {D : va_G} {b : Nat → ClassId} {h : Nat → Nat} {u : St} {Post : Int32 → St → Prop} (hw : wp_X0_begin a1 u Post) : CtV l yX0_begin cX0_begin 2 none rm_X0_begin D (tyF b) 46 (gF b h) h [.ref (h 25), .int a1] u Post := by
  refine CtV.of (plainFor_of_name (by decide)) (Nat.le_of_ble_eq_true rfl) ?_
  intro p e s m below meth c A ls X hA O hl
  have X : Cx p s m _ meth c cX0_begin 2 none RX0 D (tyF b) A := X
  obtain ⟨⟨hx, hb, hml, hown, hts⟩, hK, hNs, hlocks, hr⟩ := id X
  have hl : lv_has ls 2 [(0, .ref (h 25)), (1, .int a1)] := hl
  unfold wp_X0_begin at hw
  refine lv_aload_n hx hb dX0_begin_0 rfl (lv_at hl 0 rfl) ?_
  refine gt_X0_15 X O dX0_begin_1 ?_
  refine lv_bipush (v := 50) hx hb dX0_begin_4 (by decide) ?_
  refine lv_icmp_ge (tgt := 29) hx hb dX0_begin_6 (by decide) (fun c6 => ?_) (fun c6 => ?_)
  · have hw := hw.1 c6
    exact q_vret X O hw dX0_begin_29
  · have hw := hw.2 c6
    refine lv_aload_n hx hb dX0_begin_9 rfl (lv_at hl 0 rfl) ?_
    refine gt_X0_9 X O dX0_begin_10 ?_
    refine lv_aload_n hx hb dX0_begin_13 rfl (lv_at hl 0 rfl) ?_
    refine gt_X0_15 X O dX0_begin_14 ?_
    refine lv_iload_n hx hb dX0_begin_17 rfl (lv_at hl 1 rfl) ?_
    obtain ⟨i18, hw⟩ := hw
    refine q_ist X O 26 0 (by decide) (fun _ => rfl) rfl i18 dX0_begin_18 (fun H locs O => ?_)
    refine lv_aload_n hx hb dX0_begin_19 rfl (lv_at hl 0 rfl) ?_
    refine lv_dup hx hb dX0_begin_20 rfl ?_
    refine gt_X0_15 X O dX0_begin_21 ?_
    refine lv_iconst (v := 1) hx hb dX0_begin_24 (by decide) ?_
    refine lv_iadd hx hb dX0_begin_25 ?_
    refine pt_X0_15 X O dX0_begin_26 (fun H locs O => ?_)
    exact q_vret X O hw dX0_begin_29
-- FellersOrder$Acting.take(LFellersOrder$Yard;I)V
abbrev rm_X0_take : Room := { frames := 1, cells := 0, slots := 0, locals := 22 }
def wp_X0_take (a2 : Int32) (u : St) (Post : Int32 → St → Prop) : Prop := wp_X10_measure a2 (0 : Int32) (su u 25 1 (0 : Int32)) (fun r9 u9 => wp_X10_measure a2 (1 : Int32) (su u9 25 2 r9) (fun r19 u19 => wp_X10_measure a2 (2 : Int32) (su u19 25 3 r19) (fun r29 u29 => wp_X10_aheadOf a2 (su u29 25 4 r29) (fun r38 u38 => wp_J6_bitCount_0f7a4 r38 u38 (fun r41 u41 => Post 0 (su u41 25 5 r41))))))
set_option maxHeartbeats 4000000 in
set_option maxRecDepth 100000 in
theorem c_X0_take {a2 : Int32} {l : Launch} {D : va_G} {b : Nat → ClassId} {h : Nat → Nat} {u : St} {Post : Int32 → St → Prop} (hw : wp_X0_take a2 u Post) : CtV l yX0_take cX0_take 3 none rm_X0_take D (tyF b) 46 (gF b h) h [.ref (h 25), .ref (h 1), .int a2] u Post := by
  refine CtV.of (plainFor_of_name (by decide)) (Nat.le_of_ble_eq_true rfl) ?_
  intro p e s m below meth c A ls X hA O hl
  have X : Cx p s m _ meth c cX0_take 3 none RX0 D (tyF b) A := X
  obtain ⟨⟨hx, hb, hml, hown, hts⟩, hK, hNs, hlocks, hr⟩ := id X
  have hl : lv_has ls 3 [(0, .ref (h 25)), (1, .ref (h 1)), (2, .int a2)] := hl
  unfold wp_X0_take at hw
  refine lv_aload_n hx hb dX0_take_0 rfl (lv_at hl 0 rfl) ?_
  refine lv_iconst (v := 0) hx hb dX0_take_1 (by decide) ?_
  refine pt_X0_15 X O dX0_take_2 (fun H locs O => ?_)
  refine lv_aload_n hx hb dX0_take_5 rfl (lv_at hl 0 rfl) ?_
  refine lv_aload_n hx hb dX0_take_6 rfl (lv_at hl 1 rfl) ?_
  refine lv_iload_n hx hb dX0_take_7 rfl (lv_at hl 2 rfl) ?_
  refine lv_iconst (v := 0) hx hb dX0_take_8 (by decide) ?_
  refine q_civ (rest := [.ref (h 25)]) X O hA 1 (c_X10_measure hw) lk_X0_19 (by decide) rfl rfl rfl rfl rfl rfl ⟨Nat.le_of_ble_eq_true rfl, Nat.le_of_ble_eq_true rfl⟩ (Nat.le_of_ble_eq_true rfl) hl.1 ⟨Nat.zero_le _, Nat.zero_le _⟩ rfl dX0_take_9 (fun r9 u9 H locs hw O => ?_)
  refine pt_X0_25 X O dX0_take_12 (fun H locs O => ?_)
  refine lv_aload_n hx hb dX0_take_15 rfl (lv_at hl 0 rfl) ?_
  refine lv_aload_n hx hb dX0_take_16 rfl (lv_at hl 1 rfl) ?_
  refine lv_iload_n hx hb dX0_take_17 rfl (lv_at hl 2 rfl) ?_
  refine lv_iconst (v := 1) hx hb dX0_take_18 (by decide) ?_
  refine q_civ (rest := [.ref (h 25)]) X O hA 1 (c_X10_measure hw) lk_X0_19 (by decide) rfl rfl rfl rfl rfl rfl ⟨Nat.le_of_ble_eq_true rfl, Nat.le_of_ble_eq_true rfl⟩ (Nat.le_of_ble_eq_true rfl) hl.1 ⟨Nat.zero_le _, Nat.zero_le _⟩ rfl dX0_take_19 (fun r19 u19 H locs hw O => ?_)
  refine pt_X0_28 X O dX0_take_22 (fun H locs O => ?_)
  refine lv_aload_n hx hb dX0_take_25 rfl (lv_at hl 0 rfl) ?_
  refine lv_aload_n hx hb dX0_take_26 rfl (lv_at hl 1 rfl) ?_
  refine lv_iload_n hx hb dX0_take_27 rfl (lv_at hl 2 rfl) ?_
  refine lv_iconst (v := 2) hx hb dX0_take_28 (by decide) ?_
  refine q_civ (rest := [.ref (h 25)]) X O hA 1 (c_X10_measure hw) lk_X0_19 (by decide) rfl rfl rfl rfl rfl rfl ⟨Nat.le_of_ble_eq_true rfl, Nat.le_of_ble_eq_true rfl⟩ (Nat.le_of_ble_eq_true rfl) hl.1 ⟨Nat.zero_le _, Nat.zero_le _⟩ rfl dX0_take_29 (fun r29 u29 H locs hw O => ?_)
  refine pt_X0_31 X O dX0_take_32 (fun H locs O => ?_)
  refine lv_aload_n hx hb dX0_take_35 rfl (lv_at hl 0 rfl) ?_
  refine lv_aload_n hx hb dX0_take_36 rfl (lv_at hl 1 rfl) ?_
  refine lv_iload_n hx hb dX0_take_37 rfl (lv_at hl 2 rfl) ?_
  refine q_civ (rest := [.ref (h 25)]) X O hA 1 (c_X10_aheadOf hw) lk_X0_34 (by decide) rfl rfl rfl rfl rfl rfl ⟨Nat.le_of_ble_eq_true rfl, Nat.le_of_ble_eq_true rfl⟩ (Nat.le_of_ble_eq_true rfl) hl.1 ⟨Nat.zero_le _, Nat.zero_le _⟩ rfl dX0_take_38 (fun r38 u38 H locs hw O => ?_)
  refine q_cis (rest := [.ref (h 25)]) X O hA (c_J6_bitCount_0f7a4 hw) lk_X0_38 rfl rfl rfl ⟨Nat.le_of_ble_eq_true rfl, Nat.le_of_ble_eq_true rfl⟩ (Nat.le_of_ble_eq_true rfl) hl.1 ⟨Nat.zero_le _, Nat.zero_le _⟩ rfl dX0_take_41 (fun r41 u41 H locs hw O => ?_)
  refine pt_X0_43 X O dX0_take_44 (fun H locs O => ?_)
  exact q_vret X O hw dX0_take_47
-- X4_last, on kind 0
abbrev rm_X4_last_k0 : Room := { frames := 1, cells := 0, slots := 0, locals := 21 }
def wp_X4_last_k0 (a2 : Int32) (u : St) (Post : Int32 → St → Prop) : Prop := wp_X0_begin (10 : Int32) u (fun _ u3 => Post (a2 + (u3 25 2)) u3)
set_option maxHeartbeats 4000000 in
set_option maxRecDepth 100000 in
theorem c_X4_last_k0 {a2 : Int32} {l : Launch} {D : va_G} {b : Nat → ClassId} {h : Nat → Nat} {u : St} {Post : Int32 → St → Prop} (hw : wp_X4_last_k0 a2 u Post) : CtI l yX4_last cX4_last 3 (some .int) rm_X4_last_k0 D (tyF b) 46 (gF b h) h [.ref (h 28), .ref (h 25), .int a2] u Post := by
  refine CtI.of (plainFor_of_name (by decide)) (Nat.le_of_ble_eq_true rfl) ?_
  intro p e s m below meth c A ls X hA O hl
  have X : Cx p s m _ meth c cX4_last 3 (some .int) RX4 D (tyF b) A := X
  obtain ⟨⟨hx, hb, hml, hown, hts⟩, hK, hNs, hlocks, hr⟩ := id X
  have hl : lv_has ls 3 [(0, .ref (h 28)), (1, .ref (h 25)), (2, .int a2)] := hl
  unfold wp_X4_last_k0 at hw
  refine lv_aload_n hx hb dX4_last_0 rfl (lv_at hl 1 rfl) ?_
  refine lv_bipush (v := 10) hx hb dX4_last_1 (by decide) ?_
  refine q_cvv (rest := []) X O hA 25 (c_X0_begin hw) lk_X4_7 (by decide) rfl rfl rfl rfl rfl rfl ⟨Nat.le_of_ble_eq_true rfl, Nat.le_of_ble_eq_true rfl⟩ (Nat.le_of_ble_eq_true rfl) hl.1 ⟨Nat.zero_le _, Nat.zero_le _⟩ rfl dX4_last_3 (fun u3 H locs hw O => ?_)
  refine lv_iload_n hx hb dX4_last_6 rfl (lv_at hl 2 rfl) ?_
  refine lv_aload_n hx hb dX4_last_7 rfl (lv_at hl 1 rfl) ?_
  refine gt_X4_13 X O dX4_last_8 ?_
  refine lv_iadd hx hb dX4_last_11 ?_
  exact q_iret X O hw dX4_last_12
-- X4_last, on kind 1
abbrev rm_X4_last_k1 : Room := { frames := 1, cells := 0, slots := 0, locals := 21 }
def wp_X4_last_k1 (a2 : Int32) (u : St) (Post : Int32 → St → Prop) : Prop := wp_X0_begin (10 : Int32) u (fun _ u3 => Post (a2 + (u3 25 2)) u3)
set_option maxHeartbeats 4000000 in
set_option maxRecDepth 100000 in
theorem c_X4_last_k1 {a2 : Int32} {l : Launch} {D : va_G} {b : Nat → ClassId} {h : Nat → Nat} {u : St} {Post : Int32 → St → Prop} (hw : wp_X4_last_k1 a2 u Post) : CtI l yX4_last cX4_last 3 (some .int) rm_X4_last_k1 D (tyF b) 46 (gF b h) h [.ref (h 29), .ref (h 25), .int a2] u Post := by
  refine CtI.of (plainFor_of_name (by decide)) (Nat.le_of_ble_eq_true rfl) ?_
  intro p e s m below meth c A ls X hA O hl
  have X : Cx p s m _ meth c cX4_last 3 (some .int) RX4 D (tyF b) A := X
  obtain ⟨⟨hx, hb, hml, hown, hts⟩, hK, hNs, hlocks, hr⟩ := id X
  have hl : lv_has ls 3 [(0, .ref (h 29)), (1, .ref (h 25)), (2, .int a2)] := hl
  unfold wp_X4_last_k1 at hw
  refine lv_aload_n hx hb dX4_last_0 rfl (lv_at hl 1 rfl) ?_
  refine lv_bipush (v := 10) hx hb dX4_last_1 (by decide) ?_
  refine q_cvv (rest := []) X O hA 25 (c_X0_begin hw) lk_X4_7 (by decide) rfl rfl rfl rfl rfl rfl ⟨Nat.le_of_ble_eq_true rfl, Nat.le_of_ble_eq_true rfl⟩ (Nat.le_of_ble_eq_true rfl) hl.1 ⟨Nat.zero_le _, Nat.zero_le _⟩ rfl dX4_last_3 (fun u3 H locs hw O => ?_)
  refine lv_iload_n hx hb dX4_last_6 rfl (lv_at hl 2 rfl) ?_
  refine lv_aload_n hx hb dX4_last_7 rfl (lv_at hl 1 rfl) ?_
  refine gt_X4_13 X O dX4_last_8 ?_
  refine lv_iadd hx hb dX4_last_11 ?_
  exact q_iret X O hw dX4_last_12
-- X9_last, on kind 1
abbrev rm_X9_last_k1 : Room := { frames := 2, cells := 0, slots := 0, locals := 43 }
def wp_X9_last_k1 (a2 : Int32) (u : St) (Post : Int32 → St → Prop) : Prop := wp_X0_begin (20 : Int32) u (fun _ u3 => wp_X4_last_k1 a2 u3 (fun r9 u9 => Post (r9 * (2 : Int32)) u9))
set_option maxHeartbeats 4000000 in
set_option maxRecDepth 100000 in
theorem c_X9_last_k1 {a2 : Int32} {l : Launch} {D : va_G} {b : Nat → ClassId} {h : Nat → Nat} {u : St} {Post : Int32 → St → Prop} (hw : wp_X9_last_k1 a2 u Post) : CtI l yX9_last cX9_last 3 (some .int) rm_X9_last_k1 D (tyF b) 46 (gF b h) h [.ref (h 29), .ref (h 25), .int a2] u Post := by
  refine CtI.of (plainFor_of_name (by decide)) (Nat.le_of_ble_eq_true rfl) ?_
  intro p e s m below meth c A ls X hA O hl
  have X : Cx p s m _ meth c cX9_last 3 (some .int) RX9 D (tyF b) A := X
  obtain ⟨⟨hx, hb, hml, hown, hts⟩, hK, hNs, hlocks, hr⟩ := id X
  have hl : lv_has ls 3 [(0, .ref (h 29)), (1, .ref (h 25)), (2, .int a2)] := hl
  unfold wp_X9_last_k1 at hw
  refine lv_aload_n hx hb dX9_last_0 rfl (lv_at hl 1 rfl) ?_
  refine lv_bipush (v := 20) hx hb dX9_last_1 (by decide) ?_
  refine q_cvv (rest := []) X O hA 25 (c_X0_begin hw) lk_X9_7 (by decide) rfl rfl rfl rfl rfl rfl ⟨Nat.le_of_ble_eq_true rfl, Nat.le_of_ble_eq_true rfl⟩ (Nat.le_of_ble_eq_true rfl) hl.1 ⟨Nat.zero_le _, Nat.zero_le _⟩ rfl dX9_last_3 (fun u3 H locs hw O => ?_)
  refine lv_aload_n hx hb dX9_last_6 rfl (lv_at hl 0 rfl) ?_
  refine lv_aload_n hx hb dX9_last_7 rfl (lv_at hl 1 rfl) ?_
  refine lv_iload_n hx hb dX9_last_8 rfl (lv_at hl 2 rfl) ?_
  refine q_ciSU (rest := []) X O hA 29 (c_X4_last_k1 hw) lkS_X9_13 (by decide) rfl rfl rfl rfl rfl ⟨Nat.le_of_ble_eq_true rfl, Nat.le_of_ble_eq_true rfl⟩ (Nat.le_of_ble_eq_true rfl) hl.1 ⟨Nat.zero_le _, Nat.zero_le _⟩ rfl dX9_last_9 (fun r9 u9 H locs hw O => ?_)
  refine lv_iconst (v := 2) hx hb dX9_last_12 (by decide) ?_
  refine lv_imul hx hb dX9_last_13 ?_
  exact q_iret X O hw dX9_last_14
-- X4_last, on kind 2
abbrev rm_X4_last_k2 : Room := { frames := 1, cells := 0, slots := 0, locals := 21 }
def wp_X4_last_k2 (a2 : Int32) (u : St) (Post : Int32 → St → Prop) : Prop := wp_X0_begin (10 : Int32) u (fun _ u3 => Post (a2 + (u3 25 2)) u3)
set_option maxHeartbeats 4000000 in
set_option maxRecDepth 100000 in
theorem c_X4_last_k2 {a2 : Int32} {l : Launch} {D : va_G} {b : Nat → ClassId} {h : Nat → Nat} {u : St} {Post : Int32 → St → Prop} (hw : wp_X4_last_k2 a2 u Post) : CtI l yX4_last cX4_last 3 (some .int) rm_X4_last_k2 D (tyF b) 46 (gF b h) h [.ref (h 30), .ref (h 25), .int a2] u Post := by
  refine CtI.of (plainFor_of_name (by decide)) (Nat.le_of_ble_eq_true rfl) ?_
  intro p e s m below meth c A ls X hA O hl
  have X : Cx p s m _ meth c cX4_last 3 (some .int) RX4 D (tyF b) A := X
  obtain ⟨⟨hx, hb, hml, hown, hts⟩, hK, hNs, hlocks, hr⟩ := id X
  have hl : lv_has ls 3 [(0, .ref (h 30)), (1, .ref (h 25)), (2, .int a2)] := hl
  unfold wp_X4_last_k2 at hw
  refine lv_aload_n hx hb dX4_last_0 rfl (lv_at hl 1 rfl) ?_
  refine lv_bipush (v := 10) hx hb dX4_last_1 (by decide) ?_
  refine q_cvv (rest := []) X O hA 25 (c_X0_begin hw) lk_X4_7 (by decide) rfl rfl rfl rfl rfl rfl ⟨Nat.le_of_ble_eq_true rfl, Nat.le_of_ble_eq_true rfl⟩ (Nat.le_of_ble_eq_true rfl) hl.1 ⟨Nat.zero_le _, Nat.zero_le _⟩ rfl dX4_last_3 (fun u3 H locs hw O => ?_)
  refine lv_iload_n hx hb dX4_last_6 rfl (lv_at hl 2 rfl) ?_
  refine lv_aload_n hx hb dX4_last_7 rfl (lv_at hl 1 rfl) ?_
  refine gt_X4_13 X O dX4_last_8 ?_
  refine lv_iadd hx hb dX4_last_11 ?_
  exact q_iret X O hw dX4_last_12
-- X4_last, on kind 3
abbrev rm_X4_last_k3 : Room := { frames := 1, cells := 0, slots := 0, locals := 21 }
def wp_X4_last_k3 (a2 : Int32) (u : St) (Post : Int32 → St → Prop) : Prop := wp_X0_begin (10 : Int32) u (fun _ u3 => Post (a2 + (u3 25 2)) u3)
set_option maxHeartbeats 4000000 in
set_option maxRecDepth 100000 in
theorem c_X4_last_k3 {a2 : Int32} {l : Launch} {D : va_G} {b : Nat → ClassId} {h : Nat → Nat} {u : St} {Post : Int32 → St → Prop} (hw : wp_X4_last_k3 a2 u Post) : CtI l yX4_last cX4_last 3 (some .int) rm_X4_last_k3 D (tyF b) 46 (gF b h) h [.ref (h 31), .ref (h 25), .int a2] u Post := by
  refine CtI.of (plainFor_of_name (by decide)) (Nat.le_of_ble_eq_true rfl) ?_
  intro p e s m below meth c A ls X hA O hl
  have X : Cx p s m _ meth c cX4_last 3 (some .int) RX4 D (tyF b) A := X
  obtain ⟨⟨hx, hb, hml, hown, hts⟩, hK, hNs, hlocks, hr⟩ := id X
  have hl : lv_has ls 3 [(0, .ref (h 31)), (1, .ref (h 25)), (2, .int a2)] := hl
  unfold wp_X4_last_k3 at hw
  refine lv_aload_n hx hb dX4_last_0 rfl (lv_at hl 1 rfl) ?_
  refine lv_bipush (v := 10) hx hb dX4_last_1 (by decide) ?_
  refine q_cvv (rest := []) X O hA 25 (c_X0_begin hw) lk_X4_7 (by decide) rfl rfl rfl rfl rfl rfl ⟨Nat.le_of_ble_eq_true rfl, Nat.le_of_ble_eq_true rfl⟩ (Nat.le_of_ble_eq_true rfl) hl.1 ⟨Nat.zero_le _, Nat.zero_le _⟩ rfl dX4_last_3 (fun u3 H locs hw O => ?_)
  refine lv_iload_n hx hb dX4_last_6 rfl (lv_at hl 2 rfl) ?_
  refine lv_aload_n hx hb dX4_last_7 rfl (lv_at hl 1 rfl) ?_
  refine gt_X4_13 X O dX4_last_8 ?_
  refine lv_iadd hx hb dX4_last_11 ?_
  exact q_iret X O hw dX4_last_12
-- X9_last, on kind 3
abbrev rm_X9_last_k3 : Room := { frames := 2, cells := 0, slots := 0, locals := 43 }
def wp_X9_last_k3 (a2 : Int32) (u : St) (Post : Int32 → St → Prop) : Prop := wp_X0_begin (20 : Int32) u (fun _ u3 => wp_X4_last_k3 a2 u3 (fun r9 u9 => Post (r9 * (2 : Int32)) u9))
set_option maxHeartbeats 4000000 in
set_option maxRecDepth 100000 in
theorem c_X9_last_k3 {a2 : Int32} {l : Launch} {D : va_G} {b : Nat → ClassId} {h : Nat → Nat} {u : St} {Post : Int32 → St → Prop} (hw : wp_X9_last_k3 a2 u Post) : CtI l yX9_last cX9_last 3 (some .int) rm_X9_last_k3 D (tyF b) 46 (gF b h) h [.ref (h 31), .ref (h 25), .int a2] u Post := by
  refine CtI.of (plainFor_of_name (by decide)) (Nat.le_of_ble_eq_true rfl) ?_
  intro p e s m below meth c A ls X hA O hl
  have X : Cx p s m _ meth c cX9_last 3 (some .int) RX9 D (tyF b) A := X
  obtain ⟨⟨hx, hb, hml, hown, hts⟩, hK, hNs, hlocks, hr⟩ := id X
  have hl : lv_has ls 3 [(0, .ref (h 31)), (1, .ref (h 25)), (2, .int a2)] := hl
  unfold wp_X9_last_k3 at hw
  refine lv_aload_n hx hb dX9_last_0 rfl (lv_at hl 1 rfl) ?_
  refine lv_bipush (v := 20) hx hb dX9_last_1 (by decide) ?_
  refine q_cvv (rest := []) X O hA 25 (c_X0_begin hw) lk_X9_7 (by decide) rfl rfl rfl rfl rfl rfl ⟨Nat.le_of_ble_eq_true rfl, Nat.le_of_ble_eq_true rfl⟩ (Nat.le_of_ble_eq_true rfl) hl.1 ⟨Nat.zero_le _, Nat.zero_le _⟩ rfl dX9_last_3 (fun u3 H locs hw O => ?_)
  refine lv_aload_n hx hb dX9_last_6 rfl (lv_at hl 0 rfl) ?_
  refine lv_aload_n hx hb dX9_last_7 rfl (lv_at hl 1 rfl) ?_
  refine lv_iload_n hx hb dX9_last_8 rfl (lv_at hl 2 rfl) ?_
  refine q_ciSU (rest := []) X O hA 31 (c_X4_last_k3 hw) lkS_X9_13 (by decide) rfl rfl rfl rfl rfl ⟨Nat.le_of_ble_eq_true rfl, Nat.le_of_ble_eq_true rfl⟩ (Nat.le_of_ble_eq_true rfl) hl.1 ⟨Nat.zero_le _, Nat.zero_le _⟩ rfl dX9_last_9 (fun r9 u9 H locs hw O => ?_)
  refine lv_iconst (v := 2) hx hb dX9_last_12 (by decide) ?_
  refine lv_imul hx hb dX9_last_13 ?_
  exact q_iret X O hw dX9_last_14
-- X4_follow, on kind 3
abbrev rm_X4_follow_k3 : Room := { frames := 1, cells := 0, slots := 0, locals := 21 }
def wp_X4_follow_k3 (a2 : Int32) (u : St) (Post : Int32 → St → Prop) : Prop := wp_X0_begin (12 : Int32) u (fun _ u3 => Post (a2 + (u3 25 5)) u3)
set_option maxHeartbeats 4000000 in
set_option maxRecDepth 100000 in
theorem c_X4_follow_k3 {a2 : Int32} {l : Launch} {D : va_G} {b : Nat → ClassId} {h : Nat → Nat} {u : St} {Post : Int32 → St → Prop} (hw : wp_X4_follow_k3 a2 u Post) : CtI l yX4_follow cX4_follow 3 (some .int) rm_X4_follow_k3 D (tyF b) 46 (gF b h) h [.ref (h 31), .ref (h 25), .int a2] u Post := by
  refine CtI.of (plainFor_of_name (by decide)) (Nat.le_of_ble_eq_true rfl) ?_
  intro p e s m below meth c A ls X hA O hl
  have X : Cx p s m _ meth c cX4_follow 3 (some .int) RX4 D (tyF b) A := X
  obtain ⟨⟨hx, hb, hml, hown, hts⟩, hK, hNs, hlocks, hr⟩ := id X
  have hl : lv_has ls 3 [(0, .ref (h 31)), (1, .ref (h 25)), (2, .int a2)] := hl
  unfold wp_X4_follow_k3 at hw
  refine lv_aload_n hx hb dX4_follow_0 rfl (lv_at hl 1 rfl) ?_
  refine lv_bipush (v := 12) hx hb dX4_follow_1 (by decide) ?_
  refine q_cvv (rest := []) X O hA 25 (c_X0_begin hw) lk_X4_7 (by decide) rfl rfl rfl rfl rfl rfl ⟨Nat.le_of_ble_eq_true rfl, Nat.le_of_ble_eq_true rfl⟩ (Nat.le_of_ble_eq_true rfl) hl.1 ⟨Nat.zero_le _, Nat.zero_le _⟩ rfl dX4_follow_3 (fun u3 H locs hw O => ?_)
  refine lv_iload_n hx hb dX4_follow_6 rfl (lv_at hl 2 rfl) ?_
  refine lv_aload_n hx hb dX4_follow_7 rfl (lv_at hl 1 rfl) ?_
  refine gt_X4_26 X O dX4_follow_8 ?_
  refine lv_iadd hx hb dX4_follow_11 ?_
  exact q_iret X O hw dX4_follow_12
-- X1_last, on kind 3
abbrev rm_X1_last_k3 : Room := { frames := 3, cells := 0, slots := 0, locals := 65 }
def wp_X1_last_k3 (a2 : Int32) (u : St) (Post : Int32 → St → Prop) : Prop := wp_X0_begin (41 : Int32) u (fun _ u3 => wp_X9_last_k3 a2 u3 (fun r9 u9 => wp_X4_follow_k3 a2 u9 (fun r15 u15 => Post (r9 + r15) u15)))
set_option maxHeartbeats 4000000 in
set_option maxRecDepth 100000 in
theorem c_X1_last_k3 {a2 : Int32} {l : Launch} {D : va_G} {b : Nat → ClassId} {h : Nat → Nat} {u : St} {Post : Int32 → St → Prop} (hw : wp_X1_last_k3 a2 u Post) : CtI l yX1_last cX1_last 3 (some .int) rm_X1_last_k3 D (tyF b) 46 (gF b h) h [.ref (h 31), .ref (h 25), .int a2] u Post := by
  refine CtI.of (plainFor_of_name (by decide)) (Nat.le_of_ble_eq_true rfl) ?_
  intro p e s m below meth c A ls X hA O hl
  have X : Cx p s m _ meth c cX1_last 3 (some .int) RX1 D (tyF b) A := X
  obtain ⟨⟨hx, hb, hml, hown, hts⟩, hK, hNs, hlocks, hr⟩ := id X
  have hl : lv_has ls 3 [(0, .ref (h 31)), (1, .ref (h 25)), (2, .int a2)] := hl
  unfold wp_X1_last_k3 at hw
  refine lv_aload_n hx hb dX1_last_0 rfl (lv_at hl 1 rfl) ?_
  refine lv_bipush (v := 41) hx hb dX1_last_1 (by decide) ?_
  refine q_cvv (rest := []) X O hA 25 (c_X0_begin hw) lk_X1_7 (by decide) rfl rfl rfl rfl rfl rfl ⟨Nat.le_of_ble_eq_true rfl, Nat.le_of_ble_eq_true rfl⟩ (Nat.le_of_ble_eq_true rfl) hl.1 ⟨Nat.zero_le _, Nat.zero_le _⟩ rfl dX1_last_3 (fun u3 H locs hw O => ?_)
  refine lv_aload_n hx hb dX1_last_6 rfl (lv_at hl 0 rfl) ?_
  refine lv_aload_n hx hb dX1_last_7 rfl (lv_at hl 1 rfl) ?_
  refine lv_iload_n hx hb dX1_last_8 rfl (lv_at hl 2 rfl) ?_
  refine q_ciSU (rest := []) X O hA 31 (c_X9_last_k3 hw) lkS_X1_17 (by decide) rfl rfl rfl rfl rfl ⟨Nat.le_of_ble_eq_true rfl, Nat.le_of_ble_eq_true rfl⟩ (Nat.le_of_ble_eq_true rfl) hl.1 ⟨Nat.zero_le _, Nat.zero_le _⟩ rfl dX1_last_9 (fun r9 u9 H locs hw O => ?_)
  refine lv_aload_n hx hb dX1_last_12 rfl (lv_at hl 0 rfl) ?_
  refine lv_aload_n hx hb dX1_last_13 rfl (lv_at hl 1 rfl) ?_
  refine lv_iload_n hx hb dX1_last_14 rfl (lv_at hl 2 rfl) ?_
  refine q_ciS2 (rest := [.int r9]) X O hA 31 (c_X4_follow_k3 hw) lkS_X1_13 (by decide) rfl rfl rfl rfl rfl ⟨Nat.le_of_ble_eq_true rfl, Nat.le_of_ble_eq_true rfl⟩ (Nat.le_of_ble_eq_true rfl) hl.1 ⟨Nat.zero_le _, Nat.zero_le _⟩ rfl dX1_last_15 (fun r15 u15 H locs hw O => ?_)
  refine lv_iadd hx hb dX1_last_18 ?_
  exact q_iret X O hw dX1_last_19
-- X4_last, on kind 4
abbrev rm_X4_last_k4 : Room := { frames := 1, cells := 0, slots := 0, locals := 21 }
def wp_X4_last_k4 (a2 : Int32) (u : St) (Post : Int32 → St → Prop) : Prop := wp_X0_begin (10 : Int32) u (fun _ u3 => Post (a2 + (u3 25 2)) u3)
set_option maxHeartbeats 4000000 in
set_option maxRecDepth 100000 in
theorem c_X4_last_k4 {a2 : Int32} {l : Launch} {D : va_G} {b : Nat → ClassId} {h : Nat → Nat} {u : St} {Post : Int32 → St → Prop} (hw : wp_X4_last_k4 a2 u Post) : CtI l yX4_last cX4_last 3 (some .int) rm_X4_last_k4 D (tyF b) 46 (gF b h) h [.ref (h 32), .ref (h 25), .int a2] u Post := by
  refine CtI.of (plainFor_of_name (by decide)) (Nat.le_of_ble_eq_true rfl) ?_
  intro p e s m below meth c A ls X hA O hl
  have X : Cx p s m _ meth c cX4_last 3 (some .int) RX4 D (tyF b) A := X
  obtain ⟨⟨hx, hb, hml, hown, hts⟩, hK, hNs, hlocks, hr⟩ := id X
  have hl : lv_has ls 3 [(0, .ref (h 32)), (1, .ref (h 25)), (2, .int a2)] := hl
  unfold wp_X4_last_k4 at hw
  refine lv_aload_n hx hb dX4_last_0 rfl (lv_at hl 1 rfl) ?_
  refine lv_bipush (v := 10) hx hb dX4_last_1 (by decide) ?_
  refine q_cvv (rest := []) X O hA 25 (c_X0_begin hw) lk_X4_7 (by decide) rfl rfl rfl rfl rfl rfl ⟨Nat.le_of_ble_eq_true rfl, Nat.le_of_ble_eq_true rfl⟩ (Nat.le_of_ble_eq_true rfl) hl.1 ⟨Nat.zero_le _, Nat.zero_le _⟩ rfl dX4_last_3 (fun u3 H locs hw O => ?_)
  refine lv_iload_n hx hb dX4_last_6 rfl (lv_at hl 2 rfl) ?_
  refine lv_aload_n hx hb dX4_last_7 rfl (lv_at hl 1 rfl) ?_
  refine gt_X4_13 X O dX4_last_8 ?_
  refine lv_iadd hx hb dX4_last_11 ?_
  exact q_iret X O hw dX4_last_12
-- X5_last, on kind 4
abbrev rm_X5_last_k4 : Room := { frames := 2, cells := 0, slots := 0, locals := 43 }
def wp_X5_last_k4 (a2 : Int32) (u : St) (Post : Int32 → St → Prop) : Prop := wp_X0_begin (50 : Int32) u (fun _ u3 => wp_X4_last_k4 (a2 + (u3 25 4)) u3 (fun r14 u14 => Post r14 u14))
set_option maxHeartbeats 4000000 in
set_option maxRecDepth 100000 in
theorem c_X5_last_k4 {a2 : Int32} {l : Launch} {D : va_G} {b : Nat → ClassId} {h : Nat → Nat} {u : St} {Post : Int32 → St → Prop} (hw : wp_X5_last_k4 a2 u Post) : CtI l yX5_last cX5_last 3 (some .int) rm_X5_last_k4 D (tyF b) 46 (gF b h) h [.ref (h 32), .ref (h 25), .int a2] u Post := by
  refine CtI.of (plainFor_of_name (by decide)) (Nat.le_of_ble_eq_true rfl) ?_
  intro p e s m below meth c A ls X hA O hl
  have X : Cx p s m _ meth c cX5_last 3 (some .int) RX5 D (tyF b) A := X
  obtain ⟨⟨hx, hb, hml, hown, hts⟩, hK, hNs, hlocks, hr⟩ := id X
  have hl : lv_has ls 3 [(0, .ref (h 32)), (1, .ref (h 25)), (2, .int a2)] := hl
  unfold wp_X5_last_k4 at hw
  refine lv_aload_n hx hb dX5_last_0 rfl (lv_at hl 1 rfl) ?_
  refine lv_bipush (v := 50) hx hb dX5_last_1 (by decide) ?_
  refine q_cvv (rest := []) X O hA 25 (c_X0_begin hw) lk_X5_7 (by decide) rfl rfl rfl rfl rfl rfl ⟨Nat.le_of_ble_eq_true rfl, Nat.le_of_ble_eq_true rfl⟩ (Nat.le_of_ble_eq_true rfl) hl.1 ⟨Nat.zero_le _, Nat.zero_le _⟩ rfl dX5_last_3 (fun u3 H locs hw O => ?_)
  refine lv_aload_n hx hb dX5_last_6 rfl (lv_at hl 0 rfl) ?_
  refine lv_aload_n hx hb dX5_last_7 rfl (lv_at hl 1 rfl) ?_
  refine lv_iload_n hx hb dX5_last_8 rfl (lv_at hl 2 rfl) ?_
  refine lv_aload_n hx hb dX5_last_9 rfl (lv_at hl 1 rfl) ?_
  refine gt_X5_13 X O dX5_last_10 ?_
  refine lv_iadd hx hb dX5_last_13 ?_
  refine q_ciSU (rest := []) X O hA 32 (c_X4_last_k4 hw) lkS_X5_17 (by decide) rfl rfl rfl rfl rfl ⟨Nat.le_of_ble_eq_true rfl, Nat.le_of_ble_eq_true rfl⟩ (Nat.le_of_ble_eq_true rfl) hl.1 ⟨Nat.zero_le _, Nat.zero_le _⟩ rfl dX5_last_14 (fun r14 u14 H locs hw O => ?_)
  exact q_iret X O hw dX5_last_17
-- X4_weigh, on kind 0
abbrev rm_X4_weigh_k0 : Room := { frames := 2, cells := 0, slots := 0, locals := 43 }
def wp_X4_weigh_k0 (a2 : Int32) (u : St) (Post : Int32 → St → Prop) : Prop := wp_X0_begin (11 : Int32) u (fun _ u3 => wp_X4_last_k0 a2 u3 (fun r9 u9 => Post (r9 * (u9 25 3)) u9))
set_option maxHeartbeats 4000000 in
set_option maxRecDepth 100000 in
theorem c_X4_weigh_k0 {a2 : Int32} {l : Launch} {D : va_G} {b : Nat → ClassId} {h : Nat → Nat} {u : St} {Post : Int32 → St → Prop} (hw : wp_X4_weigh_k0 a2 u Post) : CtI l yX4_weigh cX4_weigh 3 (some .int) rm_X4_weigh_k0 D (tyF b) 46 (gF b h) h [.ref (h 28), .ref (h 25), .int a2] u Post := by
  refine CtI.of (plainFor_of_name (by decide)) (Nat.le_of_ble_eq_true rfl) ?_
  intro p e s m below meth c A ls X hA O hl
  have X : Cx p s m _ meth c cX4_weigh 3 (some .int) RX4 D (tyF b) A := X
  obtain ⟨⟨hx, hb, hml, hown, hts⟩, hK, hNs, hlocks, hr⟩ := id X
  have hl : lv_has ls 3 [(0, .ref (h 28)), (1, .ref (h 25)), (2, .int a2)] := hl
  unfold wp_X4_weigh_k0 at hw
  refine lv_aload_n hx hb dX4_weigh_0 rfl (lv_at hl 1 rfl) ?_
  refine lv_bipush (v := 11) hx hb dX4_weigh_1 (by decide) ?_
  refine q_cvv (rest := []) X O hA 25 (c_X0_begin hw) lk_X4_7 (by decide) rfl rfl rfl rfl rfl rfl ⟨Nat.le_of_ble_eq_true rfl, Nat.le_of_ble_eq_true rfl⟩ (Nat.le_of_ble_eq_true rfl) hl.1 ⟨Nat.zero_le _, Nat.zero_le _⟩ rfl dX4_weigh_3 (fun u3 H locs hw O => ?_)
  refine lv_aload_n hx hb dX4_weigh_6 rfl (lv_at hl 0 rfl) ?_
  refine lv_aload_n hx hb dX4_weigh_7 rfl (lv_at hl 1 rfl) ?_
  refine lv_iload_n hx hb dX4_weigh_8 rfl (lv_at hl 2 rfl) ?_
  refine q_ciU (rest := []) X O hA 28 (c_X4_last_k0 hw) lkU_X4_17_0 (by decide) rfl rfl rfl rfl rfl rfl ⟨Nat.le_of_ble_eq_true rfl, Nat.le_of_ble_eq_true rfl⟩ (Nat.le_of_ble_eq_true rfl) hl.1 ⟨Nat.zero_le _, Nat.zero_le _⟩ rfl dX4_weigh_9 (fun r9 u9 H locs hw O => ?_)
  refine lv_aload_n hx hb dX4_weigh_12 rfl (lv_at hl 1 rfl) ?_
  refine gt_X4_23 X O dX4_weigh_13 ?_
  refine lv_imul hx hb dX4_weigh_16 ?_
  exact q_iret X O hw dX4_weigh_17
-- X4_weigh, on kind 1
abbrev rm_X4_weigh_k1 : Room := { frames := 3, cells := 0, slots := 0, locals := 65 }
def wp_X4_weigh_k1 (a2 : Int32) (u : St) (Post : Int32 → St → Prop) : Prop := wp_X0_begin (11 : Int32) u (fun _ u3 => wp_X9_last_k1 a2 u3 (fun r9 u9 => Post (r9 * (u9 25 3)) u9))
set_option maxHeartbeats 4000000 in
set_option maxRecDepth 100000 in
theorem c_X4_weigh_k1 {a2 : Int32} {l : Launch} {D : va_G} {b : Nat → ClassId} {h : Nat → Nat} {u : St} {Post : Int32 → St → Prop} (hw : wp_X4_weigh_k1 a2 u Post) : CtI l yX4_weigh cX4_weigh 3 (some .int) rm_X4_weigh_k1 D (tyF b) 46 (gF b h) h [.ref (h 29), .ref (h 25), .int a2] u Post := by
  refine CtI.of (plainFor_of_name (by decide)) (Nat.le_of_ble_eq_true rfl) ?_
  intro p e s m below meth c A ls X hA O hl
  have X : Cx p s m _ meth c cX4_weigh 3 (some .int) RX4 D (tyF b) A := X
  obtain ⟨⟨hx, hb, hml, hown, hts⟩, hK, hNs, hlocks, hr⟩ := id X
  have hl : lv_has ls 3 [(0, .ref (h 29)), (1, .ref (h 25)), (2, .int a2)] := hl
  unfold wp_X4_weigh_k1 at hw
  refine lv_aload_n hx hb dX4_weigh_0 rfl (lv_at hl 1 rfl) ?_
  refine lv_bipush (v := 11) hx hb dX4_weigh_1 (by decide) ?_
  refine q_cvv (rest := []) X O hA 25 (c_X0_begin hw) lk_X4_7 (by decide) rfl rfl rfl rfl rfl rfl ⟨Nat.le_of_ble_eq_true rfl, Nat.le_of_ble_eq_true rfl⟩ (Nat.le_of_ble_eq_true rfl) hl.1 ⟨Nat.zero_le _, Nat.zero_le _⟩ rfl dX4_weigh_3 (fun u3 H locs hw O => ?_)
  refine lv_aload_n hx hb dX4_weigh_6 rfl (lv_at hl 0 rfl) ?_
  refine lv_aload_n hx hb dX4_weigh_7 rfl (lv_at hl 1 rfl) ?_
  refine lv_iload_n hx hb dX4_weigh_8 rfl (lv_at hl 2 rfl) ?_
  refine q_ciU (rest := []) X O hA 29 (c_X9_last_k1 hw) lkU_X4_17_1 (by decide) rfl rfl rfl rfl rfl rfl ⟨Nat.le_of_ble_eq_true rfl, Nat.le_of_ble_eq_true rfl⟩ (Nat.le_of_ble_eq_true rfl) hl.1 ⟨Nat.zero_le _, Nat.zero_le _⟩ rfl dX4_weigh_9 (fun r9 u9 H locs hw O => ?_)
  refine lv_aload_n hx hb dX4_weigh_12 rfl (lv_at hl 1 rfl) ?_
  refine gt_X4_23 X O dX4_weigh_13 ?_
  refine lv_imul hx hb dX4_weigh_16 ?_
  exact q_iret X O hw dX4_weigh_17
-- X4_weigh, on kind 2
abbrev rm_X4_weigh_k2 : Room := { frames := 2, cells := 0, slots := 0, locals := 43 }
def wp_X4_weigh_k2 (a2 : Int32) (u : St) (Post : Int32 → St → Prop) : Prop := wp_X0_begin (11 : Int32) u (fun _ u3 => wp_X4_last_k2 a2 u3 (fun r9 u9 => Post (r9 * (u9 25 3)) u9))
set_option maxHeartbeats 4000000 in
set_option maxRecDepth 100000 in
theorem c_X4_weigh_k2 {a2 : Int32} {l : Launch} {D : va_G} {b : Nat → ClassId} {h : Nat → Nat} {u : St} {Post : Int32 → St → Prop} (hw : wp_X4_weigh_k2 a2 u Post) : CtI l yX4_weigh cX4_weigh 3 (some .int) rm_X4_weigh_k2 D (tyF b) 46 (gF b h) h [.ref (h 30), .ref (h 25), .int a2] u Post := by
  refine CtI.of (plainFor_of_name (by decide)) (Nat.le_of_ble_eq_true rfl) ?_
  intro p e s m below meth c A ls X hA O hl
  have X : Cx p s m _ meth c cX4_weigh 3 (some .int) RX4 D (tyF b) A := X
  obtain ⟨⟨hx, hb, hml, hown, hts⟩, hK, hNs, hlocks, hr⟩ := id X
  have hl : lv_has ls 3 [(0, .ref (h 30)), (1, .ref (h 25)), (2, .int a2)] := hl
  unfold wp_X4_weigh_k2 at hw
  refine lv_aload_n hx hb dX4_weigh_0 rfl (lv_at hl 1 rfl) ?_
  refine lv_bipush (v := 11) hx hb dX4_weigh_1 (by decide) ?_
  refine q_cvv (rest := []) X O hA 25 (c_X0_begin hw) lk_X4_7 (by decide) rfl rfl rfl rfl rfl rfl ⟨Nat.le_of_ble_eq_true rfl, Nat.le_of_ble_eq_true rfl⟩ (Nat.le_of_ble_eq_true rfl) hl.1 ⟨Nat.zero_le _, Nat.zero_le _⟩ rfl dX4_weigh_3 (fun u3 H locs hw O => ?_)
  refine lv_aload_n hx hb dX4_weigh_6 rfl (lv_at hl 0 rfl) ?_
  refine lv_aload_n hx hb dX4_weigh_7 rfl (lv_at hl 1 rfl) ?_
  refine lv_iload_n hx hb dX4_weigh_8 rfl (lv_at hl 2 rfl) ?_
  refine q_ciU (rest := []) X O hA 30 (c_X4_last_k2 hw) lkU_X4_17_2 (by decide) rfl rfl rfl rfl rfl rfl ⟨Nat.le_of_ble_eq_true rfl, Nat.le_of_ble_eq_true rfl⟩ (Nat.le_of_ble_eq_true rfl) hl.1 ⟨Nat.zero_le _, Nat.zero_le _⟩ rfl dX4_weigh_9 (fun r9 u9 H locs hw O => ?_)
  refine lv_aload_n hx hb dX4_weigh_12 rfl (lv_at hl 1 rfl) ?_
  refine gt_X4_23 X O dX4_weigh_13 ?_
  refine lv_imul hx hb dX4_weigh_16 ?_
  exact q_iret X O hw dX4_weigh_17
-- X3_weigh, on kind 2
abbrev rm_X3_weigh_k2 : Room := { frames := 3, cells := 0, slots := 0, locals := 65 }
def wp_X3_weigh_k2 (a2 : Int32) (u : St) (Post : Int32 → St → Prop) : Prop := wp_X0_begin (30 : Int32) u (fun _ u3 => wp_X4_weigh_k2 a2 u3 (fun r9 u9 => Post (r9 + (u9 25 2)) u9))
set_option maxHeartbeats 4000000 in
set_option maxRecDepth 100000 in
theorem c_X3_weigh_k2 {a2 : Int32} {l : Launch} {D : va_G} {b : Nat → ClassId} {h : Nat → Nat} {u : St} {Post : Int32 → St → Prop} (hw : wp_X3_weigh_k2 a2 u Post) : CtI l yX3_weigh cX3_weigh 3 (some .int) rm_X3_weigh_k2 D (tyF b) 46 (gF b h) h [.ref (h 30), .ref (h 25), .int a2] u Post := by
  refine CtI.of (plainFor_of_name (by decide)) (Nat.le_of_ble_eq_true rfl) ?_
  intro p e s m below meth c A ls X hA O hl
  have X : Cx p s m _ meth c cX3_weigh 3 (some .int) RX3 D (tyF b) A := X
  obtain ⟨⟨hx, hb, hml, hown, hts⟩, hK, hNs, hlocks, hr⟩ := id X
  have hl : lv_has ls 3 [(0, .ref (h 30)), (1, .ref (h 25)), (2, .int a2)] := hl
  unfold wp_X3_weigh_k2 at hw
  refine lv_aload_n hx hb dX3_weigh_0 rfl (lv_at hl 1 rfl) ?_
  refine lv_bipush (v := 30) hx hb dX3_weigh_1 (by decide) ?_
  refine q_cvv (rest := []) X O hA 25 (c_X0_begin hw) lk_X3_7 (by decide) rfl rfl rfl rfl rfl rfl ⟨Nat.le_of_ble_eq_true rfl, Nat.le_of_ble_eq_true rfl⟩ (Nat.le_of_ble_eq_true rfl) hl.1 ⟨Nat.zero_le _, Nat.zero_le _⟩ rfl dX3_weigh_3 (fun u3 H locs hw O => ?_)
  refine lv_aload_n hx hb dX3_weigh_6 rfl (lv_at hl 0 rfl) ?_
  refine lv_aload_n hx hb dX3_weigh_7 rfl (lv_at hl 1 rfl) ?_
  refine lv_iload_n hx hb dX3_weigh_8 rfl (lv_at hl 2 rfl) ?_
  refine q_ciSU (rest := []) X O hA 30 (c_X4_weigh_k2 hw) lkS_X3_13 (by decide) rfl rfl rfl rfl rfl ⟨Nat.le_of_ble_eq_true rfl, Nat.le_of_ble_eq_true rfl⟩ (Nat.le_of_ble_eq_true rfl) hl.1 ⟨Nat.zero_le _, Nat.zero_le _⟩ rfl dX3_weigh_9 (fun r9 u9 H locs hw O => ?_)
  refine lv_aload_n hx hb dX3_weigh_12 rfl (lv_at hl 1 rfl) ?_
  refine gt_X3_17 X O dX3_weigh_13 ?_
  refine lv_iadd hx hb dX3_weigh_16 ?_
  exact q_iret X O hw dX3_weigh_17
-- X4_weigh, on kind 3
abbrev rm_X4_weigh_k3 : Room := { frames := 4, cells := 0, slots := 0, locals := 87 }
def wp_X4_weigh_k3 (a2 : Int32) (u : St) (Post : Int32 → St → Prop) : Prop := wp_X0_begin (11 : Int32) u (fun _ u3 => wp_X1_last_k3 a2 u3 (fun r9 u9 => Post (r9 * (u9 25 3)) u9))
set_option maxHeartbeats 4000000 in
set_option maxRecDepth 100000 in
theorem c_X4_weigh_k3 {a2 : Int32} {l : Launch} {D : va_G} {b : Nat → ClassId} {h : Nat → Nat} {u : St} {Post : Int32 → St → Prop} (hw : wp_X4_weigh_k3 a2 u Post) : CtI l yX4_weigh cX4_weigh 3 (some .int) rm_X4_weigh_k3 D (tyF b) 46 (gF b h) h [.ref (h 31), .ref (h 25), .int a2] u Post := by
  refine CtI.of (plainFor_of_name (by decide)) (Nat.le_of_ble_eq_true rfl) ?_
  intro p e s m below meth c A ls X hA O hl
  have X : Cx p s m _ meth c cX4_weigh 3 (some .int) RX4 D (tyF b) A := X
  obtain ⟨⟨hx, hb, hml, hown, hts⟩, hK, hNs, hlocks, hr⟩ := id X
  have hl : lv_has ls 3 [(0, .ref (h 31)), (1, .ref (h 25)), (2, .int a2)] := hl
  unfold wp_X4_weigh_k3 at hw
  refine lv_aload_n hx hb dX4_weigh_0 rfl (lv_at hl 1 rfl) ?_
  refine lv_bipush (v := 11) hx hb dX4_weigh_1 (by decide) ?_
  refine q_cvv (rest := []) X O hA 25 (c_X0_begin hw) lk_X4_7 (by decide) rfl rfl rfl rfl rfl rfl ⟨Nat.le_of_ble_eq_true rfl, Nat.le_of_ble_eq_true rfl⟩ (Nat.le_of_ble_eq_true rfl) hl.1 ⟨Nat.zero_le _, Nat.zero_le _⟩ rfl dX4_weigh_3 (fun u3 H locs hw O => ?_)
  refine lv_aload_n hx hb dX4_weigh_6 rfl (lv_at hl 0 rfl) ?_
  refine lv_aload_n hx hb dX4_weigh_7 rfl (lv_at hl 1 rfl) ?_
  refine lv_iload_n hx hb dX4_weigh_8 rfl (lv_at hl 2 rfl) ?_
  refine q_ciU (rest := []) X O hA 31 (c_X1_last_k3 hw) lkU_X4_17_3 (by decide) rfl rfl rfl rfl rfl rfl ⟨Nat.le_of_ble_eq_true rfl, Nat.le_of_ble_eq_true rfl⟩ (Nat.le_of_ble_eq_true rfl) hl.1 ⟨Nat.zero_le _, Nat.zero_le _⟩ rfl dX4_weigh_9 (fun r9 u9 H locs hw O => ?_)
  refine lv_aload_n hx hb dX4_weigh_12 rfl (lv_at hl 1 rfl) ?_
  refine gt_X4_23 X O dX4_weigh_13 ?_
  refine lv_imul hx hb dX4_weigh_16 ?_
  exact q_iret X O hw dX4_weigh_17
-- X4_weigh, on kind 4
abbrev rm_X4_weigh_k4 : Room := { frames := 3, cells := 0, slots := 0, locals := 65 }
def wp_X4_weigh_k4 (a2 : Int32) (u : St) (Post : Int32 → St → Prop) : Prop := wp_X0_begin (11 : Int32) u (fun _ u3 => wp_X5_last_k4 a2 u3 (fun r9 u9 => Post (r9 * (u9 25 3)) u9))
set_option maxHeartbeats 4000000 in
set_option maxRecDepth 100000 in
theorem c_X4_weigh_k4 {a2 : Int32} {l : Launch} {D : va_G} {b : Nat → ClassId} {h : Nat → Nat} {u : St} {Post : Int32 → St → Prop} (hw : wp_X4_weigh_k4 a2 u Post) : CtI l yX4_weigh cX4_weigh 3 (some .int) rm_X4_weigh_k4 D (tyF b) 46 (gF b h) h [.ref (h 32), .ref (h 25), .int a2] u Post := by
  refine CtI.of (plainFor_of_name (by decide)) (Nat.le_of_ble_eq_true rfl) ?_
  intro p e s m below meth c A ls X hA O hl
  have X : Cx p s m _ meth c cX4_weigh 3 (some .int) RX4 D (tyF b) A := X
  obtain ⟨⟨hx, hb, hml, hown, hts⟩, hK, hNs, hlocks, hr⟩ := id X
  have hl : lv_has ls 3 [(0, .ref (h 32)), (1, .ref (h 25)), (2, .int a2)] := hl
  unfold wp_X4_weigh_k4 at hw
  refine lv_aload_n hx hb dX4_weigh_0 rfl (lv_at hl 1 rfl) ?_
  refine lv_bipush (v := 11) hx hb dX4_weigh_1 (by decide) ?_
  refine q_cvv (rest := []) X O hA 25 (c_X0_begin hw) lk_X4_7 (by decide) rfl rfl rfl rfl rfl rfl ⟨Nat.le_of_ble_eq_true rfl, Nat.le_of_ble_eq_true rfl⟩ (Nat.le_of_ble_eq_true rfl) hl.1 ⟨Nat.zero_le _, Nat.zero_le _⟩ rfl dX4_weigh_3 (fun u3 H locs hw O => ?_)
  refine lv_aload_n hx hb dX4_weigh_6 rfl (lv_at hl 0 rfl) ?_
  refine lv_aload_n hx hb dX4_weigh_7 rfl (lv_at hl 1 rfl) ?_
  refine lv_iload_n hx hb dX4_weigh_8 rfl (lv_at hl 2 rfl) ?_
  refine q_ciU (rest := []) X O hA 32 (c_X5_last_k4 hw) lkU_X4_17_4 (by decide) rfl rfl rfl rfl rfl rfl ⟨Nat.le_of_ble_eq_true rfl, Nat.le_of_ble_eq_true rfl⟩ (Nat.le_of_ble_eq_true rfl) hl.1 ⟨Nat.zero_le _, Nat.zero_le _⟩ rfl dX4_weigh_9 (fun r9 u9 H locs hw O => ?_)
  refine lv_aload_n hx hb dX4_weigh_12 rfl (lv_at hl 1 rfl) ?_
  refine gt_X4_23 X O dX4_weigh_13 ?_
  refine lv_imul hx hb dX4_weigh_16 ?_
  exact q_iret X O hw dX4_weigh_17
-- X4_follow, on kind 0
abbrev rm_X4_follow_k0 : Room := { frames := 1, cells := 0, slots := 0, locals := 21 }
def wp_X4_follow_k0 (a2 : Int32) (u : St) (Post : Int32 → St → Prop) : Prop := wp_X0_begin (12 : Int32) u (fun _ u3 => Post (a2 + (u3 25 5)) u3)
set_option maxHeartbeats 4000000 in
set_option maxRecDepth 100000 in
theorem c_X4_follow_k0 {a2 : Int32} {l : Launch} {D : va_G} {b : Nat → ClassId} {h : Nat → Nat} {u : St} {Post : Int32 → St → Prop} (hw : wp_X4_follow_k0 a2 u Post) : CtI l yX4_follow cX4_follow 3 (some .int) rm_X4_follow_k0 D (tyF b) 46 (gF b h) h [.ref (h 28), .ref (h 25), .int a2] u Post := by
  refine CtI.of (plainFor_of_name (by decide)) (Nat.le_of_ble_eq_true rfl) ?_
  intro p e s m below meth c A ls X hA O hl
  have X : Cx p s m _ meth c cX4_follow 3 (some .int) RX4 D (tyF b) A := X
  obtain ⟨⟨hx, hb, hml, hown, hts⟩, hK, hNs, hlocks, hr⟩ := id X
  have hl : lv_has ls 3 [(0, .ref (h 28)), (1, .ref (h 25)), (2, .int a2)] := hl
  unfold wp_X4_follow_k0 at hw
  refine lv_aload_n hx hb dX4_follow_0 rfl (lv_at hl 1 rfl) ?_
  refine lv_bipush (v := 12) hx hb dX4_follow_1 (by decide) ?_
  refine q_cvv (rest := []) X O hA 25 (c_X0_begin hw) lk_X4_7 (by decide) rfl rfl rfl rfl rfl rfl ⟨Nat.le_of_ble_eq_true rfl, Nat.le_of_ble_eq_true rfl⟩ (Nat.le_of_ble_eq_true rfl) hl.1 ⟨Nat.zero_le _, Nat.zero_le _⟩ rfl dX4_follow_3 (fun u3 H locs hw O => ?_)
  refine lv_iload_n hx hb dX4_follow_6 rfl (lv_at hl 2 rfl) ?_
  refine lv_aload_n hx hb dX4_follow_7 rfl (lv_at hl 1 rfl) ?_
  refine gt_X4_26 X O dX4_follow_8 ?_
  refine lv_iadd hx hb dX4_follow_11 ?_
  exact q_iret X O hw dX4_follow_12
-- X4_follow, on kind 1
abbrev rm_X4_follow_k1 : Room := { frames := 1, cells := 0, slots := 0, locals := 21 }
def wp_X4_follow_k1 (a2 : Int32) (u : St) (Post : Int32 → St → Prop) : Prop := wp_X0_begin (12 : Int32) u (fun _ u3 => Post (a2 + (u3 25 5)) u3)
set_option maxHeartbeats 4000000 in
set_option maxRecDepth 100000 in
theorem c_X4_follow_k1 {a2 : Int32} {l : Launch} {D : va_G} {b : Nat → ClassId} {h : Nat → Nat} {u : St} {Post : Int32 → St → Prop} (hw : wp_X4_follow_k1 a2 u Post) : CtI l yX4_follow cX4_follow 3 (some .int) rm_X4_follow_k1 D (tyF b) 46 (gF b h) h [.ref (h 29), .ref (h 25), .int a2] u Post := by
  refine CtI.of (plainFor_of_name (by decide)) (Nat.le_of_ble_eq_true rfl) ?_
  intro p e s m below meth c A ls X hA O hl
  have X : Cx p s m _ meth c cX4_follow 3 (some .int) RX4 D (tyF b) A := X
  obtain ⟨⟨hx, hb, hml, hown, hts⟩, hK, hNs, hlocks, hr⟩ := id X
  have hl : lv_has ls 3 [(0, .ref (h 29)), (1, .ref (h 25)), (2, .int a2)] := hl
  unfold wp_X4_follow_k1 at hw
  refine lv_aload_n hx hb dX4_follow_0 rfl (lv_at hl 1 rfl) ?_
  refine lv_bipush (v := 12) hx hb dX4_follow_1 (by decide) ?_
  refine q_cvv (rest := []) X O hA 25 (c_X0_begin hw) lk_X4_7 (by decide) rfl rfl rfl rfl rfl rfl ⟨Nat.le_of_ble_eq_true rfl, Nat.le_of_ble_eq_true rfl⟩ (Nat.le_of_ble_eq_true rfl) hl.1 ⟨Nat.zero_le _, Nat.zero_le _⟩ rfl dX4_follow_3 (fun u3 H locs hw O => ?_)
  refine lv_iload_n hx hb dX4_follow_6 rfl (lv_at hl 2 rfl) ?_
  refine lv_aload_n hx hb dX4_follow_7 rfl (lv_at hl 1 rfl) ?_
  refine gt_X4_26 X O dX4_follow_8 ?_
  refine lv_iadd hx hb dX4_follow_11 ?_
  exact q_iret X O hw dX4_follow_12
-- X4_follow, on kind 2
abbrev rm_X4_follow_k2 : Room := { frames := 1, cells := 0, slots := 0, locals := 21 }
def wp_X4_follow_k2 (a2 : Int32) (u : St) (Post : Int32 → St → Prop) : Prop := wp_X0_begin (12 : Int32) u (fun _ u3 => Post (a2 + (u3 25 5)) u3)
set_option maxHeartbeats 4000000 in
set_option maxRecDepth 100000 in
theorem c_X4_follow_k2 {a2 : Int32} {l : Launch} {D : va_G} {b : Nat → ClassId} {h : Nat → Nat} {u : St} {Post : Int32 → St → Prop} (hw : wp_X4_follow_k2 a2 u Post) : CtI l yX4_follow cX4_follow 3 (some .int) rm_X4_follow_k2 D (tyF b) 46 (gF b h) h [.ref (h 30), .ref (h 25), .int a2] u Post := by
  refine CtI.of (plainFor_of_name (by decide)) (Nat.le_of_ble_eq_true rfl) ?_
  intro p e s m below meth c A ls X hA O hl
  have X : Cx p s m _ meth c cX4_follow 3 (some .int) RX4 D (tyF b) A := X
  obtain ⟨⟨hx, hb, hml, hown, hts⟩, hK, hNs, hlocks, hr⟩ := id X
  have hl : lv_has ls 3 [(0, .ref (h 30)), (1, .ref (h 25)), (2, .int a2)] := hl
  unfold wp_X4_follow_k2 at hw
  refine lv_aload_n hx hb dX4_follow_0 rfl (lv_at hl 1 rfl) ?_
  refine lv_bipush (v := 12) hx hb dX4_follow_1 (by decide) ?_
  refine q_cvv (rest := []) X O hA 25 (c_X0_begin hw) lk_X4_7 (by decide) rfl rfl rfl rfl rfl rfl ⟨Nat.le_of_ble_eq_true rfl, Nat.le_of_ble_eq_true rfl⟩ (Nat.le_of_ble_eq_true rfl) hl.1 ⟨Nat.zero_le _, Nat.zero_le _⟩ rfl dX4_follow_3 (fun u3 H locs hw O => ?_)
  refine lv_iload_n hx hb dX4_follow_6 rfl (lv_at hl 2 rfl) ?_
  refine lv_aload_n hx hb dX4_follow_7 rfl (lv_at hl 1 rfl) ?_
  refine gt_X4_26 X O dX4_follow_8 ?_
  refine lv_iadd hx hb dX4_follow_11 ?_
  exact q_iret X O hw dX4_follow_12
-- X1_follow, on kind 3
abbrev rm_X1_follow_k3 : Room := { frames := 2, cells := 0, slots := 0, locals := 43 }
def wp_X1_follow_k3 (a2 : Int32) (u : St) (Post : Int32 → St → Prop) : Prop := wp_X0_begin (40 : Int32) u (fun _ u3 => wp_X4_follow_k3 a2 u3 (fun r9 u9 => Post (r9 - (7 : Int32)) u9))
set_option maxHeartbeats 4000000 in
set_option maxRecDepth 100000 in
theorem c_X1_follow_k3 {a2 : Int32} {l : Launch} {D : va_G} {b : Nat → ClassId} {h : Nat → Nat} {u : St} {Post : Int32 → St → Prop} (hw : wp_X1_follow_k3 a2 u Post) : CtI l yX1_follow cX1_follow 3 (some .int) rm_X1_follow_k3 D (tyF b) 46 (gF b h) h [.ref (h 31), .ref (h 25), .int a2] u Post := by
  refine CtI.of (plainFor_of_name (by decide)) (Nat.le_of_ble_eq_true rfl) ?_
  intro p e s m below meth c A ls X hA O hl
  have X : Cx p s m _ meth c cX1_follow 3 (some .int) RX1 D (tyF b) A := X
  obtain ⟨⟨hx, hb, hml, hown, hts⟩, hK, hNs, hlocks, hr⟩ := id X
  have hl : lv_has ls 3 [(0, .ref (h 31)), (1, .ref (h 25)), (2, .int a2)] := hl
  unfold wp_X1_follow_k3 at hw
  refine lv_aload_n hx hb dX1_follow_0 rfl (lv_at hl 1 rfl) ?_
  refine lv_bipush (v := 40) hx hb dX1_follow_1 (by decide) ?_
  refine q_cvv (rest := []) X O hA 25 (c_X0_begin hw) lk_X1_7 (by decide) rfl rfl rfl rfl rfl rfl ⟨Nat.le_of_ble_eq_true rfl, Nat.le_of_ble_eq_true rfl⟩ (Nat.le_of_ble_eq_true rfl) hl.1 ⟨Nat.zero_le _, Nat.zero_le _⟩ rfl dX1_follow_3 (fun u3 H locs hw O => ?_)
  refine lv_aload_n hx hb dX1_follow_6 rfl (lv_at hl 0 rfl) ?_
  refine lv_aload_n hx hb dX1_follow_7 rfl (lv_at hl 1 rfl) ?_
  refine lv_iload_n hx hb dX1_follow_8 rfl (lv_at hl 2 rfl) ?_
  refine q_ciS2 (rest := []) X O hA 31 (c_X4_follow_k3 hw) lkS_X1_13 (by decide) rfl rfl rfl rfl rfl ⟨Nat.le_of_ble_eq_true rfl, Nat.le_of_ble_eq_true rfl⟩ (Nat.le_of_ble_eq_true rfl) hl.1 ⟨Nat.zero_le _, Nat.zero_le _⟩ rfl dX1_follow_9 (fun r9 u9 H locs hw O => ?_)
  refine lv_bipush (v := 7) hx hb dX1_follow_12 (by decide) ?_
  refine lv_isub hx hb dX1_follow_14 ?_
  exact q_iret X O hw dX1_follow_15
-- X4_follow, on kind 4
abbrev rm_X4_follow_k4 : Room := { frames := 1, cells := 0, slots := 0, locals := 21 }
def wp_X4_follow_k4 (a2 : Int32) (u : St) (Post : Int32 → St → Prop) : Prop := wp_X0_begin (12 : Int32) u (fun _ u3 => Post (a2 + (u3 25 5)) u3)
set_option maxHeartbeats 4000000 in
set_option maxRecDepth 100000 in
theorem c_X4_follow_k4 {a2 : Int32} {l : Launch} {D : va_G} {b : Nat → ClassId} {h : Nat → Nat} {u : St} {Post : Int32 → St → Prop} (hw : wp_X4_follow_k4 a2 u Post) : CtI l yX4_follow cX4_follow 3 (some .int) rm_X4_follow_k4 D (tyF b) 46 (gF b h) h [.ref (h 32), .ref (h 25), .int a2] u Post := by
  refine CtI.of (plainFor_of_name (by decide)) (Nat.le_of_ble_eq_true rfl) ?_
  intro p e s m below meth c A ls X hA O hl
  have X : Cx p s m _ meth c cX4_follow 3 (some .int) RX4 D (tyF b) A := X
  obtain ⟨⟨hx, hb, hml, hown, hts⟩, hK, hNs, hlocks, hr⟩ := id X
  have hl : lv_has ls 3 [(0, .ref (h 32)), (1, .ref (h 25)), (2, .int a2)] := hl
  unfold wp_X4_follow_k4 at hw
  refine lv_aload_n hx hb dX4_follow_0 rfl (lv_at hl 1 rfl) ?_
  refine lv_bipush (v := 12) hx hb dX4_follow_1 (by decide) ?_
  refine q_cvv (rest := []) X O hA 25 (c_X0_begin hw) lk_X4_7 (by decide) rfl rfl rfl rfl rfl rfl ⟨Nat.le_of_ble_eq_true rfl, Nat.le_of_ble_eq_true rfl⟩ (Nat.le_of_ble_eq_true rfl) hl.1 ⟨Nat.zero_le _, Nat.zero_le _⟩ rfl dX4_follow_3 (fun u3 H locs hw O => ?_)
  refine lv_iload_n hx hb dX4_follow_6 rfl (lv_at hl 2 rfl) ?_
  refine lv_aload_n hx hb dX4_follow_7 rfl (lv_at hl 1 rfl) ?_
  refine gt_X4_26 X O dX4_follow_8 ?_
  refine lv_iadd hx hb dX4_follow_11 ?_
  exact q_iret X O hw dX4_follow_12
-- X4_tell, on kind 0
abbrev rm_X4_tell_k0 : Room := { frames := 3, cells := 0, slots := 0, locals := 65 }
def wp_X4_tell_k0 (a2 : Int32) (u : St) (Post : Int32 → St → Prop) : Prop := wp_X0_begin (13 : Int32) u (fun _ u3 => wp_X4_weigh_k0 a2 u3 (fun r9 u9 => wp_X4_follow_k0 a2 u9 (fun r15 u15 => Post (r9 - r15) u15)))
set_option maxHeartbeats 4000000 in
set_option maxRecDepth 100000 in
theorem c_X4_tell_k0 {a2 : Int32} {l : Launch} {D : va_G} {b : Nat → ClassId} {h : Nat → Nat} {u : St} {Post : Int32 → St → Prop} (hw : wp_X4_tell_k0 a2 u Post) : CtI l yX4_tell cX4_tell 3 (some .int) rm_X4_tell_k0 D (tyF b) 46 (gF b h) h [.ref (h 28), .ref (h 25), .int a2] u Post := by
  refine CtI.of (plainFor_of_name (by decide)) (Nat.le_of_ble_eq_true rfl) ?_
  intro p e s m below meth c A ls X hA O hl
  have X : Cx p s m _ meth c cX4_tell 3 (some .int) RX4 D (tyF b) A := X
  obtain ⟨⟨hx, hb, hml, hown, hts⟩, hK, hNs, hlocks, hr⟩ := id X
  have hl : lv_has ls 3 [(0, .ref (h 28)), (1, .ref (h 25)), (2, .int a2)] := hl
  unfold wp_X4_tell_k0 at hw
  refine lv_aload_n hx hb dX4_tell_0 rfl (lv_at hl 1 rfl) ?_
  refine lv_bipush (v := 13) hx hb dX4_tell_1 (by decide) ?_
  refine q_cvv (rest := []) X O hA 25 (c_X0_begin hw) lk_X4_7 (by decide) rfl rfl rfl rfl rfl rfl ⟨Nat.le_of_ble_eq_true rfl, Nat.le_of_ble_eq_true rfl⟩ (Nat.le_of_ble_eq_true rfl) hl.1 ⟨Nat.zero_le _, Nat.zero_le _⟩ rfl dX4_tell_3 (fun u3 H locs hw O => ?_)
  refine lv_aload_n hx hb dX4_tell_6 rfl (lv_at hl 0 rfl) ?_
  refine lv_aload_n hx hb dX4_tell_7 rfl (lv_at hl 1 rfl) ?_
  refine lv_iload_n hx hb dX4_tell_8 rfl (lv_at hl 2 rfl) ?_
  refine q_ciU (rest := []) X O hA 28 (c_X4_weigh_k0 hw) lkU_X4_29_0 (by decide) rfl rfl rfl rfl rfl rfl ⟨Nat.le_of_ble_eq_true rfl, Nat.le_of_ble_eq_true rfl⟩ (Nat.le_of_ble_eq_true rfl) hl.1 ⟨Nat.zero_le _, Nat.zero_le _⟩ rfl dX4_tell_9 (fun r9 u9 H locs hw O => ?_)
  refine lv_aload_n hx hb dX4_tell_12 rfl (lv_at hl 0 rfl) ?_
  refine lv_aload_n hx hb dX4_tell_13 rfl (lv_at hl 1 rfl) ?_
  refine lv_iload_n hx hb dX4_tell_14 rfl (lv_at hl 2 rfl) ?_
  refine q_ciU (rest := [.int r9]) X O hA 28 (c_X4_follow_k0 hw) lkU_X4_32_0 (by decide) rfl rfl rfl rfl rfl rfl ⟨Nat.le_of_ble_eq_true rfl, Nat.le_of_ble_eq_true rfl⟩ (Nat.le_of_ble_eq_true rfl) hl.1 ⟨Nat.zero_le _, Nat.zero_le _⟩ rfl dX4_tell_15 (fun r15 u15 H locs hw O => ?_)
  refine lv_isub hx hb dX4_tell_18 ?_
  exact q_iret X O hw dX4_tell_19
-- X4_tell, on kind 1
abbrev rm_X4_tell_k1 : Room := { frames := 4, cells := 0, slots := 0, locals := 87 }
def wp_X4_tell_k1 (a2 : Int32) (u : St) (Post : Int32 → St → Prop) : Prop := wp_X0_begin (13 : Int32) u (fun _ u3 => wp_X4_weigh_k1 a2 u3 (fun r9 u9 => wp_X4_follow_k1 a2 u9 (fun r15 u15 => Post (r9 - r15) u15)))
set_option maxHeartbeats 4000000 in
set_option maxRecDepth 100000 in
theorem c_X4_tell_k1 {a2 : Int32} {l : Launch} {D : va_G} {b : Nat → ClassId} {h : Nat → Nat} {u : St} {Post : Int32 → St → Prop} (hw : wp_X4_tell_k1 a2 u Post) : CtI l yX4_tell cX4_tell 3 (some .int) rm_X4_tell_k1 D (tyF b) 46 (gF b h) h [.ref (h 29), .ref (h 25), .int a2] u Post := by
  refine CtI.of (plainFor_of_name (by decide)) (Nat.le_of_ble_eq_true rfl) ?_
  intro p e s m below meth c A ls X hA O hl
  have X : Cx p s m _ meth c cX4_tell 3 (some .int) RX4 D (tyF b) A := X
  obtain ⟨⟨hx, hb, hml, hown, hts⟩, hK, hNs, hlocks, hr⟩ := id X
  have hl : lv_has ls 3 [(0, .ref (h 29)), (1, .ref (h 25)), (2, .int a2)] := hl
  unfold wp_X4_tell_k1 at hw
  refine lv_aload_n hx hb dX4_tell_0 rfl (lv_at hl 1 rfl) ?_
  refine lv_bipush (v := 13) hx hb dX4_tell_1 (by decide) ?_
  refine q_cvv (rest := []) X O hA 25 (c_X0_begin hw) lk_X4_7 (by decide) rfl rfl rfl rfl rfl rfl ⟨Nat.le_of_ble_eq_true rfl, Nat.le_of_ble_eq_true rfl⟩ (Nat.le_of_ble_eq_true rfl) hl.1 ⟨Nat.zero_le _, Nat.zero_le _⟩ rfl dX4_tell_3 (fun u3 H locs hw O => ?_)
  refine lv_aload_n hx hb dX4_tell_6 rfl (lv_at hl 0 rfl) ?_
  refine lv_aload_n hx hb dX4_tell_7 rfl (lv_at hl 1 rfl) ?_
  refine lv_iload_n hx hb dX4_tell_8 rfl (lv_at hl 2 rfl) ?_
  refine q_ciU (rest := []) X O hA 29 (c_X4_weigh_k1 hw) lkU_X4_29_1 (by decide) rfl rfl rfl rfl rfl rfl ⟨Nat.le_of_ble_eq_true rfl, Nat.le_of_ble_eq_true rfl⟩ (Nat.le_of_ble_eq_true rfl) hl.1 ⟨Nat.zero_le _, Nat.zero_le _⟩ rfl dX4_tell_9 (fun r9 u9 H locs hw O => ?_)
  refine lv_aload_n hx hb dX4_tell_12 rfl (lv_at hl 0 rfl) ?_
  refine lv_aload_n hx hb dX4_tell_13 rfl (lv_at hl 1 rfl) ?_
  refine lv_iload_n hx hb dX4_tell_14 rfl (lv_at hl 2 rfl) ?_
  refine q_ciU (rest := [.int r9]) X O hA 29 (c_X4_follow_k1 hw) lkU_X4_32_1 (by decide) rfl rfl rfl rfl rfl rfl ⟨Nat.le_of_ble_eq_true rfl, Nat.le_of_ble_eq_true rfl⟩ (Nat.le_of_ble_eq_true rfl) hl.1 ⟨Nat.zero_le _, Nat.zero_le _⟩ rfl dX4_tell_15 (fun r15 u15 H locs hw O => ?_)
  refine lv_isub hx hb dX4_tell_18 ?_
  exact q_iret X O hw dX4_tell_19
-- X9_tell, on kind 1
abbrev rm_X9_tell_k1 : Room := { frames := 5, cells := 0, slots := 0, locals := 109 }
def wp_X9_tell_k1 (a2 : Int32) (u : St) (Post : Int32 → St → Prop) : Prop := wp_X0_begin (21 : Int32) u (fun _ u3 => wp_X4_tell_k1 (a2 + (1 : Int32)) u3 (fun r11 u11 => Post (r11 ^^^ (3 : Int32)) u11))
set_option maxHeartbeats 4000000 in
set_option maxRecDepth 100000 in
theorem c_X9_tell_k1 {a2 : Int32} {l : Launch} {D : va_G} {b : Nat → ClassId} {h : Nat → Nat} {u : St} {Post : Int32 → St → Prop} (hw : wp_X9_tell_k1 a2 u Post) : CtI l yX9_tell cX9_tell 3 (some .int) rm_X9_tell_k1 D (tyF b) 46 (gF b h) h [.ref (h 29), .ref (h 25), .int a2] u Post := by
  refine CtI.of (plainFor_of_name (by decide)) (Nat.le_of_ble_eq_true rfl) ?_
  intro p e s m below meth c A ls X hA O hl
  have X : Cx p s m _ meth c cX9_tell 3 (some .int) RX9 D (tyF b) A := X
  obtain ⟨⟨hx, hb, hml, hown, hts⟩, hK, hNs, hlocks, hr⟩ := id X
  have hl : lv_has ls 3 [(0, .ref (h 29)), (1, .ref (h 25)), (2, .int a2)] := hl
  unfold wp_X9_tell_k1 at hw
  refine lv_aload_n hx hb dX9_tell_0 rfl (lv_at hl 1 rfl) ?_
  refine lv_bipush (v := 21) hx hb dX9_tell_1 (by decide) ?_
  refine q_cvv (rest := []) X O hA 25 (c_X0_begin hw) lk_X9_7 (by decide) rfl rfl rfl rfl rfl rfl ⟨Nat.le_of_ble_eq_true rfl, Nat.le_of_ble_eq_true rfl⟩ (Nat.le_of_ble_eq_true rfl) hl.1 ⟨Nat.zero_le _, Nat.zero_le _⟩ rfl dX9_tell_3 (fun u3 H locs hw O => ?_)
  refine lv_aload_n hx hb dX9_tell_6 rfl (lv_at hl 0 rfl) ?_
  refine lv_aload_n hx hb dX9_tell_7 rfl (lv_at hl 1 rfl) ?_
  refine lv_iload_n hx hb dX9_tell_8 rfl (lv_at hl 2 rfl) ?_
  refine lv_iconst (v := 1) hx hb dX9_tell_9 (by decide) ?_
  refine lv_iadd hx hb dX9_tell_10 ?_
  refine q_ciSU (rest := []) X O hA 29 (c_X4_tell_k1 hw) lkS_X9_17 (by decide) rfl rfl rfl rfl rfl ⟨Nat.le_of_ble_eq_true rfl, Nat.le_of_ble_eq_true rfl⟩ (Nat.le_of_ble_eq_true rfl) hl.1 ⟨Nat.zero_le _, Nat.zero_le _⟩ rfl dX9_tell_11 (fun r11 u11 H locs hw O => ?_)
  refine lv_iconst (v := 3) hx hb dX9_tell_14 (by decide) ?_
  refine lv_ixor hx hb dX9_tell_15 ?_
  exact q_iret X O hw dX9_tell_16
-- X4_tell, on kind 2
abbrev rm_X4_tell_k2 : Room := { frames := 4, cells := 0, slots := 0, locals := 87 }
def wp_X4_tell_k2 (a2 : Int32) (u : St) (Post : Int32 → St → Prop) : Prop := wp_X0_begin (13 : Int32) u (fun _ u3 => wp_X3_weigh_k2 a2 u3 (fun r9 u9 => wp_X4_follow_k2 a2 u9 (fun r15 u15 => Post (r9 - r15) u15)))
set_option maxHeartbeats 4000000 in
set_option maxRecDepth 100000 in
theorem c_X4_tell_k2 {a2 : Int32} {l : Launch} {D : va_G} {b : Nat → ClassId} {h : Nat → Nat} {u : St} {Post : Int32 → St → Prop} (hw : wp_X4_tell_k2 a2 u Post) : CtI l yX4_tell cX4_tell 3 (some .int) rm_X4_tell_k2 D (tyF b) 46 (gF b h) h [.ref (h 30), .ref (h 25), .int a2] u Post := by
  refine CtI.of (plainFor_of_name (by decide)) (Nat.le_of_ble_eq_true rfl) ?_
  intro p e s m below meth c A ls X hA O hl
  have X : Cx p s m _ meth c cX4_tell 3 (some .int) RX4 D (tyF b) A := X
  obtain ⟨⟨hx, hb, hml, hown, hts⟩, hK, hNs, hlocks, hr⟩ := id X
  have hl : lv_has ls 3 [(0, .ref (h 30)), (1, .ref (h 25)), (2, .int a2)] := hl
  unfold wp_X4_tell_k2 at hw
  refine lv_aload_n hx hb dX4_tell_0 rfl (lv_at hl 1 rfl) ?_
  refine lv_bipush (v := 13) hx hb dX4_tell_1 (by decide) ?_
  refine q_cvv (rest := []) X O hA 25 (c_X0_begin hw) lk_X4_7 (by decide) rfl rfl rfl rfl rfl rfl ⟨Nat.le_of_ble_eq_true rfl, Nat.le_of_ble_eq_true rfl⟩ (Nat.le_of_ble_eq_true rfl) hl.1 ⟨Nat.zero_le _, Nat.zero_le _⟩ rfl dX4_tell_3 (fun u3 H locs hw O => ?_)
  refine lv_aload_n hx hb dX4_tell_6 rfl (lv_at hl 0 rfl) ?_
  refine lv_aload_n hx hb dX4_tell_7 rfl (lv_at hl 1 rfl) ?_
  refine lv_iload_n hx hb dX4_tell_8 rfl (lv_at hl 2 rfl) ?_
  refine q_ciU (rest := []) X O hA 30 (c_X3_weigh_k2 hw) lkU_X4_29_2 (by decide) rfl rfl rfl rfl rfl rfl ⟨Nat.le_of_ble_eq_true rfl, Nat.le_of_ble_eq_true rfl⟩ (Nat.le_of_ble_eq_true rfl) hl.1 ⟨Nat.zero_le _, Nat.zero_le _⟩ rfl dX4_tell_9 (fun r9 u9 H locs hw O => ?_)
  refine lv_aload_n hx hb dX4_tell_12 rfl (lv_at hl 0 rfl) ?_
  refine lv_aload_n hx hb dX4_tell_13 rfl (lv_at hl 1 rfl) ?_
  refine lv_iload_n hx hb dX4_tell_14 rfl (lv_at hl 2 rfl) ?_
  refine q_ciU (rest := [.int r9]) X O hA 30 (c_X4_follow_k2 hw) lkU_X4_32_2 (by decide) rfl rfl rfl rfl rfl rfl ⟨Nat.le_of_ble_eq_true rfl, Nat.le_of_ble_eq_true rfl⟩ (Nat.le_of_ble_eq_true rfl) hl.1 ⟨Nat.zero_le _, Nat.zero_le _⟩ rfl dX4_tell_15 (fun r15 u15 H locs hw O => ?_)
  refine lv_isub hx hb dX4_tell_18 ?_
  exact q_iret X O hw dX4_tell_19
-- X4_tell, on kind 3
abbrev rm_X4_tell_k3 : Room := { frames := 5, cells := 0, slots := 0, locals := 109 }
def wp_X4_tell_k3 (a2 : Int32) (u : St) (Post : Int32 → St → Prop) : Prop := wp_X0_begin (13 : Int32) u (fun _ u3 => wp_X4_weigh_k3 a2 u3 (fun r9 u9 => wp_X1_follow_k3 a2 u9 (fun r15 u15 => Post (r9 - r15) u15)))
set_option maxHeartbeats 4000000 in
set_option maxRecDepth 100000 in
theorem c_X4_tell_k3 {a2 : Int32} {l : Launch} {D : va_G} {b : Nat → ClassId} {h : Nat → Nat} {u : St} {Post : Int32 → St → Prop} (hw : wp_X4_tell_k3 a2 u Post) : CtI l yX4_tell cX4_tell 3 (some .int) rm_X4_tell_k3 D (tyF b) 46 (gF b h) h [.ref (h 31), .ref (h 25), .int a2] u Post := by
  refine CtI.of (plainFor_of_name (by decide)) (Nat.le_of_ble_eq_true rfl) ?_
  intro p e s m below meth c A ls X hA O hl
  have X : Cx p s m _ meth c cX4_tell 3 (some .int) RX4 D (tyF b) A := X
  obtain ⟨⟨hx, hb, hml, hown, hts⟩, hK, hNs, hlocks, hr⟩ := id X
  have hl : lv_has ls 3 [(0, .ref (h 31)), (1, .ref (h 25)), (2, .int a2)] := hl
  unfold wp_X4_tell_k3 at hw
  refine lv_aload_n hx hb dX4_tell_0 rfl (lv_at hl 1 rfl) ?_
  refine lv_bipush (v := 13) hx hb dX4_tell_1 (by decide) ?_
  refine q_cvv (rest := []) X O hA 25 (c_X0_begin hw) lk_X4_7 (by decide) rfl rfl rfl rfl rfl rfl ⟨Nat.le_of_ble_eq_true rfl, Nat.le_of_ble_eq_true rfl⟩ (Nat.le_of_ble_eq_true rfl) hl.1 ⟨Nat.zero_le _, Nat.zero_le _⟩ rfl dX4_tell_3 (fun u3 H locs hw O => ?_)
  refine lv_aload_n hx hb dX4_tell_6 rfl (lv_at hl 0 rfl) ?_
  refine lv_aload_n hx hb dX4_tell_7 rfl (lv_at hl 1 rfl) ?_
  refine lv_iload_n hx hb dX4_tell_8 rfl (lv_at hl 2 rfl) ?_
  refine q_ciU (rest := []) X O hA 31 (c_X4_weigh_k3 hw) lkU_X4_29_3 (by decide) rfl rfl rfl rfl rfl rfl ⟨Nat.le_of_ble_eq_true rfl, Nat.le_of_ble_eq_true rfl⟩ (Nat.le_of_ble_eq_true rfl) hl.1 ⟨Nat.zero_le _, Nat.zero_le _⟩ rfl dX4_tell_9 (fun r9 u9 H locs hw O => ?_)
  refine lv_aload_n hx hb dX4_tell_12 rfl (lv_at hl 0 rfl) ?_
  refine lv_aload_n hx hb dX4_tell_13 rfl (lv_at hl 1 rfl) ?_
  refine lv_iload_n hx hb dX4_tell_14 rfl (lv_at hl 2 rfl) ?_
  refine q_ciU (rest := [.int r9]) X O hA 31 (c_X1_follow_k3 hw) lkU_X4_32_3 (by decide) rfl rfl rfl rfl rfl rfl ⟨Nat.le_of_ble_eq_true rfl, Nat.le_of_ble_eq_true rfl⟩ (Nat.le_of_ble_eq_true rfl) hl.1 ⟨Nat.zero_le _, Nat.zero_le _⟩ rfl dX4_tell_15 (fun r15 u15 H locs hw O => ?_)
  refine lv_isub hx hb dX4_tell_18 ?_
  exact q_iret X O hw dX4_tell_19
-- X9_tell, on kind 3
abbrev rm_X9_tell_k3 : Room := { frames := 6, cells := 0, slots := 0, locals := 131 }
def wp_X9_tell_k3 (a2 : Int32) (u : St) (Post : Int32 → St → Prop) : Prop := wp_X0_begin (21 : Int32) u (fun _ u3 => wp_X4_tell_k3 (a2 + (1 : Int32)) u3 (fun r11 u11 => Post (r11 ^^^ (3 : Int32)) u11))
set_option maxHeartbeats 4000000 in
set_option maxRecDepth 100000 in
theorem c_X9_tell_k3 {a2 : Int32} {l : Launch} {D : va_G} {b : Nat → ClassId} {h : Nat → Nat} {u : St} {Post : Int32 → St → Prop} (hw : wp_X9_tell_k3 a2 u Post) : CtI l yX9_tell cX9_tell 3 (some .int) rm_X9_tell_k3 D (tyF b) 46 (gF b h) h [.ref (h 31), .ref (h 25), .int a2] u Post := by
  refine CtI.of (plainFor_of_name (by decide)) (Nat.le_of_ble_eq_true rfl) ?_
  intro p e s m below meth c A ls X hA O hl
  have X : Cx p s m _ meth c cX9_tell 3 (some .int) RX9 D (tyF b) A := X
  obtain ⟨⟨hx, hb, hml, hown, hts⟩, hK, hNs, hlocks, hr⟩ := id X
  have hl : lv_has ls 3 [(0, .ref (h 31)), (1, .ref (h 25)), (2, .int a2)] := hl
  unfold wp_X9_tell_k3 at hw
  refine lv_aload_n hx hb dX9_tell_0 rfl (lv_at hl 1 rfl) ?_
  refine lv_bipush (v := 21) hx hb dX9_tell_1 (by decide) ?_
  refine q_cvv (rest := []) X O hA 25 (c_X0_begin hw) lk_X9_7 (by decide) rfl rfl rfl rfl rfl rfl ⟨Nat.le_of_ble_eq_true rfl, Nat.le_of_ble_eq_true rfl⟩ (Nat.le_of_ble_eq_true rfl) hl.1 ⟨Nat.zero_le _, Nat.zero_le _⟩ rfl dX9_tell_3 (fun u3 H locs hw O => ?_)
  refine lv_aload_n hx hb dX9_tell_6 rfl (lv_at hl 0 rfl) ?_
  refine lv_aload_n hx hb dX9_tell_7 rfl (lv_at hl 1 rfl) ?_
  refine lv_iload_n hx hb dX9_tell_8 rfl (lv_at hl 2 rfl) ?_
  refine lv_iconst (v := 1) hx hb dX9_tell_9 (by decide) ?_
  refine lv_iadd hx hb dX9_tell_10 ?_
  refine q_ciSU (rest := []) X O hA 31 (c_X4_tell_k3 hw) lkS_X9_17 (by decide) rfl rfl rfl rfl rfl ⟨Nat.le_of_ble_eq_true rfl, Nat.le_of_ble_eq_true rfl⟩ (Nat.le_of_ble_eq_true rfl) hl.1 ⟨Nat.zero_le _, Nat.zero_le _⟩ rfl dX9_tell_11 (fun r11 u11 H locs hw O => ?_)
  refine lv_iconst (v := 3) hx hb dX9_tell_14 (by decide) ?_
  refine lv_ixor hx hb dX9_tell_15 ?_
  exact q_iret X O hw dX9_tell_16
-- X4_tell, on kind 4
abbrev rm_X4_tell_k4 : Room := { frames := 4, cells := 0, slots := 0, locals := 87 }
def wp_X4_tell_k4 (a2 : Int32) (u : St) (Post : Int32 → St → Prop) : Prop := wp_X0_begin (13 : Int32) u (fun _ u3 => wp_X4_weigh_k4 a2 u3 (fun r9 u9 => wp_X4_follow_k4 a2 u9 (fun r15 u15 => Post (r9 - r15) u15)))
set_option maxHeartbeats 4000000 in
set_option maxRecDepth 100000 in
theorem c_X4_tell_k4 {a2 : Int32} {l : Launch} {D : va_G} {b : Nat → ClassId} {h : Nat → Nat} {u : St} {Post : Int32 → St → Prop} (hw : wp_X4_tell_k4 a2 u Post) : CtI l yX4_tell cX4_tell 3 (some .int) rm_X4_tell_k4 D (tyF b) 46 (gF b h) h [.ref (h 32), .ref (h 25), .int a2] u Post := by
  refine CtI.of (plainFor_of_name (by decide)) (Nat.le_of_ble_eq_true rfl) ?_
  intro p e s m below meth c A ls X hA O hl
  have X : Cx p s m _ meth c cX4_tell 3 (some .int) RX4 D (tyF b) A := X
  obtain ⟨⟨hx, hb, hml, hown, hts⟩, hK, hNs, hlocks, hr⟩ := id X
  have hl : lv_has ls 3 [(0, .ref (h 32)), (1, .ref (h 25)), (2, .int a2)] := hl
  unfold wp_X4_tell_k4 at hw
  refine lv_aload_n hx hb dX4_tell_0 rfl (lv_at hl 1 rfl) ?_
  refine lv_bipush (v := 13) hx hb dX4_tell_1 (by decide) ?_
  refine q_cvv (rest := []) X O hA 25 (c_X0_begin hw) lk_X4_7 (by decide) rfl rfl rfl rfl rfl rfl ⟨Nat.le_of_ble_eq_true rfl, Nat.le_of_ble_eq_true rfl⟩ (Nat.le_of_ble_eq_true rfl) hl.1 ⟨Nat.zero_le _, Nat.zero_le _⟩ rfl dX4_tell_3 (fun u3 H locs hw O => ?_)
  refine lv_aload_n hx hb dX4_tell_6 rfl (lv_at hl 0 rfl) ?_
  refine lv_aload_n hx hb dX4_tell_7 rfl (lv_at hl 1 rfl) ?_
  refine lv_iload_n hx hb dX4_tell_8 rfl (lv_at hl 2 rfl) ?_
  refine q_ciU (rest := []) X O hA 32 (c_X4_weigh_k4 hw) lkU_X4_29_4 (by decide) rfl rfl rfl rfl rfl rfl ⟨Nat.le_of_ble_eq_true rfl, Nat.le_of_ble_eq_true rfl⟩ (Nat.le_of_ble_eq_true rfl) hl.1 ⟨Nat.zero_le _, Nat.zero_le _⟩ rfl dX4_tell_9 (fun r9 u9 H locs hw O => ?_)
  refine lv_aload_n hx hb dX4_tell_12 rfl (lv_at hl 0 rfl) ?_
  refine lv_aload_n hx hb dX4_tell_13 rfl (lv_at hl 1 rfl) ?_
  refine lv_iload_n hx hb dX4_tell_14 rfl (lv_at hl 2 rfl) ?_
  refine q_ciU (rest := [.int r9]) X O hA 32 (c_X4_follow_k4 hw) lkU_X4_32_4 (by decide) rfl rfl rfl rfl rfl rfl ⟨Nat.le_of_ble_eq_true rfl, Nat.le_of_ble_eq_true rfl⟩ (Nat.le_of_ble_eq_true rfl) hl.1 ⟨Nat.zero_le _, Nat.zero_le _⟩ rfl dX4_tell_15 (fun r15 u15 H locs hw O => ?_)
  refine lv_isub hx hb dX4_tell_18 ?_
  exact q_iret X O hw dX4_tell_19
-- X5_tell, on kind 4
abbrev rm_X5_tell_k4 : Room := { frames := 5, cells := 0, slots := 0, locals := 109 }
def wp_X5_tell_k4 (a2 : Int32) (u : St) (Post : Int32 → St → Prop) : Prop := wp_X0_begin (51 : Int32) u (fun _ u3 => wp_X4_follow_k4 a2 u3 (fun r9 u9 => wp_X4_tell_k4 a2 u9 (fun r15 u15 => Post (r9 * r15) u15)))
set_option maxHeartbeats 4000000 in
set_option maxRecDepth 100000 in
theorem c_X5_tell_k4 {a2 : Int32} {l : Launch} {D : va_G} {b : Nat → ClassId} {h : Nat → Nat} {u : St} {Post : Int32 → St → Prop} (hw : wp_X5_tell_k4 a2 u Post) : CtI l yX5_tell cX5_tell 3 (some .int) rm_X5_tell_k4 D (tyF b) 46 (gF b h) h [.ref (h 32), .ref (h 25), .int a2] u Post := by
  refine CtI.of (plainFor_of_name (by decide)) (Nat.le_of_ble_eq_true rfl) ?_
  intro p e s m below meth c A ls X hA O hl
  have X : Cx p s m _ meth c cX5_tell 3 (some .int) RX5 D (tyF b) A := X
  obtain ⟨⟨hx, hb, hml, hown, hts⟩, hK, hNs, hlocks, hr⟩ := id X
  have hl : lv_has ls 3 [(0, .ref (h 32)), (1, .ref (h 25)), (2, .int a2)] := hl
  unfold wp_X5_tell_k4 at hw
  refine lv_aload_n hx hb dX5_tell_0 rfl (lv_at hl 1 rfl) ?_
  refine lv_bipush (v := 51) hx hb dX5_tell_1 (by decide) ?_
  refine q_cvv (rest := []) X O hA 25 (c_X0_begin hw) lk_X5_7 (by decide) rfl rfl rfl rfl rfl rfl ⟨Nat.le_of_ble_eq_true rfl, Nat.le_of_ble_eq_true rfl⟩ (Nat.le_of_ble_eq_true rfl) hl.1 ⟨Nat.zero_le _, Nat.zero_le _⟩ rfl dX5_tell_3 (fun u3 H locs hw O => ?_)
  refine lv_aload_n hx hb dX5_tell_6 rfl (lv_at hl 0 rfl) ?_
  refine lv_aload_n hx hb dX5_tell_7 rfl (lv_at hl 1 rfl) ?_
  refine lv_iload_n hx hb dX5_tell_8 rfl (lv_at hl 2 rfl) ?_
  refine q_ciU (rest := []) X O hA 32 (c_X4_follow_k4 hw) lkU_X5_21_4 (by decide) rfl rfl rfl rfl rfl rfl ⟨Nat.le_of_ble_eq_true rfl, Nat.le_of_ble_eq_true rfl⟩ (Nat.le_of_ble_eq_true rfl) hl.1 ⟨Nat.zero_le _, Nat.zero_le _⟩ rfl dX5_tell_9 (fun r9 u9 H locs hw O => ?_)
  refine lv_aload_n hx hb dX5_tell_12 rfl (lv_at hl 0 rfl) ?_
  refine lv_aload_n hx hb dX5_tell_13 rfl (lv_at hl 1 rfl) ?_
  refine lv_iload_n hx hb dX5_tell_14 rfl (lv_at hl 2 rfl) ?_
  refine q_ciSU (rest := [.int r9]) X O hA 32 (c_X4_tell_k4 hw) lkS_X5_26 (by decide) rfl rfl rfl rfl rfl ⟨Nat.le_of_ble_eq_true rfl, Nat.le_of_ble_eq_true rfl⟩ (Nat.le_of_ble_eq_true rfl) hl.1 ⟨Nat.zero_le _, Nat.zero_le _⟩ rfl dX5_tell_15 (fun r15 u15 H locs hw O => ?_)
  refine lv_imul hx hb dX5_tell_18 ?_
  exact q_iret X O hw dX5_tell_19
-- FellersOrder.act(III)I
abbrev rm_X11_act : Room := { frames := 7, cells := 0, slots := 0, locals := 153 }
def wp_X11_act (a1 : Int32) (a2 : Int32) (a3 : Int32) (u : St) (Post : Int32 → St → Prop) : Prop := wp_X10_has a1 u (fun r5 u5 => ((r5 = 0) → (wp_X11_refused (1 : Int32) u5 (fun r22 u22 => Post r22 u22))) ∧ ((¬ r5 = 0) → (((a2 < 0) → (wp_X11_refused (1 : Int32) u5 (fun r22 u22 => Post r22 u22))) ∧ ((¬ a2 < 0) → (((a2 ≤ (3 : Int32)) → (wp_X0_take a1 u5 (fun _ u35 => wp_X10_kindOf a1 u35 (fun r47 u47 => vp_in r47 5 ∧ ((a2 = 0 → ((r47 = 0 → (wp_X4_last_k0 a3 u47 (fun r88 u88 => wp_X11_done r88 u88 (fun r91 u91 => Post r91 u91)))) ∧ (r47 = 1 → (wp_X9_last_k1 a3 u47 (fun r88 u88 => wp_X11_done r88 u88 (fun r91 u91 => Post r91 u91)))) ∧ (r47 = 2 → (wp_X4_last_k2 a3 u47 (fun r88 u88 => wp_X11_done r88 u88 (fun r91 u91 => Post r91 u91)))) ∧ (r47 = 3 → (wp_X1_last_k3 a3 u47 (fun r88 u88 => wp_X11_done r88 u88 (fun r91 u91 => Post r91 u91)))) ∧ (r47 = 4 → (wp_X5_last_k4 a3 u47 (fun r88 u88 => wp_X11_done r88 u88 (fun r91 u91 => Post r91 u91)))))) ∧ (a2 = 1 → ((r47 = 0 → (wp_X4_weigh_k0 a3 u47 (fun r103 u103 => wp_X11_done r103 u103 (fun r106 u106 => Post r106 u106)))) ∧ (r47 = 1 → (wp_X4_weigh_k1 a3 u47 (fun r103 u103 => wp_X11_done r103 u103 (fun r106 u106 => Post r106 u106)))) ∧ (r47 = 2 → (wp_X3_weigh_k2 a3 u47 (fun r103 u103 => wp_X11_done r103 u103 (fun r106 u106 => Post r106 u106)))) ∧ (r47 = 3 → (wp_X4_weigh_k3 a3 u47 (fun r103 u103 => wp_X11_done r103 u103 (fun r106 u106 => Post r106 u106)))) ∧ (r47 = 4 → (wp_X4_weigh_k4 a3 u47 (fun r103 u103 => wp_X11_done r103 u103 (fun r106 u106 => Post r106 u106)))))) ∧ (a2 = 2 → ((r47 = 0 → (wp_X4_follow_k0 a3 u47 (fun r118 u118 => wp_X11_done r118 u118 (fun r121 u121 => Post r121 u121)))) ∧ (r47 = 1 → (wp_X4_follow_k1 a3 u47 (fun r118 u118 => wp_X11_done r118 u118 (fun r121 u121 => Post r121 u121)))) ∧ (r47 = 2 → (wp_X4_follow_k2 a3 u47 (fun r118 u118 => wp_X11_done r118 u118 (fun r121 u121 => Post r121 u121)))) ∧ (r47 = 3 → (wp_X1_follow_k3 a3 u47 (fun r118 u118 => wp_X11_done r118 u118 (fun r121 u121 => Post r121 u121)))) ∧ (r47 = 4 → (wp_X4_follow_k4 a3 u47 (fun r118 u118 => wp_X11_done r118 u118 (fun r121 u121 => Post r121 u121)))))) ∧ (¬ a2 = 0 → ¬ a2 = 1 → ¬ a2 = 2 → ((r47 = 0 → (wp_X4_tell_k0 a3 u47 (fun r133 u133 => wp_X11_done r133 u133 (fun r136 u136 => Post r136 u136)))) ∧ (r47 = 1 → (wp_X9_tell_k1 a3 u47 (fun r133 u133 => wp_X11_done r133 u133 (fun r136 u136 => Post r136 u136)))) ∧ (r47 = 2 → (wp_X4_tell_k2 a3 u47 (fun r133 u133 => wp_X11_done r133 u133 (fun r136 u136 => Post r136 u136)))) ∧ (r47 = 3 → (wp_X9_tell_k3 a3 u47 (fun r133 u133 => wp_X11_done r133 u133 (fun r136 u136 => Post r136 u136)))) ∧ (r47 = 4 → (wp_X5_tell_k4 a3 u47 (fun r133 u133 => wp_X11_done r133 u133 (fun r136 u136 => Post r136 u136))))))))))) ∧ ((¬ a2 ≤ (3 : Int32)) → (wp_X11_refused (1 : Int32) u5 (fun r22 u22 => Post r22 u22))))))))
set_option maxHeartbeats 4000000 in
set_option maxRecDepth 100000 in
theorem c_X11_act {a1 : Int32} {a2 : Int32} {a3 : Int32} {l : Launch} {D : va_G} {b : Nat → ClassId} {h : Nat → Nat} {u : St} {Post : Int32 → St → Prop} (hw : wp_X11_act a1 a2 a3 u Post) : CtI l yX11_act cX11_act 5 (some .int) rm_X11_act D (tyF b) 46 (gF b h) h [.ref (h 0), .int a1, .int a2, .int a3] u Post := by
  refine CtI.of (plainFor_of_name (by decide)) (Nat.le_of_ble_eq_true rfl) ?_
  intro p e s m below meth c A ls X hA O hl
  have X : Cx p s m _ meth c cX11_act 5 (some .int) RX11 D (tyF b) A := X
  obtain ⟨⟨hx, hb, hml, hown, hts⟩, hK, hNs, hlocks, hr⟩ := id X
  have hl : lv_has ls 5 [(0, .ref (h 0)), (1, .int a1), (2, .int a2), (3, .int a3)] := hl
  unfold wp_X11_act at hw
  refine lv_aload_n hx hb dX11_act_0 rfl (lv_at hl 0 rfl) ?_
  refine gt_X11_10 X O dX11_act_1 ?_
  refine lv_iload_n hx hb dX11_act_4 rfl (lv_at hl 1 rfl) ?_
  refine q_civ (rest := []) X O hA 1 (c_X10_has hw) lk_X11_93 (by decide) rfl rfl rfl rfl rfl rfl ⟨Nat.le_of_ble_eq_true rfl, Nat.le_of_ble_eq_true rfl⟩ (Nat.le_of_ble_eq_true rfl) hl.1 ⟨Nat.zero_le _, Nat.zero_le _⟩ rfl dX11_act_5 (fun r5 u5 H locs hw O => ?_)
  refine lv_if_eq (tgt := 20) hx hb dX11_act_8 (by decide) (fun c8 => ?_) (fun c8 => ?_)
  · have hw := hw.1 c8
    refine lv_aload_n hx hb dX11_act_20 rfl (lv_at hl 0 rfl) ?_
    refine lv_iconst (v := 1) hx hb dX11_act_21 (by decide) ?_
    refine q_civ (rest := []) X O hA 0 (c_X11_refused hw) lk_X11_78 (by decide) rfl rfl rfl rfl rfl rfl ⟨Nat.le_of_ble_eq_true rfl, Nat.le_of_ble_eq_true rfl⟩ (Nat.le_of_ble_eq_true rfl) hl.1 ⟨Nat.zero_le _, Nat.zero_le _⟩ rfl dX11_act_22 (fun r22 u22 H locs hw O => ?_)
    exact q_iret X O hw dX11_act_25
  · have hw := hw.2 c8
    refine lv_iload_n hx hb dX11_act_11 rfl (lv_at hl 2 rfl) ?_
    refine lv_if_lt (tgt := 20) hx hb dX11_act_12 (by decide) (fun c12 => ?_) (fun c12 => ?_)
    · have hw := hw.1 c12
      refine lv_aload_n hx hb dX11_act_20 rfl (lv_at hl 0 rfl) ?_
      refine lv_iconst (v := 1) hx hb dX11_act_21 (by decide) ?_
      refine q_civ (rest := []) X O hA 0 (c_X11_refused hw) lk_X11_78 (by decide) rfl rfl rfl rfl rfl rfl ⟨Nat.le_of_ble_eq_true rfl, Nat.le_of_ble_eq_true rfl⟩ (Nat.le_of_ble_eq_true rfl) hl.1 ⟨Nat.zero_le _, Nat.zero_le _⟩ rfl dX11_act_22 (fun r22 u22 H locs hw O => ?_)
      exact q_iret X O hw dX11_act_25
    · have hw := hw.2 c12
      refine lv_iload_n hx hb dX11_act_15 rfl (lv_at hl 2 rfl) ?_
      refine lv_iconst (v := 3) hx hb dX11_act_16 (by decide) ?_
      refine lv_icmp_le (tgt := 26) hx hb dX11_act_17 (by decide) (fun c17 => ?_) (fun c17 => ?_)
      · have hw := hw.1 c17
        refine lv_aload_n hx hb dX11_act_26 rfl (lv_at hl 0 rfl) ?_
        refine gt_X11_40 X O dX11_act_27 ?_
        refine lv_aload_n hx hb dX11_act_30 rfl (lv_at hl 0 rfl) ?_
        refine gt_X11_10 X O dX11_act_31 ?_
        refine lv_iload_n hx hb dX11_act_34 rfl (lv_at hl 1 rfl) ?_
        refine q_cvv (rest := []) X O hA 25 (c_X0_take hw) lk_X11_231 (by decide) rfl rfl rfl rfl rfl rfl ⟨Nat.le_of_ble_eq_true rfl, Nat.le_of_ble_eq_true rfl⟩ (Nat.le_of_ble_eq_true rfl) hl.1 ⟨Nat.zero_le _, Nat.zero_le _⟩ rfl dX11_act_35 (fun u35 H locs hw O => ?_)
        refine lv_aload_n hx hb dX11_act_38 rfl (lv_at hl 0 rfl) ?_
        refine gt_X11_59 X O dX11_act_39 ?_
        refine lv_aload_n hx hb dX11_act_42 rfl (lv_at hl 0 rfl) ?_
        refine gt_X11_10 X O dX11_act_43 ?_
        refine lv_iload_n hx hb dX11_act_46 rfl (lv_at hl 1 rfl) ?_
        refine q_civ (rest := [.ref (h 27)]) X O hA 1 (c_X10_kindOf hw) lk_X11_135 (by decide) rfl rfl rfl rfl rfl rfl ⟨Nat.le_of_ble_eq_true rfl, Nat.le_of_ble_eq_true rfl⟩ (Nat.le_of_ble_eq_true rfl) hl.1 ⟨Nat.zero_le _, Nat.zero_le _⟩ rfl dX11_act_47 (fun r47 u47 H locs hw O => ?_)
        obtain ⟨i50, hw⟩ := hw
        refine q_ald X O 27 2 (by decide) rfl rfl i50 (kd_s i50) dX11_act_50 ?_
        refine lv_astore (lv' := [(4, .ref (h (28 + Int32.toNatClampNeg r47))), (0, .ref (h 0)), (1, .int a1), (2, .int a2), (3, .int a3)]) hx hb dX11_act_51 hl (by decide) rfl (fun ls hl => ?_)
        refine lv_iload_n hx hb dX11_act_53 rfl (lv_at hl 3 rfl) ?_
        by_cases s54_0 : a2 = 0
        · have hw := hw.1 s54_0
          refine lv_tableIn (off := 26) (tgt := 80) hx hb dX11_act_54 (by rw [s54_0]; decide) (by rw [s54_0]; decide) (by rw [s54_0]; decide) (by decide) ?_
          refine lv_aload_n hx hb dX11_act_80 rfl (lv_at hl 1 rfl) ?_
          refine lv_aload hx hb dX11_act_81 (lv_at hl 0 rfl) ?_
          refine lv_aload_n hx hb dX11_act_83 rfl (lv_at hl 1 rfl) ?_
          refine gt_X11_40 X O dX11_act_84 ?_
          refine lv_iload_n hx hb dX11_act_87 rfl (lv_at hl 4 rfl) ?_
          rcases kd5 i50 with e | e | e | e | e
          · have hw := hw.1 e
            rw [e, kd_0]
            refine q_ciU (rest := [.ref (h 0)]) X O hA 28 (c_X4_last_k0 hw) lkU_X11_235_0 (by decide) rfl rfl rfl rfl rfl rfl ⟨Nat.le_of_ble_eq_true rfl, Nat.le_of_ble_eq_true rfl⟩ (Nat.le_of_ble_eq_true rfl) hl.1 ⟨Nat.zero_le _, Nat.zero_le _⟩ rfl dX11_act_88 (fun r88 u88 H locs hw O => ?_)
            refine q_civ (rest := []) X O hA 0 (c_X11_done hw) lk_X11_90 (by decide) rfl rfl rfl rfl rfl rfl ⟨Nat.le_of_ble_eq_true rfl, Nat.le_of_ble_eq_true rfl⟩ (Nat.le_of_ble_eq_true rfl) hl.1 ⟨Nat.zero_le _, Nat.zero_le _⟩ rfl dX11_act_91 (fun r91 u91 H locs hw O => ?_)
            exact q_iret X O hw dX11_act_94
          · have hw := hw.2.1 e
            rw [e, kd_1]
            refine q_ciU (rest := [.ref (h 0)]) X O hA 29 (c_X9_last_k1 hw) lkU_X11_235_1 (by decide) rfl rfl rfl rfl rfl rfl ⟨Nat.le_of_ble_eq_true rfl, Nat.le_of_ble_eq_true rfl⟩ (Nat.le_of_ble_eq_true rfl) hl.1 ⟨Nat.zero_le _, Nat.zero_le _⟩ rfl dX11_act_88 (fun r88 u88 H locs hw O => ?_)
            refine q_civ (rest := []) X O hA 0 (c_X11_done hw) lk_X11_90 (by decide) rfl rfl rfl rfl rfl rfl ⟨Nat.le_of_ble_eq_true rfl, Nat.le_of_ble_eq_true rfl⟩ (Nat.le_of_ble_eq_true rfl) hl.1 ⟨Nat.zero_le _, Nat.zero_le _⟩ rfl dX11_act_91 (fun r91 u91 H locs hw O => ?_)
            exact q_iret X O hw dX11_act_94
          · have hw := hw.2.2.1 e
            rw [e, kd_2]
            refine q_ciU (rest := [.ref (h 0)]) X O hA 30 (c_X4_last_k2 hw) lkU_X11_235_2 (by decide) rfl rfl rfl rfl rfl rfl ⟨Nat.le_of_ble_eq_true rfl, Nat.le_of_ble_eq_true rfl⟩ (Nat.le_of_ble_eq_true rfl) hl.1 ⟨Nat.zero_le _, Nat.zero_le _⟩ rfl dX11_act_88 (fun r88 u88 H locs hw O => ?_)
            refine q_civ (rest := []) X O hA 0 (c_X11_done hw) lk_X11_90 (by decide) rfl rfl rfl rfl rfl rfl ⟨Nat.le_of_ble_eq_true rfl, Nat.le_of_ble_eq_true rfl⟩ (Nat.le_of_ble_eq_true rfl) hl.1 ⟨Nat.zero_le _, Nat.zero_le _⟩ rfl dX11_act_91 (fun r91 u91 H locs hw O => ?_)
            exact q_iret X O hw dX11_act_94
          · have hw := hw.2.2.2.1 e
            rw [e, kd_3]
            refine q_ciU (rest := [.ref (h 0)]) X O hA 31 (c_X1_last_k3 hw) lkU_X11_235_3 (by decide) rfl rfl rfl rfl rfl rfl ⟨Nat.le_of_ble_eq_true rfl, Nat.le_of_ble_eq_true rfl⟩ (Nat.le_of_ble_eq_true rfl) hl.1 ⟨Nat.zero_le _, Nat.zero_le _⟩ rfl dX11_act_88 (fun r88 u88 H locs hw O => ?_)
            refine q_civ (rest := []) X O hA 0 (c_X11_done hw) lk_X11_90 (by decide) rfl rfl rfl rfl rfl rfl ⟨Nat.le_of_ble_eq_true rfl, Nat.le_of_ble_eq_true rfl⟩ (Nat.le_of_ble_eq_true rfl) hl.1 ⟨Nat.zero_le _, Nat.zero_le _⟩ rfl dX11_act_91 (fun r91 u91 H locs hw O => ?_)
            exact q_iret X O hw dX11_act_94
          · have hw := hw.2.2.2.2 e
            rw [e, kd_4]
            refine q_ciU (rest := [.ref (h 0)]) X O hA 32 (c_X5_last_k4 hw) lkU_X11_235_4 (by decide) rfl rfl rfl rfl rfl rfl ⟨Nat.le_of_ble_eq_true rfl, Nat.le_of_ble_eq_true rfl⟩ (Nat.le_of_ble_eq_true rfl) hl.1 ⟨Nat.zero_le _, Nat.zero_le _⟩ rfl dX11_act_88 (fun r88 u88 H locs hw O => ?_)
            refine q_civ (rest := []) X O hA 0 (c_X11_done hw) lk_X11_90 (by decide) rfl rfl rfl rfl rfl rfl ⟨Nat.le_of_ble_eq_true rfl, Nat.le_of_ble_eq_true rfl⟩ (Nat.le_of_ble_eq_true rfl) hl.1 ⟨Nat.zero_le _, Nat.zero_le _⟩ rfl dX11_act_91 (fun r91 u91 H locs hw O => ?_)
            exact q_iret X O hw dX11_act_94
        · replace hw := hw.2
          by_cases s54_1 : a2 = 1
          · have hw := hw.1 s54_1
            refine lv_tableIn (off := 41) (tgt := 95) hx hb dX11_act_54 (by rw [s54_1]; decide) (by rw [s54_1]; decide) (by rw [s54_1]; decide) (by decide) ?_
            refine lv_aload_n hx hb dX11_act_95 rfl (lv_at hl 1 rfl) ?_
            refine lv_aload hx hb dX11_act_96 (lv_at hl 0 rfl) ?_
            refine lv_aload_n hx hb dX11_act_98 rfl (lv_at hl 1 rfl) ?_
            refine gt_X11_40 X O dX11_act_99 ?_
            refine lv_iload_n hx hb dX11_act_102 rfl (lv_at hl 4 rfl) ?_
            rcases kd5 i50 with e | e | e | e | e
            · have hw := hw.1 e
              rw [e, kd_0]
              refine q_ciU (rest := [.ref (h 0)]) X O hA 28 (c_X4_weigh_k0 hw) lkU_X11_239_0 (by decide) rfl rfl rfl rfl rfl rfl ⟨Nat.le_of_ble_eq_true rfl, Nat.le_of_ble_eq_true rfl⟩ (Nat.le_of_ble_eq_true rfl) hl.1 ⟨Nat.zero_le _, Nat.zero_le _⟩ rfl dX11_act_103 (fun r103 u103 H locs hw O => ?_)
              refine q_civ (rest := []) X O hA 0 (c_X11_done hw) lk_X11_90 (by decide) rfl rfl rfl rfl rfl rfl ⟨Nat.le_of_ble_eq_true rfl, Nat.le_of_ble_eq_true rfl⟩ (Nat.le_of_ble_eq_true rfl) hl.1 ⟨Nat.zero_le _, Nat.zero_le _⟩ rfl dX11_act_106 (fun r106 u106 H locs hw O => ?_)
              exact q_iret X O hw dX11_act_109
            · have hw := hw.2.1 e
              rw [e, kd_1]
              refine q_ciU (rest := [.ref (h 0)]) X O hA 29 (c_X4_weigh_k1 hw) lkU_X11_239_1 (by decide) rfl rfl rfl rfl rfl rfl ⟨Nat.le_of_ble_eq_true rfl, Nat.le_of_ble_eq_true rfl⟩ (Nat.le_of_ble_eq_true rfl) hl.1 ⟨Nat.zero_le _, Nat.zero_le _⟩ rfl dX11_act_103 (fun r103 u103 H locs hw O => ?_)
              refine q_civ (rest := []) X O hA 0 (c_X11_done hw) lk_X11_90 (by decide) rfl rfl rfl rfl rfl rfl ⟨Nat.le_of_ble_eq_true rfl, Nat.le_of_ble_eq_true rfl⟩ (Nat.le_of_ble_eq_true rfl) hl.1 ⟨Nat.zero_le _, Nat.zero_le _⟩ rfl dX11_act_106 (fun r106 u106 H locs hw O => ?_)
              exact q_iret X O hw dX11_act_109
            · have hw := hw.2.2.1 e
              rw [e, kd_2]
              refine q_ciU (rest := [.ref (h 0)]) X O hA 30 (c_X3_weigh_k2 hw) lkU_X11_239_2 (by decide) rfl rfl rfl rfl rfl rfl ⟨Nat.le_of_ble_eq_true rfl, Nat.le_of_ble_eq_true rfl⟩ (Nat.le_of_ble_eq_true rfl) hl.1 ⟨Nat.zero_le _, Nat.zero_le _⟩ rfl dX11_act_103 (fun r103 u103 H locs hw O => ?_)
              refine q_civ (rest := []) X O hA 0 (c_X11_done hw) lk_X11_90 (by decide) rfl rfl rfl rfl rfl rfl ⟨Nat.le_of_ble_eq_true rfl, Nat.le_of_ble_eq_true rfl⟩ (Nat.le_of_ble_eq_true rfl) hl.1 ⟨Nat.zero_le _, Nat.zero_le _⟩ rfl dX11_act_106 (fun r106 u106 H locs hw O => ?_)
              exact q_iret X O hw dX11_act_109
            · have hw := hw.2.2.2.1 e
              rw [e, kd_3]
              refine q_ciU (rest := [.ref (h 0)]) X O hA 31 (c_X4_weigh_k3 hw) lkU_X11_239_3 (by decide) rfl rfl rfl rfl rfl rfl ⟨Nat.le_of_ble_eq_true rfl, Nat.le_of_ble_eq_true rfl⟩ (Nat.le_of_ble_eq_true rfl) hl.1 ⟨Nat.zero_le _, Nat.zero_le _⟩ rfl dX11_act_103 (fun r103 u103 H locs hw O => ?_)
              refine q_civ (rest := []) X O hA 0 (c_X11_done hw) lk_X11_90 (by decide) rfl rfl rfl rfl rfl rfl ⟨Nat.le_of_ble_eq_true rfl, Nat.le_of_ble_eq_true rfl⟩ (Nat.le_of_ble_eq_true rfl) hl.1 ⟨Nat.zero_le _, Nat.zero_le _⟩ rfl dX11_act_106 (fun r106 u106 H locs hw O => ?_)
              exact q_iret X O hw dX11_act_109
            · have hw := hw.2.2.2.2 e
              rw [e, kd_4]
              refine q_ciU (rest := [.ref (h 0)]) X O hA 32 (c_X4_weigh_k4 hw) lkU_X11_239_4 (by decide) rfl rfl rfl rfl rfl rfl ⟨Nat.le_of_ble_eq_true rfl, Nat.le_of_ble_eq_true rfl⟩ (Nat.le_of_ble_eq_true rfl) hl.1 ⟨Nat.zero_le _, Nat.zero_le _⟩ rfl dX11_act_103 (fun r103 u103 H locs hw O => ?_)
              refine q_civ (rest := []) X O hA 0 (c_X11_done hw) lk_X11_90 (by decide) rfl rfl rfl rfl rfl rfl ⟨Nat.le_of_ble_eq_true rfl, Nat.le_of_ble_eq_true rfl⟩ (Nat.le_of_ble_eq_true rfl) hl.1 ⟨Nat.zero_le _, Nat.zero_le _⟩ rfl dX11_act_106 (fun r106 u106 H locs hw O => ?_)
              exact q_iret X O hw dX11_act_109
          · replace hw := hw.2
            by_cases s54_2 : a2 = 2
            · have hw := hw.1 s54_2
              refine lv_tableIn (off := 56) (tgt := 110) hx hb dX11_act_54 (by rw [s54_2]; decide) (by rw [s54_2]; decide) (by rw [s54_2]; decide) (by decide) ?_
              refine lv_aload_n hx hb dX11_act_110 rfl (lv_at hl 1 rfl) ?_
              refine lv_aload hx hb dX11_act_111 (lv_at hl 0 rfl) ?_
              refine lv_aload_n hx hb dX11_act_113 rfl (lv_at hl 1 rfl) ?_
              refine gt_X11_40 X O dX11_act_114 ?_
              refine lv_iload_n hx hb dX11_act_117 rfl (lv_at hl 4 rfl) ?_
              rcases kd5 i50 with e | e | e | e | e
              · have hw := hw.1 e
                rw [e, kd_0]
                refine q_ciU (rest := [.ref (h 0)]) X O hA 28 (c_X4_follow_k0 hw) lkU_X11_242_0 (by decide) rfl rfl rfl rfl rfl rfl ⟨Nat.le_of_ble_eq_true rfl, Nat.le_of_ble_eq_true rfl⟩ (Nat.le_of_ble_eq_true rfl) hl.1 ⟨Nat.zero_le _, Nat.zero_le _⟩ rfl dX11_act_118 (fun r118 u118 H locs hw O => ?_)
                refine q_civ (rest := []) X O hA 0 (c_X11_done hw) lk_X11_90 (by decide) rfl rfl rfl rfl rfl rfl ⟨Nat.le_of_ble_eq_true rfl, Nat.le_of_ble_eq_true rfl⟩ (Nat.le_of_ble_eq_true rfl) hl.1 ⟨Nat.zero_le _, Nat.zero_le _⟩ rfl dX11_act_121 (fun r121 u121 H locs hw O => ?_)
                exact q_iret X O hw dX11_act_124
              · have hw := hw.2.1 e
                rw [e, kd_1]
                refine q_ciU (rest := [.ref (h 0)]) X O hA 29 (c_X4_follow_k1 hw) lkU_X11_242_1 (by decide) rfl rfl rfl rfl rfl rfl ⟨Nat.le_of_ble_eq_true rfl, Nat.le_of_ble_eq_true rfl⟩ (Nat.le_of_ble_eq_true rfl) hl.1 ⟨Nat.zero_le _, Nat.zero_le _⟩ rfl dX11_act_118 (fun r118 u118 H locs hw O => ?_)
                refine q_civ (rest := []) X O hA 0 (c_X11_done hw) lk_X11_90 (by decide) rfl rfl rfl rfl rfl rfl ⟨Nat.le_of_ble_eq_true rfl, Nat.le_of_ble_eq_true rfl⟩ (Nat.le_of_ble_eq_true rfl) hl.1 ⟨Nat.zero_le _, Nat.zero_le _⟩ rfl dX11_act_121 (fun r121 u121 H locs hw O => ?_)
                exact q_iret X O hw dX11_act_124
              · have hw := hw.2.2.1 e
                rw [e, kd_2]
                refine q_ciU (rest := [.ref (h 0)]) X O hA 30 (c_X4_follow_k2 hw) lkU_X11_242_2 (by decide) rfl rfl rfl rfl rfl rfl ⟨Nat.le_of_ble_eq_true rfl, Nat.le_of_ble_eq_true rfl⟩ (Nat.le_of_ble_eq_true rfl) hl.1 ⟨Nat.zero_le _, Nat.zero_le _⟩ rfl dX11_act_118 (fun r118 u118 H locs hw O => ?_)
                refine q_civ (rest := []) X O hA 0 (c_X11_done hw) lk_X11_90 (by decide) rfl rfl rfl rfl rfl rfl ⟨Nat.le_of_ble_eq_true rfl, Nat.le_of_ble_eq_true rfl⟩ (Nat.le_of_ble_eq_true rfl) hl.1 ⟨Nat.zero_le _, Nat.zero_le _⟩ rfl dX11_act_121 (fun r121 u121 H locs hw O => ?_)
                exact q_iret X O hw dX11_act_124
              · have hw := hw.2.2.2.1 e
                rw [e, kd_3]
                refine q_ciU (rest := [.ref (h 0)]) X O hA 31 (c_X1_follow_k3 hw) lkU_X11_242_3 (by decide) rfl rfl rfl rfl rfl rfl ⟨Nat.le_of_ble_eq_true rfl, Nat.le_of_ble_eq_true rfl⟩ (Nat.le_of_ble_eq_true rfl) hl.1 ⟨Nat.zero_le _, Nat.zero_le _⟩ rfl dX11_act_118 (fun r118 u118 H locs hw O => ?_)
                refine q_civ (rest := []) X O hA 0 (c_X11_done hw) lk_X11_90 (by decide) rfl rfl rfl rfl rfl rfl ⟨Nat.le_of_ble_eq_true rfl, Nat.le_of_ble_eq_true rfl⟩ (Nat.le_of_ble_eq_true rfl) hl.1 ⟨Nat.zero_le _, Nat.zero_le _⟩ rfl dX11_act_121 (fun r121 u121 H locs hw O => ?_)
                exact q_iret X O hw dX11_act_124
              · have hw := hw.2.2.2.2 e
                rw [e, kd_4]
                refine q_ciU (rest := [.ref (h 0)]) X O hA 32 (c_X4_follow_k4 hw) lkU_X11_242_4 (by decide) rfl rfl rfl rfl rfl rfl ⟨Nat.le_of_ble_eq_true rfl, Nat.le_of_ble_eq_true rfl⟩ (Nat.le_of_ble_eq_true rfl) hl.1 ⟨Nat.zero_le _, Nat.zero_le _⟩ rfl dX11_act_118 (fun r118 u118 H locs hw O => ?_)
                refine q_civ (rest := []) X O hA 0 (c_X11_done hw) lk_X11_90 (by decide) rfl rfl rfl rfl rfl rfl ⟨Nat.le_of_ble_eq_true rfl, Nat.le_of_ble_eq_true rfl⟩ (Nat.le_of_ble_eq_true rfl) hl.1 ⟨Nat.zero_le _, Nat.zero_le _⟩ rfl dX11_act_121 (fun r121 u121 H locs hw O => ?_)
                exact q_iret X O hw dX11_act_124
            · replace hw := hw.2
              have hw := hw s54_0 s54_1 s54_2
              refine lv_tableOut (tgt := 125) hx hb dX11_act_54 (by have e0 := ts_ne (k := 0) (by decide) s54_0; have e1 := ts_ne (k := 1) (by decide) s54_1; have e2 := ts_ne (k := 2) (by decide) s54_2; omega) (by decide) ?_
              refine lv_aload_n hx hb dX11_act_125 rfl (lv_at hl 1 rfl) ?_
              refine lv_aload hx hb dX11_act_126 (lv_at hl 0 rfl) ?_
              refine lv_aload_n hx hb dX11_act_128 rfl (lv_at hl 1 rfl) ?_
              refine gt_X11_40 X O dX11_act_129 ?_
              refine lv_iload_n hx hb dX11_act_132 rfl (lv_at hl 4 rfl) ?_
              rcases kd5 i50 with e | e | e | e | e
              · have hw := hw.1 e
                rw [e, kd_0]
                refine q_ciU (rest := [.ref (h 0)]) X O hA 28 (c_X4_tell_k0 hw) lkU_X11_245_0 (by decide) rfl rfl rfl rfl rfl rfl ⟨Nat.le_of_ble_eq_true rfl, Nat.le_of_ble_eq_true rfl⟩ (Nat.le_of_ble_eq_true rfl) hl.1 ⟨Nat.zero_le _, Nat.zero_le _⟩ rfl dX11_act_133 (fun r133 u133 H locs hw O => ?_)
                refine q_civ (rest := []) X O hA 0 (c_X11_done hw) lk_X11_90 (by decide) rfl rfl rfl rfl rfl rfl ⟨Nat.le_of_ble_eq_true rfl, Nat.le_of_ble_eq_true rfl⟩ (Nat.le_of_ble_eq_true rfl) hl.1 ⟨Nat.zero_le _, Nat.zero_le _⟩ rfl dX11_act_136 (fun r136 u136 H locs hw O => ?_)
                exact q_iret X O hw dX11_act_139
              · have hw := hw.2.1 e
                rw [e, kd_1]
                refine q_ciU (rest := [.ref (h 0)]) X O hA 29 (c_X9_tell_k1 hw) lkU_X11_245_1 (by decide) rfl rfl rfl rfl rfl rfl ⟨Nat.le_of_ble_eq_true rfl, Nat.le_of_ble_eq_true rfl⟩ (Nat.le_of_ble_eq_true rfl) hl.1 ⟨Nat.zero_le _, Nat.zero_le _⟩ rfl dX11_act_133 (fun r133 u133 H locs hw O => ?_)
                refine q_civ (rest := []) X O hA 0 (c_X11_done hw) lk_X11_90 (by decide) rfl rfl rfl rfl rfl rfl ⟨Nat.le_of_ble_eq_true rfl, Nat.le_of_ble_eq_true rfl⟩ (Nat.le_of_ble_eq_true rfl) hl.1 ⟨Nat.zero_le _, Nat.zero_le _⟩ rfl dX11_act_136 (fun r136 u136 H locs hw O => ?_)
                exact q_iret X O hw dX11_act_139
              · have hw := hw.2.2.1 e
                rw [e, kd_2]
                refine q_ciU (rest := [.ref (h 0)]) X O hA 30 (c_X4_tell_k2 hw) lkU_X11_245_2 (by decide) rfl rfl rfl rfl rfl rfl ⟨Nat.le_of_ble_eq_true rfl, Nat.le_of_ble_eq_true rfl⟩ (Nat.le_of_ble_eq_true rfl) hl.1 ⟨Nat.zero_le _, Nat.zero_le _⟩ rfl dX11_act_133 (fun r133 u133 H locs hw O => ?_)
                refine q_civ (rest := []) X O hA 0 (c_X11_done hw) lk_X11_90 (by decide) rfl rfl rfl rfl rfl rfl ⟨Nat.le_of_ble_eq_true rfl, Nat.le_of_ble_eq_true rfl⟩ (Nat.le_of_ble_eq_true rfl) hl.1 ⟨Nat.zero_le _, Nat.zero_le _⟩ rfl dX11_act_136 (fun r136 u136 H locs hw O => ?_)
                exact q_iret X O hw dX11_act_139
              · have hw := hw.2.2.2.1 e
                rw [e, kd_3]
                refine q_ciU (rest := [.ref (h 0)]) X O hA 31 (c_X9_tell_k3 hw) lkU_X11_245_3 (by decide) rfl rfl rfl rfl rfl rfl ⟨Nat.le_of_ble_eq_true rfl, Nat.le_of_ble_eq_true rfl⟩ (Nat.le_of_ble_eq_true rfl) hl.1 ⟨Nat.zero_le _, Nat.zero_le _⟩ rfl dX11_act_133 (fun r133 u133 H locs hw O => ?_)
                refine q_civ (rest := []) X O hA 0 (c_X11_done hw) lk_X11_90 (by decide) rfl rfl rfl rfl rfl rfl ⟨Nat.le_of_ble_eq_true rfl, Nat.le_of_ble_eq_true rfl⟩ (Nat.le_of_ble_eq_true rfl) hl.1 ⟨Nat.zero_le _, Nat.zero_le _⟩ rfl dX11_act_136 (fun r136 u136 H locs hw O => ?_)
                exact q_iret X O hw dX11_act_139
              · have hw := hw.2.2.2.2 e
                rw [e, kd_4]
                refine q_ciU (rest := [.ref (h 0)]) X O hA 32 (c_X5_tell_k4 hw) lkU_X11_245_4 (by decide) rfl rfl rfl rfl rfl rfl ⟨Nat.le_of_ble_eq_true rfl, Nat.le_of_ble_eq_true rfl⟩ (Nat.le_of_ble_eq_true rfl) hl.1 ⟨Nat.zero_le _, Nat.zero_le _⟩ rfl dX11_act_133 (fun r133 u133 H locs hw O => ?_)
                refine q_civ (rest := []) X O hA 0 (c_X11_done hw) lk_X11_90 (by decide) rfl rfl rfl rfl rfl rfl ⟨Nat.le_of_ble_eq_true rfl, Nat.le_of_ble_eq_true rfl⟩ (Nat.le_of_ble_eq_true rfl) hl.1 ⟨Nat.zero_le _, Nat.zero_le _⟩ rfl dX11_act_136 (fun r136 u136 H locs hw O => ?_)
                exact q_iret X O hw dX11_act_139
      · have hw := hw.2 c17
        refine lv_aload_n hx hb dX11_act_20 rfl (lv_at hl 0 rfl) ?_
        refine lv_iconst (v := 1) hx hb dX11_act_21 (by decide) ?_
        refine q_civ (rest := []) X O hA 0 (c_X11_refused hw) lk_X11_78 (by decide) rfl rfl rfl rfl rfl rfl ⟨Nat.le_of_ble_eq_true rfl, Nat.le_of_ble_eq_true rfl⟩ (Nat.le_of_ble_eq_true rfl) hl.1 ⟨Nat.zero_le _, Nat.zero_le _⟩ rfl dX11_act_22 (fun r22 u22 H locs hw O => ?_)
        exact q_iret X O hw dX11_act_25
end PT
