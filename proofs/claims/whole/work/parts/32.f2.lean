/-! the class, methods: X10_weightOf X7_findBlock X7_findBlocks X7_blocks X7_blockOf X11_told X11_asNumber X11_ahead X0_begun X10_beginnings X10_jobs X10_laidPairs X2_size X11_count X6_bitsBefore X6_lackingAt X6_firstLacking X6_isKept X11_keeps X6_jobAt X11_why -/
theorem lk_X7_63 : LkV RX7 63 yX10_everyJob cX10_everyJob 1 (some .int) 0 := ⟨wd_16_7, wd_16_8, wd_16_9, wd_1_14, wd_16_10, by decide +kernel⟩
theorem lk_X7_70 : LkV RX7 70 yX10_lengthOf cX10_lengthOf 2 (some .int) 1 := ⟨wd_16_14, wd_16_15, wd_16_16, wd_1_14, wd_16_17, by decide +kernel⟩
theorem lk_X7_74 : LkV RX7 74 yX10_weightOf cX10_weightOf 2 (some .int) 1 := ⟨wd_16_18, wd_16_19, wd_16_20, wd_1_14, wd_16_21, by decide +kernel⟩
theorem lk_X7_77 : LkV RX7 77 yX10_isBeginning cX10_isBeginning 4 (some .boolean) 2 := ⟨wd_16_22, wd_16_23, wd_17_0, wd_1_14, wd_17_1, by decide +kernel⟩
theorem lk_X7_66 : LkS RX7 66 yX7_findBlock cX7_findBlock 10 (some .int) 2 := ⟨wd_16_11, wd_16_12, wd_1_18, wd_16_13, by decide +kernel⟩
theorem lk_X7_37 : LkV RX7 37 yX10_version cX10_version 1 (some .int) 0 := ⟨wd_15_23, wd_16_0, wd_16_1, wd_1_14, wd_16_2, by decide +kernel⟩
theorem lk_X7_43 : LkV RX7 43 yX7_findBlocks cX7_findBlocks 4 none 1 := ⟨wd_16_3, wd_16_4, wd_16_5, wd_1_18, wd_16_6, by decide +kernel⟩
theorem lk_X7_50 : LkV RX7 50 yX7_blocks cX7_blocks 2 (some .int) 1 := ⟨wd_15_18, wd_15_19, wd_15_20, wd_1_18, wd_15_21, by decide +kernel⟩
theorem lk_X7_53 : LkSN RX7 53 yX11_hasBit cX11_hasBit 2 (some .boolean) 2 := ⟨⟨"FellersOrder", by decide +kernel⟩, wd_7_23, wd_1_2, wd_8_0, by decide +kernel⟩
theorem lk_X11_135 : LkV RX11 135 yX10_kindOf cX10_kindOf 2 (some .int) 1 := ⟨wd_14_20, wd_14_21, wd_14_22, wd_1_14, wd_14_23, by decide +kernel⟩
theorem lk_X11_138 : LkV RX11 138 yX10_aheadOf cX10_aheadOf 2 (some .int) 1 := ⟨wd_15_0, wd_15_1, wd_15_2, wd_1_14, wd_15_3, by decide +kernel⟩
theorem lk_X11_141 : LkS RX11 141 yJ6_bitCount_0f7a4 cJ6_bitCount_0f7a4 1 (some .int) 1 := ⟨wd_15_4, wd_15_5, wd_8_18, wd_15_6, by decide +kernel⟩
theorem lk_X11_146 : LkV RX11 146 yX10_behind cX10_behind 2 (some .int) 1 := ⟨wd_15_10, wd_15_11, wd_15_12, wd_1_14, wd_15_13, by decide +kernel⟩
theorem lk_X11_149 : LkV RX11 149 yX7_blockOf cX7_blockOf 5 (some .int) 2 := ⟨wd_15_14, wd_15_15, wd_15_16, wd_1_18, wd_15_17, by decide +kernel⟩
theorem lk_X11_153 : LkS RX11 153 yX11_asNumber cX11_asNumber 1 (some .int) 1 := ⟨wd_19_2, wd_19_3, wd_1_2, wd_19_4, by decide +kernel⟩
theorem lk_X10_58 : LkV RX10 58 yX10_everyJob cX10_everyJob 1 (some .int) 0 := ⟨wd_20_2, wd_16_8, wd_16_9, wd_1_14, wd_16_10, by decide +kernel⟩
theorem lk_X10_62 : LkV RX10 62 yX10_isBeginning cX10_isBeginning 4 (some .boolean) 2 := ⟨wd_20_3, wd_16_23, wd_17_0, wd_1_14, wd_17_1, by decide +kernel⟩
theorem lk_X11_157 : LkV RX11 157 yX10_jobs cX10_jobs 1 (some .int) 0 := ⟨wd_19_13, wd_19_14, wd_19_15, wd_1_14, wd_19_16, by decide +kernel⟩
theorem lk_X11_160 : LkV RX11 160 yX10_laidPairs cX10_laidPairs 1 (some .int) 0 := ⟨wd_19_17, wd_19_18, wd_19_19, wd_1_14, wd_19_20, by decide +kernel⟩
theorem lk_X11_163 : LkV RX11 163 yX7_blocks cX7_blocks 2 (some .int) 1 := ⟨wd_19_21, wd_15_19, wd_15_20, wd_1_18, wd_15_21, by decide +kernel⟩
theorem lk_X11_167 : LkV RX11 167 yX10_beginnings cX10_beginnings 4 (some .int) 0 := ⟨wd_19_22, wd_19_23, wd_20_0, wd_1_14, wd_20_1, by decide +kernel⟩
theorem lk_X11_170 : LkV RX11 170 yX0_begun cX0_begun 1 (some .int) 0 := ⟨wd_20_4, wd_20_5, wd_20_6, wd_2_6, wd_20_7, by decide +kernel⟩
theorem lk_X11_173 : LkV RX11 173 yX2_size cX2_size 1 (some .int) 0 := ⟨wd_20_9, wd_20_10, wd_20_11, wd_2_2, wd_20_12, by decide +kernel⟩
theorem lk_X6_19 : LkV RX6 19 yX10_aheadOf cX10_aheadOf 2 (some .int) 1 := ⟨wd_21_19, wd_15_1, wd_15_2, wd_1_14, wd_15_3, by decide +kernel⟩
theorem lk_X6_25 : LkV RX6 25 yX6_bitsBefore cX6_bitsBefore 4 (some .int) 1 := ⟨wd_21_20, wd_21_21, wd_21_22, wd_1_22, wd_21_23, by decide +kernel⟩
theorem lk_X6_28 : LkV RX6 28 yX6_lackingAt cX6_lackingAt 3 (some .int) 2 := ⟨wd_21_15, wd_21_16, wd_21_17, wd_1_22, wd_21_18, by decide +kernel⟩
theorem lk_X6_32 : LkV RX6 32 yX10_jobs cX10_jobs 1 (some .int) 0 := ⟨wd_21_10, wd_19_14, wd_19_15, wd_1_14, wd_19_16, by decide +kernel⟩
theorem lk_X6_36 : LkV RX6 36 yX6_firstLacking cX6_firstLacking 3 (some .int) 1 := ⟨wd_21_11, wd_21_12, wd_21_13, wd_1_22, wd_21_14, by decide +kernel⟩
theorem lk_X11_174 : LkV RX11 174 yX6_isKept cX6_isKept 2 (some .boolean) 1 := ⟨wd_21_6, wd_21_7, wd_21_8, wd_1_22, wd_21_9, by decide +kernel⟩
theorem lk_X11_178 : LkV RX11 178 yX6_firstLacking cX6_firstLacking 3 (some .int) 1 := ⟨wd_22_13, wd_21_12, wd_21_13, wd_1_22, wd_21_14, by decide +kernel⟩
theorem lk_X11_190 : LkV RX11 190 yX6_lackingAt cX6_lackingAt 3 (some .int) 2 := ⟨wd_22_20, wd_21_16, wd_21_17, wd_1_22, wd_21_18, by decide +kernel⟩
theorem lk_X11_193 : LkS RX11 193 yJ6_numberOfTrailingZeros_0f7a4 cJ6_numberOfTrailingZeros_0f7a4 2 (some .int) 1 := ⟨wd_22_21, wd_8_17, wd_8_18, wd_8_19, by decide +kernel⟩
theorem lk_X11_184 : LkV RX11 184 yX10_everyJob cX10_everyJob 1 (some .int) 0 := ⟨wd_22_18, wd_16_8, wd_16_9, wd_1_14, wd_16_10, by decide +kernel⟩
theorem lk_X11_187 : LkV RX11 187 yX6_bitsBefore cX6_bitsBefore 4 (some .int) 1 := ⟨wd_22_19, wd_21_21, wd_21_22, wd_1_22, wd_21_23, by decide +kernel⟩
theorem lk_X11_181 : LkV RX11 181 yX6_jobAt cX6_jobAt 2 (some .int) 1 := ⟨wd_22_14, wd_22_15, wd_22_16, wd_1_22, wd_22_17, by decide +kernel⟩
section PT
variable {p : Program} {l : Launch} {e : Env} {s : State} {m : MethodId} {args : Array Value} {below : List Frame} {meth : Method} {c : Code} {A : Nat → Prop} {D : va_G} {b : Nat → ClassId} {h : Nat → Nat}
-- FellersOrder$Yard.weightOf(I)I
abbrev rm_X10_weightOf : Room := { frames := 0, cells := 0, slots := 0, locals := 0 }
def wp_X10_weightOf (a1 : Int32) (u : St) (Post : Int32 → St → Prop) : Prop := vp_in (a1 &&& (63 : Int32)) 128 ∧ (vp_in ((64 : Int32) + (a1 >>> ((6 : Int32) &&& 31))) 128 ∧ (Post ((u 10 (Int32.toNatClampNeg (a1 &&& (63 : Int32)))) + (u 10 (Int32.toNatClampNeg ((64 : Int32) + (a1 >>> ((6 : Int32) &&& 31)))))) u))
set_option maxHeartbeats 4000000 in
set_option maxRecDepth 100000 in
theorem c_X10_weightOf {a1 : Int32} {l : Launch} {D : va_G} {b : Nat → ClassId} {h : Nat → Nat} {u : St} {Post : Int32 → St → Prop} (hw : wp_X10_weightOf a1 u Post) : CtI l yX10_weightOf cX10_weightOf 2 (some .int) rm_X10_weightOf D (tyF b) 46 (gF b h) h [.ref (h 1), .int a1] u Post := by
  refine CtI.of (plainFor_of_name (by decide)) (Nat.le_of_ble_eq_true rfl) ?_
  intro p e s m below meth c A ls X hA O hl
  have X : Cx p s m _ meth c cX10_weightOf 2 (some .int) RX10 D (tyF b) A := X
  obtain ⟨⟨hx, hb, hml, hown, hts⟩, hK, hNs, hlocks, hr⟩ := id X
  have hl : lv_has ls 2 [(0, .ref (h 1)), (1, .int a1)] := hl
  unfold wp_X10_weightOf at hw
  refine lv_aload_n hx hb dX10_weightOf_0 rfl (lv_at hl 0 rfl) ?_
  refine gt_X10_29 X O dX10_weightOf_1 ?_
  refine lv_iload_n hx hb dX10_weightOf_4 rfl (lv_at hl 1 rfl) ?_
  refine lv_bipush (v := 63) hx hb dX10_weightOf_5 (by decide) ?_
  refine lv_iand hx hb dX10_weightOf_7 ?_
  obtain ⟨i8, hw⟩ := hw
  refine q_ild X O 10 0 (by decide) rfl rfl i8 dX10_weightOf_8 ?_
  refine lv_aload_n hx hb dX10_weightOf_9 rfl (lv_at hl 0 rfl) ?_
  refine gt_X10_29 X O dX10_weightOf_10 ?_
  refine lv_bipush (v := 64) hx hb dX10_weightOf_13 (by decide) ?_
  refine lv_iload_n hx hb dX10_weightOf_15 rfl (lv_at hl 1 rfl) ?_
  refine lv_bipush (v := 6) hx hb dX10_weightOf_16 (by decide) ?_
  refine lv_ishr hx hb dX10_weightOf_18 ?_
  refine lv_iadd hx hb dX10_weightOf_19 ?_
  obtain ⟨i20, hw⟩ := hw
  refine q_ild X O 10 0 (by decide) rfl rfl i20 dX10_weightOf_20 ?_
  refine lv_iadd hx hb dX10_weightOf_21 ?_
  exact q_iret X O hw dX10_weightOf_22
-- FellersOrder$Plan.findBlock(LFellersOrder$Yard;I)I
abbrev rm_X7_findBlock : Room := { frames := 1, cells := 0, slots := 0, locals := 23 }
def wb_X7_findBlock_89 (Post : Int32 → St → Prop) (K28 : Int32 → Int32 → Int32 → Int32 → Int32 → Int32 → St → Prop) (x1 : Int32) (x2 : Int32) (x6 : Int32) (x7 : Int32) (x8 : Int32) (u : St) : Prop := K28 x1 x2 x6 x7 x8 ((x6 - (1 : Int32)) &&& x2) u
set_option maxHeartbeats 4000000 in
set_option maxRecDepth 100000 in
theorem tb_X7_findBlock_89 (X : Cx p s m args meth c cX7_findBlock 10 (some .int) RX7 D (tyF b) A) (hA : ∀ q, s.heap.size ≤ q → A q) {Post : Int32 → St → Prop} {K28 : Int32 → Int32 → Int32 → Int32 → Int32 → Int32 → St → Prop} (k28 : ∀ (x1 : Int32) (x2 : Int32) (x3 : Int32) (x4 : Int32) (x5 : Int32) (x6 : Int32) (u : St) (H : Heap) (locs : List Loc) (ls : Array Slot), K28 x1 x2 x3 x4 x5 x6 u → wO D 46 (gF b h) h u A s.heap H locs → lv_has ls 10 [(0, .ref (h 1)), (1, .int x1), (2, .int x2), (3, .int x3), (4, .int x4), (5, .int x5), (6, .int x6)] → W p l e rm_X7_findBlock s m args below meth c H locs 0 0 (MQ below (va_Qi Post (cB D (tyF b) 46 (gF b h) h A) A) args s 0 0 A) (F0 m 28 ls [])) : ∀ (x1 : Int32) (x2 : Int32) (x6 : Int32) (x7 : Int32) (x8 : Int32) (u : St) (H : Heap) (locs : List Loc) (ls : Array Slot), wb_X7_findBlock_89 Post K28 x1 x2 x6 x7 x8 u → wO D 46 (gF b h) h u A s.heap H locs → lv_has ls 10 [(0, .ref (h 1)), (1, .int x1), (2, .int x2), (6, .int x6), (7, .int x7), (8, .int x8)] → W p l e rm_X7_findBlock s m args below meth c H locs 0 0 (MQ below (va_Qi Post (cB D (tyF b) 46 (gF b h) h A) A) args s 0 0 A) (F0 m 89 ls []) := by
  obtain ⟨⟨hx, hb, hml, hown, hts⟩, hK, hNs, hlocks, hr⟩ := id X
  intro x1 x2 x6 x7 x8 u H locs ls hw O hl
  unfold wb_X7_findBlock_89 at hw
  refine lv_iload hx hb dX7_findBlock_89 (lv_at hl 3 rfl) ?_
  refine lv_istore_n (lv' := [(3, .int x6), (0, .ref (h 1)), (1, .int x1), (2, .int x2), (6, .int x6), (7, .int x7), (8, .int x8)]) hx hb dX7_findBlock_91 rfl hl (by decide) rfl (fun ls hl => ?_)
  refine lv_iload hx hb dX7_findBlock_92 (lv_at hl 5 rfl) ?_
  refine lv_istore (lv' := [(4, .int x7), (3, .int x6), (0, .ref (h 1)), (1, .int x1), (2, .int x2), (6, .int x6), (7, .int x7), (8, .int x8)]) hx hb dX7_findBlock_94 hl (by decide) rfl (fun ls hl => ?_)
  refine lv_iload hx hb dX7_findBlock_96 (lv_at hl 7 rfl) ?_
  refine lv_istore (lv' := [(5, .int x8), (4, .int x7), (3, .int x6), (0, .ref (h 1)), (1, .int x1), (2, .int x2), (6, .int x6), (7, .int x7), (8, .int x8)]) hx hb dX7_findBlock_98 hl (by decide) rfl (fun ls hl => ?_)
  refine lv_iload hx hb dX7_findBlock_100 (lv_at hl 6 rfl) ?_
  refine lv_iconst (v := 1) hx hb dX7_findBlock_102 (by decide) ?_
  refine lv_isub hx hb dX7_findBlock_103 ?_
  refine lv_iload_n hx hb dX7_findBlock_104 rfl (lv_at hl 5 rfl) ?_
  refine lv_iand hx hb dX7_findBlock_105 ?_
  refine lv_istore (lv' := [(6, .int ((x6 - (1 : Int32)) &&& x2)), (5, .int x8), (4, .int x7), (3, .int x6), (0, .ref (h 1)), (1, .int x1), (2, .int x2), (7, .int x7), (8, .int x8)]) hx hb dX7_findBlock_106 hl (by decide) rfl (fun ls hl => ?_)
  refine lv_goto (tgt := 28) hx hb dX7_findBlock_108 (by decide) ?_
  exact k28 _ _ _ _ _ _ _ _ _ _ hw O (lv_sub hl [4, 5, 6, 3, 2, 1, 0] rfl)
def wb_X7_findBlock_28 (Post : Int32 → St → Prop) (K28 : Int32 → Int32 → Int32 → Int32 → Int32 → Int32 → St → Prop) (x1 : Int32) (x2 : Int32) (x3 : Int32) (x4 : Int32) (x5 : Int32) (x6 : Int32) (u : St) : Prop := ((x6 ≤ 0) → (Post x3 u)) ∧ ((¬ x6 ≤ 0) → (wp_X10_isBeginning x6 x1 u (fun r37 u37 => ((r37 = 0) → (K28 x1 x2 x3 x4 x5 ((x6 - (1 : Int32)) &&& x2) u37)) ∧ ((¬ r37 = 0) → (wp_X10_lengthOf x6 u37 (fun r46 u46 => wp_X10_weightOf x6 u46 (fun r54 u54 => ((0 < ((r54 * x4) - (x5 * r46))) → (wb_X7_findBlock_89 Post K28 x1 x2 x6 r46 r54 u54)) ∧ ((¬ 0 < ((r54 * x4) - (x5 * r46))) → (((¬ ((r54 * x4) - (x5 * r46)) = 0) → (K28 x1 x2 x3 x4 x5 ((x6 - (1 : Int32)) &&& x2) u54)) ∧ ((((r54 * x4) - (x5 * r46)) = 0) → (((r46 ≤ x4) → (K28 x1 x2 x3 x4 x5 ((x6 - (1 : Int32)) &&& x2) u54)) ∧ ((¬ r46 ≤ x4) → (wb_X7_findBlock_89 Post K28 x1 x2 x6 r46 r54 u54)))))))))))))
set_option maxHeartbeats 4000000 in
set_option maxRecDepth 100000 in
theorem tb_X7_findBlock_28 (X : Cx p s m args meth c cX7_findBlock 10 (some .int) RX7 D (tyF b) A) (hA : ∀ q, s.heap.size ≤ q → A q) {Post : Int32 → St → Prop} {K28 : Int32 → Int32 → Int32 → Int32 → Int32 → Int32 → St → Prop} (k28 : ∀ (x1 : Int32) (x2 : Int32) (x3 : Int32) (x4 : Int32) (x5 : Int32) (x6 : Int32) (u : St) (H : Heap) (locs : List Loc) (ls : Array Slot), K28 x1 x2 x3 x4 x5 x6 u → wO D 46 (gF b h) h u A s.heap H locs → lv_has ls 10 [(0, .ref (h 1)), (1, .int x1), (2, .int x2), (3, .int x3), (4, .int x4), (5, .int x5), (6, .int x6)] → W p l e rm_X7_findBlock s m args below meth c H locs 0 0 (MQ below (va_Qi Post (cB D (tyF b) 46 (gF b h) h A) A) args s 0 0 A) (F0 m 28 ls [])) : ∀ (x1 : Int32) (x2 : Int32) (x3 : Int32) (x4 : Int32) (x5 : Int32) (x6 : Int32) (u : St) (H : Heap) (locs : List Loc) (ls : Array Slot), wb_X7_findBlock_28 Post K28 x1 x2 x3 x4 x5 x6 u → wO D 46 (gF b h) h u A s.heap H locs → lv_has ls 10 [(0, .ref (h 1)), (1, .int x1), (2, .int x2), (3, .int x3), (4, .int x4), (5, .int x5), (6, .int x6)] → W p l e rm_X7_findBlock s m args below meth c H locs 0 0 (MQ below (va_Qi Post (cB D (tyF b) 46 (gF b h) h A) A) args s 0 0 A) (F0 m 28 ls []) := by
  obtain ⟨⟨hx, hb, hml, hown, hts⟩, hK, hNs, hlocks, hr⟩ := id X
  intro x1 x2 x3 x4 x5 x6 u H locs ls hw O hl
  unfold wb_X7_findBlock_28 at hw
  refine lv_iload hx hb dX7_findBlock_28 (lv_at hl 6 rfl) ?_
  refine lv_if_le (tgt := 111) hx hb dX7_findBlock_30 (by decide) (fun c30 => ?_) (fun c30 => ?_)
  · have hw := hw.1 c30
    refine lv_iload_n hx hb dX7_findBlock_111 rfl (lv_at hl 3 rfl) ?_
    exact q_iret X O hw dX7_findBlock_112
  · have hw := hw.2 c30
    refine lv_aload_n hx hb dX7_findBlock_33 rfl (lv_at hl 0 rfl) ?_
    refine lv_iload hx hb dX7_findBlock_34 (lv_at hl 6 rfl) ?_
    refine lv_iload_n hx hb dX7_findBlock_36 rfl (lv_at hl 1 rfl) ?_
    refine q_civ (rest := []) X O hA 1 (c_X10_isBeginning hw) lk_X7_77 (by decide) rfl rfl rfl rfl rfl rfl ⟨Nat.le_of_ble_eq_true rfl, Nat.le_of_ble_eq_true rfl⟩ (Nat.le_of_ble_eq_true rfl) hl.1 ⟨Nat.zero_le _, Nat.zero_le _⟩ rfl dX7_findBlock_37 (fun r37 u37 H locs hw O => ?_)
    refine lv_if_eq (tgt := 100) hx hb dX7_findBlock_40 (by decide) (fun c40 => ?_) (fun c40 => ?_)
    · have hw := hw.1 c40
      refine lv_iload hx hb dX7_findBlock_100 (lv_at hl 6 rfl) ?_
      refine lv_iconst (v := 1) hx hb dX7_findBlock_102 (by decide) ?_
      refine lv_isub hx hb dX7_findBlock_103 ?_
      refine lv_iload_n hx hb dX7_findBlock_104 rfl (lv_at hl 2 rfl) ?_
      refine lv_iand hx hb dX7_findBlock_105 ?_
      refine lv_istore (lv' := [(6, .int ((x6 - (1 : Int32)) &&& x2)), (0, .ref (h 1)), (1, .int x1), (2, .int x2), (3, .int x3), (4, .int x4), (5, .int x5)]) hx hb dX7_findBlock_106 hl (by decide) rfl (fun ls hl => ?_)
      refine lv_goto (tgt := 28) hx hb dX7_findBlock_108 (by decide) ?_
      exact k28 _ _ _ _ _ _ _ _ _ _ hw O (lv_sub hl [1, 2, 3, 4, 5, 6, 0] rfl)
    · have hw := hw.2 c40
      refine lv_aload_n hx hb dX7_findBlock_43 rfl (lv_at hl 0 rfl) ?_
      refine lv_iload hx hb dX7_findBlock_44 (lv_at hl 6 rfl) ?_
      refine q_civ (rest := []) X O hA 1 (c_X10_lengthOf hw) lk_X7_70 (by decide) rfl rfl rfl rfl rfl rfl ⟨Nat.le_of_ble_eq_true rfl, Nat.le_of_ble_eq_true rfl⟩ (Nat.le_of_ble_eq_true rfl) hl.1 ⟨Nat.zero_le _, Nat.zero_le _⟩ rfl dX7_findBlock_46 (fun r46 u46 H locs hw O => ?_)
      refine lv_istore (lv' := [(7, .int r46), (0, .ref (h 1)), (1, .int x1), (2, .int x2), (3, .int x3), (4, .int x4), (5, .int x5), (6, .int x6)]) hx hb dX7_findBlock_49 hl (by decide) rfl (fun ls hl => ?_)
      refine lv_aload_n hx hb dX7_findBlock_51 rfl (lv_at hl 1 rfl) ?_
      refine lv_iload hx hb dX7_findBlock_52 (lv_at hl 7 rfl) ?_
      refine q_civ (rest := []) X O hA 1 (c_X10_weightOf hw) lk_X7_74 (by decide) rfl rfl rfl rfl rfl rfl ⟨Nat.le_of_ble_eq_true rfl, Nat.le_of_ble_eq_true rfl⟩ (Nat.le_of_ble_eq_true rfl) hl.1 ⟨Nat.zero_le _, Nat.zero_le _⟩ rfl dX7_findBlock_54 (fun r54 u54 H locs hw O => ?_)
      refine lv_istore (lv' := [(8, .int r54), (7, .int r46), (0, .ref (h 1)), (1, .int x1), (2, .int x2), (3, .int x3), (4, .int x4), (5, .int x5), (6, .int x6)]) hx hb dX7_findBlock_57 hl (by decide) rfl (fun ls hl => ?_)
      refine lv_iload hx hb dX7_findBlock_59 (lv_at hl 0 rfl) ?_
      refine lv_iload hx hb dX7_findBlock_61 (lv_at hl 6 rfl) ?_
      refine lv_imul hx hb dX7_findBlock_63 ?_
      refine lv_iload hx hb dX7_findBlock_64 (lv_at hl 7 rfl) ?_
      refine lv_iload hx hb dX7_findBlock_66 (lv_at hl 1 rfl) ?_
      refine lv_imul hx hb dX7_findBlock_68 ?_
      refine lv_isub hx hb dX7_findBlock_69 ?_
      refine lv_istore (lv' := [(9, .int ((r54 * x4) - (x5 * r46))), (8, .int r54), (7, .int r46), (0, .ref (h 1)), (1, .int x1), (2, .int x2), (3, .int x3), (4, .int x4), (5, .int x5), (6, .int x6)]) hx hb dX7_findBlock_70 hl (by decide) rfl (fun ls hl => ?_)
      refine lv_iload hx hb dX7_findBlock_72 (lv_at hl 0 rfl) ?_
      refine lv_if_gt (tgt := 89) hx hb dX7_findBlock_74 (by decide) (fun c74 => ?_) (fun c74 => ?_)
      · have hw := hw.1 c74
        exact tb_X7_findBlock_89 X hA k28 _ _ _ _ _ _ _ _ _ hw O (lv_sub hl [3, 4, 5, 9, 2, 1] rfl)
      · have hw := hw.2 c74
        refine lv_iload hx hb dX7_findBlock_77 (lv_at hl 0 rfl) ?_
        refine lv_if_ne (tgt := 100) hx hb dX7_findBlock_79 (by decide) (fun c79 => ?_) (fun c79 => ?_)
        · have hw := hw.1 c79
          refine lv_iload hx hb dX7_findBlock_100 (lv_at hl 9 rfl) ?_
          refine lv_iconst (v := 1) hx hb dX7_findBlock_102 (by decide) ?_
          refine lv_isub hx hb dX7_findBlock_103 ?_
          refine lv_iload_n hx hb dX7_findBlock_104 rfl (lv_at hl 5 rfl) ?_
          refine lv_iand hx hb dX7_findBlock_105 ?_
          refine lv_istore (lv' := [(6, .int ((x6 - (1 : Int32)) &&& x2)), (9, .int ((r54 * x4) - (x5 * r46))), (8, .int r54), (7, .int r46), (0, .ref (h 1)), (1, .int x1), (2, .int x2), (3, .int x3), (4, .int x4), (5, .int x5)]) hx hb dX7_findBlock_106 hl (by decide) rfl (fun ls hl => ?_)
          refine lv_goto (tgt := 28) hx hb dX7_findBlock_108 (by decide) ?_
          exact k28 _ _ _ _ _ _ _ _ _ _ hw O (lv_sub hl [4, 5, 6, 7, 8, 9, 0] rfl)
        · have hw := hw.2 c79
          refine lv_iload hx hb dX7_findBlock_82 (lv_at hl 2 rfl) ?_
          refine lv_iload hx hb dX7_findBlock_84 (lv_at hl 7 rfl) ?_
          refine lv_icmp_le (tgt := 100) hx hb dX7_findBlock_86 (by decide) (fun c86 => ?_) (fun c86 => ?_)
          · have hw := hw.1 c86
            refine lv_iload hx hb dX7_findBlock_100 (lv_at hl 9 rfl) ?_
            refine lv_iconst (v := 1) hx hb dX7_findBlock_102 (by decide) ?_
            refine lv_isub hx hb dX7_findBlock_103 ?_
            refine lv_iload_n hx hb dX7_findBlock_104 rfl (lv_at hl 5 rfl) ?_
            refine lv_iand hx hb dX7_findBlock_105 ?_
            refine lv_istore (lv' := [(6, .int ((x6 - (1 : Int32)) &&& x2)), (9, .int ((r54 * x4) - (x5 * r46))), (8, .int r54), (7, .int r46), (0, .ref (h 1)), (1, .int x1), (2, .int x2), (3, .int x3), (4, .int x4), (5, .int x5)]) hx hb dX7_findBlock_106 hl (by decide) rfl (fun ls hl => ?_)
            refine lv_goto (tgt := 28) hx hb dX7_findBlock_108 (by decide) ?_
            exact k28 _ _ _ _ _ _ _ _ _ _ hw O (lv_sub hl [4, 5, 6, 7, 8, 9, 0] rfl)
          · have hw := hw.2 c86
            exact tb_X7_findBlock_89 X hA k28 _ _ _ _ _ _ _ _ _ hw O (lv_sub hl [3, 4, 5, 9, 2, 1] rfl)
def wl_X7_findBlock_28 (Post : Int32 → St → Prop) : Nat → Int32 → Int32 → Int32 → Int32 → Int32 → Int32 → St → Prop
  | 0 => fun _ _ _ _ _ _ _ => False
  | n + 1 => fun x1 x2 x3 x4 x5 x6 u => wb_X7_findBlock_28 Post (wl_X7_findBlock_28 Post n) x1 x2 x3 x4 x5 x6 u
set_option maxHeartbeats 4000000 in
set_option maxRecDepth 100000 in
theorem tl_X7_findBlock_28 (X : Cx p s m args meth c cX7_findBlock 10 (some .int) RX7 D (tyF b) A) (hA : ∀ q, s.heap.size ≤ q → A q) {Post : Int32 → St → Prop} : ∀ n : Nat, ∀ (x1 : Int32) (x2 : Int32) (x3 : Int32) (x4 : Int32) (x5 : Int32) (x6 : Int32) (u : St) (H : Heap) (locs : List Loc) (ls : Array Slot), (wl_X7_findBlock_28 Post n) x1 x2 x3 x4 x5 x6 u → wO D 46 (gF b h) h u A s.heap H locs → lv_has ls 10 [(0, .ref (h 1)), (1, .int x1), (2, .int x2), (3, .int x3), (4, .int x4), (5, .int x5), (6, .int x6)] → W p l e rm_X7_findBlock s m args below meth c H locs 0 0 (MQ below (va_Qi Post (cB D (tyF b) 46 (gF b h) h A) A) args s 0 0 A) (F0 m 28 ls []) := by
  intro n
  induction n with
  | zero => intro x1 x2 x3 x4 x5 x6 u H locs ls hw; exact False.elim hw
  | succ n ih => intro x1 x2 x3 x4 x5 x6 u H locs ls hw O hl; exact tb_X7_findBlock_28 X hA ih x1 x2 x3 x4 x5 x6 u H locs ls hw O hl
def wp_X7_findBlock (a1 : Int32) (u : St) (Post : Int32 → St → Prop) : Prop := wp_X10_everyJob u (fun r1 u1 => wp_X10_lengthOf (r1 &&& (a1 ^^^ (-1 : Int32))) u1 (fun r13 u13 => wp_X10_weightOf (r1 &&& (a1 ^^^ (-1 : Int32))) u13 (fun r20 u20 => ∃ n : Nat, wl_X7_findBlock_28 Post n a1 (r1 &&& (a1 ^^^ (-1 : Int32))) (r1 &&& (a1 ^^^ (-1 : Int32))) r13 r20 (r1 &&& (a1 ^^^ (-1 : Int32))) u20)))
set_option maxHeartbeats 4000000 in
set_option maxRecDepth 100000 in
theorem c_X7_findBlock {a1 : Int32} {l : Launch} {D : va_G} {b : Nat → ClassId} {h : Nat → Nat} {u : St} {Post : Int32 → St → Prop} (hw : wp_X7_findBlock a1 u Post) : CtI l yX7_findBlock cX7_findBlock 10 (some .int) rm_X7_findBlock D (tyF b) 46 (gF b h) h [.ref (h 1), .int a1] u Post := by
  refine CtI.of (plainFor_of_name (by decide)) (Nat.le_of_ble_eq_true rfl) ?_
  intro p e s m below meth c A ls X hA O hl
  have X : Cx p s m _ meth c cX7_findBlock 10 (some .int) RX7 D (tyF b) A := X
  obtain ⟨⟨hx, hb, hml, hown, hts⟩, hK, hNs, hlocks, hr⟩ := id X
  have hl : lv_has ls 10 [(0, .ref (h 1)), (1, .int a1)] := hl
  unfold wp_X7_findBlock at hw
  refine lv_aload_n hx hb dX7_findBlock_0 rfl (lv_at hl 0 rfl) ?_
  refine q_civ (rest := []) X O hA 1 (c_X10_everyJob hw) lk_X7_63 (by decide) rfl rfl rfl rfl rfl rfl ⟨Nat.le_of_ble_eq_true rfl, Nat.le_of_ble_eq_true rfl⟩ (Nat.le_of_ble_eq_true rfl) hl.1 ⟨Nat.zero_le _, Nat.zero_le _⟩ rfl dX7_findBlock_1 (fun r1 u1 H locs hw O => ?_)
  refine lv_iload_n hx hb dX7_findBlock_4 rfl (lv_at hl 1 rfl) ?_
  refine lv_iconst (v := -1) hx hb dX7_findBlock_5 (by decide) ?_
  refine lv_ixor hx hb dX7_findBlock_6 ?_
  refine lv_iand hx hb dX7_findBlock_7 ?_
  refine lv_istore_n (lv' := [(2, .int (r1 &&& (a1 ^^^ (-1 : Int32)))), (0, .ref (h 1)), (1, .int a1)]) hx hb dX7_findBlock_8 rfl hl (by decide) rfl (fun ls hl => ?_)
  refine lv_iload_n hx hb dX7_findBlock_9 rfl (lv_at hl 0 rfl) ?_
  refine lv_istore_n (lv' := [(3, .int (r1 &&& (a1 ^^^ (-1 : Int32)))), (2, .int (r1 &&& (a1 ^^^ (-1 : Int32)))), (0, .ref (h 1)), (1, .int a1)]) hx hb dX7_findBlock_10 rfl hl (by decide) rfl (fun ls hl => ?_)
  refine lv_aload_n hx hb dX7_findBlock_11 rfl (lv_at hl 2 rfl) ?_
  refine lv_iload_n hx hb dX7_findBlock_12 rfl (lv_at hl 1 rfl) ?_
  refine q_civ (rest := []) X O hA 1 (c_X10_lengthOf hw) lk_X7_70 (by decide) rfl rfl rfl rfl rfl rfl ⟨Nat.le_of_ble_eq_true rfl, Nat.le_of_ble_eq_true rfl⟩ (Nat.le_of_ble_eq_true rfl) hl.1 ⟨Nat.zero_le _, Nat.zero_le _⟩ rfl dX7_findBlock_13 (fun r13 u13 H locs hw O => ?_)
  refine lv_istore (lv' := [(4, .int r13), (3, .int (r1 &&& (a1 ^^^ (-1 : Int32)))), (2, .int (r1 &&& (a1 ^^^ (-1 : Int32)))), (0, .ref (h 1)), (1, .int a1)]) hx hb dX7_findBlock_16 hl (by decide) rfl (fun ls hl => ?_)
  refine lv_aload_n hx hb dX7_findBlock_18 rfl (lv_at hl 3 rfl) ?_
  refine lv_iload_n hx hb dX7_findBlock_19 rfl (lv_at hl 2 rfl) ?_
  refine q_civ (rest := []) X O hA 1 (c_X10_weightOf hw) lk_X7_74 (by decide) rfl rfl rfl rfl rfl rfl ⟨Nat.le_of_ble_eq_true rfl, Nat.le_of_ble_eq_true rfl⟩ (Nat.le_of_ble_eq_true rfl) hl.1 ⟨Nat.zero_le _, Nat.zero_le _⟩ rfl dX7_findBlock_20 (fun r20 u20 H locs hw O => ?_)
  refine lv_istore (lv' := [(5, .int r20), (4, .int r13), (3, .int (r1 &&& (a1 ^^^ (-1 : Int32)))), (2, .int (r1 &&& (a1 ^^^ (-1 : Int32)))), (0, .ref (h 1)), (1, .int a1)]) hx hb dX7_findBlock_23 hl (by decide) rfl (fun ls hl => ?_)
  refine lv_iload_n hx hb dX7_findBlock_25 rfl (lv_at hl 3 rfl) ?_
  refine lv_istore (lv' := [(6, .int (r1 &&& (a1 ^^^ (-1 : Int32)))), (5, .int r20), (4, .int r13), (3, .int (r1 &&& (a1 ^^^ (-1 : Int32)))), (2, .int (r1 &&& (a1 ^^^ (-1 : Int32)))), (0, .ref (h 1)), (1, .int a1)]) hx hb dX7_findBlock_26 hl (by decide) rfl (fun ls hl => ?_)
  obtain ⟨n, hw⟩ := hw
  exact tl_X7_findBlock_28 X hA n _ _ _ _ _ _ _ _ _ _ hw O (lv_sub hl [5, 6, 4, 3, 2, 1, 0] rfl)
-- FellersOrder$Plan.findBlocks(LFellersOrder$Yard;)V
abbrev rm_X7_findBlocks : Room := { frames := 2, cells := 0, slots := 0, locals := 52 }
def wb_X7_findBlocks_9 (Post : Int32 → St → Prop) (K9 : Int32 → Int32 → St → Prop) (x2 : Int32) (x3 : Int32) (u : St) : Prop := (((12 : Int32) ≤ x3) → (Post 0 u)) ∧ ((¬ (12 : Int32) ≤ x3) → (wp_X10_everyJob u (fun r17 u17 => ((x2 = r17) → (Post 0 u17)) ∧ ((¬ x2 = r17) → (wp_X7_findBlock x2 u17 (fun r30 u30 => vp_in x3 12 ∧ (vp_in x3 12 ∧ (K9 (x2 ||| ((su u30 13 (Int32.toNatClampNeg x3) r30) 13 (Int32.toNatClampNeg x3))) (x3 + 1) (su (su u30 13 (Int32.toNatClampNeg x3) r30) 12 1 (((su u30 13 (Int32.toNatClampNeg x3) r30) 12 1) + (1 : Int32)))))))))))
set_option maxHeartbeats 4000000 in
set_option maxRecDepth 100000 in
theorem tb_X7_findBlocks_9 (X : Cx p s m args meth c cX7_findBlocks 4 none RX7 D (tyF b) A) (hA : ∀ q, s.heap.size ≤ q → A q) {Post : Int32 → St → Prop} {K9 : Int32 → Int32 → St → Prop} (k9 : ∀ (x2 : Int32) (x3 : Int32) (u : St) (H : Heap) (locs : List Loc) (ls : Array Slot), K9 x2 x3 u → wO D 46 (gF b h) h u A s.heap H locs → lv_has ls 4 [(0, .ref (h 12)), (1, .ref (h 1)), (2, .int x2), (3, .int x3)] → W p l e rm_X7_findBlocks s m args below meth c H locs 0 0 (MQ below (va_Qv (Post 0) (cB D (tyF b) 46 (gF b h) h A) A) args s 0 0 A) (F0 m 9 ls [])) : ∀ (x2 : Int32) (x3 : Int32) (u : St) (H : Heap) (locs : List Loc) (ls : Array Slot), wb_X7_findBlocks_9 Post K9 x2 x3 u → wO D 46 (gF b h) h u A s.heap H locs → lv_has ls 4 [(0, .ref (h 12)), (1, .ref (h 1)), (2, .int x2), (3, .int x3)] → W p l e rm_X7_findBlocks s m args below meth c H locs 0 0 (MQ below (va_Qv (Post 0) (cB D (tyF b) 46 (gF b h) h A) A) args s 0 0 A) (F0 m 9 ls []) := by
  obtain ⟨⟨hx, hb, hml, hown, hts⟩, hK, hNs, hlocks, hr⟩ := id X
  intro x2 x3 u H locs ls hw O hl
  unfold wb_X7_findBlocks_9 at hw
  refine lv_iload_n hx hb dX7_findBlocks_9 rfl (lv_at hl 3 rfl) ?_
  refine lv_bipush (v := 12) hx hb dX7_findBlocks_10 (by decide) ?_
  refine lv_icmp_ge (tgt := 59) hx hb dX7_findBlocks_12 (by decide) (fun c12 => ?_) (fun c12 => ?_)
  · have hw := hw.1 c12
    exact q_vret X O hw dX7_findBlocks_59
  · have hw := hw.2 c12
    refine lv_iload_n hx hb dX7_findBlocks_15 rfl (lv_at hl 2 rfl) ?_
    refine lv_aload_n hx hb dX7_findBlocks_16 rfl (lv_at hl 1 rfl) ?_
    refine q_civ (rest := [.int x2]) X O hA 1 (c_X10_everyJob hw) lk_X7_63 (by decide) rfl rfl rfl rfl rfl rfl ⟨Nat.le_of_ble_eq_true rfl, Nat.le_of_ble_eq_true rfl⟩ (Nat.le_of_ble_eq_true rfl) hl.1 ⟨Nat.zero_le _, Nat.zero_le _⟩ rfl dX7_findBlocks_17 (fun r17 u17 H locs hw O => ?_)
    refine lv_icmp_eq (tgt := 59) hx hb dX7_findBlocks_20 (by decide) (fun c20 => ?_) (fun c20 => ?_)
    · have hw := hw.1 c20
      exact q_vret X O hw dX7_findBlocks_59
    · have hw := hw.2 c20
      refine lv_aload_n hx hb dX7_findBlocks_23 rfl (lv_at hl 0 rfl) ?_
      refine gt_X7_9 X O dX7_findBlocks_24 ?_
      refine lv_iload_n hx hb dX7_findBlocks_27 rfl (lv_at hl 3 rfl) ?_
      refine lv_aload_n hx hb dX7_findBlocks_28 rfl (lv_at hl 1 rfl) ?_
      refine lv_iload_n hx hb dX7_findBlocks_29 rfl (lv_at hl 2 rfl) ?_
      refine q_cis (rest := [.int x3, .ref (h 13)]) X O hA (c_X7_findBlock hw) lk_X7_66 rfl rfl rfl ⟨Nat.le_of_ble_eq_true rfl, Nat.le_of_ble_eq_true rfl⟩ (Nat.le_of_ble_eq_true rfl) hl.1 ⟨Nat.zero_le _, Nat.zero_le _⟩ rfl dX7_findBlocks_30 (fun r30 u30 H locs hw O => ?_)
      obtain ⟨i33, hw⟩ := hw
      refine q_ist X O 13 0 (by decide) (fun _ => rfl) rfl i33 dX7_findBlocks_33 (fun H locs O => ?_)
      refine lv_iload_n hx hb dX7_findBlocks_34 rfl (lv_at hl 2 rfl) ?_
      refine lv_aload_n hx hb dX7_findBlocks_35 rfl (lv_at hl 0 rfl) ?_
      refine gt_X7_9 X O dX7_findBlocks_36 ?_
      refine lv_iload_n hx hb dX7_findBlocks_39 rfl (lv_at hl 3 rfl) ?_
      obtain ⟨i40, hw⟩ := hw
      refine q_ild X O 13 0 (by decide) rfl rfl i40 dX7_findBlocks_40 ?_
      refine lv_ior hx hb dX7_findBlocks_41 ?_
      refine lv_istore_n (lv' := [(2, .int (x2 ||| ((su u30 13 (Int32.toNatClampNeg x3) r30) 13 (Int32.toNatClampNeg x3)))), (0, .ref (h 12)), (1, .ref (h 1)), (3, .int x3)]) hx hb dX7_findBlocks_42 rfl hl (by decide) rfl (fun ls hl => ?_)
      refine lv_aload_n hx hb dX7_findBlocks_43 rfl (lv_at hl 1 rfl) ?_
      refine lv_dup hx hb dX7_findBlocks_44 rfl ?_
      refine gt_X7_47 X O dX7_findBlocks_45 ?_
      refine lv_iconst (v := 1) hx hb dX7_findBlocks_48 (by decide) ?_
      refine lv_iadd hx hb dX7_findBlocks_49 ?_
      refine pt_X7_47 X O dX7_findBlocks_50 (fun H locs O => ?_)
      refine lv_iinc (v := x3 + 1) (lv' := [(3, .int (x3 + 1)), (2, .int (x2 ||| ((su u30 13 (Int32.toNatClampNeg x3) r30) 13 (Int32.toNatClampNeg x3)))), (0, .ref (h 12)), (1, .ref (h 1))]) hx hb dX7_findBlocks_53 hl (k := 3) rfl rfl (by decide) rfl (fun ls hl => ?_)
      refine lv_goto (tgt := 9) hx hb dX7_findBlocks_56 (by decide) ?_
      exact k9 _ _ _ _ _ _ hw O (lv_sub hl [2, 3, 1, 0] rfl)
def wl_X7_findBlocks_9 (Post : Int32 → St → Prop) : Nat → Int32 → Int32 → St → Prop
  | 0 => fun _ _ _ => False
  | n + 1 => fun x2 x3 u => wb_X7_findBlocks_9 Post (wl_X7_findBlocks_9 Post n) x2 x3 u
set_option maxHeartbeats 4000000 in
set_option maxRecDepth 100000 in
theorem tl_X7_findBlocks_9 (X : Cx p s m args meth c cX7_findBlocks 4 none RX7 D (tyF b) A) (hA : ∀ q, s.heap.size ≤ q → A q) {Post : Int32 → St → Prop} : ∀ n : Nat, ∀ (x2 : Int32) (x3 : Int32) (u : St) (H : Heap) (locs : List Loc) (ls : Array Slot), (wl_X7_findBlocks_9 Post n) x2 x3 u → wO D 46 (gF b h) h u A s.heap H locs → lv_has ls 4 [(0, .ref (h 12)), (1, .ref (h 1)), (2, .int x2), (3, .int x3)] → W p l e rm_X7_findBlocks s m args below meth c H locs 0 0 (MQ below (va_Qv (Post 0) (cB D (tyF b) 46 (gF b h) h A) A) args s 0 0 A) (F0 m 9 ls []) := by
  intro n
  induction n with
  | zero => intro x2 x3 u H locs ls hw; exact False.elim hw
  | succ n ih => intro x2 x3 u H locs ls hw O hl; exact tb_X7_findBlocks_9 X hA ih x2 x3 u H locs ls hw O hl
def wp_X7_findBlocks (u : St) (Post : Int32 → St → Prop) : Prop := ∃ n : Nat, wl_X7_findBlocks_9 Post n (0 : Int32) (0 : Int32) (su u 12 1 (0 : Int32))
set_option maxHeartbeats 4000000 in
set_option maxRecDepth 100000 in
theorem c_X7_findBlocks {l : Launch} {D : va_G} {b : Nat → ClassId} {h : Nat → Nat} {u : St} {Post : Int32 → St → Prop} (hw : wp_X7_findBlocks u Post) : CtV l yX7_findBlocks cX7_findBlocks 4 none rm_X7_findBlocks D (tyF b) 46 (gF b h) h [.ref (h 12), .ref (h 1)] u Post := by
  refine CtV.of (plainFor_of_name (by decide)) (Nat.le_of_ble_eq_true rfl) ?_
  intro p e s m below meth c A ls X hA O hl
  have X : Cx p s m _ meth c cX7_findBlocks 4 none RX7 D (tyF b) A := X
  obtain ⟨⟨hx, hb, hml, hown, hts⟩, hK, hNs, hlocks, hr⟩ := id X
  have hl : lv_has ls 4 [(0, .ref (h 12)), (1, .ref (h 1))] := hl
  unfold wp_X7_findBlocks at hw
  refine lv_iconst (v := 0) hx hb dX7_findBlocks_0 (by decide) ?_
  refine lv_istore_n (lv' := [(2, .int (0 : Int32)), (0, .ref (h 12)), (1, .ref (h 1))]) hx hb dX7_findBlocks_1 rfl hl (by decide) rfl (fun ls hl => ?_)
  refine lv_aload_n hx hb dX7_findBlocks_2 rfl (lv_at hl 1 rfl) ?_
  refine lv_iconst (v := 0) hx hb dX7_findBlocks_3 (by decide) ?_
  refine pt_X7_47 X O dX7_findBlocks_4 (fun H locs O => ?_)
  refine lv_iconst (v := 0) hx hb dX7_findBlocks_7 (by decide) ?_
  refine lv_istore_n (lv' := [(3, .int (0 : Int32)), (2, .int (0 : Int32)), (0, .ref (h 12)), (1, .ref (h 1))]) hx hb dX7_findBlocks_8 rfl hl (by decide) rfl (fun ls hl => ?_)
  obtain ⟨n, hw⟩ := hw
  exact tl_X7_findBlocks_9 X hA n _ _ _ _ _ _ hw O (lv_sub hl [2, 3, 1, 0] rfl)
-- FellersOrder$Plan.blocks(LFellersOrder$Yard;)I
abbrev rm_X7_blocks : Room := { frames := 3, cells := 0, slots := 0, locals := 75 }
def wp_X7_blocks (u : St) (Post : Int32 → St → Prop) : Prop := wp_X10_version u (fun r5 u5 => (((u 12 2) = r5) → (Post (u5 12 1) u5)) ∧ ((¬ (u 12 2) = r5) → (wp_X7_findBlocks u5 (fun _ u13 => wp_X10_version u13 (fun r18 u18 => Post ((su u18 12 2 r18) 12 1) (su u18 12 2 r18))))))
set_option maxHeartbeats 4000000 in
set_option maxRecDepth 100000 in
theorem c_X7_blocks {l : Launch} {D : va_G} {b : Nat → ClassId} {h : Nat → Nat} {u : St} {Post : Int32 → St → Prop} (hw : wp_X7_blocks u Post) : CtI l yX7_blocks cX7_blocks 2 (some .int) rm_X7_blocks D (tyF b) 46 (gF b h) h [.ref (h 12), .ref (h 1)] u Post := by
  refine CtI.of (plainFor_of_name (by decide)) (Nat.le_of_ble_eq_true rfl) ?_
  intro p e s m below meth c A ls X hA O hl
  have X : Cx p s m _ meth c cX7_blocks 2 (some .int) RX7 D (tyF b) A := X
  obtain ⟨⟨hx, hb, hml, hown, hts⟩, hK, hNs, hlocks, hr⟩ := id X
  have hl : lv_has ls 2 [(0, .ref (h 12)), (1, .ref (h 1))] := hl
  unfold wp_X7_blocks at hw
  refine lv_aload_n hx hb dX7_blocks_0 rfl (lv_at hl 0 rfl) ?_
  refine gt_X7_15 X O dX7_blocks_1 ?_
  refine lv_aload_n hx hb dX7_blocks_4 rfl (lv_at hl 1 rfl) ?_
  refine q_civ (rest := [.int (u 12 2)]) X O hA 1 (c_X10_version hw) lk_X7_37 (by decide) rfl rfl rfl rfl rfl rfl ⟨Nat.le_of_ble_eq_true rfl, Nat.le_of_ble_eq_true rfl⟩ (Nat.le_of_ble_eq_true rfl) hl.1 ⟨Nat.zero_le _, Nat.zero_le _⟩ rfl dX7_blocks_5 (fun r5 u5 H locs hw O => ?_)
  refine lv_icmp_eq (tgt := 24) hx hb dX7_blocks_8 (by decide) (fun c8 => ?_) (fun c8 => ?_)
  · have hw := hw.1 c8
    refine lv_aload_n hx hb dX7_blocks_24 rfl (lv_at hl 0 rfl) ?_
    refine gt_X7_47 X O dX7_blocks_25 ?_
    exact q_iret X O hw dX7_blocks_28
  · have hw := hw.2 c8
    refine lv_aload_n hx hb dX7_blocks_11 rfl (lv_at hl 0 rfl) ?_
    refine lv_aload_n hx hb dX7_blocks_12 rfl (lv_at hl 1 rfl) ?_
    refine q_cvv (rest := []) X O hA 12 (c_X7_findBlocks hw) lk_X7_43 (by decide) rfl rfl rfl rfl rfl rfl ⟨Nat.le_of_ble_eq_true rfl, Nat.le_of_ble_eq_true rfl⟩ (Nat.le_of_ble_eq_true rfl) hl.1 ⟨Nat.zero_le _, Nat.zero_le _⟩ rfl dX7_blocks_13 (fun u13 H locs hw O => ?_)
    refine lv_aload_n hx hb dX7_blocks_16 rfl (lv_at hl 0 rfl) ?_
    refine lv_aload_n hx hb dX7_blocks_17 rfl (lv_at hl 1 rfl) ?_
    refine q_civ (rest := [.ref (h 12)]) X O hA 1 (c_X10_version hw) lk_X7_37 (by decide) rfl rfl rfl rfl rfl rfl ⟨Nat.le_of_ble_eq_true rfl, Nat.le_of_ble_eq_true rfl⟩ (Nat.le_of_ble_eq_true rfl) hl.1 ⟨Nat.zero_le _, Nat.zero_le _⟩ rfl dX7_blocks_18 (fun r18 u18 H locs hw O => ?_)
    refine pt_X7_15 X O dX7_blocks_21 (fun H locs O => ?_)
    refine lv_aload_n hx hb dX7_blocks_24 rfl (lv_at hl 0 rfl) ?_
    refine gt_X7_47 X O dX7_blocks_25 ?_
    exact q_iret X O hw dX7_blocks_28
-- FellersOrder$Plan.blockOf(LFellersOrder$Yard;I)I
abbrev rm_X7_blockOf : Room := { frames := 4, cells := 0, slots := 0, locals := 96 }
def wb_X7_blockOf_9 (Post : Int32 → St → Prop) (K9 : Int32 → Int32 → Int32 → St → Prop) (x2 : Int32) (x3 : Int32) (x4 : Int32) (u : St) : Prop := ((x3 ≤ x4) → (Post (-1 : Int32) u)) ∧ ((¬ x3 ≤ x4) → (vp_in x4 12 ∧ (wp_X11_hasBit (u 13 (Int32.toNatClampNeg x4)) x2 u (fun r23 u23 => ((r23 = 0) → (K9 x2 x3 (x4 + 1) u23)) ∧ ((¬ r23 = 0) → (Post x4 u23))))))
set_option maxHeartbeats 4000000 in
set_option maxRecDepth 100000 in
theorem tb_X7_blockOf_9 (X : Cx p s m args meth c cX7_blockOf 5 (some .int) RX7 D (tyF b) A) (hA : ∀ q, s.heap.size ≤ q → A q) {Post : Int32 → St → Prop} {K9 : Int32 → Int32 → Int32 → St → Prop} (k9 : ∀ (x2 : Int32) (x3 : Int32) (x4 : Int32) (u : St) (H : Heap) (locs : List Loc) (ls : Array Slot), K9 x2 x3 x4 u → wO D 46 (gF b h) h u A s.heap H locs → lv_has ls 5 [(0, .ref (h 12)), (2, .int x2), (3, .int x3), (4, .int x4)] → W p l e rm_X7_blockOf s m args below meth c H locs 0 0 (MQ below (va_Qi Post (cB D (tyF b) 46 (gF b h) h A) A) args s 0 0 A) (F0 m 9 ls [])) : ∀ (x2 : Int32) (x3 : Int32) (x4 : Int32) (u : St) (H : Heap) (locs : List Loc) (ls : Array Slot), wb_X7_blockOf_9 Post K9 x2 x3 x4 u → wO D 46 (gF b h) h u A s.heap H locs → lv_has ls 5 [(0, .ref (h 12)), (2, .int x2), (3, .int x3), (4, .int x4)] → W p l e rm_X7_blockOf s m args below meth c H locs 0 0 (MQ below (va_Qi Post (cB D (tyF b) 46 (gF b h) h A) A) args s 0 0 A) (F0 m 9 ls []) := by
  obtain ⟨⟨hx, hb, hml, hown, hts⟩, hK, hNs, hlocks, hr⟩ := id X
  intro x2 x3 x4 u H locs ls hw O hl
  unfold wb_X7_blockOf_9 at hw
  refine lv_iload hx hb dX7_blockOf_9 (lv_at hl 3 rfl) ?_
  refine lv_iload_n hx hb dX7_blockOf_11 rfl (lv_at hl 2 rfl) ?_
  refine lv_icmp_ge (tgt := 38) hx hb dX7_blockOf_12 (by decide) (fun c12 => ?_) (fun c12 => ?_)
  · have hw := hw.1 c12
    refine lv_iconst (v := -1) hx hb dX7_blockOf_38 (by decide) ?_
    exact q_iret X O hw dX7_blockOf_39
  · have hw := hw.2 c12
    refine lv_aload_n hx hb dX7_blockOf_15 rfl (lv_at hl 0 rfl) ?_
    refine gt_X7_9 X O dX7_blockOf_16 ?_
    refine lv_iload hx hb dX7_blockOf_19 (lv_at hl 3 rfl) ?_
    obtain ⟨i21, hw⟩ := hw
    refine q_ild X O 13 0 (by decide) rfl rfl i21 dX7_blockOf_21 ?_
    refine lv_iload_n hx hb dX7_blockOf_22 rfl (lv_at hl 1 rfl) ?_
    refine q_cisN (rest := []) X O hA (c_X11_hasBit hw) lk_X7_53 rfl rfl rfl ⟨Nat.le_of_ble_eq_true rfl, Nat.le_of_ble_eq_true rfl⟩ (Nat.le_of_ble_eq_true rfl) hl.1 ⟨Nat.zero_le _, Nat.zero_le _⟩ rfl dX7_blockOf_23 (fun r23 u23 H locs hw O => ?_)
    refine lv_if_eq (tgt := 32) hx hb dX7_blockOf_26 (by decide) (fun c26 => ?_) (fun c26 => ?_)
    · have hw := hw.1 c26
      refine lv_iinc (v := x4 + 1) (lv' := [(4, .int (x4 + 1)), (0, .ref (h 12)), (2, .int x2), (3, .int x3)]) hx hb dX7_blockOf_32 hl (k := 3) rfl rfl (by decide) rfl (fun ls hl => ?_)
      refine lv_goto (tgt := 9) hx hb dX7_blockOf_35 (by decide) ?_
      exact k9 _ _ _ _ _ _ _ hw O (lv_sub hl [1, 2, 3, 0] rfl)
    · have hw := hw.2 c26
      refine lv_iload hx hb dX7_blockOf_29 (lv_at hl 3 rfl) ?_
      exact q_iret X O hw dX7_blockOf_31
def wl_X7_blockOf_9 (Post : Int32 → St → Prop) : Nat → Int32 → Int32 → Int32 → St → Prop
  | 0 => fun _ _ _ _ => False
  | n + 1 => fun x2 x3 x4 u => wb_X7_blockOf_9 Post (wl_X7_blockOf_9 Post n) x2 x3 x4 u
set_option maxHeartbeats 4000000 in
set_option maxRecDepth 100000 in
theorem tl_X7_blockOf_9 (X : Cx p s m args meth c cX7_blockOf 5 (some .int) RX7 D (tyF b) A) (hA : ∀ q, s.heap.size ≤ q → A q) {Post : Int32 → St → Prop} : ∀ n : Nat, ∀ (x2 : Int32) (x3 : Int32) (x4 : Int32) (u : St) (H : Heap) (locs : List Loc) (ls : Array Slot), (wl_X7_blockOf_9 Post n) x2 x3 x4 u → wO D 46 (gF b h) h u A s.heap H locs → lv_has ls 5 [(0, .ref (h 12)), (2, .int x2), (3, .int x3), (4, .int x4)] → W p l e rm_X7_blockOf s m args below meth c H locs 0 0 (MQ below (va_Qi Post (cB D (tyF b) 46 (gF b h) h A) A) args s 0 0 A) (F0 m 9 ls []) := by
  intro n
  induction n with
  | zero => intro x2 x3 x4 u H locs ls hw; exact False.elim hw
  | succ n ih => intro x2 x3 x4 u H locs ls hw O hl; exact tb_X7_blockOf_9 X hA ih x2 x3 x4 u H locs ls hw O hl
def wp_X7_blockOf (a2 : Int32) (u : St) (Post : Int32 → St → Prop) : Prop := wp_X7_blocks u (fun r2 u2 => ∃ n : Nat, wl_X7_blockOf_9 Post n a2 r2 (0 : Int32) u2)
set_option maxHeartbeats 4000000 in
set_option maxRecDepth 100000 in
theorem c_X7_blockOf {a2 : Int32} {l : Launch} {D : va_G} {b : Nat → ClassId} {h : Nat → Nat} {u : St} {Post : Int32 → St → Prop} (hw : wp_X7_blockOf a2 u Post) : CtI l yX7_blockOf cX7_blockOf 5 (some .int) rm_X7_blockOf D (tyF b) 46 (gF b h) h [.ref (h 12), .ref (h 1), .int a2] u Post := by
  refine CtI.of (plainFor_of_name (by decide)) (Nat.le_of_ble_eq_true rfl) ?_
  intro p e s m below meth c A ls X hA O hl
  have X : Cx p s m _ meth c cX7_blockOf 5 (some .int) RX7 D (tyF b) A := X
  obtain ⟨⟨hx, hb, hml, hown, hts⟩, hK, hNs, hlocks, hr⟩ := id X
  have hl : lv_has ls 5 [(0, .ref (h 12)), (1, .ref (h 1)), (2, .int a2)] := hl
  unfold wp_X7_blockOf at hw
  refine lv_aload_n hx hb dX7_blockOf_0 rfl (lv_at hl 0 rfl) ?_
  refine lv_aload_n hx hb dX7_blockOf_1 rfl (lv_at hl 1 rfl) ?_
  refine q_civ (rest := []) X O hA 12 (c_X7_blocks hw) lk_X7_50 (by decide) rfl rfl rfl rfl rfl rfl ⟨Nat.le_of_ble_eq_true rfl, Nat.le_of_ble_eq_true rfl⟩ (Nat.le_of_ble_eq_true rfl) hl.1 ⟨Nat.zero_le _, Nat.zero_le _⟩ rfl dX7_blockOf_2 (fun r2 u2 H locs hw O => ?_)
  refine lv_istore_n (lv' := [(3, .int r2), (0, .ref (h 12)), (1, .ref (h 1)), (2, .int a2)]) hx hb dX7_blockOf_5 rfl hl (by decide) rfl (fun ls hl => ?_)
  refine lv_iconst (v := 0) hx hb dX7_blockOf_6 (by decide) ?_
  refine lv_istore (lv' := [(4, .int (0 : Int32)), (3, .int r2), (0, .ref (h 12)), (1, .ref (h 1)), (2, .int a2)]) hx hb dX7_blockOf_7 hl (by decide) rfl (fun ls hl => ?_)
  obtain ⟨n, hw⟩ := hw
  exact tl_X7_blockOf_9 X hA n _ _ _ _ _ _ _ hw O (lv_sub hl [2, 4, 1, 0] rfl)
-- FellersOrder.told(II)I
abbrev rm_X11_told : Room := { frames := 5, cells := 0, slots := 0, locals := 120 }
def wp_X11_told (a1 : Int32) (a2 : Int32) (u : St) (Post : Int32 → St → Prop) : Prop := wp_X10_has a1 u (fun r5 u5 => ((¬ r5 = 0) → ((a2 = 0 → (wp_X10_measure a1 a2 u5 (fun r66 u66 => Post r66 u66))) ∧ (a2 = 1 → (wp_X10_measure a1 a2 u5 (fun r66 u66 => Post r66 u66))) ∧ (a2 = 2 → (wp_X10_measure a1 a2 u5 (fun r66 u66 => Post r66 u66))) ∧ (a2 = 3 → (wp_X10_kindOf a1 u5 (fun r75 u75 => Post r75 u75))) ∧ (a2 = 4 → (wp_X10_aheadOf a1 u5 (fun r84 u84 => wp_J6_bitCount_0f7a4 r84 u84 (fun r87 u87 => Post r87 u87)))) ∧ (a2 = 5 → (wp_X10_behind a1 u5 (fun r96 u96 => wp_J6_bitCount_0f7a4 r96 u96 (fun r99 u99 => Post r99 u99)))) ∧ (a2 = 6 → (wp_X6_placeOf a1 u5 (fun r108 u108 => Post r108 u108))) ∧ (a2 = 7 → (wp_X7_blockOf a1 u5 (fun r121 u121 => Post r121 u121))) ∧ (¬ a2 = 0 → ¬ a2 = 1 → ¬ a2 = 2 → ¬ a2 = 3 → ¬ a2 = 4 → ¬ a2 = 5 → ¬ a2 = 6 → ¬ a2 = 7 → (Post (-1 : Int32) u5)))) ∧ ((r5 = 0) → (Post (-1 : Int32) u5)))
set_option maxHeartbeats 4000000 in
set_option maxRecDepth 100000 in
theorem c_X11_told {a1 : Int32} {a2 : Int32} {l : Launch} {D : va_G} {b : Nat → ClassId} {h : Nat → Nat} {u : St} {Post : Int32 → St → Prop} (hw : wp_X11_told a1 a2 u Post) : CtI l yX11_told cX11_told 3 (some .int) rm_X11_told D (tyF b) 46 (gF b h) h [.ref (h 0), .int a1, .int a2] u Post := by
  refine CtI.of (plainFor_of_name (by decide)) (Nat.le_of_ble_eq_true rfl) ?_
  intro p e s m below meth c A ls X hA O hl
  have X : Cx p s m _ meth c cX11_told 3 (some .int) RX11 D (tyF b) A := X
  obtain ⟨⟨hx, hb, hml, hown, hts⟩, hK, hNs, hlocks, hr⟩ := id X
  have hl : lv_has ls 3 [(0, .ref (h 0)), (1, .int a1), (2, .int a2)] := hl
  unfold wp_X11_told at hw
  refine lv_aload_n hx hb dX11_told_0 rfl (lv_at hl 0 rfl) ?_
  refine gt_X11_10 X O dX11_told_1 ?_
  refine lv_iload_n hx hb dX11_told_4 rfl (lv_at hl 1 rfl) ?_
  refine q_civ (rest := []) X O hA 1 (c_X10_has hw) lk_X11_93 (by decide) rfl rfl rfl rfl rfl rfl ⟨Nat.le_of_ble_eq_true rfl, Nat.le_of_ble_eq_true rfl⟩ (Nat.le_of_ble_eq_true rfl) hl.1 ⟨Nat.zero_le _, Nat.zero_le _⟩ rfl dX11_told_5 (fun r5 u5 H locs hw O => ?_)
  refine lv_if_ne (tgt := 13) hx hb dX11_told_8 (by decide) (fun c8 => ?_) (fun c8 => ?_)
  · have hw := hw.1 c8
    refine lv_iload_n hx hb dX11_told_13 rfl (lv_at hl 2 rfl) ?_
    by_cases s14_0 : a2 = 0
    · have hw := hw.1 s14_0
      refine lv_tableIn (off := 46) (tgt := 60) hx hb dX11_told_14 (by rw [s14_0]; decide) (by rw [s14_0]; decide) (by rw [s14_0]; decide) (by decide) ?_
      refine lv_aload_n hx hb dX11_told_60 rfl (lv_at hl 0 rfl) ?_
      refine gt_X11_10 X O dX11_told_61 ?_
      refine lv_iload_n hx hb dX11_told_64 rfl (lv_at hl 1 rfl) ?_
      refine lv_iload_n hx hb dX11_told_65 rfl (lv_at hl 2 rfl) ?_
      refine q_civ (rest := []) X O hA 1 (c_X10_measure hw) lk_X11_97 (by decide) rfl rfl rfl rfl rfl rfl ⟨Nat.le_of_ble_eq_true rfl, Nat.le_of_ble_eq_true rfl⟩ (Nat.le_of_ble_eq_true rfl) hl.1 ⟨Nat.zero_le _, Nat.zero_le _⟩ rfl dX11_told_66 (fun r66 u66 H locs hw O => ?_)
      exact q_iret X O hw dX11_told_69
    · replace hw := hw.2
      by_cases s14_1 : a2 = 1
      · have hw := hw.1 s14_1
        refine lv_tableIn (off := 46) (tgt := 60) hx hb dX11_told_14 (by rw [s14_1]; decide) (by rw [s14_1]; decide) (by rw [s14_1]; decide) (by decide) ?_
        refine lv_aload_n hx hb dX11_told_60 rfl (lv_at hl 0 rfl) ?_
        refine gt_X11_10 X O dX11_told_61 ?_
        refine lv_iload_n hx hb dX11_told_64 rfl (lv_at hl 1 rfl) ?_
        refine lv_iload_n hx hb dX11_told_65 rfl (lv_at hl 2 rfl) ?_
        refine q_civ (rest := []) X O hA 1 (c_X10_measure hw) lk_X11_97 (by decide) rfl rfl rfl rfl rfl rfl ⟨Nat.le_of_ble_eq_true rfl, Nat.le_of_ble_eq_true rfl⟩ (Nat.le_of_ble_eq_true rfl) hl.1 ⟨Nat.zero_le _, Nat.zero_le _⟩ rfl dX11_told_66 (fun r66 u66 H locs hw O => ?_)
        exact q_iret X O hw dX11_told_69
      · replace hw := hw.2
        by_cases s14_2 : a2 = 2
        · have hw := hw.1 s14_2
          refine lv_tableIn (off := 46) (tgt := 60) hx hb dX11_told_14 (by rw [s14_2]; decide) (by rw [s14_2]; decide) (by rw [s14_2]; decide) (by decide) ?_
          refine lv_aload_n hx hb dX11_told_60 rfl (lv_at hl 0 rfl) ?_
          refine gt_X11_10 X O dX11_told_61 ?_
          refine lv_iload_n hx hb dX11_told_64 rfl (lv_at hl 1 rfl) ?_
          refine lv_iload_n hx hb dX11_told_65 rfl (lv_at hl 2 rfl) ?_
          refine q_civ (rest := []) X O hA 1 (c_X10_measure hw) lk_X11_97 (by decide) rfl rfl rfl rfl rfl rfl ⟨Nat.le_of_ble_eq_true rfl, Nat.le_of_ble_eq_true rfl⟩ (Nat.le_of_ble_eq_true rfl) hl.1 ⟨Nat.zero_le _, Nat.zero_le _⟩ rfl dX11_told_66 (fun r66 u66 H locs hw O => ?_)
          exact q_iret X O hw dX11_told_69
        · replace hw := hw.2
          by_cases s14_3 : a2 = 3
          · have hw := hw.1 s14_3
            refine lv_tableIn (off := 56) (tgt := 70) hx hb dX11_told_14 (by rw [s14_3]; decide) (by rw [s14_3]; decide) (by rw [s14_3]; decide) (by decide) ?_
            refine lv_aload_n hx hb dX11_told_70 rfl (lv_at hl 0 rfl) ?_
            refine gt_X11_10 X O dX11_told_71 ?_
            refine lv_iload_n hx hb dX11_told_74 rfl (lv_at hl 1 rfl) ?_
            refine q_civ (rest := []) X O hA 1 (c_X10_kindOf hw) lk_X11_135 (by decide) rfl rfl rfl rfl rfl rfl ⟨Nat.le_of_ble_eq_true rfl, Nat.le_of_ble_eq_true rfl⟩ (Nat.le_of_ble_eq_true rfl) hl.1 ⟨Nat.zero_le _, Nat.zero_le _⟩ rfl dX11_told_75 (fun r75 u75 H locs hw O => ?_)
            exact q_iret X O hw dX11_told_78
          · replace hw := hw.2
            by_cases s14_4 : a2 = 4
            · have hw := hw.1 s14_4
              refine lv_tableIn (off := 65) (tgt := 79) hx hb dX11_told_14 (by rw [s14_4]; decide) (by rw [s14_4]; decide) (by rw [s14_4]; decide) (by decide) ?_
              refine lv_aload_n hx hb dX11_told_79 rfl (lv_at hl 0 rfl) ?_
              refine gt_X11_10 X O dX11_told_80 ?_
              refine lv_iload_n hx hb dX11_told_83 rfl (lv_at hl 1 rfl) ?_
              refine q_civ (rest := []) X O hA 1 (c_X10_aheadOf hw) lk_X11_138 (by decide) rfl rfl rfl rfl rfl rfl ⟨Nat.le_of_ble_eq_true rfl, Nat.le_of_ble_eq_true rfl⟩ (Nat.le_of_ble_eq_true rfl) hl.1 ⟨Nat.zero_le _, Nat.zero_le _⟩ rfl dX11_told_84 (fun r84 u84 H locs hw O => ?_)
              refine q_cis (rest := []) X O hA (c_J6_bitCount_0f7a4 hw) lk_X11_141 rfl rfl rfl ⟨Nat.le_of_ble_eq_true rfl, Nat.le_of_ble_eq_true rfl⟩ (Nat.le_of_ble_eq_true rfl) hl.1 ⟨Nat.zero_le _, Nat.zero_le _⟩ rfl dX11_told_87 (fun r87 u87 H locs hw O => ?_)
              exact q_iret X O hw dX11_told_90
            · replace hw := hw.2
              by_cases s14_5 : a2 = 5
              · have hw := hw.1 s14_5
                refine lv_tableIn (off := 77) (tgt := 91) hx hb dX11_told_14 (by rw [s14_5]; decide) (by rw [s14_5]; decide) (by rw [s14_5]; decide) (by decide) ?_
                refine lv_aload_n hx hb dX11_told_91 rfl (lv_at hl 0 rfl) ?_
                refine gt_X11_10 X O dX11_told_92 ?_
                refine lv_iload_n hx hb dX11_told_95 rfl (lv_at hl 1 rfl) ?_
                refine q_civ (rest := []) X O hA 1 (c_X10_behind hw) lk_X11_146 (by decide) rfl rfl rfl rfl rfl rfl ⟨Nat.le_of_ble_eq_true rfl, Nat.le_of_ble_eq_true rfl⟩ (Nat.le_of_ble_eq_true rfl) hl.1 ⟨Nat.zero_le _, Nat.zero_le _⟩ rfl dX11_told_96 (fun r96 u96 H locs hw O => ?_)
                refine q_cis (rest := []) X O hA (c_J6_bitCount_0f7a4 hw) lk_X11_141 rfl rfl rfl ⟨Nat.le_of_ble_eq_true rfl, Nat.le_of_ble_eq_true rfl⟩ (Nat.le_of_ble_eq_true rfl) hl.1 ⟨Nat.zero_le _, Nat.zero_le _⟩ rfl dX11_told_99 (fun r99 u99 H locs hw O => ?_)
                exact q_iret X O hw dX11_told_102
              · replace hw := hw.2
                by_cases s14_6 : a2 = 6
                · have hw := hw.1 s14_6
                  refine lv_tableIn (off := 89) (tgt := 103) hx hb dX11_told_14 (by rw [s14_6]; decide) (by rw [s14_6]; decide) (by rw [s14_6]; decide) (by decide) ?_
                  refine lv_aload_n hx hb dX11_told_103 rfl (lv_at hl 0 rfl) ?_
                  refine gt_X11_26 X O dX11_told_104 ?_
                  refine lv_iload_n hx hb dX11_told_107 rfl (lv_at hl 1 rfl) ?_
                  refine q_civ (rest := []) X O hA 18 (c_X6_placeOf hw) lk_X11_121 (by decide) rfl rfl rfl rfl rfl rfl ⟨Nat.le_of_ble_eq_true rfl, Nat.le_of_ble_eq_true rfl⟩ (Nat.le_of_ble_eq_true rfl) hl.1 ⟨Nat.zero_le _, Nat.zero_le _⟩ rfl dX11_told_108 (fun r108 u108 H locs hw O => ?_)
                  exact q_iret X O hw dX11_told_111
                · replace hw := hw.2
                  by_cases s14_7 : a2 = 7
                  · have hw := hw.1 s14_7
                    refine lv_tableIn (off := 98) (tgt := 112) hx hb dX11_told_14 (by rw [s14_7]; decide) (by rw [s14_7]; decide) (by rw [s14_7]; decide) (by decide) ?_
                    refine lv_aload_n hx hb dX11_told_112 rfl (lv_at hl 0 rfl) ?_
                    refine gt_X11_19 X O dX11_told_113 ?_
                    refine lv_aload_n hx hb dX11_told_116 rfl (lv_at hl 0 rfl) ?_
                    refine gt_X11_10 X O dX11_told_117 ?_
                    refine lv_iload_n hx hb dX11_told_120 rfl (lv_at hl 1 rfl) ?_
                    refine q_civ (rest := []) X O hA 12 (c_X7_blockOf hw) lk_X11_149 (by decide) rfl rfl rfl rfl rfl rfl ⟨Nat.le_of_ble_eq_true rfl, Nat.le_of_ble_eq_true rfl⟩ (Nat.le_of_ble_eq_true rfl) hl.1 ⟨Nat.zero_le _, Nat.zero_le _⟩ rfl dX11_told_121 (fun r121 u121 H locs hw O => ?_)
                    exact q_iret X O hw dX11_told_124
                  · replace hw := hw.2
                    have hw := hw s14_0 s14_1 s14_2 s14_3 s14_4 s14_5 s14_6 s14_7
                    refine lv_tableOut (tgt := 125) hx hb dX11_told_14 (by have e0 := ts_ne (k := 0) (by decide) s14_0; have e1 := ts_ne (k := 1) (by decide) s14_1; have e2 := ts_ne (k := 2) (by decide) s14_2; have e3 := ts_ne (k := 3) (by decide) s14_3; have e4 := ts_ne (k := 4) (by decide) s14_4; have e5 := ts_ne (k := 5) (by decide) s14_5; have e6 := ts_ne (k := 6) (by decide) s14_6; have e7 := ts_ne (k := 7) (by decide) s14_7; omega) (by decide) ?_
                    refine lv_iconst (v := -1) hx hb dX11_told_125 (by decide) ?_
                    exact q_iret X O hw dX11_told_126
  · have hw := hw.2 c8
    refine lv_iconst (v := -1) hx hb dX11_told_11 (by decide) ?_
    exact q_iret X O hw dX11_told_12
-- FellersOrder.asNumber(Z)I
abbrev rm_X11_asNumber : Room := { frames := 0, cells := 0, slots := 0, locals := 0 }
def wp_X11_asNumber (a0 : Int32) (u : St) (Post : Int32 → St → Prop) : Prop := ((a0 = 0) → (Post (0 : Int32) u)) ∧ ((¬ a0 = 0) → (Post (1 : Int32) u))
set_option maxHeartbeats 4000000 in
set_option maxRecDepth 100000 in
theorem c_X11_asNumber {a0 : Int32} {l : Launch} {D : va_G} {b : Nat → ClassId} {h : Nat → Nat} {u : St} {Post : Int32 → St → Prop} (hw : wp_X11_asNumber a0 u Post) : CtI l yX11_asNumber cX11_asNumber 1 (some .int) rm_X11_asNumber D (tyF b) 46 (gF b h) h [.int a0] u Post := by
  refine CtI.of (plainFor_of_name (by decide)) (Nat.le_of_ble_eq_true rfl) ?_
  intro p e s m below meth c A ls X hA O hl
  have X : Cx p s m _ meth c cX11_asNumber 1 (some .int) RX11 D (tyF b) A := X
  obtain ⟨⟨hx, hb, hml, hown, hts⟩, hK, hNs, hlocks, hr⟩ := id X
  have hl : lv_has ls 1 [(0, .int a0)] := hl
  unfold wp_X11_asNumber at hw
  refine lv_iload_n hx hb dX11_asNumber_0 rfl (lv_at hl 0 rfl) ?_
  refine lv_if_eq (tgt := 8) hx hb dX11_asNumber_1 (by decide) (fun c1 => ?_) (fun c1 => ?_)
  · have hw := hw.1 c1
    refine lv_iconst (v := 0) hx hb dX11_asNumber_8 (by decide) ?_
    exact q_iret X O hw dX11_asNumber_9
  · have hw := hw.2 c1
    refine lv_iconst (v := 1) hx hb dX11_asNumber_4 (by decide) ?_
    refine lv_goto (tgt := 9) hx hb dX11_asNumber_5 (by decide) ?_
    exact q_iret X O hw dX11_asNumber_9
-- FellersOrder.ahead(II)I
abbrev rm_X11_ahead : Room := { frames := 2, cells := 0, slots := 0, locals := 43 }
def wp_X11_ahead (a1 : Int32) (a2 : Int32) (u : St) (Post : Int32 → St → Prop) : Prop := wp_X10_has a1 u (fun r5 u5 => ((r5 = 0) → (Post (-1 : Int32) u5)) ∧ ((¬ r5 = 0) → (wp_X10_has a2 u5 (fun r16 u16 => ((¬ r16 = 0) → (wp_X10_isLaid a1 a2 u16 (fun r30 u30 => ((r30 = 0) → (wp_X10_isAhead a1 a2 u30 (fun r44 u44 => wp_X11_asNumber r44 u44 (fun r47 u47 => Post r47 u47)))) ∧ ((¬ r30 = 0) → (Post (2 : Int32) u30))))) ∧ ((r16 = 0) → (Post (-1 : Int32) u16))))))
set_option maxHeartbeats 4000000 in
set_option maxRecDepth 100000 in
theorem c_X11_ahead {a1 : Int32} {a2 : Int32} {l : Launch} {D : va_G} {b : Nat → ClassId} {h : Nat → Nat} {u : St} {Post : Int32 → St → Prop} (hw : wp_X11_ahead a1 a2 u Post) : CtI l yX11_ahead cX11_ahead 3 (some .int) rm_X11_ahead D (tyF b) 46 (gF b h) h [.ref (h 0), .int a1, .int a2] u Post := by
  refine CtI.of (plainFor_of_name (by decide)) (Nat.le_of_ble_eq_true rfl) ?_
  intro p e s m below meth c A ls X hA O hl
  have X : Cx p s m _ meth c cX11_ahead 3 (some .int) RX11 D (tyF b) A := X
  obtain ⟨⟨hx, hb, hml, hown, hts⟩, hK, hNs, hlocks, hr⟩ := id X
  have hl : lv_has ls 3 [(0, .ref (h 0)), (1, .int a1), (2, .int a2)] := hl
  unfold wp_X11_ahead at hw
  refine lv_aload_n hx hb dX11_ahead_0 rfl (lv_at hl 0 rfl) ?_
  refine gt_X11_10 X O dX11_ahead_1 ?_
  refine lv_iload_n hx hb dX11_ahead_4 rfl (lv_at hl 1 rfl) ?_
  refine q_civ (rest := []) X O hA 1 (c_X10_has hw) lk_X11_93 (by decide) rfl rfl rfl rfl rfl rfl ⟨Nat.le_of_ble_eq_true rfl, Nat.le_of_ble_eq_true rfl⟩ (Nat.le_of_ble_eq_true rfl) hl.1 ⟨Nat.zero_le _, Nat.zero_le _⟩ rfl dX11_ahead_5 (fun r5 u5 H locs hw O => ?_)
  refine lv_if_eq (tgt := 22) hx hb dX11_ahead_8 (by decide) (fun c8 => ?_) (fun c8 => ?_)
  · have hw := hw.1 c8
    refine lv_iconst (v := -1) hx hb dX11_ahead_22 (by decide) ?_
    exact q_iret X O hw dX11_ahead_23
  · have hw := hw.2 c8
    refine lv_aload_n hx hb dX11_ahead_11 rfl (lv_at hl 0 rfl) ?_
    refine gt_X11_10 X O dX11_ahead_12 ?_
    refine lv_iload_n hx hb dX11_ahead_15 rfl (lv_at hl 2 rfl) ?_
    refine q_civ (rest := []) X O hA 1 (c_X10_has hw) lk_X11_93 (by decide) rfl rfl rfl rfl rfl rfl ⟨Nat.le_of_ble_eq_true rfl, Nat.le_of_ble_eq_true rfl⟩ (Nat.le_of_ble_eq_true rfl) hl.1 ⟨Nat.zero_le _, Nat.zero_le _⟩ rfl dX11_ahead_16 (fun r16 u16 H locs hw O => ?_)
    refine lv_if_ne (tgt := 24) hx hb dX11_ahead_19 (by decide) (fun c19 => ?_) (fun c19 => ?_)
    · have hw := hw.1 c19
      refine lv_aload_n hx hb dX11_ahead_24 rfl (lv_at hl 0 rfl) ?_
      refine gt_X11_10 X O dX11_ahead_25 ?_
      refine lv_iload_n hx hb dX11_ahead_28 rfl (lv_at hl 1 rfl) ?_
      refine lv_iload_n hx hb dX11_ahead_29 rfl (lv_at hl 2 rfl) ?_
      refine q_civ (rest := []) X O hA 1 (c_X10_isLaid hw) lk_X11_108 (by decide) rfl rfl rfl rfl rfl rfl ⟨Nat.le_of_ble_eq_true rfl, Nat.le_of_ble_eq_true rfl⟩ (Nat.le_of_ble_eq_true rfl) hl.1 ⟨Nat.zero_le _, Nat.zero_le _⟩ rfl dX11_ahead_30 (fun r30 u30 H locs hw O => ?_)
      refine lv_if_eq (tgt := 38) hx hb dX11_ahead_33 (by decide) (fun c33 => ?_) (fun c33 => ?_)
      · have hw := hw.1 c33
        refine lv_aload_n hx hb dX11_ahead_38 rfl (lv_at hl 0 rfl) ?_
        refine gt_X11_10 X O dX11_ahead_39 ?_
        refine lv_iload_n hx hb dX11_ahead_42 rfl (lv_at hl 1 rfl) ?_
        refine lv_iload_n hx hb dX11_ahead_43 rfl (lv_at hl 2 rfl) ?_
        refine q_civ (rest := []) X O hA 1 (c_X10_isAhead hw) lk_X11_111 (by decide) rfl rfl rfl rfl rfl rfl ⟨Nat.le_of_ble_eq_true rfl, Nat.le_of_ble_eq_true rfl⟩ (Nat.le_of_ble_eq_true rfl) hl.1 ⟨Nat.zero_le _, Nat.zero_le _⟩ rfl dX11_ahead_44 (fun r44 u44 H locs hw O => ?_)
        refine q_cis (rest := []) X O hA (c_X11_asNumber hw) lk_X11_153 rfl rfl rfl ⟨Nat.le_of_ble_eq_true rfl, Nat.le_of_ble_eq_true rfl⟩ (Nat.le_of_ble_eq_true rfl) hl.1 ⟨Nat.zero_le _, Nat.zero_le _⟩ rfl dX11_ahead_47 (fun r47 u47 H locs hw O => ?_)
        exact q_iret X O hw dX11_ahead_50
      · have hw := hw.2 c33
        refine lv_iconst (v := 2) hx hb dX11_ahead_36 (by decide) ?_
        exact q_iret X O hw dX11_ahead_37
    · have hw := hw.2 c19
      refine lv_iconst (v := -1) hx hb dX11_ahead_22 (by decide) ?_
      exact q_iret X O hw dX11_ahead_23
-- FellersOrder$Acting.begun()I
abbrev rm_X0_begun : Room := { frames := 0, cells := 0, slots := 0, locals := 0 }
def wp_X0_begun (u : St) (Post : Int32 → St → Prop) : Prop := Post (u 25 1) u
set_option maxHeartbeats 4000000 in
set_option maxRecDepth 100000 in
theorem c_X0_begun {l : Launch} {D : va_G} {b : Nat → ClassId} {h : Nat → Nat} {u : St} {Post : Int32 → St → Prop} (hw : wp_X0_begun u Post) : CtI l yX0_begun cX0_begun 1 (some .int) rm_X0_begun D (tyF b) 46 (gF b h) h [.ref (h 25)] u Post := by
  refine CtI.of (plainFor_of_name (by decide)) (Nat.le_of_ble_eq_true rfl) ?_
  intro p e s m below meth c A ls X hA O hl
  have X : Cx p s m _ meth c cX0_begun 1 (some .int) RX0 D (tyF b) A := X
  obtain ⟨⟨hx, hb, hml, hown, hts⟩, hK, hNs, hlocks, hr⟩ := id X
  have hl : lv_has ls 1 [(0, .ref (h 25))] := hl
  unfold wp_X0_begun at hw
  refine lv_aload_n hx hb dX0_begun_0 rfl (lv_at hl 0 rfl) ?_
  refine gt_X0_15 X O dX0_begun_1 ?_
  exact q_iret X O hw dX0_begun_4
-- FellersOrder$Yard.beginnings()I
abbrev rm_X10_beginnings : Room := { frames := 1, cells := 0, slots := 0, locals := 23 }
def wb_X10_beginnings_9 (Post : Int32 → St → Prop) (K9 : Int32 → Int32 → Int32 → St → Prop) (x1 : Int32) (x2 : Int32) (x3 : Int32) (u : St) : Prop := ((x2 < x3) → (Post x1 u)) ∧ ((¬ x2 < x3) → (wp_X10_isBeginning x3 (0 : Int32) u (fun r17 u17 => ((r17 = 0) → (K9 x1 x2 (x3 + 1) u17)) ∧ ((¬ r17 = 0) → (K9 (x1 + 1) x2 (x3 + 1) u17)))))
set_option maxHeartbeats 4000000 in
set_option maxRecDepth 100000 in
theorem tb_X10_beginnings_9 (X : Cx p s m args meth c cX10_beginnings 4 (some .int) RX10 D (tyF b) A) (hA : ∀ q, s.heap.size ≤ q → A q) {Post : Int32 → St → Prop} {K9 : Int32 → Int32 → Int32 → St → Prop} (k9 : ∀ (x1 : Int32) (x2 : Int32) (x3 : Int32) (u : St) (H : Heap) (locs : List Loc) (ls : Array Slot), K9 x1 x2 x3 u → wO D 46 (gF b h) h u A s.heap H locs → lv_has ls 4 [(0, .ref (h 1)), (1, .int x1), (2, .int x2), (3, .int x3)] → W p l e rm_X10_beginnings s m args below meth c H locs 0 0 (MQ below (va_Qi Post (cB D (tyF b) 46 (gF b h) h A) A) args s 0 0 A) (F0 m 9 ls [])) : ∀ (x1 : Int32) (x2 : Int32) (x3 : Int32) (u : St) (H : Heap) (locs : List Loc) (ls : Array Slot), wb_X10_beginnings_9 Post K9 x1 x2 x3 u → wO D 46 (gF b h) h u A s.heap H locs → lv_has ls 4 [(0, .ref (h 1)), (1, .int x1), (2, .int x2), (3, .int x3)] → W p l e rm_X10_beginnings s m args below meth c H locs 0 0 (MQ below (va_Qi Post (cB D (tyF b) 46 (gF b h) h A) A) args s 0 0 A) (F0 m 9 ls []) := by
  obtain ⟨⟨hx, hb, hml, hown, hts⟩, hK, hNs, hlocks, hr⟩ := id X
  intro x1 x2 x3 u H locs ls hw O hl
  unfold wb_X10_beginnings_9 at hw
  refine lv_iload_n hx hb dX10_beginnings_9 rfl (lv_at hl 3 rfl) ?_
  refine lv_iload_n hx hb dX10_beginnings_10 rfl (lv_at hl 2 rfl) ?_
  refine lv_icmp_gt (tgt := 32) hx hb dX10_beginnings_11 (by decide) (fun c11 => ?_) (fun c11 => ?_)
  · have hw := hw.1 c11
    refine lv_iload_n hx hb dX10_beginnings_32 rfl (lv_at hl 1 rfl) ?_
    exact q_iret X O hw dX10_beginnings_33
  · have hw := hw.2 c11
    refine lv_aload_n hx hb dX10_beginnings_14 rfl (lv_at hl 0 rfl) ?_
    refine lv_iload_n hx hb dX10_beginnings_15 rfl (lv_at hl 3 rfl) ?_
    refine lv_iconst (v := 0) hx hb dX10_beginnings_16 (by decide) ?_
    refine q_civ (rest := []) X O hA 1 (c_X10_isBeginning hw) lk_X10_62 (by decide) rfl rfl rfl rfl rfl rfl ⟨Nat.le_of_ble_eq_true rfl, Nat.le_of_ble_eq_true rfl⟩ (Nat.le_of_ble_eq_true rfl) hl.1 ⟨Nat.zero_le _, Nat.zero_le _⟩ rfl dX10_beginnings_17 (fun r17 u17 H locs hw O => ?_)
    refine lv_if_eq (tgt := 26) hx hb dX10_beginnings_20 (by decide) (fun c20 => ?_) (fun c20 => ?_)
    · have hw := hw.1 c20
      refine lv_iinc (v := x3 + 1) (lv' := [(3, .int (x3 + 1)), (0, .ref (h 1)), (1, .int x1), (2, .int x2)]) hx hb dX10_beginnings_26 hl (k := 3) rfl rfl (by decide) rfl (fun ls hl => ?_)
      refine lv_goto (tgt := 9) hx hb dX10_beginnings_29 (by decide) ?_
      exact k9 _ _ _ _ _ _ _ hw O (lv_sub hl [1, 2, 3, 0] rfl)
    · have hw := hw.2 c20
      refine lv_iinc (v := x1 + 1) (lv' := [(1, .int (x1 + 1)), (0, .ref (h 1)), (2, .int x2), (3, .int x3)]) hx hb dX10_beginnings_23 hl (k := 1) rfl rfl (by decide) rfl (fun ls hl => ?_)
      refine lv_iinc (v := x3 + 1) (lv' := [(3, .int (x3 + 1)), (1, .int (x1 + 1)), (0, .ref (h 1)), (2, .int x2)]) hx hb dX10_beginnings_26 hl (k := 3) rfl rfl (by decide) rfl (fun ls hl => ?_)
      refine lv_goto (tgt := 9) hx hb dX10_beginnings_29 (by decide) ?_
      exact k9 _ _ _ _ _ _ _ hw O (lv_sub hl [2, 1, 3, 0] rfl)
def wl_X10_beginnings_9 (Post : Int32 → St → Prop) : Nat → Int32 → Int32 → Int32 → St → Prop
  | 0 => fun _ _ _ _ => False
  | n + 1 => fun x1 x2 x3 u => wb_X10_beginnings_9 Post (wl_X10_beginnings_9 Post n) x1 x2 x3 u
set_option maxHeartbeats 4000000 in
set_option maxRecDepth 100000 in
theorem tl_X10_beginnings_9 (X : Cx p s m args meth c cX10_beginnings 4 (some .int) RX10 D (tyF b) A) (hA : ∀ q, s.heap.size ≤ q → A q) {Post : Int32 → St → Prop} : ∀ n : Nat, ∀ (x1 : Int32) (x2 : Int32) (x3 : Int32) (u : St) (H : Heap) (locs : List Loc) (ls : Array Slot), (wl_X10_beginnings_9 Post n) x1 x2 x3 u → wO D 46 (gF b h) h u A s.heap H locs → lv_has ls 4 [(0, .ref (h 1)), (1, .int x1), (2, .int x2), (3, .int x3)] → W p l e rm_X10_beginnings s m args below meth c H locs 0 0 (MQ below (va_Qi Post (cB D (tyF b) 46 (gF b h) h A) A) args s 0 0 A) (F0 m 9 ls []) := by
  intro n
  induction n with
  | zero => intro x1 x2 x3 u H locs ls hw; exact False.elim hw
  | succ n ih => intro x1 x2 x3 u H locs ls hw O hl; exact tb_X10_beginnings_9 X hA ih x1 x2 x3 u H locs ls hw O hl
def wp_X10_beginnings (u : St) (Post : Int32 → St → Prop) : Prop := wp_X10_everyJob u (fun r3 u3 => ∃ n : Nat, wl_X10_beginnings_9 Post n (0 : Int32) r3 (0 : Int32) u3)
set_option maxHeartbeats 4000000 in
set_option maxRecDepth 100000 in
theorem c_X10_beginnings {l : Launch} {D : va_G} {b : Nat → ClassId} {h : Nat → Nat} {u : St} {Post : Int32 → St → Prop} (hw : wp_X10_beginnings u Post) : CtI l yX10_beginnings cX10_beginnings 4 (some .int) rm_X10_beginnings D (tyF b) 46 (gF b h) h [.ref (h 1)] u Post := by
  refine CtI.of (plainFor_of_name (by decide)) (Nat.le_of_ble_eq_true rfl) ?_
  intro p e s m below meth c A ls X hA O hl
  have X : Cx p s m _ meth c cX10_beginnings 4 (some .int) RX10 D (tyF b) A := X
  obtain ⟨⟨hx, hb, hml, hown, hts⟩, hK, hNs, hlocks, hr⟩ := id X
  have hl : lv_has ls 4 [(0, .ref (h 1))] := hl
  unfold wp_X10_beginnings at hw
  refine lv_iconst (v := 0) hx hb dX10_beginnings_0 (by decide) ?_
  refine lv_istore_n (lv' := [(1, .int (0 : Int32)), (0, .ref (h 1))]) hx hb dX10_beginnings_1 rfl hl (by decide) rfl (fun ls hl => ?_)
  refine lv_aload_n hx hb dX10_beginnings_2 rfl (lv_at hl 1 rfl) ?_
  refine q_civ (rest := []) X O hA 1 (c_X10_everyJob hw) lk_X10_58 (by decide) rfl rfl rfl rfl rfl rfl ⟨Nat.le_of_ble_eq_true rfl, Nat.le_of_ble_eq_true rfl⟩ (Nat.le_of_ble_eq_true rfl) hl.1 ⟨Nat.zero_le _, Nat.zero_le _⟩ rfl dX10_beginnings_3 (fun r3 u3 H locs hw O => ?_)
  refine lv_istore_n (lv' := [(2, .int r3), (1, .int (0 : Int32)), (0, .ref (h 1))]) hx hb dX10_beginnings_6 rfl hl (by decide) rfl (fun ls hl => ?_)
  refine lv_iconst (v := 0) hx hb dX10_beginnings_7 (by decide) ?_
  refine lv_istore_n (lv' := [(3, .int (0 : Int32)), (2, .int r3), (1, .int (0 : Int32)), (0, .ref (h 1))]) hx hb dX10_beginnings_8 rfl hl (by decide) rfl (fun ls hl => ?_)
  obtain ⟨n, hw⟩ := hw
  exact tl_X10_beginnings_9 X hA n _ _ _ _ _ _ _ hw O (lv_sub hl [3, 2, 1, 0] rfl)
-- FellersOrder$Yard.jobs()I
abbrev rm_X10_jobs : Room := { frames := 0, cells := 0, slots := 0, locals := 0 }
def wp_X10_jobs (u : St) (Post : Int32 → St → Prop) : Prop := Post (u 1 7) u
set_option maxHeartbeats 4000000 in
set_option maxRecDepth 100000 in
theorem c_X10_jobs {l : Launch} {D : va_G} {b : Nat → ClassId} {h : Nat → Nat} {u : St} {Post : Int32 → St → Prop} (hw : wp_X10_jobs u Post) : CtI l yX10_jobs cX10_jobs 1 (some .int) rm_X10_jobs D (tyF b) 46 (gF b h) h [.ref (h 1)] u Post := by
  refine CtI.of (plainFor_of_name (by decide)) (Nat.le_of_ble_eq_true rfl) ?_
  intro p e s m below meth c A ls X hA O hl
  have X : Cx p s m _ meth c cX10_jobs 1 (some .int) RX10 D (tyF b) A := X
  obtain ⟨⟨hx, hb, hml, hown, hts⟩, hK, hNs, hlocks, hr⟩ := id X
  have hl : lv_has ls 1 [(0, .ref (h 1))] := hl
  unfold wp_X10_jobs at hw
  refine lv_aload_n hx hb dX10_jobs_0 rfl (lv_at hl 0 rfl) ?_
  refine gt_X10_41 X O dX10_jobs_1 ?_
  exact q_iret X O hw dX10_jobs_4
-- FellersOrder$Yard.laidPairs()I
abbrev rm_X10_laidPairs : Room := { frames := 0, cells := 0, slots := 0, locals := 0 }
def wp_X10_laidPairs (u : St) (Post : Int32 → St → Prop) : Prop := Post (u 1 8) u
set_option maxHeartbeats 4000000 in
set_option maxRecDepth 100000 in
theorem c_X10_laidPairs {l : Launch} {D : va_G} {b : Nat → ClassId} {h : Nat → Nat} {u : St} {Post : Int32 → St → Prop} (hw : wp_X10_laidPairs u Post) : CtI l yX10_laidPairs cX10_laidPairs 1 (some .int) rm_X10_laidPairs D (tyF b) 46 (gF b h) h [.ref (h 1)] u Post := by
  refine CtI.of (plainFor_of_name (by decide)) (Nat.le_of_ble_eq_true rfl) ?_
  intro p e s m below meth c A ls X hA O hl
  have X : Cx p s m _ meth c cX10_laidPairs 1 (some .int) RX10 D (tyF b) A := X
  obtain ⟨⟨hx, hb, hml, hown, hts⟩, hK, hNs, hlocks, hr⟩ := id X
  have hl : lv_has ls 1 [(0, .ref (h 1))] := hl
  unfold wp_X10_laidPairs at hw
  refine lv_aload_n hx hb dX10_laidPairs_0 rfl (lv_at hl 0 rfl) ?_
  refine gt_X10_45 X O dX10_laidPairs_1 ?_
  exact q_iret X O hw dX10_laidPairs_4
-- FellersOrder$History.size()I
abbrev rm_X2_size : Room := { frames := 0, cells := 0, slots := 0, locals := 0 }
def wp_X2_size (u : St) (Post : Int32 → St → Prop) : Prop := Post (u 20 5) u
set_option maxHeartbeats 4000000 in
set_option maxRecDepth 100000 in
theorem c_X2_size {l : Launch} {D : va_G} {b : Nat → ClassId} {h : Nat → Nat} {u : St} {Post : Int32 → St → Prop} (hw : wp_X2_size u Post) : CtI l yX2_size cX2_size 1 (some .int) rm_X2_size D (tyF b) 46 (gF b h) h [.ref (h 20)] u Post := by
  refine CtI.of (plainFor_of_name (by decide)) (Nat.le_of_ble_eq_true rfl) ?_
  intro p e s m below meth c A ls X hA O hl
  have X : Cx p s m _ meth c cX2_size 1 (some .int) RX2 D (tyF b) A := X
  obtain ⟨⟨hx, hb, hml, hown, hts⟩, hK, hNs, hlocks, hr⟩ := id X
  have hl : lv_has ls 1 [(0, .ref (h 20))] := hl
  unfold wp_X2_size at hw
  refine lv_aload_n hx hb dX2_size_0 rfl (lv_at hl 0 rfl) ?_
  refine gt_X2_24 X O dX2_size_1 ?_
  exact q_iret X O hw dX2_size_4
-- FellersOrder.count(I)I
abbrev rm_X11_count : Room := { frames := 4, cells := 0, slots := 0, locals := 96 }
def wp_X11_count (a1 : Int32) (u : St) (Post : Int32 → St → Prop) : Prop := (a1 = 0 → (wp_X10_jobs u (fun r48 u48 => Post r48 u48))) ∧ (a1 = 1 → (wp_X10_laidPairs u (fun r56 u56 => Post r56 u56))) ∧ (a1 = 2 → (wp_X6_size u (fun r64 u64 => Post r64 u64))) ∧ (a1 = 3 → (wp_X7_blocks u (fun r76 u76 => Post r76 u76))) ∧ (a1 = 4 → (wp_X10_beginnings u (fun r84 u84 => Post r84 u84))) ∧ (a1 = 5 → (wp_X0_begun u (fun r92 u92 => Post r92 u92))) ∧ (a1 = 6 → (wp_X2_size u (fun r100 u100 => Post r100 u100))) ∧ (¬ a1 = 0 → ¬ a1 = 1 → ¬ a1 = 2 → ¬ a1 = 3 → ¬ a1 = 4 → ¬ a1 = 5 → ¬ a1 = 6 → (Post (-1 : Int32) u))
set_option maxHeartbeats 4000000 in
set_option maxRecDepth 100000 in
theorem c_X11_count {a1 : Int32} {l : Launch} {D : va_G} {b : Nat → ClassId} {h : Nat → Nat} {u : St} {Post : Int32 → St → Prop} (hw : wp_X11_count a1 u Post) : CtI l yX11_count cX11_count 2 (some .int) rm_X11_count D (tyF b) 46 (gF b h) h [.ref (h 0), .int a1] u Post := by
  refine CtI.of (plainFor_of_name (by decide)) (Nat.le_of_ble_eq_true rfl) ?_
  intro p e s m below meth c A ls X hA O hl
  have X : Cx p s m _ meth c cX11_count 2 (some .int) RX11 D (tyF b) A := X
  obtain ⟨⟨hx, hb, hml, hown, hts⟩, hK, hNs, hlocks, hr⟩ := id X
  have hl : lv_has ls 2 [(0, .ref (h 0)), (1, .int a1)] := hl
  unfold wp_X11_count at hw
  refine lv_iload_n hx hb dX11_count_0 rfl (lv_at hl 1 rfl) ?_
  by_cases s1_0 : a1 = 0
  · have hw := hw.1 s1_0
    refine lv_tableIn (off := 43) (tgt := 44) hx hb dX11_count_1 (by rw [s1_0]; decide) (by rw [s1_0]; decide) (by rw [s1_0]; decide) (by decide) ?_
    refine lv_aload_n hx hb dX11_count_44 rfl (lv_at hl 0 rfl) ?_
    refine gt_X11_10 X O dX11_count_45 ?_
    refine q_civ (rest := []) X O hA 1 (c_X10_jobs hw) lk_X11_157 (by decide) rfl rfl rfl rfl rfl rfl ⟨Nat.le_of_ble_eq_true rfl, Nat.le_of_ble_eq_true rfl⟩ (Nat.le_of_ble_eq_true rfl) hl.1 ⟨Nat.zero_le _, Nat.zero_le _⟩ rfl dX11_count_48 (fun r48 u48 H locs hw O => ?_)
    exact q_iret X O hw dX11_count_51
  · replace hw := hw.2
    by_cases s1_1 : a1 = 1
    · have hw := hw.1 s1_1
      refine lv_tableIn (off := 51) (tgt := 52) hx hb dX11_count_1 (by rw [s1_1]; decide) (by rw [s1_1]; decide) (by rw [s1_1]; decide) (by decide) ?_
      refine lv_aload_n hx hb dX11_count_52 rfl (lv_at hl 0 rfl) ?_
      refine gt_X11_10 X O dX11_count_53 ?_
      refine q_civ (rest := []) X O hA 1 (c_X10_laidPairs hw) lk_X11_160 (by decide) rfl rfl rfl rfl rfl rfl ⟨Nat.le_of_ble_eq_true rfl, Nat.le_of_ble_eq_true rfl⟩ (Nat.le_of_ble_eq_true rfl) hl.1 ⟨Nat.zero_le _, Nat.zero_le _⟩ rfl dX11_count_56 (fun r56 u56 H locs hw O => ?_)
      exact q_iret X O hw dX11_count_59
    · replace hw := hw.2
      by_cases s1_2 : a1 = 2
      · have hw := hw.1 s1_2
        refine lv_tableIn (off := 59) (tgt := 60) hx hb dX11_count_1 (by rw [s1_2]; decide) (by rw [s1_2]; decide) (by rw [s1_2]; decide) (by decide) ?_
        refine lv_aload_n hx hb dX11_count_60 rfl (lv_at hl 0 rfl) ?_
        refine gt_X11_26 X O dX11_count_61 ?_
        refine q_civ (rest := []) X O hA 18 (c_X6_size hw) lk_X11_128 (by decide) rfl rfl rfl rfl rfl rfl ⟨Nat.le_of_ble_eq_true rfl, Nat.le_of_ble_eq_true rfl⟩ (Nat.le_of_ble_eq_true rfl) hl.1 ⟨Nat.zero_le _, Nat.zero_le _⟩ rfl dX11_count_64 (fun r64 u64 H locs hw O => ?_)
        exact q_iret X O hw dX11_count_67
      · replace hw := hw.2
        by_cases s1_3 : a1 = 3
        · have hw := hw.1 s1_3
          refine lv_tableIn (off := 67) (tgt := 68) hx hb dX11_count_1 (by rw [s1_3]; decide) (by rw [s1_3]; decide) (by rw [s1_3]; decide) (by decide) ?_
          refine lv_aload_n hx hb dX11_count_68 rfl (lv_at hl 0 rfl) ?_
          refine gt_X11_19 X O dX11_count_69 ?_
          refine lv_aload_n hx hb dX11_count_72 rfl (lv_at hl 0 rfl) ?_
          refine gt_X11_10 X O dX11_count_73 ?_
          refine q_civ (rest := []) X O hA 12 (c_X7_blocks hw) lk_X11_163 (by decide) rfl rfl rfl rfl rfl rfl ⟨Nat.le_of_ble_eq_true rfl, Nat.le_of_ble_eq_true rfl⟩ (Nat.le_of_ble_eq_true rfl) hl.1 ⟨Nat.zero_le _, Nat.zero_le _⟩ rfl dX11_count_76 (fun r76 u76 H locs hw O => ?_)
          exact q_iret X O hw dX11_count_79
        · replace hw := hw.2
          by_cases s1_4 : a1 = 4
          · have hw := hw.1 s1_4
            refine lv_tableIn (off := 79) (tgt := 80) hx hb dX11_count_1 (by rw [s1_4]; decide) (by rw [s1_4]; decide) (by rw [s1_4]; decide) (by decide) ?_
            refine lv_aload_n hx hb dX11_count_80 rfl (lv_at hl 0 rfl) ?_
            refine gt_X11_10 X O dX11_count_81 ?_
            refine q_civ (rest := []) X O hA 1 (c_X10_beginnings hw) lk_X11_167 (by decide) rfl rfl rfl rfl rfl rfl ⟨Nat.le_of_ble_eq_true rfl, Nat.le_of_ble_eq_true rfl⟩ (Nat.le_of_ble_eq_true rfl) hl.1 ⟨Nat.zero_le _, Nat.zero_le _⟩ rfl dX11_count_84 (fun r84 u84 H locs hw O => ?_)
            exact q_iret X O hw dX11_count_87
          · replace hw := hw.2
            by_cases s1_5 : a1 = 5
            · have hw := hw.1 s1_5
              refine lv_tableIn (off := 87) (tgt := 88) hx hb dX11_count_1 (by rw [s1_5]; decide) (by rw [s1_5]; decide) (by rw [s1_5]; decide) (by decide) ?_
              refine lv_aload_n hx hb dX11_count_88 rfl (lv_at hl 0 rfl) ?_
              refine gt_X11_40 X O dX11_count_89 ?_
              refine q_civ (rest := []) X O hA 25 (c_X0_begun hw) lk_X11_170 (by decide) rfl rfl rfl rfl rfl rfl ⟨Nat.le_of_ble_eq_true rfl, Nat.le_of_ble_eq_true rfl⟩ (Nat.le_of_ble_eq_true rfl) hl.1 ⟨Nat.zero_le _, Nat.zero_le _⟩ rfl dX11_count_92 (fun r92 u92 H locs hw O => ?_)
              exact q_iret X O hw dX11_count_95
            · replace hw := hw.2
              by_cases s1_6 : a1 = 6
              · have hw := hw.1 s1_6
                refine lv_tableIn (off := 95) (tgt := 96) hx hb dX11_count_1 (by rw [s1_6]; decide) (by rw [s1_6]; decide) (by rw [s1_6]; decide) (by decide) ?_
                refine lv_aload_n hx hb dX11_count_96 rfl (lv_at hl 0 rfl) ?_
                refine gt_X11_33 X O dX11_count_97 ?_
                refine q_civ (rest := []) X O hA 20 (c_X2_size hw) lk_X11_173 (by decide) rfl rfl rfl rfl rfl rfl ⟨Nat.le_of_ble_eq_true rfl, Nat.le_of_ble_eq_true rfl⟩ (Nat.le_of_ble_eq_true rfl) hl.1 ⟨Nat.zero_le _, Nat.zero_le _⟩ rfl dX11_count_100 (fun r100 u100 H locs hw O => ?_)
                exact q_iret X O hw dX11_count_103
              · replace hw := hw.2
                have hw := hw s1_0 s1_1 s1_2 s1_3 s1_4 s1_5 s1_6
                refine lv_tableOut (tgt := 104) hx hb dX11_count_1 (by have e0 := ts_ne (k := 0) (by decide) s1_0; have e1 := ts_ne (k := 1) (by decide) s1_1; have e2 := ts_ne (k := 2) (by decide) s1_2; have e3 := ts_ne (k := 3) (by decide) s1_3; have e4 := ts_ne (k := 4) (by decide) s1_4; have e5 := ts_ne (k := 5) (by decide) s1_5; have e6 := ts_ne (k := 6) (by decide) s1_6; omega) (by decide) ?_
                refine lv_iconst (v := -1) hx hb dX11_count_104 (by decide) ?_
                exact q_iret X O hw dX11_count_105
-- FellersOrder$Line.bitsBefore(I)I
abbrev rm_X6_bitsBefore : Room := { frames := 0, cells := 0, slots := 0, locals := 0 }
def wb_X6_bitsBefore_4 (Post : Int32 → St → Prop) (K4 : Int32 → Int32 → Int32 → St → Prop) (x1 : Int32) (x2 : Int32) (x3 : Int32) (u : St) : Prop := ((x1 ≤ x3) → (Post x2 u)) ∧ ((¬ x1 ≤ x3) → (vp_in x3 12 ∧ (K4 x1 (x2 ||| ((1 : Int32) <<< ((u 19 (Int32.toNatClampNeg x3)) &&& 31))) (x3 + 1) u)))
set_option maxHeartbeats 4000000 in
set_option maxRecDepth 100000 in
theorem tb_X6_bitsBefore_4 (X : Cx p s m args meth c cX6_bitsBefore 4 (some .int) RX6 D (tyF b) A) (hA : ∀ q, s.heap.size ≤ q → A q) {Post : Int32 → St → Prop} {K4 : Int32 → Int32 → Int32 → St → Prop} (k4 : ∀ (x1 : Int32) (x2 : Int32) (x3 : Int32) (u : St) (H : Heap) (locs : List Loc) (ls : Array Slot), K4 x1 x2 x3 u → wO D 46 (gF b h) h u A s.heap H locs → lv_has ls 4 [(0, .ref (h 18)), (1, .int x1), (2, .int x2), (3, .int x3)] → W p l e rm_X6_bitsBefore s m args below meth c H locs 0 0 (MQ below (va_Qi Post (cB D (tyF b) 46 (gF b h) h A) A) args s 0 0 A) (F0 m 4 ls [])) : ∀ (x1 : Int32) (x2 : Int32) (x3 : Int32) (u : St) (H : Heap) (locs : List Loc) (ls : Array Slot), wb_X6_bitsBefore_4 Post K4 x1 x2 x3 u → wO D 46 (gF b h) h u A s.heap H locs → lv_has ls 4 [(0, .ref (h 18)), (1, .int x1), (2, .int x2), (3, .int x3)] → W p l e rm_X6_bitsBefore s m args below meth c H locs 0 0 (MQ below (va_Qi Post (cB D (tyF b) 46 (gF b h) h A) A) args s 0 0 A) (F0 m 4 ls []) := by
  obtain ⟨⟨hx, hb, hml, hown, hts⟩, hK, hNs, hlocks, hr⟩ := id X
  intro x1 x2 x3 u H locs ls hw O hl
  unfold wb_X6_bitsBefore_4 at hw
  refine lv_iload_n hx hb dX6_bitsBefore_4 rfl (lv_at hl 3 rfl) ?_
  refine lv_iload_n hx hb dX6_bitsBefore_5 rfl (lv_at hl 1 rfl) ?_
  refine lv_icmp_ge (tgt := 26) hx hb dX6_bitsBefore_6 (by decide) (fun c6 => ?_) (fun c6 => ?_)
  · have hw := hw.1 c6
    refine lv_iload_n hx hb dX6_bitsBefore_26 rfl (lv_at hl 2 rfl) ?_
    exact q_iret X O hw dX6_bitsBefore_27
  · have hw := hw.2 c6
    refine lv_iload_n hx hb dX6_bitsBefore_9 rfl (lv_at hl 2 rfl) ?_
    refine lv_iconst (v := 1) hx hb dX6_bitsBefore_10 (by decide) ?_
    refine lv_aload_n hx hb dX6_bitsBefore_11 rfl (lv_at hl 0 rfl) ?_
    refine gt_X6_9 X O dX6_bitsBefore_12 ?_
    refine lv_iload_n hx hb dX6_bitsBefore_15 rfl (lv_at hl 3 rfl) ?_
    obtain ⟨i16, hw⟩ := hw
    refine q_ild X O 19 0 (by decide) rfl rfl i16 dX6_bitsBefore_16 ?_
    refine lv_ishl hx hb dX6_bitsBefore_17 ?_
    refine lv_ior hx hb dX6_bitsBefore_18 ?_
    refine lv_istore_n (lv' := [(2, .int (x2 ||| ((1 : Int32) <<< ((u 19 (Int32.toNatClampNeg x3)) &&& 31)))), (0, .ref (h 18)), (1, .int x1), (3, .int x3)]) hx hb dX6_bitsBefore_19 rfl hl (by decide) rfl (fun ls hl => ?_)
    refine lv_iinc (v := x3 + 1) (lv' := [(3, .int (x3 + 1)), (2, .int (x2 ||| ((1 : Int32) <<< ((u 19 (Int32.toNatClampNeg x3)) &&& 31)))), (0, .ref (h 18)), (1, .int x1)]) hx hb dX6_bitsBefore_20 hl (k := 3) rfl rfl (by decide) rfl (fun ls hl => ?_)
    refine lv_goto (tgt := 4) hx hb dX6_bitsBefore_23 (by decide) ?_
    exact k4 _ _ _ _ _ _ _ hw O (lv_sub hl [2, 3, 1, 0] rfl)
def wl_X6_bitsBefore_4 (Post : Int32 → St → Prop) : Nat → Int32 → Int32 → Int32 → St → Prop
  | 0 => fun _ _ _ _ => False
  | n + 1 => fun x1 x2 x3 u => wb_X6_bitsBefore_4 Post (wl_X6_bitsBefore_4 Post n) x1 x2 x3 u
set_option maxHeartbeats 4000000 in
set_option maxRecDepth 100000 in
theorem tl_X6_bitsBefore_4 (X : Cx p s m args meth c cX6_bitsBefore 4 (some .int) RX6 D (tyF b) A) (hA : ∀ q, s.heap.size ≤ q → A q) {Post : Int32 → St → Prop} : ∀ n : Nat, ∀ (x1 : Int32) (x2 : Int32) (x3 : Int32) (u : St) (H : Heap) (locs : List Loc) (ls : Array Slot), (wl_X6_bitsBefore_4 Post n) x1 x2 x3 u → wO D 46 (gF b h) h u A s.heap H locs → lv_has ls 4 [(0, .ref (h 18)), (1, .int x1), (2, .int x2), (3, .int x3)] → W p l e rm_X6_bitsBefore s m args below meth c H locs 0 0 (MQ below (va_Qi Post (cB D (tyF b) 46 (gF b h) h A) A) args s 0 0 A) (F0 m 4 ls []) := by
  intro n
  induction n with
  | zero => intro x1 x2 x3 u H locs ls hw; exact False.elim hw
  | succ n ih => intro x1 x2 x3 u H locs ls hw O hl; exact tb_X6_bitsBefore_4 X hA ih x1 x2 x3 u H locs ls hw O hl
def wp_X6_bitsBefore (a1 : Int32) (u : St) (Post : Int32 → St → Prop) : Prop := ∃ n : Nat, wl_X6_bitsBefore_4 Post n a1 (0 : Int32) (0 : Int32) u
set_option maxHeartbeats 4000000 in
set_option maxRecDepth 100000 in
theorem c_X6_bitsBefore {a1 : Int32} {l : Launch} {D : va_G} {b : Nat → ClassId} {h : Nat → Nat} {u : St} {Post : Int32 → St → Prop} (hw : wp_X6_bitsBefore a1 u Post) : CtI l yX6_bitsBefore cX6_bitsBefore 4 (some .int) rm_X6_bitsBefore D (tyF b) 46 (gF b h) h [.ref (h 18), .int a1] u Post := by
  refine CtI.of (plainFor_of_name (by decide)) (Nat.le_of_ble_eq_true rfl) ?_
  intro p e s m below meth c A ls X hA O hl
  have X : Cx p s m _ meth c cX6_bitsBefore 4 (some .int) RX6 D (tyF b) A := X
  obtain ⟨⟨hx, hb, hml, hown, hts⟩, hK, hNs, hlocks, hr⟩ := id X
  have hl : lv_has ls 4 [(0, .ref (h 18)), (1, .int a1)] := hl
  unfold wp_X6_bitsBefore at hw
  refine lv_iconst (v := 0) hx hb dX6_bitsBefore_0 (by decide) ?_
  refine lv_istore_n (lv' := [(2, .int (0 : Int32)), (0, .ref (h 18)), (1, .int a1)]) hx hb dX6_bitsBefore_1 rfl hl (by decide) rfl (fun ls hl => ?_)
  refine lv_iconst (v := 0) hx hb dX6_bitsBefore_2 (by decide) ?_
  refine lv_istore_n (lv' := [(3, .int (0 : Int32)), (2, .int (0 : Int32)), (0, .ref (h 18)), (1, .int a1)]) hx hb dX6_bitsBefore_3 rfl hl (by decide) rfl (fun ls hl => ?_)
  obtain ⟨n, hw⟩ := hw
  exact tl_X6_bitsBefore_4 X hA n _ _ _ _ _ _ _ hw O (lv_sub hl [2, 3, 1, 0] rfl)
-- FellersOrder$Line.lackingAt(LFellersOrder$Yard;I)I
abbrev rm_X6_lackingAt : Room := { frames := 1, cells := 0, slots := 0, locals := 23 }
def wp_X6_lackingAt (a2 : Int32) (u : St) (Post : Int32 → St → Prop) : Prop := vp_in a2 12 ∧ (wp_X10_aheadOf (u 19 (Int32.toNatClampNeg a2)) u (fun r7 u7 => wp_X6_bitsBefore a2 u7 (fun r12 u12 => Post (r7 &&& (r12 ^^^ (-1 : Int32))) u12)))
set_option maxHeartbeats 4000000 in
set_option maxRecDepth 100000 in
theorem c_X6_lackingAt {a2 : Int32} {l : Launch} {D : va_G} {b : Nat → ClassId} {h : Nat → Nat} {u : St} {Post : Int32 → St → Prop} (hw : wp_X6_lackingAt a2 u Post) : CtI l yX6_lackingAt cX6_lackingAt 3 (some .int) rm_X6_lackingAt D (tyF b) 46 (gF b h) h [.ref (h 18), .ref (h 1), .int a2] u Post := by
  refine CtI.of (plainFor_of_name (by decide)) (Nat.le_of_ble_eq_true rfl) ?_
  intro p e s m below meth c A ls X hA O hl
  have X : Cx p s m _ meth c cX6_lackingAt 3 (some .int) RX6 D (tyF b) A := X
  obtain ⟨⟨hx, hb, hml, hown, hts⟩, hK, hNs, hlocks, hr⟩ := id X
  have hl : lv_has ls 3 [(0, .ref (h 18)), (1, .ref (h 1)), (2, .int a2)] := hl
  unfold wp_X6_lackingAt at hw
  refine lv_aload_n hx hb dX6_lackingAt_0 rfl (lv_at hl 1 rfl) ?_
  refine lv_aload_n hx hb dX6_lackingAt_1 rfl (lv_at hl 0 rfl) ?_
  refine gt_X6_9 X O dX6_lackingAt_2 ?_
  refine lv_iload_n hx hb dX6_lackingAt_5 rfl (lv_at hl 2 rfl) ?_
  obtain ⟨i6, hw⟩ := hw
  refine q_ild X O 19 0 (by decide) rfl rfl i6 dX6_lackingAt_6 ?_
  refine q_civ (rest := []) X O hA 1 (c_X10_aheadOf hw) lk_X6_19 (by decide) rfl rfl rfl rfl rfl rfl ⟨Nat.le_of_ble_eq_true rfl, Nat.le_of_ble_eq_true rfl⟩ (Nat.le_of_ble_eq_true rfl) hl.1 ⟨Nat.zero_le _, Nat.zero_le _⟩ rfl dX6_lackingAt_7 (fun r7 u7 H locs hw O => ?_)
  refine lv_aload_n hx hb dX6_lackingAt_10 rfl (lv_at hl 0 rfl) ?_
  refine lv_iload_n hx hb dX6_lackingAt_11 rfl (lv_at hl 2 rfl) ?_
  refine q_civ (rest := [.int r7]) X O hA 18 (c_X6_bitsBefore hw) lk_X6_25 (by decide) rfl rfl rfl rfl rfl rfl ⟨Nat.le_of_ble_eq_true rfl, Nat.le_of_ble_eq_true rfl⟩ (Nat.le_of_ble_eq_true rfl) hl.1 ⟨Nat.zero_le _, Nat.zero_le _⟩ rfl dX6_lackingAt_12 (fun r12 u12 H locs hw O => ?_)
  refine lv_iconst (v := -1) hx hb dX6_lackingAt_15 (by decide) ?_
  refine lv_ixor hx hb dX6_lackingAt_16 ?_
  refine lv_iand hx hb dX6_lackingAt_17 ?_
  exact q_iret X O hw dX6_lackingAt_18
-- FellersOrder$Line.firstLacking(LFellersOrder$Yard;)I
abbrev rm_X6_firstLacking : Room := { frames := 2, cells := 0, slots := 0, locals := 45 }
def wb_X6_firstLacking_2 (Post : Int32 → St → Prop) (K2 : Int32 → St → Prop) (x2 : Int32) (u : St) : Prop := (((u 18 1) ≤ x2) → (Post (-1 : Int32) u)) ∧ ((¬ (u 18 1) ≤ x2) → (wp_X6_lackingAt x2 u (fun r13 u13 => ((r13 = 0) → (K2 (x2 + 1) u13)) ∧ ((¬ r13 = 0) → (Post x2 u13)))))
set_option maxHeartbeats 4000000 in
set_option maxRecDepth 100000 in
theorem tb_X6_firstLacking_2 (X : Cx p s m args meth c cX6_firstLacking 3 (some .int) RX6 D (tyF b) A) (hA : ∀ q, s.heap.size ≤ q → A q) {Post : Int32 → St → Prop} {K2 : Int32 → St → Prop} (k2 : ∀ (x2 : Int32) (u : St) (H : Heap) (locs : List Loc) (ls : Array Slot), K2 x2 u → wO D 46 (gF b h) h u A s.heap H locs → lv_has ls 3 [(0, .ref (h 18)), (1, .ref (h 1)), (2, .int x2)] → W p l e rm_X6_firstLacking s m args below meth c H locs 0 0 (MQ below (va_Qi Post (cB D (tyF b) 46 (gF b h) h A) A) args s 0 0 A) (F0 m 2 ls [])) : ∀ (x2 : Int32) (u : St) (H : Heap) (locs : List Loc) (ls : Array Slot), wb_X6_firstLacking_2 Post K2 x2 u → wO D 46 (gF b h) h u A s.heap H locs → lv_has ls 3 [(0, .ref (h 18)), (1, .ref (h 1)), (2, .int x2)] → W p l e rm_X6_firstLacking s m args below meth c H locs 0 0 (MQ below (va_Qi Post (cB D (tyF b) 46 (gF b h) h A) A) args s 0 0 A) (F0 m 2 ls []) := by
  obtain ⟨⟨hx, hb, hml, hown, hts⟩, hK, hNs, hlocks, hr⟩ := id X
  intro x2 u H locs ls hw O hl
  unfold wb_X6_firstLacking_2 at hw
  refine lv_iload_n hx hb dX6_firstLacking_2 rfl (lv_at hl 2 rfl) ?_
  refine lv_aload_n hx hb dX6_firstLacking_3 rfl (lv_at hl 0 rfl) ?_
  refine gt_X6_15 X O dX6_firstLacking_4 ?_
  refine lv_icmp_ge (tgt := 27) hx hb dX6_firstLacking_7 (by decide) (fun c7 => ?_) (fun c7 => ?_)
  · have hw := hw.1 c7
    refine lv_iconst (v := -1) hx hb dX6_firstLacking_27 (by decide) ?_
    exact q_iret X O hw dX6_firstLacking_28
  · have hw := hw.2 c7
    refine lv_aload_n hx hb dX6_firstLacking_10 rfl (lv_at hl 0 rfl) ?_
    refine lv_aload_n hx hb dX6_firstLacking_11 rfl (lv_at hl 1 rfl) ?_
    refine lv_iload_n hx hb dX6_firstLacking_12 rfl (lv_at hl 2 rfl) ?_
    refine q_civ (rest := []) X O hA 18 (c_X6_lackingAt hw) lk_X6_28 (by decide) rfl rfl rfl rfl rfl rfl ⟨Nat.le_of_ble_eq_true rfl, Nat.le_of_ble_eq_true rfl⟩ (Nat.le_of_ble_eq_true rfl) hl.1 ⟨Nat.zero_le _, Nat.zero_le _⟩ rfl dX6_firstLacking_13 (fun r13 u13 H locs hw O => ?_)
    refine lv_if_eq (tgt := 21) hx hb dX6_firstLacking_16 (by decide) (fun c16 => ?_) (fun c16 => ?_)
    · have hw := hw.1 c16
      refine lv_iinc (v := x2 + 1) (lv' := [(2, .int (x2 + 1)), (0, .ref (h 18)), (1, .ref (h 1))]) hx hb dX6_firstLacking_21 hl (k := 2) rfl rfl (by decide) rfl (fun ls hl => ?_)
      refine lv_goto (tgt := 2) hx hb dX6_firstLacking_24 (by decide) ?_
      exact k2 _ _ _ _ _ hw O (lv_sub hl [1, 2, 0] rfl)
    · have hw := hw.2 c16
      refine lv_iload_n hx hb dX6_firstLacking_19 rfl (lv_at hl 2 rfl) ?_
      exact q_iret X O hw dX6_firstLacking_20
def wl_X6_firstLacking_2 (Post : Int32 → St → Prop) : Nat → Int32 → St → Prop
  | 0 => fun _ _ => False
  | n + 1 => fun x2 u => wb_X6_firstLacking_2 Post (wl_X6_firstLacking_2 Post n) x2 u
set_option maxHeartbeats 4000000 in
set_option maxRecDepth 100000 in
theorem tl_X6_firstLacking_2 (X : Cx p s m args meth c cX6_firstLacking 3 (some .int) RX6 D (tyF b) A) (hA : ∀ q, s.heap.size ≤ q → A q) {Post : Int32 → St → Prop} : ∀ n : Nat, ∀ (x2 : Int32) (u : St) (H : Heap) (locs : List Loc) (ls : Array Slot), (wl_X6_firstLacking_2 Post n) x2 u → wO D 46 (gF b h) h u A s.heap H locs → lv_has ls 3 [(0, .ref (h 18)), (1, .ref (h 1)), (2, .int x2)] → W p l e rm_X6_firstLacking s m args below meth c H locs 0 0 (MQ below (va_Qi Post (cB D (tyF b) 46 (gF b h) h A) A) args s 0 0 A) (F0 m 2 ls []) := by
  intro n
  induction n with
  | zero => intro x2 u H locs ls hw; exact False.elim hw
  | succ n ih => intro x2 u H locs ls hw O hl; exact tb_X6_firstLacking_2 X hA ih x2 u H locs ls hw O hl
def wp_X6_firstLacking (u : St) (Post : Int32 → St → Prop) : Prop := ∃ n : Nat, wl_X6_firstLacking_2 Post n (0 : Int32) u
set_option maxHeartbeats 4000000 in
set_option maxRecDepth 100000 in
theorem c_X6_firstLacking {l : Launch} {D : va_G} {b : Nat → ClassId} {h : Nat → Nat} {u : St} {Post : Int32 → St → Prop} (hw : wp_X6_firstLacking u Post) : CtI l yX6_firstLacking cX6_firstLacking 3 (some .int) rm_X6_firstLacking D (tyF b) 46 (gF b h) h [.ref (h 18), .ref (h 1)] u Post := by
  refine CtI.of (plainFor_of_name (by decide)) (Nat.le_of_ble_eq_true rfl) ?_
  intro p e s m below meth c A ls X hA O hl
  have X : Cx p s m _ meth c cX6_firstLacking 3 (some .int) RX6 D (tyF b) A := X
  obtain ⟨⟨hx, hb, hml, hown, hts⟩, hK, hNs, hlocks, hr⟩ := id X
  have hl : lv_has ls 3 [(0, .ref (h 18)), (1, .ref (h 1))] := hl
  unfold wp_X6_firstLacking at hw
  refine lv_iconst (v := 0) hx hb dX6_firstLacking_0 (by decide) ?_
  refine lv_istore_n (lv' := [(2, .int (0 : Int32)), (0, .ref (h 18)), (1, .ref (h 1))]) hx hb dX6_firstLacking_1 rfl hl (by decide) rfl (fun ls hl => ?_)
  obtain ⟨n, hw⟩ := hw
  exact tl_X6_firstLacking_2 X hA n _ _ _ _ _ hw O (lv_sub hl [1, 2, 0] rfl)
-- FellersOrder$Line.isKept(LFellersOrder$Yard;)Z
abbrev rm_X6_isKept : Room := { frames := 3, cells := 0, slots := 0, locals := 67 }
def wp_X6_isKept (u : St) (Post : Int32 → St → Prop) : Prop := wp_X10_jobs u (fun r5 u5 => ((¬ (u 18 1) = r5) → (Post (0 : Int32) u5)) ∧ (((u 18 1) = r5) → (wp_X6_firstLacking u5 (fun r13 u13 => ((¬ r13 = (-1 : Int32)) → (Post (0 : Int32) u13)) ∧ ((r13 = (-1 : Int32)) → (Post (1 : Int32) u13))))))
set_option maxHeartbeats 4000000 in
set_option maxRecDepth 100000 in
theorem c_X6_isKept {l : Launch} {D : va_G} {b : Nat → ClassId} {h : Nat → Nat} {u : St} {Post : Int32 → St → Prop} (hw : wp_X6_isKept u Post) : CtI l yX6_isKept cX6_isKept 2 (some .boolean) rm_X6_isKept D (tyF b) 46 (gF b h) h [.ref (h 18), .ref (h 1)] u Post := by
  refine CtI.of (plainFor_of_name (by decide)) (Nat.le_of_ble_eq_true rfl) ?_
  intro p e s m below meth c A ls X hA O hl
  have X : Cx p s m _ meth c cX6_isKept 2 (some .boolean) RX6 D (tyF b) A := X
  obtain ⟨⟨hx, hb, hml, hown, hts⟩, hK, hNs, hlocks, hr⟩ := id X
  have hl : lv_has ls 2 [(0, .ref (h 18)), (1, .ref (h 1))] := hl
  unfold wp_X6_isKept at hw
  refine lv_aload_n hx hb dX6_isKept_0 rfl (lv_at hl 0 rfl) ?_
  refine gt_X6_15 X O dX6_isKept_1 ?_
  refine lv_aload_n hx hb dX6_isKept_4 rfl (lv_at hl 1 rfl) ?_
  refine q_civ (rest := [.int (u 18 1)]) X O hA 1 (c_X10_jobs hw) lk_X6_32 (by decide) rfl rfl rfl rfl rfl rfl ⟨Nat.le_of_ble_eq_true rfl, Nat.le_of_ble_eq_true rfl⟩ (Nat.le_of_ble_eq_true rfl) hl.1 ⟨Nat.zero_le _, Nat.zero_le _⟩ rfl dX6_isKept_5 (fun r5 u5 H locs hw O => ?_)
  refine lv_icmp_ne (tgt := 24) hx hb dX6_isKept_8 (by decide) (fun c8 => ?_) (fun c8 => ?_)
  · have hw := hw.1 c8
    refine lv_iconst (v := 0) hx hb dX6_isKept_24 (by decide) ?_
    exact q_zret X O rfl hw dX6_isKept_25
  · have hw := hw.2 c8
    refine lv_aload_n hx hb dX6_isKept_11 rfl (lv_at hl 0 rfl) ?_
    refine lv_aload_n hx hb dX6_isKept_12 rfl (lv_at hl 1 rfl) ?_
    refine q_civ (rest := []) X O hA 18 (c_X6_firstLacking hw) lk_X6_36 (by decide) rfl rfl rfl rfl rfl rfl ⟨Nat.le_of_ble_eq_true rfl, Nat.le_of_ble_eq_true rfl⟩ (Nat.le_of_ble_eq_true rfl) hl.1 ⟨Nat.zero_le _, Nat.zero_le _⟩ rfl dX6_isKept_13 (fun r13 u13 H locs hw O => ?_)
    refine lv_iconst (v := -1) hx hb dX6_isKept_16 (by decide) ?_
    refine lv_icmp_ne (tgt := 24) hx hb dX6_isKept_17 (by decide) (fun c17 => ?_) (fun c17 => ?_)
    · have hw := hw.1 c17
      refine lv_iconst (v := 0) hx hb dX6_isKept_24 (by decide) ?_
      exact q_zret X O rfl hw dX6_isKept_25
    · have hw := hw.2 c17
      refine lv_iconst (v := 1) hx hb dX6_isKept_20 (by decide) ?_
      refine lv_goto (tgt := 25) hx hb dX6_isKept_21 (by decide) ?_
      exact q_zret X O rfl hw dX6_isKept_25
-- FellersOrder.keeps()I
abbrev rm_X11_keeps : Room := { frames := 4, cells := 0, slots := 0, locals := 88 }
def wp_X11_keeps (u : St) (Post : Int32 → St → Prop) : Prop := wp_X6_isKept u (fun r8 u8 => wp_X11_asNumber r8 u8 (fun r11 u11 => Post r11 u11))
set_option maxHeartbeats 4000000 in
set_option maxRecDepth 100000 in
theorem c_X11_keeps {l : Launch} {D : va_G} {b : Nat → ClassId} {h : Nat → Nat} {u : St} {Post : Int32 → St → Prop} (hw : wp_X11_keeps u Post) : CtI l yX11_keeps cX11_keeps 1 (some .int) rm_X11_keeps D (tyF b) 46 (gF b h) h [.ref (h 0)] u Post := by
  refine CtI.of (plainFor_of_name (by decide)) (Nat.le_of_ble_eq_true rfl) ?_
  intro p e s m below meth c A ls X hA O hl
  have X : Cx p s m _ meth c cX11_keeps 1 (some .int) RX11 D (tyF b) A := X
  obtain ⟨⟨hx, hb, hml, hown, hts⟩, hK, hNs, hlocks, hr⟩ := id X
  have hl : lv_has ls 1 [(0, .ref (h 0))] := hl
  unfold wp_X11_keeps at hw
  refine lv_aload_n hx hb dX11_keeps_0 rfl (lv_at hl 0 rfl) ?_
  refine gt_X11_26 X O dX11_keeps_1 ?_
  refine lv_aload_n hx hb dX11_keeps_4 rfl (lv_at hl 0 rfl) ?_
  refine gt_X11_10 X O dX11_keeps_5 ?_
  refine q_civ (rest := []) X O hA 18 (c_X6_isKept hw) lk_X11_174 (by decide) rfl rfl rfl rfl rfl rfl ⟨Nat.le_of_ble_eq_true rfl, Nat.le_of_ble_eq_true rfl⟩ (Nat.le_of_ble_eq_true rfl) hl.1 ⟨Nat.zero_le _, Nat.zero_le _⟩ rfl dX11_keeps_8 (fun r8 u8 H locs hw O => ?_)
  refine q_cis (rest := []) X O hA (c_X11_asNumber hw) lk_X11_153 rfl rfl rfl ⟨Nat.le_of_ble_eq_true rfl, Nat.le_of_ble_eq_true rfl⟩ (Nat.le_of_ble_eq_true rfl) hl.1 ⟨Nat.zero_le _, Nat.zero_le _⟩ rfl dX11_keeps_11 (fun r11 u11 H locs hw O => ?_)
  exact q_iret X O hw dX11_keeps_14
-- FellersOrder$Line.jobAt(I)I
abbrev rm_X6_jobAt : Room := { frames := 0, cells := 0, slots := 0, locals := 0 }
def wp_X6_jobAt (a1 : Int32) (u : St) (Post : Int32 → St → Prop) : Prop := vp_in a1 12 ∧ (Post (u 19 (Int32.toNatClampNeg a1)) u)
set_option maxHeartbeats 4000000 in
set_option maxRecDepth 100000 in
theorem c_X6_jobAt {a1 : Int32} {l : Launch} {D : va_G} {b : Nat → ClassId} {h : Nat → Nat} {u : St} {Post : Int32 → St → Prop} (hw : wp_X6_jobAt a1 u Post) : CtI l yX6_jobAt cX6_jobAt 2 (some .int) rm_X6_jobAt D (tyF b) 46 (gF b h) h [.ref (h 18), .int a1] u Post := by
  refine CtI.of (plainFor_of_name (by decide)) (Nat.le_of_ble_eq_true rfl) ?_
  intro p e s m below meth c A ls X hA O hl
  have X : Cx p s m _ meth c cX6_jobAt 2 (some .int) RX6 D (tyF b) A := X
  obtain ⟨⟨hx, hb, hml, hown, hts⟩, hK, hNs, hlocks, hr⟩ := id X
  have hl : lv_has ls 2 [(0, .ref (h 18)), (1, .int a1)] := hl
  unfold wp_X6_jobAt at hw
  refine lv_aload_n hx hb dX6_jobAt_0 rfl (lv_at hl 0 rfl) ?_
  refine gt_X6_9 X O dX6_jobAt_1 ?_
  refine lv_iload_n hx hb dX6_jobAt_4 rfl (lv_at hl 1 rfl) ?_
  obtain ⟨i5, hw⟩ := hw
  refine q_ild X O 19 0 (by decide) rfl rfl i5 dX6_jobAt_5 ?_
  exact q_iret X O hw dX6_jobAt_6
-- FellersOrder.why(I)I
abbrev rm_X11_why : Room := { frames := 4, cells := 0, slots := 0, locals := 88 }
def wp_X11_why (a1 : Int32) (u : St) (Post : Int32 → St → Prop) : Prop := ((a1 < 0) → (Post (-1 : Int32) u)) ∧ ((¬ a1 < 0) → ((((1 : Int32) < a1) → (Post (-1 : Int32) u)) ∧ ((¬ (1 : Int32) < a1) → (wp_X6_isKept u (fun r17 u17 => ((r17 = 0) → (wp_X6_firstLacking u17 (fun r33 u33 => ((¬ a1 = 0) → (((¬ r33 = (-1 : Int32)) → (wp_X6_lackingAt r33 u33 (fun r101 u101 => wp_J6_numberOfTrailingZeros_0f7a4 r101 u101 (fun r106 u106 => Post r106 u106)))) ∧ ((r33 = (-1 : Int32)) → (wp_X10_everyJob u33 (fun r69 u69 => wp_X6_size u69 (fun r80 u80 => wp_X6_bitsBefore r80 u80 (fun r83 u83 => wp_J6_numberOfTrailingZeros_0f7a4 (r69 &&& (r83 ^^^ (-1 : Int32))) u83 (fun r106 u106 => Post r106 u106)))))))) ∧ ((a1 = 0) → (((¬ r33 = (-1 : Int32)) → (wp_X6_jobAt r33 u33 (fun r56 u56 => Post r56 u56))) ∧ ((r33 = (-1 : Int32)) → (Post (-2 : Int32) u33))))))) ∧ ((¬ r17 = 0) → (Post (-1 : Int32) u17)))))))
set_option maxHeartbeats 4000000 in
set_option maxRecDepth 100000 in
theorem c_X11_why {a1 : Int32} {l : Launch} {D : va_G} {b : Nat → ClassId} {h : Nat → Nat} {u : St} {Post : Int32 → St → Prop} (hw : wp_X11_why a1 u Post) : CtI l yX11_why cX11_why 4 (some .int) rm_X11_why D (tyF b) 46 (gF b h) h [.ref (h 0), .int a1] u Post := by
  refine CtI.of (plainFor_of_name (by decide)) (Nat.le_of_ble_eq_true rfl) ?_
  intro p e s m below meth c A ls X hA O hl
  have X : Cx p s m _ meth c cX11_why 4 (some .int) RX11 D (tyF b) A := X
  obtain ⟨⟨hx, hb, hml, hown, hts⟩, hK, hNs, hlocks, hr⟩ := id X
  have hl : lv_has ls 4 [(0, .ref (h 0)), (1, .int a1)] := hl
  unfold wp_X11_why at hw
  refine lv_iload_n hx hb dX11_why_0 rfl (lv_at hl 1 rfl) ?_
  refine lv_if_lt (tgt := 23) hx hb dX11_why_1 (by decide) (fun c1 => ?_) (fun c1 => ?_)
  · have hw := hw.1 c1
    refine lv_iconst (v := -1) hx hb dX11_why_23 (by decide) ?_
    exact q_iret X O hw dX11_why_24
  · have hw := hw.2 c1
    refine lv_iload_n hx hb dX11_why_4 rfl (lv_at hl 1 rfl) ?_
    refine lv_iconst (v := 1) hx hb dX11_why_5 (by decide) ?_
    refine lv_icmp_gt (tgt := 23) hx hb dX11_why_6 (by decide) (fun c6 => ?_) (fun c6 => ?_)
    · have hw := hw.1 c6
      refine lv_iconst (v := -1) hx hb dX11_why_23 (by decide) ?_
      exact q_iret X O hw dX11_why_24
    · have hw := hw.2 c6
      refine lv_aload_n hx hb dX11_why_9 rfl (lv_at hl 0 rfl) ?_
      refine gt_X11_26 X O dX11_why_10 ?_
      refine lv_aload_n hx hb dX11_why_13 rfl (lv_at hl 0 rfl) ?_
      refine gt_X11_10 X O dX11_why_14 ?_
      refine q_civ (rest := []) X O hA 18 (c_X6_isKept hw) lk_X11_174 (by decide) rfl rfl rfl rfl rfl rfl ⟨Nat.le_of_ble_eq_true rfl, Nat.le_of_ble_eq_true rfl⟩ (Nat.le_of_ble_eq_true rfl) hl.1 ⟨Nat.zero_le _, Nat.zero_le _⟩ rfl dX11_why_17 (fun r17 u17 H locs hw O => ?_)
      refine lv_if_eq (tgt := 25) hx hb dX11_why_20 (by decide) (fun c20 => ?_) (fun c20 => ?_)
      · have hw := hw.1 c20
        refine lv_aload_n hx hb dX11_why_25 rfl (lv_at hl 0 rfl) ?_
        refine gt_X11_26 X O dX11_why_26 ?_
        refine lv_aload_n hx hb dX11_why_29 rfl (lv_at hl 0 rfl) ?_
        refine gt_X11_10 X O dX11_why_30 ?_
        refine q_civ (rest := []) X O hA 18 (c_X6_firstLacking hw) lk_X11_178 (by decide) rfl rfl rfl rfl rfl rfl ⟨Nat.le_of_ble_eq_true rfl, Nat.le_of_ble_eq_true rfl⟩ (Nat.le_of_ble_eq_true rfl) hl.1 ⟨Nat.zero_le _, Nat.zero_le _⟩ rfl dX11_why_33 (fun r33 u33 H locs hw O => ?_)
        refine lv_istore_n (lv' := [(2, .int r33), (0, .ref (h 0)), (1, .int a1)]) hx hb dX11_why_36 rfl hl (by decide) rfl (fun ls hl => ?_)
        refine lv_iload_n hx hb dX11_why_37 rfl (lv_at hl 2 rfl) ?_
        refine lv_if_ne (tgt := 60) hx hb dX11_why_38 (by decide) (fun c38 => ?_) (fun c38 => ?_)
        · have hw := hw.1 c38
          refine lv_iload_n hx hb dX11_why_60 rfl (lv_at hl 0 rfl) ?_
          refine lv_iconst (v := -1) hx hb dX11_why_61 (by decide) ?_
          refine lv_icmp_ne (tgt := 92) hx hb dX11_why_62 (by decide) (fun c62 => ?_) (fun c62 => ?_)
          · have hw := hw.1 c62
            refine lv_aload_n hx hb dX11_why_92 rfl (lv_at hl 1 rfl) ?_
            refine gt_X11_26 X O dX11_why_93 ?_
            refine lv_aload_n hx hb dX11_why_96 rfl (lv_at hl 1 rfl) ?_
            refine gt_X11_10 X O dX11_why_97 ?_
            refine lv_iload_n hx hb dX11_why_100 rfl (lv_at hl 0 rfl) ?_
            refine q_civ (rest := []) X O hA 18 (c_X6_lackingAt hw) lk_X11_190 (by decide) rfl rfl rfl rfl rfl rfl ⟨Nat.le_of_ble_eq_true rfl, Nat.le_of_ble_eq_true rfl⟩ (Nat.le_of_ble_eq_true rfl) hl.1 ⟨Nat.zero_le _, Nat.zero_le _⟩ rfl dX11_why_101 (fun r101 u101 H locs hw O => ?_)
            refine lv_istore_n (lv' := [(3, .int r101), (2, .int r33), (0, .ref (h 0)), (1, .int a1)]) hx hb dX11_why_104 rfl hl (by decide) rfl (fun ls hl => ?_)
            refine lv_iload_n hx hb dX11_why_105 rfl (lv_at hl 0 rfl) ?_
            refine q_cis (rest := []) X O hA (c_J6_numberOfTrailingZeros_0f7a4 hw) lk_X11_193 rfl rfl rfl ⟨Nat.le_of_ble_eq_true rfl, Nat.le_of_ble_eq_true rfl⟩ (Nat.le_of_ble_eq_true rfl) hl.1 ⟨Nat.zero_le _, Nat.zero_le _⟩ rfl dX11_why_106 (fun r106 u106 H locs hw O => ?_)
            exact q_iret X O hw dX11_why_109
          · have hw := hw.2 c62
            refine lv_aload_n hx hb dX11_why_65 rfl (lv_at hl 1 rfl) ?_
            refine gt_X11_10 X O dX11_why_66 ?_
            refine q_civ (rest := []) X O hA 1 (c_X10_everyJob hw) lk_X11_184 (by decide) rfl rfl rfl rfl rfl rfl ⟨Nat.le_of_ble_eq_true rfl, Nat.le_of_ble_eq_true rfl⟩ (Nat.le_of_ble_eq_true rfl) hl.1 ⟨Nat.zero_le _, Nat.zero_le _⟩ rfl dX11_why_69 (fun r69 u69 H locs hw O => ?_)
            refine lv_aload_n hx hb dX11_why_72 rfl (lv_at hl 1 rfl) ?_
            refine gt_X11_26 X O dX11_why_73 ?_
            refine lv_aload_n hx hb dX11_why_76 rfl (lv_at hl 1 rfl) ?_
            refine gt_X11_26 X O dX11_why_77 ?_
            refine q_civ (rest := [.ref (h 18), .int r69]) X O hA 18 (c_X6_size hw) lk_X11_128 (by decide) rfl rfl rfl rfl rfl rfl ⟨Nat.le_of_ble_eq_true rfl, Nat.le_of_ble_eq_true rfl⟩ (Nat.le_of_ble_eq_true rfl) hl.1 ⟨Nat.zero_le _, Nat.zero_le _⟩ rfl dX11_why_80 (fun r80 u80 H locs hw O => ?_)
            refine q_civ (rest := [.int r69]) X O hA 18 (c_X6_bitsBefore hw) lk_X11_187 (by decide) rfl rfl rfl rfl rfl rfl ⟨Nat.le_of_ble_eq_true rfl, Nat.le_of_ble_eq_true rfl⟩ (Nat.le_of_ble_eq_true rfl) hl.1 ⟨Nat.zero_le _, Nat.zero_le _⟩ rfl dX11_why_83 (fun r83 u83 H locs hw O => ?_)
            refine lv_iconst (v := -1) hx hb dX11_why_86 (by decide) ?_
            refine lv_ixor hx hb dX11_why_87 ?_
            refine lv_iand hx hb dX11_why_88 ?_
            refine lv_goto (tgt := 104) hx hb dX11_why_89 (by decide) ?_
            refine lv_istore_n (lv' := [(3, .int (r69 &&& (r83 ^^^ (-1 : Int32)))), (2, .int r33), (0, .ref (h 0)), (1, .int a1)]) hx hb dX11_why_104 rfl hl (by decide) rfl (fun ls hl => ?_)
            refine lv_iload_n hx hb dX11_why_105 rfl (lv_at hl 0 rfl) ?_
            refine q_cis (rest := []) X O hA (c_J6_numberOfTrailingZeros_0f7a4 hw) lk_X11_193 rfl rfl rfl ⟨Nat.le_of_ble_eq_true rfl, Nat.le_of_ble_eq_true rfl⟩ (Nat.le_of_ble_eq_true rfl) hl.1 ⟨Nat.zero_le _, Nat.zero_le _⟩ rfl dX11_why_106 (fun r106 u106 H locs hw O => ?_)
            exact q_iret X O hw dX11_why_109
        · have hw := hw.2 c38
          refine lv_iload_n hx hb dX11_why_41 rfl (lv_at hl 0 rfl) ?_
          refine lv_iconst (v := -1) hx hb dX11_why_42 (by decide) ?_
          refine lv_icmp_ne (tgt := 51) hx hb dX11_why_43 (by decide) (fun c43 => ?_) (fun c43 => ?_)
          · have hw := hw.1 c43
            refine lv_aload_n hx hb dX11_why_51 rfl (lv_at hl 1 rfl) ?_
            refine gt_X11_26 X O dX11_why_52 ?_
            refine lv_iload_n hx hb dX11_why_55 rfl (lv_at hl 0 rfl) ?_
            refine q_civ (rest := []) X O hA 18 (c_X6_jobAt hw) lk_X11_181 (by decide) rfl rfl rfl rfl rfl rfl ⟨Nat.le_of_ble_eq_true rfl, Nat.le_of_ble_eq_true rfl⟩ (Nat.le_of_ble_eq_true rfl) hl.1 ⟨Nat.zero_le _, Nat.zero_le _⟩ rfl dX11_why_56 (fun r56 u56 H locs hw O => ?_)
            exact q_iret X O hw dX11_why_59
          · have hw := hw.2 c43
            refine lv_bipush (v := -2) hx hb dX11_why_46 (by decide) ?_
            refine lv_goto (tgt := 59) hx hb dX11_why_48 (by decide) ?_
            exact q_iret X O hw dX11_why_59
      · have hw := hw.2 c20
        refine lv_iconst (v := -1) hx hb dX11_why_23 (by decide) ?_
        exact q_iret X O hw dX11_why_24
end PT
