/-! the class, methods: X6_weightedWaiting X11_cost X6_exchange X11_swap X7_blockBits X11_block X10_costNext X10_mayComeNext X7_goOnFrom X7_isBestNext X7_leastBestNext X7_readBestRow X7_findOrders X7_leastCost X11_least X7_bestAt X11_best X7_bestOrders X11_many -/
theorem lk_X6_40 : LkV RX6 40 yX10_measure cX10_measure 3 (some .int) 2 := ⟨wd_23_14, wd_10_19, wd_10_20, wd_1_14, wd_10_21, by decide +kernel⟩
theorem lk_X11_196 : LkV RX11 196 yX6_weightedWaiting cX6_weightedWaiting 6 (some .int) 1 := ⟨wd_23_9, wd_23_10, wd_23_11, wd_1_22, wd_23_12, by decide +kernel⟩
theorem lk_X11_200 : LkV RX11 200 yX6_exchange cX6_exchange 3 none 1 := ⟨wd_24_0, wd_24_1, wd_24_2, wd_1_22, wd_24_3, by decide +kernel⟩
theorem lk_X11_203 : LkV RX11 203 yX7_blockBits cX7_blockBits 2 (some .int) 1 := ⟨wd_24_18, wd_24_19, wd_24_20, wd_1_18, wd_24_21, by decide +kernel⟩
theorem lk_X11_206 : LkV RX11 206 yX10_weightOf cX10_weightOf 2 (some .int) 1 := ⟨wd_24_22, wd_16_19, wd_16_20, wd_1_14, wd_16_21, by decide +kernel⟩
theorem lk_X11_209 : LkV RX11 209 yX10_lengthOf cX10_lengthOf 2 (some .int) 1 := ⟨wd_24_23, wd_16_15, wd_16_16, wd_1_14, wd_16_17, by decide +kernel⟩
theorem lk_X7_88 : LkV RX7 88 yX10_jobs cX10_jobs 1 (some .int) 0 := ⟨wd_25_21, wd_19_14, wd_19_15, wd_1_14, wd_19_16, by decide +kernel⟩
theorem lk_X7_91 : LkV RX7 91 yX10_mayComeNext cX10_mayComeNext 3 (some .boolean) 2 := ⟨wd_25_22, wd_25_23, wd_26_0, wd_1_14, wd_26_1, by decide +kernel⟩
theorem lk_X7_94 : LkV RX7 94 yX10_costNext cX10_costNext 3 (some .int) 2 := ⟨wd_26_2, wd_26_3, wd_26_4, wd_1_14, wd_26_5, by decide +kernel⟩
theorem lk_X7_101 : LkV RX7 101 yX7_isBestNext cX7_isBestNext 4 (some .boolean) 3 := ⟨wd_26_14, wd_26_15, wd_26_16, wd_1_18, wd_26_17, by decide +kernel⟩
theorem lk_X7_98 : LkV RX7 98 yX7_leastBestNext cX7_leastBestNext 4 (some .int) 2 := ⟨wd_26_10, wd_26_11, wd_26_12, wd_1_18, wd_26_13, by decide +kernel⟩
theorem lk_X7_85 : LkV RX7 85 yX7_readBestRow cX7_readBestRow 5 none 1 := ⟨wd_26_6, wd_26_7, wd_26_8, wd_1_18, wd_26_9, by decide +kernel⟩
theorem lk_X7_80 : LkV RX7 80 yX7_goOnFrom cX7_goOnFrom 10 none 2 := ⟨wd_25_17, wd_25_18, wd_25_19, wd_1_18, wd_25_20, by decide +kernel⟩
theorem lk_X7_57 : LkV RX7 57 yX7_findOrders cX7_findOrders 4 none 1 := ⟨wd_25_12, wd_25_13, wd_25_14, wd_1_18, wd_25_15, by decide +kernel⟩
theorem lk_X11_212 : LkV RX11 212 yX7_leastCost cX7_leastCost 2 (some .int) 1 := ⟨wd_25_8, wd_25_9, wd_25_10, wd_1_18, wd_25_11, by decide +kernel⟩
theorem lk_X11_215 : LkV RX11 215 yX7_bestAt cX7_bestAt 3 (some .int) 2 := ⟨wd_27_19, wd_27_20, wd_27_21, wd_1_18, wd_27_22, by decide +kernel⟩
theorem lk_X11_218 : LkV RX11 218 yX7_bestOrders cX7_bestOrders 2 (some .int) 1 := ⟨wd_28_7, wd_28_8, wd_28_9, wd_1_18, wd_28_10, by decide +kernel⟩
section PT
variable {p : Program} {l : Launch} {e : Env} {s : State} {m : MethodId} {args : Array Value} {below : List Frame} {meth : Method} {c : Code} {A : Nat → Prop} {D : va_G} {b : Nat → ClassId} {h : Nat → Nat}
-- FellersOrder$Line.weightedWaiting(LFellersOrder$Yard;)I
abbrev rm_X6_weightedWaiting : Room := { frames := 1, cells := 0, slots := 0, locals := 22 }
def wb_X6_weightedWaiting_7 (Post : Int32 → St → Prop) (K7 : Int32 → Int32 → Int32 → St → Prop) (x2 : Int32) (x3 : Int32) (x4 : Int32) (u : St) : Prop := (((u 18 1) ≤ x4) → (Post x3 u)) ∧ ((¬ (u 18 1) ≤ x4) → (vp_in x4 12 ∧ (wp_X10_measure (u 19 (Int32.toNatClampNeg x4)) (2 : Int32) u (fun r30 u30 => wp_X10_measure (u 19 (Int32.toNatClampNeg x4)) (0 : Int32) u30 (fun r40 u40 => wp_X10_measure (u 19 (Int32.toNatClampNeg x4)) (1 : Int32) u40 (fun r50 u50 => K7 ((if x2 < r30 then r30 else x2) + r40) (x3 + (r50 * ((if x2 < r30 then r30 else x2) + r40))) (x4 + 1) u50))))))
set_option maxHeartbeats 4000000 in
set_option maxRecDepth 100000 in
theorem tb_X6_weightedWaiting_7 (X : Cx p s m args meth c cX6_weightedWaiting 6 (some .int) RX6 D (tyF b) A) (hA : ∀ q, s.heap.size ≤ q → A q) {Post : Int32 → St → Prop} {K7 : Int32 → Int32 → Int32 → St → Prop} (k7 : ∀ (x2 : Int32) (x3 : Int32) (x4 : Int32) (u : St) (H : Heap) (locs : List Loc) (ls : Array Slot), K7 x2 x3 x4 u → wO D 46 (gF b h) h u A s.heap H locs → lv_has ls 6 [(0, .ref (h 18)), (1, .ref (h 1)), (2, .int x2), (3, .int x3), (4, .int x4)] → W p l e rm_X6_weightedWaiting s m args below meth c H locs 0 0 (MQ below (va_Qi Post (cB D (tyF b) 46 (gF b h) h A) A) args s 0 0 A) (F0 m 7 ls [])) : ∀ (x2 : Int32) (x3 : Int32) (x4 : Int32) (u : St) (H : Heap) (locs : List Loc) (ls : Array Slot), wb_X6_weightedWaiting_7 Post K7 x2 x3 x4 u → wO D 46 (gF b h) h u A s.heap H locs → lv_has ls 6 [(0, .ref (h 18)), (1, .ref (h 1)), (2, .int x2), (3, .int x3), (4, .int x4)] → W p l e rm_X6_weightedWaiting s m args below meth c H locs 0 0 (MQ below (va_Qi Post (cB D (tyF b) 46 (gF b h) h A) A) args s 0 0 A) (F0 m 7 ls []) := by
  obtain ⟨⟨hx, hb, hml, hown, hts⟩, hK, hNs, hlocks, hr⟩ := id X
  intro x2 x3 x4 u H locs ls hw O hl
  unfold wb_X6_weightedWaiting_7 at hw
  refine lv_iload hx hb dX6_weightedWaiting_7 (lv_at hl 4 rfl) ?_
  refine lv_aload_n hx hb dX6_weightedWaiting_9 rfl (lv_at hl 0 rfl) ?_
  refine gt_X6_15 X O dX6_weightedWaiting_10 ?_
  refine lv_icmp_ge (tgt := 63) hx hb dX6_weightedWaiting_13 (by decide) (fun c13 => ?_) (fun c13 => ?_)
  · have hw := hw.1 c13
    refine lv_iload_n hx hb dX6_weightedWaiting_63 rfl (lv_at hl 3 rfl) ?_
    exact q_iret X O hw dX6_weightedWaiting_64
  · have hw := hw.2 c13
    refine lv_aload_n hx hb dX6_weightedWaiting_16 rfl (lv_at hl 0 rfl) ?_
    refine gt_X6_9 X O dX6_weightedWaiting_17 ?_
    refine lv_iload hx hb dX6_weightedWaiting_20 (lv_at hl 4 rfl) ?_
    obtain ⟨i22, hw⟩ := hw
    refine q_ild X O 19 0 (by decide) rfl rfl i22 dX6_weightedWaiting_22 ?_
    refine lv_istore (lv' := [(5, .int (u 19 (Int32.toNatClampNeg x4))), (0, .ref (h 18)), (1, .ref (h 1)), (2, .int x2), (3, .int x3), (4, .int x4)]) hx hb dX6_weightedWaiting_23 hl (by decide) rfl (fun ls hl => ?_)
    refine lv_iload_n hx hb dX6_weightedWaiting_25 rfl (lv_at hl 3 rfl) ?_
    refine lv_aload_n hx hb dX6_weightedWaiting_26 rfl (lv_at hl 2 rfl) ?_
    refine lv_iload hx hb dX6_weightedWaiting_27 (lv_at hl 0 rfl) ?_
    refine lv_iconst (v := 2) hx hb dX6_weightedWaiting_29 (by decide) ?_
    refine q_civ (rest := [.int x2]) X O hA 1 (c_X10_measure hw) lk_X6_40 (by decide) rfl rfl rfl rfl rfl rfl ⟨Nat.le_of_ble_eq_true rfl, Nat.le_of_ble_eq_true rfl⟩ (Nat.le_of_ble_eq_true rfl) hl.1 ⟨Nat.zero_le _, Nat.zero_le _⟩ rfl dX6_weightedWaiting_30 (fun r30 u30 H locs hw O => ?_)
    refine q_max X hl.1 wd_23_13 wd_8_10 wd_8_11 wd_8_12 ⟨Nat.le_of_ble_eq_true rfl, Nat.le_of_ble_eq_true rfl⟩ (Nat.le_of_ble_eq_true rfl) ⟨Nat.zero_le _, Nat.zero_le _⟩ dX6_weightedWaiting_33 ?_
    refine lv_aload_n hx hb dX6_weightedWaiting_36 rfl (lv_at hl 2 rfl) ?_
    refine lv_iload hx hb dX6_weightedWaiting_37 (lv_at hl 0 rfl) ?_
    refine lv_iconst (v := 0) hx hb dX6_weightedWaiting_39 (by decide) ?_
    refine q_civ (rest := [.int (if x2 < r30 then r30 else x2)]) X O hA 1 (c_X10_measure hw) lk_X6_40 (by decide) rfl rfl rfl rfl rfl rfl ⟨Nat.le_of_ble_eq_true rfl, Nat.le_of_ble_eq_true rfl⟩ (Nat.le_of_ble_eq_true rfl) hl.1 ⟨Nat.zero_le _, Nat.zero_le _⟩ rfl dX6_weightedWaiting_40 (fun r40 u40 H locs hw O => ?_)
    refine lv_iadd hx hb dX6_weightedWaiting_43 ?_
    refine lv_istore_n (lv' := [(2, .int ((if x2 < r30 then r30 else x2) + r40)), (5, .int (u 19 (Int32.toNatClampNeg x4))), (0, .ref (h 18)), (1, .ref (h 1)), (3, .int x3), (4, .int x4)]) hx hb dX6_weightedWaiting_44 rfl hl (by decide) rfl (fun ls hl => ?_)
    refine lv_iload_n hx hb dX6_weightedWaiting_45 rfl (lv_at hl 4 rfl) ?_
    refine lv_aload_n hx hb dX6_weightedWaiting_46 rfl (lv_at hl 3 rfl) ?_
    refine lv_iload hx hb dX6_weightedWaiting_47 (lv_at hl 1 rfl) ?_
    refine lv_iconst (v := 1) hx hb dX6_weightedWaiting_49 (by decide) ?_
    refine q_civ (rest := [.int x3]) X O hA 1 (c_X10_measure hw) lk_X6_40 (by decide) rfl rfl rfl rfl rfl rfl ⟨Nat.le_of_ble_eq_true rfl, Nat.le_of_ble_eq_true rfl⟩ (Nat.le_of_ble_eq_true rfl) hl.1 ⟨Nat.zero_le _, Nat.zero_le _⟩ rfl dX6_weightedWaiting_50 (fun r50 u50 H locs hw O => ?_)
    refine lv_iload_n hx hb dX6_weightedWaiting_53 rfl (lv_at hl 0 rfl) ?_
    refine lv_imul hx hb dX6_weightedWaiting_54 ?_
    refine lv_iadd hx hb dX6_weightedWaiting_55 ?_
    refine lv_istore_n (lv' := [(3, .int (x3 + (r50 * ((if x2 < r30 then r30 else x2) + r40)))), (2, .int ((if x2 < r30 then r30 else x2) + r40)), (5, .int (u 19 (Int32.toNatClampNeg x4))), (0, .ref (h 18)), (1, .ref (h 1)), (4, .int x4)]) hx hb dX6_weightedWaiting_56 rfl hl (by decide) rfl (fun ls hl => ?_)
    refine lv_iinc (v := x4 + 1) (lv' := [(4, .int (x4 + 1)), (3, .int (x3 + (r50 * ((if x2 < r30 then r30 else x2) + r40)))), (2, .int ((if x2 < r30 then r30 else x2) + r40)), (5, .int (u 19 (Int32.toNatClampNeg x4))), (0, .ref (h 18)), (1, .ref (h 1))]) hx hb dX6_weightedWaiting_57 hl (k := 5) rfl rfl (by decide) rfl (fun ls hl => ?_)
    refine lv_goto (tgt := 7) hx hb dX6_weightedWaiting_60 (by decide) ?_
    exact k7 _ _ _ _ _ _ _ hw O (lv_sub hl [4, 5, 2, 1, 0] rfl)
def wl_X6_weightedWaiting_7 (Post : Int32 → St → Prop) : Nat → Int32 → Int32 → Int32 → St → Prop
  | 0 => fun _ _ _ _ => False
  | n + 1 => fun x2 x3 x4 u => wb_X6_weightedWaiting_7 Post (wl_X6_weightedWaiting_7 Post n) x2 x3 x4 u
set_option maxHeartbeats 4000000 in
set_option maxRecDepth 100000 in
theorem tl_X6_weightedWaiting_7 (X : Cx p s m args meth c cX6_weightedWaiting 6 (some .int) RX6 D (tyF b) A) (hA : ∀ q, s.heap.size ≤ q → A q) {Post : Int32 → St → Prop} : ∀ n : Nat, ∀ (x2 : Int32) (x3 : Int32) (x4 : Int32) (u : St) (H : Heap) (locs : List Loc) (ls : Array Slot), (wl_X6_weightedWaiting_7 Post n) x2 x3 x4 u → wO D 46 (gF b h) h u A s.heap H locs → lv_has ls 6 [(0, .ref (h 18)), (1, .ref (h 1)), (2, .int x2), (3, .int x3), (4, .int x4)] → W p l e rm_X6_weightedWaiting s m args below meth c H locs 0 0 (MQ below (va_Qi Post (cB D (tyF b) 46 (gF b h) h A) A) args s 0 0 A) (F0 m 7 ls []) := by
  intro n
  induction n with
  | zero => intro x2 x3 x4 u H locs ls hw; exact False.elim hw
  | succ n ih => intro x2 x3 x4 u H locs ls hw O hl; exact tb_X6_weightedWaiting_7 X hA ih x2 x3 x4 u H locs ls hw O hl
def wp_X6_weightedWaiting (u : St) (Post : Int32 → St → Prop) : Prop := ∃ n : Nat, wl_X6_weightedWaiting_7 Post n (0 : Int32) (0 : Int32) (0 : Int32) u
set_option maxHeartbeats 4000000 in
set_option maxRecDepth 100000 in
theorem c_X6_weightedWaiting {l : Launch} {D : va_G} {b : Nat → ClassId} {h : Nat → Nat} {u : St} {Post : Int32 → St → Prop} (hw : wp_X6_weightedWaiting u Post) : CtI l yX6_weightedWaiting cX6_weightedWaiting 6 (some .int) rm_X6_weightedWaiting D (tyF b) 46 (gF b h) h [.ref (h 18), .ref (h 1)] u Post := by
  refine CtI.of (plainFor_of_name (by decide)) (Nat.le_of_ble_eq_true rfl) ?_
  intro p e s m below meth c A ls X hA O hl
  have X : Cx p s m _ meth c cX6_weightedWaiting 6 (some .int) RX6 D (tyF b) A := X
  obtain ⟨⟨hx, hb, hml, hown, hts⟩, hK, hNs, hlocks, hr⟩ := id X
  have hl : lv_has ls 6 [(0, .ref (h 18)), (1, .ref (h 1))] := hl
  unfold wp_X6_weightedWaiting at hw
  refine lv_iconst (v := 0) hx hb dX6_weightedWaiting_0 (by decide) ?_
  refine lv_istore_n (lv' := [(2, .int (0 : Int32)), (0, .ref (h 18)), (1, .ref (h 1))]) hx hb dX6_weightedWaiting_1 rfl hl (by decide) rfl (fun ls hl => ?_)
  refine lv_iconst (v := 0) hx hb dX6_weightedWaiting_2 (by decide) ?_
  refine lv_istore_n (lv' := [(3, .int (0 : Int32)), (2, .int (0 : Int32)), (0, .ref (h 18)), (1, .ref (h 1))]) hx hb dX6_weightedWaiting_3 rfl hl (by decide) rfl (fun ls hl => ?_)
  refine lv_iconst (v := 0) hx hb dX6_weightedWaiting_4 (by decide) ?_
  refine lv_istore (lv' := [(4, .int (0 : Int32)), (3, .int (0 : Int32)), (2, .int (0 : Int32)), (0, .ref (h 18)), (1, .ref (h 1))]) hx hb dX6_weightedWaiting_5 hl (by decide) rfl (fun ls hl => ?_)
  obtain ⟨n, hw⟩ := hw
  exact tl_X6_weightedWaiting_7 X hA n _ _ _ _ _ _ _ hw O (lv_sub hl [3, 4, 2, 1, 0] rfl)
-- FellersOrder.cost()I
abbrev rm_X11_cost : Room := { frames := 2, cells := 0, slots := 0, locals := 47 }
def wp_X11_cost (u : St) (Post : Int32 → St → Prop) : Prop := wp_X6_weightedWaiting u (fun r8 u8 => Post r8 u8)
set_option maxHeartbeats 4000000 in
set_option maxRecDepth 100000 in
theorem c_X11_cost {l : Launch} {D : va_G} {b : Nat → ClassId} {h : Nat → Nat} {u : St} {Post : Int32 → St → Prop} (hw : wp_X11_cost u Post) : CtI l yX11_cost cX11_cost 1 (some .int) rm_X11_cost D (tyF b) 46 (gF b h) h [.ref (h 0)] u Post := by
  refine CtI.of (plainFor_of_name (by decide)) (Nat.le_of_ble_eq_true rfl) ?_
  intro p e s m below meth c A ls X hA O hl
  have X : Cx p s m _ meth c cX11_cost 1 (some .int) RX11 D (tyF b) A := X
  obtain ⟨⟨hx, hb, hml, hown, hts⟩, hK, hNs, hlocks, hr⟩ := id X
  have hl : lv_has ls 1 [(0, .ref (h 0))] := hl
  unfold wp_X11_cost at hw
  refine lv_aload_n hx hb dX11_cost_0 rfl (lv_at hl 0 rfl) ?_
  refine gt_X11_26 X O dX11_cost_1 ?_
  refine lv_aload_n hx hb dX11_cost_4 rfl (lv_at hl 0 rfl) ?_
  refine gt_X11_10 X O dX11_cost_5 ?_
  refine q_civ (rest := []) X O hA 18 (c_X6_weightedWaiting hw) lk_X11_196 (by decide) rfl rfl rfl rfl rfl rfl ⟨Nat.le_of_ble_eq_true rfl, Nat.le_of_ble_eq_true rfl⟩ (Nat.le_of_ble_eq_true rfl) hl.1 ⟨Nat.zero_le _, Nat.zero_le _⟩ rfl dX11_cost_8 (fun r8 u8 H locs hw O => ?_)
  exact q_iret X O hw dX11_cost_11
-- FellersOrder$Line.exchange(I)V
abbrev rm_X6_exchange : Room := { frames := 0, cells := 0, slots := 0, locals := 0 }
def wp_X6_exchange (a1 : Int32) (u : St) (Post : Int32 → St → Prop) : Prop := vp_in a1 12 ∧ (vp_in (a1 + (1 : Int32)) 12 ∧ (vp_in a1 12 ∧ (vp_in (a1 + (1 : Int32)) 12 ∧ (Post 0 (su (su u 19 (Int32.toNatClampNeg a1) (u 19 (Int32.toNatClampNeg (a1 + (1 : Int32))))) 19 (Int32.toNatClampNeg (a1 + (1 : Int32))) (u 19 (Int32.toNatClampNeg a1)))))))
set_option maxHeartbeats 4000000 in
set_option maxRecDepth 100000 in
theorem c_X6_exchange {a1 : Int32} {l : Launch} {D : va_G} {b : Nat → ClassId} {h : Nat → Nat} {u : St} {Post : Int32 → St → Prop} (hw : wp_X6_exchange a1 u Post) : CtV l yX6_exchange cX6_exchange 3 none rm_X6_exchange D (tyF b) 46 (gF b h) h [.ref (h 18), .int a1] u Post := by
  refine CtV.of (plainFor_of_name (by decide)) (Nat.le_of_ble_eq_true rfl) ?_
  intro p e s m below meth c A ls X hA O hl
  have X : Cx p s m _ meth c cX6_exchange 3 none RX6 D (tyF b) A := X
  obtain ⟨⟨hx, hb, hml, hown, hts⟩, hK, hNs, hlocks, hr⟩ := id X
  have hl : lv_has ls 3 [(0, .ref (h 18)), (1, .int a1)] := hl
  unfold wp_X6_exchange at hw
  refine lv_aload_n hx hb dX6_exchange_0 rfl (lv_at hl 0 rfl) ?_
  refine gt_X6_9 X O dX6_exchange_1 ?_
  refine lv_iload_n hx hb dX6_exchange_4 rfl (lv_at hl 1 rfl) ?_
  obtain ⟨i5, hw⟩ := hw
  refine q_ild X O 19 0 (by decide) rfl rfl i5 dX6_exchange_5 ?_
  refine lv_istore_n (lv' := [(2, .int (u 19 (Int32.toNatClampNeg a1))), (0, .ref (h 18)), (1, .int a1)]) hx hb dX6_exchange_6 rfl hl (by decide) rfl (fun ls hl => ?_)
  refine lv_aload_n hx hb dX6_exchange_7 rfl (lv_at hl 1 rfl) ?_
  refine gt_X6_9 X O dX6_exchange_8 ?_
  refine lv_iload_n hx hb dX6_exchange_11 rfl (lv_at hl 2 rfl) ?_
  refine lv_aload_n hx hb dX6_exchange_12 rfl (lv_at hl 1 rfl) ?_
  refine gt_X6_9 X O dX6_exchange_13 ?_
  refine lv_iload_n hx hb dX6_exchange_16 rfl (lv_at hl 2 rfl) ?_
  refine lv_iconst (v := 1) hx hb dX6_exchange_17 (by decide) ?_
  refine lv_iadd hx hb dX6_exchange_18 ?_
  obtain ⟨i19, hw⟩ := hw
  refine q_ild X O 19 0 (by decide) rfl rfl i19 dX6_exchange_19 ?_
  obtain ⟨i20, hw⟩ := hw
  refine q_ist X O 19 0 (by decide) (fun _ => rfl) rfl i20 dX6_exchange_20 (fun H locs O => ?_)
  refine lv_aload_n hx hb dX6_exchange_21 rfl (lv_at hl 1 rfl) ?_
  refine gt_X6_9 X O dX6_exchange_22 ?_
  refine lv_iload_n hx hb dX6_exchange_25 rfl (lv_at hl 2 rfl) ?_
  refine lv_iconst (v := 1) hx hb dX6_exchange_26 (by decide) ?_
  refine lv_iadd hx hb dX6_exchange_27 ?_
  refine lv_iload_n hx hb dX6_exchange_28 rfl (lv_at hl 0 rfl) ?_
  obtain ⟨i29, hw⟩ := hw
  refine q_ist X O 19 0 (by decide) (fun _ => rfl) rfl i29 dX6_exchange_29 (fun H locs O => ?_)
  exact q_vret X O hw dX6_exchange_30
-- FellersOrder.swap(I)I
abbrev rm_X11_swap : Room := { frames := 2, cells := 0, slots := 0, locals := 47 }
def wp_X11_swap (a1 : Int32) (u : St) (Post : Int32 → St → Prop) : Prop := ((a1 < 0) → (Post (-1000000000 : Int32) u)) ∧ ((¬ a1 < 0) → (wp_X6_size u (fun r9 u9 => ((a1 < (r9 - (1 : Int32))) → (wp_X6_weightedWaiting u9 (fun r28 u28 => wp_X6_exchange a1 u28 (fun _ u37 => wp_X6_weightedWaiting u37 (fun r48 u48 => wp_X6_exchange a1 u48 (fun _ u57 => Post (r48 - r28) u57)))))) ∧ ((¬ a1 < (r9 - (1 : Int32))) → (Post (-1000000000 : Int32) u9)))))
set_option maxHeartbeats 4000000 in
set_option maxRecDepth 100000 in
theorem c_X11_swap {a1 : Int32} {l : Launch} {D : va_G} {b : Nat → ClassId} {h : Nat → Nat} {u : St} {Post : Int32 → St → Prop} (hw : wp_X11_swap a1 u Post) : CtI l yX11_swap cX11_swap 4 (some .int) rm_X11_swap D (tyF b) 46 (gF b h) h [.ref (h 0), .int a1] u Post := by
  refine CtI.of (plainFor_of_name (by decide)) (Nat.le_of_ble_eq_true rfl) ?_
  intro p e s m below meth c A ls X hA O hl
  have X : Cx p s m _ meth c cX11_swap 4 (some .int) RX11 D (tyF b) A := X
  obtain ⟨⟨hx, hb, hml, hown, hts⟩, hK, hNs, hlocks, hr⟩ := id X
  have hl : lv_has ls 4 [(0, .ref (h 0)), (1, .int a1)] := hl
  unfold wp_X11_swap at hw
  refine lv_iload_n hx hb dX11_swap_0 rfl (lv_at hl 1 rfl) ?_
  refine lv_if_lt (tgt := 17) hx hb dX11_swap_1 (by decide) (fun c1 => ?_) (fun c1 => ?_)
  · have hw := hw.1 c1
    refine lv_ldc (v := -1000000000) hx hb hown (hts _ wd_23_23) dX11_swap_17 ?_
    exact q_iret X O hw dX11_swap_19
  · have hw := hw.2 c1
    refine lv_iload_n hx hb dX11_swap_4 rfl (lv_at hl 1 rfl) ?_
    refine lv_aload_n hx hb dX11_swap_5 rfl (lv_at hl 0 rfl) ?_
    refine gt_X11_26 X O dX11_swap_6 ?_
    refine q_civ (rest := [.int a1]) X O hA 18 (c_X6_size hw) lk_X11_128 (by decide) rfl rfl rfl rfl rfl rfl ⟨Nat.le_of_ble_eq_true rfl, Nat.le_of_ble_eq_true rfl⟩ (Nat.le_of_ble_eq_true rfl) hl.1 ⟨Nat.zero_le _, Nat.zero_le _⟩ rfl dX11_swap_9 (fun r9 u9 H locs hw O => ?_)
    refine lv_iconst (v := 1) hx hb dX11_swap_12 (by decide) ?_
    refine lv_isub hx hb dX11_swap_13 ?_
    refine lv_icmp_lt (tgt := 20) hx hb dX11_swap_14 (by decide) (fun c14 => ?_) (fun c14 => ?_)
    · have hw := hw.1 c14
      refine lv_aload_n hx hb dX11_swap_20 rfl (lv_at hl 0 rfl) ?_
      refine gt_X11_26 X O dX11_swap_21 ?_
      refine lv_aload_n hx hb dX11_swap_24 rfl (lv_at hl 0 rfl) ?_
      refine gt_X11_10 X O dX11_swap_25 ?_
      refine q_civ (rest := []) X O hA 18 (c_X6_weightedWaiting hw) lk_X11_196 (by decide) rfl rfl rfl rfl rfl rfl ⟨Nat.le_of_ble_eq_true rfl, Nat.le_of_ble_eq_true rfl⟩ (Nat.le_of_ble_eq_true rfl) hl.1 ⟨Nat.zero_le _, Nat.zero_le _⟩ rfl dX11_swap_28 (fun r28 u28 H locs hw O => ?_)
      refine lv_istore_n (lv' := [(2, .int r28), (0, .ref (h 0)), (1, .int a1)]) hx hb dX11_swap_31 rfl hl (by decide) rfl (fun ls hl => ?_)
      refine lv_aload_n hx hb dX11_swap_32 rfl (lv_at hl 1 rfl) ?_
      refine gt_X11_26 X O dX11_swap_33 ?_
      refine lv_iload_n hx hb dX11_swap_36 rfl (lv_at hl 2 rfl) ?_
      refine q_cvv (rest := []) X O hA 18 (c_X6_exchange hw) lk_X11_200 (by decide) rfl rfl rfl rfl rfl rfl ⟨Nat.le_of_ble_eq_true rfl, Nat.le_of_ble_eq_true rfl⟩ (Nat.le_of_ble_eq_true rfl) hl.1 ⟨Nat.zero_le _, Nat.zero_le _⟩ rfl dX11_swap_37 (fun u37 H locs hw O => ?_)
      refine lv_aload_n hx hb dX11_swap_40 rfl (lv_at hl 1 rfl) ?_
      refine gt_X11_26 X O dX11_swap_41 ?_
      refine lv_aload_n hx hb dX11_swap_44 rfl (lv_at hl 1 rfl) ?_
      refine gt_X11_10 X O dX11_swap_45 ?_
      refine q_civ (rest := []) X O hA 18 (c_X6_weightedWaiting hw) lk_X11_196 (by decide) rfl rfl rfl rfl rfl rfl ⟨Nat.le_of_ble_eq_true rfl, Nat.le_of_ble_eq_true rfl⟩ (Nat.le_of_ble_eq_true rfl) hl.1 ⟨Nat.zero_le _, Nat.zero_le _⟩ rfl dX11_swap_48 (fun r48 u48 H locs hw O => ?_)
      refine lv_istore_n (lv' := [(3, .int r48), (2, .int r28), (0, .ref (h 0)), (1, .int a1)]) hx hb dX11_swap_51 rfl hl (by decide) rfl (fun ls hl => ?_)
      refine lv_aload_n hx hb dX11_swap_52 rfl (lv_at hl 2 rfl) ?_
      refine gt_X11_26 X O dX11_swap_53 ?_
      refine lv_iload_n hx hb dX11_swap_56 rfl (lv_at hl 3 rfl) ?_
      refine q_cvv (rest := []) X O hA 18 (c_X6_exchange hw) lk_X11_200 (by decide) rfl rfl rfl rfl rfl rfl ⟨Nat.le_of_ble_eq_true rfl, Nat.le_of_ble_eq_true rfl⟩ (Nat.le_of_ble_eq_true rfl) hl.1 ⟨Nat.zero_le _, Nat.zero_le _⟩ rfl dX11_swap_57 (fun u57 H locs hw O => ?_)
      refine lv_iload_n hx hb dX11_swap_60 rfl (lv_at hl 0 rfl) ?_
      refine lv_iload_n hx hb dX11_swap_61 rfl (lv_at hl 1 rfl) ?_
      refine lv_isub hx hb dX11_swap_62 ?_
      exact q_iret X O hw dX11_swap_63
    · have hw := hw.2 c14
      refine lv_ldc (v := -1000000000) hx hb hown (hts _ wd_23_23) dX11_swap_17 ?_
      exact q_iret X O hw dX11_swap_19
-- FellersOrder$Plan.blockBits(I)I
abbrev rm_X7_blockBits : Room := { frames := 0, cells := 0, slots := 0, locals := 0 }
def wp_X7_blockBits (a1 : Int32) (u : St) (Post : Int32 → St → Prop) : Prop := vp_in a1 12 ∧ (Post (u 13 (Int32.toNatClampNeg a1)) u)
set_option maxHeartbeats 4000000 in
set_option maxRecDepth 100000 in
theorem c_X7_blockBits {a1 : Int32} {l : Launch} {D : va_G} {b : Nat → ClassId} {h : Nat → Nat} {u : St} {Post : Int32 → St → Prop} (hw : wp_X7_blockBits a1 u Post) : CtI l yX7_blockBits cX7_blockBits 2 (some .int) rm_X7_blockBits D (tyF b) 46 (gF b h) h [.ref (h 12), .int a1] u Post := by
  refine CtI.of (plainFor_of_name (by decide)) (Nat.le_of_ble_eq_true rfl) ?_
  intro p e s m below meth c A ls X hA O hl
  have X : Cx p s m _ meth c cX7_blockBits 2 (some .int) RX7 D (tyF b) A := X
  obtain ⟨⟨hx, hb, hml, hown, hts⟩, hK, hNs, hlocks, hr⟩ := id X
  have hl : lv_has ls 2 [(0, .ref (h 12)), (1, .int a1)] := hl
  unfold wp_X7_blockBits at hw
  refine lv_aload_n hx hb dX7_blockBits_0 rfl (lv_at hl 0 rfl) ?_
  refine gt_X7_9 X O dX7_blockBits_1 ?_
  refine lv_iload_n hx hb dX7_blockBits_4 rfl (lv_at hl 1 rfl) ?_
  obtain ⟨i5, hw⟩ := hw
  refine q_ild X O 13 0 (by decide) rfl rfl i5 dX7_blockBits_5 ?_
  exact q_iret X O hw dX7_blockBits_6
-- FellersOrder.block(II)I
abbrev rm_X11_block : Room := { frames := 4, cells := 0, slots := 0, locals := 96 }
def wp_X11_block (a1 : Int32) (a2 : Int32) (u : St) (Post : Int32 → St → Prop) : Prop := ((a1 < 0) → (Post (-1 : Int32) u)) ∧ ((¬ a1 < 0) → (wp_X7_blocks u (fun r13 u13 => ((a1 < r13) → (wp_X7_blockBits a1 u13 (fun r26 u26 => (a2 = 0 → (Post r26 u26)) ∧ (a2 = 1 → (wp_X10_weightOf r26 u26 (fun r63 u63 => Post r63 u63))) ∧ (a2 = 2 → (wp_X10_lengthOf r26 u26 (fun r72 u72 => Post r72 u72))) ∧ (¬ a2 = 0 → ¬ a2 = 1 → ¬ a2 = 2 → (Post (-1 : Int32) u26))))) ∧ ((¬ a1 < r13) → (Post (-1 : Int32) u13)))))
set_option maxHeartbeats 4000000 in
set_option maxRecDepth 100000 in
theorem c_X11_block {a1 : Int32} {a2 : Int32} {l : Launch} {D : va_G} {b : Nat → ClassId} {h : Nat → Nat} {u : St} {Post : Int32 → St → Prop} (hw : wp_X11_block a1 a2 u Post) : CtI l yX11_block cX11_block 4 (some .int) rm_X11_block D (tyF b) 46 (gF b h) h [.ref (h 0), .int a1, .int a2] u Post := by
  refine CtI.of (plainFor_of_name (by decide)) (Nat.le_of_ble_eq_true rfl) ?_
  intro p e s m below meth c A ls X hA O hl
  have X : Cx p s m _ meth c cX11_block 4 (some .int) RX11 D (tyF b) A := X
  obtain ⟨⟨hx, hb, hml, hown, hts⟩, hK, hNs, hlocks, hr⟩ := id X
  have hl : lv_has ls 4 [(0, .ref (h 0)), (1, .int a1), (2, .int a2)] := hl
  unfold wp_X11_block at hw
  refine lv_iload_n hx hb dX11_block_0 rfl (lv_at hl 1 rfl) ?_
  refine lv_if_lt (tgt := 19) hx hb dX11_block_1 (by decide) (fun c1 => ?_) (fun c1 => ?_)
  · have hw := hw.1 c1
    refine lv_iconst (v := -1) hx hb dX11_block_19 (by decide) ?_
    exact q_iret X O hw dX11_block_20
  · have hw := hw.2 c1
    refine lv_iload_n hx hb dX11_block_4 rfl (lv_at hl 1 rfl) ?_
    refine lv_aload_n hx hb dX11_block_5 rfl (lv_at hl 0 rfl) ?_
    refine gt_X11_19 X O dX11_block_6 ?_
    refine lv_aload_n hx hb dX11_block_9 rfl (lv_at hl 0 rfl) ?_
    refine gt_X11_10 X O dX11_block_10 ?_
    refine q_civ (rest := [.int a1]) X O hA 12 (c_X7_blocks hw) lk_X11_163 (by decide) rfl rfl rfl rfl rfl rfl ⟨Nat.le_of_ble_eq_true rfl, Nat.le_of_ble_eq_true rfl⟩ (Nat.le_of_ble_eq_true rfl) hl.1 ⟨Nat.zero_le _, Nat.zero_le _⟩ rfl dX11_block_13 (fun r13 u13 H locs hw O => ?_)
    refine lv_icmp_lt (tgt := 21) hx hb dX11_block_16 (by decide) (fun c16 => ?_) (fun c16 => ?_)
    · have hw := hw.1 c16
      refine lv_aload_n hx hb dX11_block_21 rfl (lv_at hl 0 rfl) ?_
      refine gt_X11_19 X O dX11_block_22 ?_
      refine lv_iload_n hx hb dX11_block_25 rfl (lv_at hl 1 rfl) ?_
      refine q_civ (rest := []) X O hA 12 (c_X7_blockBits hw) lk_X11_203 (by decide) rfl rfl rfl rfl rfl rfl ⟨Nat.le_of_ble_eq_true rfl, Nat.le_of_ble_eq_true rfl⟩ (Nat.le_of_ble_eq_true rfl) hl.1 ⟨Nat.zero_le _, Nat.zero_le _⟩ rfl dX11_block_26 (fun r26 u26 H locs hw O => ?_)
      refine lv_istore_n (lv' := [(3, .int r26), (0, .ref (h 0)), (1, .int a1), (2, .int a2)]) hx hb dX11_block_29 rfl hl (by decide) rfl (fun ls hl => ?_)
      refine lv_iload_n hx hb dX11_block_30 rfl (lv_at hl 3 rfl) ?_
      by_cases s31_0 : a2 = 0
      · have hw := hw.1 s31_0
        refine lv_tableIn (off := 25) (tgt := 56) hx hb dX11_block_31 (by rw [s31_0]; decide) (by rw [s31_0]; decide) (by rw [s31_0]; decide) (by decide) ?_
        refine lv_iload_n hx hb dX11_block_56 rfl (lv_at hl 0 rfl) ?_
        exact q_iret X O hw dX11_block_57
      · replace hw := hw.2
        by_cases s31_1 : a2 = 1
        · have hw := hw.1 s31_1
          refine lv_tableIn (off := 27) (tgt := 58) hx hb dX11_block_31 (by rw [s31_1]; decide) (by rw [s31_1]; decide) (by rw [s31_1]; decide) (by decide) ?_
          refine lv_aload_n hx hb dX11_block_58 rfl (lv_at hl 1 rfl) ?_
          refine gt_X11_10 X O dX11_block_59 ?_
          refine lv_iload_n hx hb dX11_block_62 rfl (lv_at hl 0 rfl) ?_
          refine q_civ (rest := []) X O hA 1 (c_X10_weightOf hw) lk_X11_206 (by decide) rfl rfl rfl rfl rfl rfl ⟨Nat.le_of_ble_eq_true rfl, Nat.le_of_ble_eq_true rfl⟩ (Nat.le_of_ble_eq_true rfl) hl.1 ⟨Nat.zero_le _, Nat.zero_le _⟩ rfl dX11_block_63 (fun r63 u63 H locs hw O => ?_)
          exact q_iret X O hw dX11_block_66
        · replace hw := hw.2
          by_cases s31_2 : a2 = 2
          · have hw := hw.1 s31_2
            refine lv_tableIn (off := 36) (tgt := 67) hx hb dX11_block_31 (by rw [s31_2]; decide) (by rw [s31_2]; decide) (by rw [s31_2]; decide) (by decide) ?_
            refine lv_aload_n hx hb dX11_block_67 rfl (lv_at hl 1 rfl) ?_
            refine gt_X11_10 X O dX11_block_68 ?_
            refine lv_iload_n hx hb dX11_block_71 rfl (lv_at hl 0 rfl) ?_
            refine q_civ (rest := []) X O hA 1 (c_X10_lengthOf hw) lk_X11_209 (by decide) rfl rfl rfl rfl rfl rfl ⟨Nat.le_of_ble_eq_true rfl, Nat.le_of_ble_eq_true rfl⟩ (Nat.le_of_ble_eq_true rfl) hl.1 ⟨Nat.zero_le _, Nat.zero_le _⟩ rfl dX11_block_72 (fun r72 u72 H locs hw O => ?_)
            exact q_iret X O hw dX11_block_75
          · replace hw := hw.2
            have hw := hw s31_0 s31_1 s31_2
            refine lv_tableOut (tgt := 76) hx hb dX11_block_31 (by have e0 := ts_ne (k := 0) (by decide) s31_0; have e1 := ts_ne (k := 1) (by decide) s31_1; have e2 := ts_ne (k := 2) (by decide) s31_2; omega) (by decide) ?_
            refine lv_iconst (v := -1) hx hb dX11_block_76 (by decide) ?_
            exact q_iret X O hw dX11_block_77
    · have hw := hw.2 c16
      refine lv_iconst (v := -1) hx hb dX11_block_19 (by decide) ?_
      exact q_iret X O hw dX11_block_20
-- FellersOrder$Yard.costNext(II)I
abbrev rm_X10_costNext : Room := { frames := 0, cells := 0, slots := 0, locals := 0 }
def wp_X10_costNext (a1 : Int32) (a2 : Int32) (u : St) (Post : Int32 → St → Prop) : Prop := vp_in a2 12 ∧ (vp_in a2 12 ∧ (Post ((u 4 (Int32.toNatClampNeg a2)) * (a1 + (u 3 (Int32.toNatClampNeg a2)))) u))
set_option maxHeartbeats 4000000 in
set_option maxRecDepth 100000 in
theorem c_X10_costNext {a1 : Int32} {a2 : Int32} {l : Launch} {D : va_G} {b : Nat → ClassId} {h : Nat → Nat} {u : St} {Post : Int32 → St → Prop} (hw : wp_X10_costNext a1 a2 u Post) : CtI l yX10_costNext cX10_costNext 3 (some .int) rm_X10_costNext D (tyF b) 46 (gF b h) h [.ref (h 1), .int a1, .int a2] u Post := by
  refine CtI.of (plainFor_of_name (by decide)) (Nat.le_of_ble_eq_true rfl) ?_
  intro p e s m below meth c A ls X hA O hl
  have X : Cx p s m _ meth c cX10_costNext 3 (some .int) RX10 D (tyF b) A := X
  obtain ⟨⟨hx, hb, hml, hown, hts⟩, hK, hNs, hlocks, hr⟩ := id X
  have hl : lv_has ls 3 [(0, .ref (h 1)), (1, .int a1), (2, .int a2)] := hl
  unfold wp_X10_costNext at hw
  refine lv_aload_n hx hb dX10_costNext_0 rfl (lv_at hl 0 rfl) ?_
  refine gt_X10_13 X O dX10_costNext_1 ?_
  refine lv_iconst (v := 1) hx hb dX10_costNext_4 (by decide) ?_
  refine q_alA X O 2 1 (by decide) rfl rfl (by unfold vp_in; decide) (me_f 1 4 (by decide) (by decide) rfl) dX10_costNext_5 ?_
  refine lv_iload_n hx hb dX10_costNext_6 rfl (lv_at hl 2 rfl) ?_
  obtain ⟨i7, hw⟩ := hw
  refine q_ild X O 4 0 (by decide) rfl rfl i7 dX10_costNext_7 ?_
  refine lv_iload_n hx hb dX10_costNext_8 rfl (lv_at hl 1 rfl) ?_
  refine lv_aload_n hx hb dX10_costNext_9 rfl (lv_at hl 0 rfl) ?_
  refine gt_X10_13 X O dX10_costNext_10 ?_
  refine lv_iconst (v := 0) hx hb dX10_costNext_13 (by decide) ?_
  refine q_alA X O 2 1 (by decide) rfl rfl (by unfold vp_in; decide) (me_f 0 3 (by decide) (by decide) rfl) dX10_costNext_14 ?_
  refine lv_iload_n hx hb dX10_costNext_15 rfl (lv_at hl 2 rfl) ?_
  obtain ⟨i16, hw⟩ := hw
  refine q_ild X O 3 0 (by decide) rfl rfl i16 dX10_costNext_16 ?_
  refine lv_iadd hx hb dX10_costNext_17 ?_
  refine lv_imul hx hb dX10_costNext_18 ?_
  exact q_iret X O hw dX10_costNext_19
-- FellersOrder$Yard.mayComeNext(II)Z
abbrev rm_X10_mayComeNext : Room := { frames := 0, cells := 0, slots := 0, locals := 0 }
def wp_X10_mayComeNext (a1 : Int32) (a2 : Int32) (u : St) (Post : Int32 → St → Prop) : Prop := ((¬ ((a1 >>> (a2 &&& 31)) &&& (1 : Int32)) = 0) → (Post (0 : Int32) u)) ∧ ((((a1 >>> (a2 &&& 31)) &&& (1 : Int32)) = 0) → (vp_in a2 12 ∧ (((¬ ((u 7 (Int32.toNatClampNeg a2)) &&& (a1 ^^^ (-1 : Int32))) = 0) → (Post (0 : Int32) u)) ∧ ((((u 7 (Int32.toNatClampNeg a2)) &&& (a1 ^^^ (-1 : Int32))) = 0) → (Post (1 : Int32) u)))))
set_option maxHeartbeats 4000000 in
set_option maxRecDepth 100000 in
theorem c_X10_mayComeNext {a1 : Int32} {a2 : Int32} {l : Launch} {D : va_G} {b : Nat → ClassId} {h : Nat → Nat} {u : St} {Post : Int32 → St → Prop} (hw : wp_X10_mayComeNext a1 a2 u Post) : CtI l yX10_mayComeNext cX10_mayComeNext 3 (some .boolean) rm_X10_mayComeNext D (tyF b) 46 (gF b h) h [.ref (h 1), .int a1, .int a2] u Post := by
  refine CtI.of (plainFor_of_name (by decide)) (Nat.le_of_ble_eq_true rfl) ?_
  intro p e s m below meth c A ls X hA O hl
  have X : Cx p s m _ meth c cX10_mayComeNext 3 (some .boolean) RX10 D (tyF b) A := X
  obtain ⟨⟨hx, hb, hml, hown, hts⟩, hK, hNs, hlocks, hr⟩ := id X
  have hl : lv_has ls 3 [(0, .ref (h 1)), (1, .int a1), (2, .int a2)] := hl
  unfold wp_X10_mayComeNext at hw
  refine lv_iload_n hx hb dX10_mayComeNext_0 rfl (lv_at hl 1 rfl) ?_
  refine lv_iload_n hx hb dX10_mayComeNext_1 rfl (lv_at hl 2 rfl) ?_
  refine lv_ishr hx hb dX10_mayComeNext_2 ?_
  refine lv_iconst (v := 1) hx hb dX10_mayComeNext_3 (by decide) ?_
  refine lv_iand hx hb dX10_mayComeNext_4 ?_
  refine lv_if_ne (tgt := 25) hx hb dX10_mayComeNext_5 (by decide) (fun c5 => ?_) (fun c5 => ?_)
  · have hw := hw.1 c5
    refine lv_iconst (v := 0) hx hb dX10_mayComeNext_25 (by decide) ?_
    exact q_zret X O rfl hw dX10_mayComeNext_26
  · have hw := hw.2 c5
    refine lv_aload_n hx hb dX10_mayComeNext_8 rfl (lv_at hl 0 rfl) ?_
    refine gt_X10_20 X O dX10_mayComeNext_9 ?_
    refine lv_iload_n hx hb dX10_mayComeNext_12 rfl (lv_at hl 2 rfl) ?_
    obtain ⟨i13, hw⟩ := hw
    refine q_ild X O 7 0 (by decide) rfl rfl i13 dX10_mayComeNext_13 ?_
    refine lv_iload_n hx hb dX10_mayComeNext_14 rfl (lv_at hl 1 rfl) ?_
    refine lv_iconst (v := -1) hx hb dX10_mayComeNext_15 (by decide) ?_
    refine lv_ixor hx hb dX10_mayComeNext_16 ?_
    refine lv_iand hx hb dX10_mayComeNext_17 ?_
    refine lv_if_ne (tgt := 25) hx hb dX10_mayComeNext_18 (by decide) (fun c18 => ?_) (fun c18 => ?_)
    · have hw := hw.1 c18
      refine lv_iconst (v := 0) hx hb dX10_mayComeNext_25 (by decide) ?_
      exact q_zret X O rfl hw dX10_mayComeNext_26
    · have hw := hw.2 c18
      refine lv_iconst (v := 1) hx hb dX10_mayComeNext_21 (by decide) ?_
      refine lv_goto (tgt := 26) hx hb dX10_mayComeNext_22 (by decide) ?_
      exact q_zret X O rfl hw dX10_mayComeNext_26
-- FellersOrder$Plan.goOnFrom(LFellersOrder$Yard;I)V
abbrev rm_X7_goOnFrom : Room := { frames := 1, cells := 0, slots := 0, locals := 22 }
def wb_X7_goOnFrom_22 (Post : Int32 → St → Prop) (K22 : Int32 → Int32 → Int32 → Int32 → Int32 → Int32 → St → Prop) (x2 : Int32) (x3 : Int32) (x4 : Int32) (x5 : Int32) (x6 : Int32) (x7 : Int32) (u : St) : Prop := ((x3 ≤ x7) → (vp_in x2 4096 ∧ (vp_in x2 4096 ∧ (Post 0 (su (su u 14 (Int32.toNatClampNeg x2) x5) 15 (Int32.toNatClampNeg x2) x6))))) ∧ ((¬ x3 ≤ x7) → (wp_X10_mayComeNext x2 x7 u (fun r32 u32 => ((r32 = 0) → (K22 x2 x3 x4 x5 x6 (x7 + 1) u32)) ∧ ((¬ r32 = 0) → (wp_X10_costNext x4 x7 u32 (fun r51 u51 => vp_in (x2 ||| ((1 : Int32) <<< (x7 &&& 31))) 4096 ∧ (((x5 ≤ (r51 + (u51 14 (Int32.toNatClampNeg (x2 ||| ((1 : Int32) <<< (x7 &&& 31))))))) → (((¬ (r51 + (u51 14 (Int32.toNatClampNeg (x2 ||| ((1 : Int32) <<< (x7 &&& 31)))))) = x5) → (K22 x2 x3 x4 x5 x6 (x7 + 1) u51)) ∧ (((r51 + (u51 14 (Int32.toNatClampNeg (x2 ||| ((1 : Int32) <<< (x7 &&& 31)))))) = x5) → (vp_in (x2 ||| ((1 : Int32) <<< (x7 &&& 31))) 4096 ∧ (K22 x2 x3 x4 x5 (x6 + (u51 15 (Int32.toNatClampNeg (x2 ||| ((1 : Int32) <<< (x7 &&& 31)))))) (x7 + 1) u51))))) ∧ ((¬ x5 ≤ (r51 + (u51 14 (Int32.toNatClampNeg (x2 ||| ((1 : Int32) <<< (x7 &&& 31))))))) → (vp_in (x2 ||| ((1 : Int32) <<< (x7 &&& 31))) 4096 ∧ (K22 x2 x3 x4 (r51 + (u51 14 (Int32.toNatClampNeg (x2 ||| ((1 : Int32) <<< (x7 &&& 31)))))) (u51 15 (Int32.toNatClampNeg (x2 ||| ((1 : Int32) <<< (x7 &&& 31))))) (x7 + 1) u51))))))))))
set_option maxHeartbeats 4000000 in
set_option maxRecDepth 100000 in
theorem tb_X7_goOnFrom_22 (X : Cx p s m args meth c cX7_goOnFrom 10 none RX7 D (tyF b) A) (hA : ∀ q, s.heap.size ≤ q → A q) {Post : Int32 → St → Prop} {K22 : Int32 → Int32 → Int32 → Int32 → Int32 → Int32 → St → Prop} (k22 : ∀ (x2 : Int32) (x3 : Int32) (x4 : Int32) (x5 : Int32) (x6 : Int32) (x7 : Int32) (u : St) (H : Heap) (locs : List Loc) (ls : Array Slot), K22 x2 x3 x4 x5 x6 x7 u → wO D 46 (gF b h) h u A s.heap H locs → lv_has ls 10 [(0, .ref (h 12)), (1, .ref (h 1)), (2, .int x2), (3, .int x3), (4, .int x4), (5, .int x5), (6, .int x6), (7, .int x7)] → W p l e rm_X7_goOnFrom s m args below meth c H locs 0 0 (MQ below (va_Qv (Post 0) (cB D (tyF b) 46 (gF b h) h A) A) args s 0 0 A) (F0 m 22 ls [])) : ∀ (x2 : Int32) (x3 : Int32) (x4 : Int32) (x5 : Int32) (x6 : Int32) (x7 : Int32) (u : St) (H : Heap) (locs : List Loc) (ls : Array Slot), wb_X7_goOnFrom_22 Post K22 x2 x3 x4 x5 x6 x7 u → wO D 46 (gF b h) h u A s.heap H locs → lv_has ls 10 [(0, .ref (h 12)), (1, .ref (h 1)), (2, .int x2), (3, .int x3), (4, .int x4), (5, .int x5), (6, .int x6), (7, .int x7)] → W p l e rm_X7_goOnFrom s m args below meth c H locs 0 0 (MQ below (va_Qv (Post 0) (cB D (tyF b) 46 (gF b h) h A) A) args s 0 0 A) (F0 m 22 ls []) := by
  obtain ⟨⟨hx, hb, hml, hown, hts⟩, hK, hNs, hlocks, hr⟩ := id X
  intro x2 x3 x4 x5 x6 x7 u H locs ls hw O hl
  unfold wb_X7_goOnFrom_22 at hw
  refine lv_iload hx hb dX7_goOnFrom_22 (lv_at hl 7 rfl) ?_
  refine lv_iload_n hx hb dX7_goOnFrom_24 rfl (lv_at hl 3 rfl) ?_
  refine lv_icmp_ge (tgt := 112) hx hb dX7_goOnFrom_25 (by decide) (fun c25 => ?_) (fun c25 => ?_)
  · have hw := hw.1 c25
    refine lv_aload_n hx hb dX7_goOnFrom_112 rfl (lv_at hl 0 rfl) ?_
    refine gt_X7_19 X O dX7_goOnFrom_113 ?_
    refine lv_iload_n hx hb dX7_goOnFrom_116 rfl (lv_at hl 2 rfl) ?_
    refine lv_iload hx hb dX7_goOnFrom_117 (lv_at hl 5 rfl) ?_
    obtain ⟨i119, hw⟩ := hw
    refine q_ist X O 14 0 (by decide) (fun _ => rfl) rfl i119 dX7_goOnFrom_119 (fun H locs O => ?_)
    refine lv_aload_n hx hb dX7_goOnFrom_120 rfl (lv_at hl 0 rfl) ?_
    refine gt_X7_22 X O dX7_goOnFrom_121 ?_
    refine lv_iload_n hx hb dX7_goOnFrom_124 rfl (lv_at hl 2 rfl) ?_
    refine lv_iload hx hb dX7_goOnFrom_125 (lv_at hl 6 rfl) ?_
    obtain ⟨i127, hw⟩ := hw
    refine q_ist X O 15 0 (by decide) (fun _ => rfl) rfl i127 dX7_goOnFrom_127 (fun H locs O => ?_)
    exact q_vret X O hw dX7_goOnFrom_128
  · have hw := hw.2 c25
    refine lv_aload_n hx hb dX7_goOnFrom_28 rfl (lv_at hl 1 rfl) ?_
    refine lv_iload_n hx hb dX7_goOnFrom_29 rfl (lv_at hl 2 rfl) ?_
    refine lv_iload hx hb dX7_goOnFrom_30 (lv_at hl 7 rfl) ?_
    refine q_civ (rest := []) X O hA 1 (c_X10_mayComeNext hw) lk_X7_91 (by decide) rfl rfl rfl rfl rfl rfl ⟨Nat.le_of_ble_eq_true rfl, Nat.le_of_ble_eq_true rfl⟩ (Nat.le_of_ble_eq_true rfl) hl.1 ⟨Nat.zero_le _, Nat.zero_le _⟩ rfl dX7_goOnFrom_32 (fun r32 u32 H locs hw O => ?_)
    refine lv_if_eq (tgt := 106) hx hb dX7_goOnFrom_35 (by decide) (fun c35 => ?_) (fun c35 => ?_)
    · have hw := hw.1 c35
      refine lv_iinc (v := x7 + 1) (lv' := [(7, .int (x7 + 1)), (0, .ref (h 12)), (1, .ref (h 1)), (2, .int x2), (3, .int x3), (4, .int x4), (5, .int x5), (6, .int x6)]) hx hb dX7_goOnFrom_106 hl (k := 7) rfl rfl (by decide) rfl (fun ls hl => ?_)
      refine lv_goto (tgt := 22) hx hb dX7_goOnFrom_109 (by decide) ?_
      exact k22 _ _ _ _ _ _ _ _ _ _ hw O (lv_sub hl [1, 2, 3, 4, 5, 6, 7, 0] rfl)
    · have hw := hw.2 c35
      refine lv_iload_n hx hb dX7_goOnFrom_38 rfl (lv_at hl 2 rfl) ?_
      refine lv_iconst (v := 1) hx hb dX7_goOnFrom_39 (by decide) ?_
      refine lv_iload hx hb dX7_goOnFrom_40 (lv_at hl 7 rfl) ?_
      refine lv_ishl hx hb dX7_goOnFrom_42 ?_
      refine lv_ior hx hb dX7_goOnFrom_43 ?_
      refine lv_istore (lv' := [(8, .int (x2 ||| ((1 : Int32) <<< (x7 &&& 31)))), (0, .ref (h 12)), (1, .ref (h 1)), (2, .int x2), (3, .int x3), (4, .int x4), (5, .int x5), (6, .int x6), (7, .int x7)]) hx hb dX7_goOnFrom_44 hl (by decide) rfl (fun ls hl => ?_)
      refine lv_aload_n hx hb dX7_goOnFrom_46 rfl (lv_at hl 2 rfl) ?_
      refine lv_iload hx hb dX7_goOnFrom_47 (lv_at hl 5 rfl) ?_
      refine lv_iload hx hb dX7_goOnFrom_49 (lv_at hl 8 rfl) ?_
      refine q_civ (rest := []) X O hA 1 (c_X10_costNext hw) lk_X7_94 (by decide) rfl rfl rfl rfl rfl rfl ⟨Nat.le_of_ble_eq_true rfl, Nat.le_of_ble_eq_true rfl⟩ (Nat.le_of_ble_eq_true rfl) hl.1 ⟨Nat.zero_le _, Nat.zero_le _⟩ rfl dX7_goOnFrom_51 (fun r51 u51 H locs hw O => ?_)
      refine lv_aload_n hx hb dX7_goOnFrom_54 rfl (lv_at hl 1 rfl) ?_
      refine gt_X7_19 X O dX7_goOnFrom_55 ?_
      refine lv_iload hx hb dX7_goOnFrom_58 (lv_at hl 0 rfl) ?_
      obtain ⟨i60, hw⟩ := hw
      refine q_ild X O 14 0 (by decide) rfl rfl i60 dX7_goOnFrom_60 ?_
      refine lv_iadd hx hb dX7_goOnFrom_61 ?_
      refine lv_istore (lv' := [(9, .int (r51 + (u51 14 (Int32.toNatClampNeg (x2 ||| ((1 : Int32) <<< (x7 &&& 31))))))), (8, .int (x2 ||| ((1 : Int32) <<< (x7 &&& 31)))), (0, .ref (h 12)), (1, .ref (h 1)), (2, .int x2), (3, .int x3), (4, .int x4), (5, .int x5), (6, .int x6), (7, .int x7)]) hx hb dX7_goOnFrom_62 hl (by decide) rfl (fun ls hl => ?_)
      refine lv_iload hx hb dX7_goOnFrom_64 (lv_at hl 0 rfl) ?_
      refine lv_iload hx hb dX7_goOnFrom_66 (lv_at hl 7 rfl) ?_
      refine lv_icmp_ge (tgt := 87) hx hb dX7_goOnFrom_68 (by decide) (fun c68 => ?_) (fun c68 => ?_)
      · have hw := hw.1 c68
        refine lv_iload hx hb dX7_goOnFrom_87 (lv_at hl 0 rfl) ?_
        refine lv_iload hx hb dX7_goOnFrom_89 (lv_at hl 7 rfl) ?_
        refine lv_icmp_ne (tgt := 106) hx hb dX7_goOnFrom_91 (by decide) (fun c91 => ?_) (fun c91 => ?_)
        · have hw := hw.1 c91
          refine lv_iinc (v := x7 + 1) (lv' := [(7, .int (x7 + 1)), (9, .int (r51 + (u51 14 (Int32.toNatClampNeg (x2 ||| ((1 : Int32) <<< (x7 &&& 31))))))), (8, .int (x2 ||| ((1 : Int32) <<< (x7 &&& 31)))), (0, .ref (h 12)), (1, .ref (h 1)), (2, .int x2), (3, .int x3), (4, .int x4), (5, .int x5), (6, .int x6)]) hx hb dX7_goOnFrom_106 hl (k := 9) rfl rfl (by decide) rfl (fun ls hl => ?_)
          refine lv_goto (tgt := 22) hx hb dX7_goOnFrom_109 (by decide) ?_
          exact k22 _ _ _ _ _ _ _ _ _ _ hw O (lv_sub hl [3, 4, 5, 6, 7, 8, 9, 0] rfl)
        · have hw := hw.2 c91
          refine lv_iload hx hb dX7_goOnFrom_94 (lv_at hl 8 rfl) ?_
          refine lv_aload_n hx hb dX7_goOnFrom_96 rfl (lv_at hl 2 rfl) ?_
          refine gt_X7_22 X O dX7_goOnFrom_97 ?_
          refine lv_iload hx hb dX7_goOnFrom_100 (lv_at hl 1 rfl) ?_
          obtain ⟨i102, hw⟩ := hw
          refine q_ild X O 15 0 (by decide) rfl rfl i102 dX7_goOnFrom_102 ?_
          refine lv_iadd hx hb dX7_goOnFrom_103 ?_
          refine lv_istore (lv' := [(6, .int (x6 + (u51 15 (Int32.toNatClampNeg (x2 ||| ((1 : Int32) <<< (x7 &&& 31))))))), (9, .int (r51 + (u51 14 (Int32.toNatClampNeg (x2 ||| ((1 : Int32) <<< (x7 &&& 31))))))), (8, .int (x2 ||| ((1 : Int32) <<< (x7 &&& 31)))), (0, .ref (h 12)), (1, .ref (h 1)), (2, .int x2), (3, .int x3), (4, .int x4), (5, .int x5), (7, .int x7)]) hx hb dX7_goOnFrom_104 hl (by decide) rfl (fun ls hl => ?_)
          refine lv_iinc (v := x7 + 1) (lv' := [(7, .int (x7 + 1)), (6, .int (x6 + (u51 15 (Int32.toNatClampNeg (x2 ||| ((1 : Int32) <<< (x7 &&& 31))))))), (9, .int (r51 + (u51 14 (Int32.toNatClampNeg (x2 ||| ((1 : Int32) <<< (x7 &&& 31))))))), (8, .int (x2 ||| ((1 : Int32) <<< (x7 &&& 31)))), (0, .ref (h 12)), (1, .ref (h 1)), (2, .int x2), (3, .int x3), (4, .int x4), (5, .int x5)]) hx hb dX7_goOnFrom_106 hl (k := 9) rfl rfl (by decide) rfl (fun ls hl => ?_)
          refine lv_goto (tgt := 22) hx hb dX7_goOnFrom_109 (by decide) ?_
          exact k22 _ _ _ _ _ _ _ _ _ _ hw O (lv_sub hl [4, 5, 6, 7, 8, 9, 1, 0] rfl)
      · have hw := hw.2 c68
        refine lv_iload hx hb dX7_goOnFrom_71 (lv_at hl 0 rfl) ?_
        refine lv_istore (lv' := [(5, .int (r51 + (u51 14 (Int32.toNatClampNeg (x2 ||| ((1 : Int32) <<< (x7 &&& 31))))))), (9, .int (r51 + (u51 14 (Int32.toNatClampNeg (x2 ||| ((1 : Int32) <<< (x7 &&& 31))))))), (8, .int (x2 ||| ((1 : Int32) <<< (x7 &&& 31)))), (0, .ref (h 12)), (1, .ref (h 1)), (2, .int x2), (3, .int x3), (4, .int x4), (6, .int x6), (7, .int x7)]) hx hb dX7_goOnFrom_73 hl (by decide) rfl (fun ls hl => ?_)
        refine lv_aload_n hx hb dX7_goOnFrom_75 rfl (lv_at hl 3 rfl) ?_
        refine gt_X7_22 X O dX7_goOnFrom_76 ?_
        refine lv_iload hx hb dX7_goOnFrom_79 (lv_at hl 2 rfl) ?_
        obtain ⟨i81, hw⟩ := hw
        refine q_ild X O 15 0 (by decide) rfl rfl i81 dX7_goOnFrom_81 ?_
        refine lv_istore (lv' := [(6, .int (u51 15 (Int32.toNatClampNeg (x2 ||| ((1 : Int32) <<< (x7 &&& 31)))))), (5, .int (r51 + (u51 14 (Int32.toNatClampNeg (x2 ||| ((1 : Int32) <<< (x7 &&& 31))))))), (9, .int (r51 + (u51 14 (Int32.toNatClampNeg (x2 ||| ((1 : Int32) <<< (x7 &&& 31))))))), (8, .int (x2 ||| ((1 : Int32) <<< (x7 &&& 31)))), (0, .ref (h 12)), (1, .ref (h 1)), (2, .int x2), (3, .int x3), (4, .int x4), (7, .int x7)]) hx hb dX7_goOnFrom_82 hl (by decide) rfl (fun ls hl => ?_)
        refine lv_goto (tgt := 106) hx hb dX7_goOnFrom_84 (by decide) ?_
        refine lv_iinc (v := x7 + 1) (lv' := [(7, .int (x7 + 1)), (6, .int (u51 15 (Int32.toNatClampNeg (x2 ||| ((1 : Int32) <<< (x7 &&& 31)))))), (5, .int (r51 + (u51 14 (Int32.toNatClampNeg (x2 ||| ((1 : Int32) <<< (x7 &&& 31))))))), (9, .int (r51 + (u51 14 (Int32.toNatClampNeg (x2 ||| ((1 : Int32) <<< (x7 &&& 31))))))), (8, .int (x2 ||| ((1 : Int32) <<< (x7 &&& 31)))), (0, .ref (h 12)), (1, .ref (h 1)), (2, .int x2), (3, .int x3), (4, .int x4)]) hx hb dX7_goOnFrom_106 hl (k := 9) rfl rfl (by decide) rfl (fun ls hl => ?_)
        refine lv_goto (tgt := 22) hx hb dX7_goOnFrom_109 (by decide) ?_
        exact k22 _ _ _ _ _ _ _ _ _ _ hw O (lv_sub hl [5, 6, 7, 8, 9, 2, 1, 0] rfl)
def wl_X7_goOnFrom_22 (Post : Int32 → St → Prop) : Nat → Int32 → Int32 → Int32 → Int32 → Int32 → Int32 → St → Prop
  | 0 => fun _ _ _ _ _ _ _ => False
  | n + 1 => fun x2 x3 x4 x5 x6 x7 u => wb_X7_goOnFrom_22 Post (wl_X7_goOnFrom_22 Post n) x2 x3 x4 x5 x6 x7 u
set_option maxHeartbeats 4000000 in
set_option maxRecDepth 100000 in
theorem tl_X7_goOnFrom_22 (X : Cx p s m args meth c cX7_goOnFrom 10 none RX7 D (tyF b) A) (hA : ∀ q, s.heap.size ≤ q → A q) {Post : Int32 → St → Prop} : ∀ n : Nat, ∀ (x2 : Int32) (x3 : Int32) (x4 : Int32) (x5 : Int32) (x6 : Int32) (x7 : Int32) (u : St) (H : Heap) (locs : List Loc) (ls : Array Slot), (wl_X7_goOnFrom_22 Post n) x2 x3 x4 x5 x6 x7 u → wO D 46 (gF b h) h u A s.heap H locs → lv_has ls 10 [(0, .ref (h 12)), (1, .ref (h 1)), (2, .int x2), (3, .int x3), (4, .int x4), (5, .int x5), (6, .int x6), (7, .int x7)] → W p l e rm_X7_goOnFrom s m args below meth c H locs 0 0 (MQ below (va_Qv (Post 0) (cB D (tyF b) 46 (gF b h) h A) A) args s 0 0 A) (F0 m 22 ls []) := by
  intro n
  induction n with
  | zero => intro x2 x3 x4 x5 x6 x7 u H locs ls hw; exact False.elim hw
  | succ n ih => intro x2 x3 x4 x5 x6 x7 u H locs ls hw O hl; exact tb_X7_goOnFrom_22 X hA ih x2 x3 x4 x5 x6 x7 u H locs ls hw O hl
def wp_X7_goOnFrom (a2 : Int32) (u : St) (Post : Int32 → St → Prop) : Prop := wp_X10_jobs u (fun r1 u1 => wp_X10_lengthOf a2 u1 (fun r7 u7 => ∃ n : Nat, wl_X7_goOnFrom_22 Post n a2 r1 r7 (1000000000 : Int32) (0 : Int32) (0 : Int32) u7))
set_option maxHeartbeats 4000000 in
set_option maxRecDepth 100000 in
theorem c_X7_goOnFrom {a2 : Int32} {l : Launch} {D : va_G} {b : Nat → ClassId} {h : Nat → Nat} {u : St} {Post : Int32 → St → Prop} (hw : wp_X7_goOnFrom a2 u Post) : CtV l yX7_goOnFrom cX7_goOnFrom 10 none rm_X7_goOnFrom D (tyF b) 46 (gF b h) h [.ref (h 12), .ref (h 1), .int a2] u Post := by
  refine CtV.of (plainFor_of_name (by decide)) (Nat.le_of_ble_eq_true rfl) ?_
  intro p e s m below meth c A ls X hA O hl
  have X : Cx p s m _ meth c cX7_goOnFrom 10 none RX7 D (tyF b) A := X
  obtain ⟨⟨hx, hb, hml, hown, hts⟩, hK, hNs, hlocks, hr⟩ := id X
  have hl : lv_has ls 10 [(0, .ref (h 12)), (1, .ref (h 1)), (2, .int a2)] := hl
  unfold wp_X7_goOnFrom at hw
  refine lv_aload_n hx hb dX7_goOnFrom_0 rfl (lv_at hl 1 rfl) ?_
  refine q_civ (rest := []) X O hA 1 (c_X10_jobs hw) lk_X7_88 (by decide) rfl rfl rfl rfl rfl rfl ⟨Nat.le_of_ble_eq_true rfl, Nat.le_of_ble_eq_true rfl⟩ (Nat.le_of_ble_eq_true rfl) hl.1 ⟨Nat.zero_le _, Nat.zero_le _⟩ rfl dX7_goOnFrom_1 (fun r1 u1 H locs hw O => ?_)
  refine lv_istore_n (lv' := [(3, .int r1), (0, .ref (h 12)), (1, .ref (h 1)), (2, .int a2)]) hx hb dX7_goOnFrom_4 rfl hl (by decide) rfl (fun ls hl => ?_)
  refine lv_aload_n hx hb dX7_goOnFrom_5 rfl (lv_at hl 2 rfl) ?_
  refine lv_iload_n hx hb dX7_goOnFrom_6 rfl (lv_at hl 3 rfl) ?_
  refine q_civ (rest := []) X O hA 1 (c_X10_lengthOf hw) lk_X7_70 (by decide) rfl rfl rfl rfl rfl rfl ⟨Nat.le_of_ble_eq_true rfl, Nat.le_of_ble_eq_true rfl⟩ (Nat.le_of_ble_eq_true rfl) hl.1 ⟨Nat.zero_le _, Nat.zero_le _⟩ rfl dX7_goOnFrom_7 (fun r7 u7 H locs hw O => ?_)
  refine lv_istore (lv' := [(4, .int r7), (3, .int r1), (0, .ref (h 12)), (1, .ref (h 1)), (2, .int a2)]) hx hb dX7_goOnFrom_10 hl (by decide) rfl (fun ls hl => ?_)
  refine lv_ldc (v := 1000000000) hx hb hown (hts _ wd_25_16) dX7_goOnFrom_12 ?_
  refine lv_istore (lv' := [(5, .int (1000000000 : Int32)), (4, .int r7), (3, .int r1), (0, .ref (h 12)), (1, .ref (h 1)), (2, .int a2)]) hx hb dX7_goOnFrom_14 hl (by decide) rfl (fun ls hl => ?_)
  refine lv_iconst (v := 0) hx hb dX7_goOnFrom_16 (by decide) ?_
  refine lv_istore (lv' := [(6, .int (0 : Int32)), (5, .int (1000000000 : Int32)), (4, .int r7), (3, .int r1), (0, .ref (h 12)), (1, .ref (h 1)), (2, .int a2)]) hx hb dX7_goOnFrom_17 hl (by decide) rfl (fun ls hl => ?_)
  refine lv_iconst (v := 0) hx hb dX7_goOnFrom_19 (by decide) ?_
  refine lv_istore (lv' := [(7, .int (0 : Int32)), (6, .int (0 : Int32)), (5, .int (1000000000 : Int32)), (4, .int r7), (3, .int r1), (0, .ref (h 12)), (1, .ref (h 1)), (2, .int a2)]) hx hb dX7_goOnFrom_20 hl (by decide) rfl (fun ls hl => ?_)
  obtain ⟨n, hw⟩ := hw
  exact tl_X7_goOnFrom_22 X hA n _ _ _ _ _ _ _ _ _ _ hw O (lv_sub hl [5, 6, 7, 4, 3, 2, 1, 0] rfl)
-- FellersOrder$Plan.isBestNext(LFellersOrder$Yard;II)Z
abbrev rm_X7_isBestNext : Room := { frames := 1, cells := 0, slots := 0, locals := 22 }
def wp_X7_isBestNext (a2 : Int32) (a3 : Int32) (u : St) (Post : Int32 → St → Prop) : Prop := wp_X10_mayComeNext a2 a3 u (fun r3 u3 => ((r3 = 0) → (Post (0 : Int32) u3)) ∧ ((¬ r3 = 0) → (wp_X10_lengthOf a2 u3 (fun r12 u12 => wp_X10_costNext r12 a3 u12 (fun r16 u16 => vp_in (a2 ||| ((1 : Int32) <<< (a3 &&& 31))) 4096 ∧ (vp_in a2 4096 ∧ (((¬ (r16 + (u16 14 (Int32.toNatClampNeg (a2 ||| ((1 : Int32) <<< (a3 &&& 31)))))) = (u16 14 (Int32.toNatClampNeg a2))) → (Post (0 : Int32) u16)) ∧ (((r16 + (u16 14 (Int32.toNatClampNeg (a2 ||| ((1 : Int32) <<< (a3 &&& 31)))))) = (u16 14 (Int32.toNatClampNeg a2))) → (Post (1 : Int32) u16)))))))))
set_option maxHeartbeats 4000000 in
set_option maxRecDepth 100000 in
theorem c_X7_isBestNext {a2 : Int32} {a3 : Int32} {l : Launch} {D : va_G} {b : Nat → ClassId} {h : Nat → Nat} {u : St} {Post : Int32 → St → Prop} (hw : wp_X7_isBestNext a2 a3 u Post) : CtI l yX7_isBestNext cX7_isBestNext 4 (some .boolean) rm_X7_isBestNext D (tyF b) 46 (gF b h) h [.ref (h 12), .ref (h 1), .int a2, .int a3] u Post := by
  refine CtI.of (plainFor_of_name (by decide)) (Nat.le_of_ble_eq_true rfl) ?_
  intro p e s m below meth c A ls X hA O hl
  have X : Cx p s m _ meth c cX7_isBestNext 4 (some .boolean) RX7 D (tyF b) A := X
  obtain ⟨⟨hx, hb, hml, hown, hts⟩, hK, hNs, hlocks, hr⟩ := id X
  have hl : lv_has ls 4 [(0, .ref (h 12)), (1, .ref (h 1)), (2, .int a2), (3, .int a3)] := hl
  unfold wp_X7_isBestNext at hw
  refine lv_aload_n hx hb dX7_isBestNext_0 rfl (lv_at hl 1 rfl) ?_
  refine lv_iload_n hx hb dX7_isBestNext_1 rfl (lv_at hl 2 rfl) ?_
  refine lv_iload_n hx hb dX7_isBestNext_2 rfl (lv_at hl 3 rfl) ?_
  refine q_civ (rest := []) X O hA 1 (c_X10_mayComeNext hw) lk_X7_91 (by decide) rfl rfl rfl rfl rfl rfl ⟨Nat.le_of_ble_eq_true rfl, Nat.le_of_ble_eq_true rfl⟩ (Nat.le_of_ble_eq_true rfl) hl.1 ⟨Nat.zero_le _, Nat.zero_le _⟩ rfl dX7_isBestNext_3 (fun r3 u3 H locs hw O => ?_)
  refine lv_if_eq (tgt := 43) hx hb dX7_isBestNext_6 (by decide) (fun c6 => ?_) (fun c6 => ?_)
  · have hw := hw.1 c6
    refine lv_iconst (v := 0) hx hb dX7_isBestNext_43 (by decide) ?_
    exact q_zret X O rfl hw dX7_isBestNext_44
  · have hw := hw.2 c6
    refine lv_aload_n hx hb dX7_isBestNext_9 rfl (lv_at hl 1 rfl) ?_
    refine lv_aload_n hx hb dX7_isBestNext_10 rfl (lv_at hl 1 rfl) ?_
    refine lv_iload_n hx hb dX7_isBestNext_11 rfl (lv_at hl 2 rfl) ?_
    refine q_civ (rest := [.ref (h 1)]) X O hA 1 (c_X10_lengthOf hw) lk_X7_70 (by decide) rfl rfl rfl rfl rfl rfl ⟨Nat.le_of_ble_eq_true rfl, Nat.le_of_ble_eq_true rfl⟩ (Nat.le_of_ble_eq_true rfl) hl.1 ⟨Nat.zero_le _, Nat.zero_le _⟩ rfl dX7_isBestNext_12 (fun r12 u12 H locs hw O => ?_)
    refine lv_iload_n hx hb dX7_isBestNext_15 rfl (lv_at hl 3 rfl) ?_
    refine q_civ (rest := []) X O hA 1 (c_X10_costNext hw) lk_X7_94 (by decide) rfl rfl rfl rfl rfl rfl ⟨Nat.le_of_ble_eq_true rfl, Nat.le_of_ble_eq_true rfl⟩ (Nat.le_of_ble_eq_true rfl) hl.1 ⟨Nat.zero_le _, Nat.zero_le _⟩ rfl dX7_isBestNext_16 (fun r16 u16 H locs hw O => ?_)
    refine lv_aload_n hx hb dX7_isBestNext_19 rfl (lv_at hl 0 rfl) ?_
    refine gt_X7_19 X O dX7_isBestNext_20 ?_
    refine lv_iload_n hx hb dX7_isBestNext_23 rfl (lv_at hl 2 rfl) ?_
    refine lv_iconst (v := 1) hx hb dX7_isBestNext_24 (by decide) ?_
    refine lv_iload_n hx hb dX7_isBestNext_25 rfl (lv_at hl 3 rfl) ?_
    refine lv_ishl hx hb dX7_isBestNext_26 ?_
    refine lv_ior hx hb dX7_isBestNext_27 ?_
    obtain ⟨i28, hw⟩ := hw
    refine q_ild X O 14 0 (by decide) rfl rfl i28 dX7_isBestNext_28 ?_
    refine lv_iadd hx hb dX7_isBestNext_29 ?_
    refine lv_aload_n hx hb dX7_isBestNext_30 rfl (lv_at hl 0 rfl) ?_
    refine gt_X7_19 X O dX7_isBestNext_31 ?_
    refine lv_iload_n hx hb dX7_isBestNext_34 rfl (lv_at hl 2 rfl) ?_
    obtain ⟨i35, hw⟩ := hw
    refine q_ild X O 14 0 (by decide) rfl rfl i35 dX7_isBestNext_35 ?_
    refine lv_icmp_ne (tgt := 43) hx hb dX7_isBestNext_36 (by decide) (fun c36 => ?_) (fun c36 => ?_)
    · have hw := hw.1 c36
      refine lv_iconst (v := 0) hx hb dX7_isBestNext_43 (by decide) ?_
      exact q_zret X O rfl hw dX7_isBestNext_44
    · have hw := hw.2 c36
      refine lv_iconst (v := 1) hx hb dX7_isBestNext_39 (by decide) ?_
      refine lv_goto (tgt := 44) hx hb dX7_isBestNext_40 (by decide) ?_
      exact q_zret X O rfl hw dX7_isBestNext_44
-- FellersOrder$Plan.leastBestNext(LFellersOrder$Yard;I)I
abbrev rm_X7_leastBestNext : Room := { frames := 2, cells := 0, slots := 0, locals := 45 }
def wb_X7_leastBestNext_2 (Post : Int32 → St → Prop) (K2 : Int32 → Int32 → St → Prop) (x2 : Int32) (x3 : Int32) (u : St) : Prop := wp_X10_jobs u (fun r4 u4 => (((r4 - (1 : Int32)) ≤ x3) → (wp_X10_jobs u4 (fun r31 u31 => Post (r31 - (1 : Int32)) u31))) ∧ ((¬ (r4 - (1 : Int32)) ≤ x3) → (wp_X7_isBestNext x2 x3 u4 (fun r16 u16 => ((r16 = 0) → (K2 x2 (x3 + 1) u16)) ∧ ((¬ r16 = 0) → (Post x3 u16))))))
set_option maxHeartbeats 4000000 in
set_option maxRecDepth 100000 in
theorem tb_X7_leastBestNext_2 (X : Cx p s m args meth c cX7_leastBestNext 4 (some .int) RX7 D (tyF b) A) (hA : ∀ q, s.heap.size ≤ q → A q) {Post : Int32 → St → Prop} {K2 : Int32 → Int32 → St → Prop} (k2 : ∀ (x2 : Int32) (x3 : Int32) (u : St) (H : Heap) (locs : List Loc) (ls : Array Slot), K2 x2 x3 u → wO D 46 (gF b h) h u A s.heap H locs → lv_has ls 4 [(0, .ref (h 12)), (1, .ref (h 1)), (2, .int x2), (3, .int x3)] → W p l e rm_X7_leastBestNext s m args below meth c H locs 0 0 (MQ below (va_Qi Post (cB D (tyF b) 46 (gF b h) h A) A) args s 0 0 A) (F0 m 2 ls [])) : ∀ (x2 : Int32) (x3 : Int32) (u : St) (H : Heap) (locs : List Loc) (ls : Array Slot), wb_X7_leastBestNext_2 Post K2 x2 x3 u → wO D 46 (gF b h) h u A s.heap H locs → lv_has ls 4 [(0, .ref (h 12)), (1, .ref (h 1)), (2, .int x2), (3, .int x3)] → W p l e rm_X7_leastBestNext s m args below meth c H locs 0 0 (MQ below (va_Qi Post (cB D (tyF b) 46 (gF b h) h A) A) args s 0 0 A) (F0 m 2 ls []) := by
  obtain ⟨⟨hx, hb, hml, hown, hts⟩, hK, hNs, hlocks, hr⟩ := id X
  intro x2 x3 u H locs ls hw O hl
  unfold wb_X7_leastBestNext_2 at hw
  refine lv_iload_n hx hb dX7_leastBestNext_2 rfl (lv_at hl 3 rfl) ?_
  refine lv_aload_n hx hb dX7_leastBestNext_3 rfl (lv_at hl 1 rfl) ?_
  refine q_civ (rest := [.int x3]) X O hA 1 (c_X10_jobs hw) lk_X7_88 (by decide) rfl rfl rfl rfl rfl rfl ⟨Nat.le_of_ble_eq_true rfl, Nat.le_of_ble_eq_true rfl⟩ (Nat.le_of_ble_eq_true rfl) hl.1 ⟨Nat.zero_le _, Nat.zero_le _⟩ rfl dX7_leastBestNext_4 (fun r4 u4 H locs hw O => ?_)
  refine lv_iconst (v := 1) hx hb dX7_leastBestNext_7 (by decide) ?_
  refine lv_isub hx hb dX7_leastBestNext_8 ?_
  refine lv_icmp_ge (tgt := 30) hx hb dX7_leastBestNext_9 (by decide) (fun c9 => ?_) (fun c9 => ?_)
  · have hw := hw.1 c9
    refine lv_aload_n hx hb dX7_leastBestNext_30 rfl (lv_at hl 1 rfl) ?_
    refine q_civ (rest := []) X O hA 1 (c_X10_jobs hw) lk_X7_88 (by decide) rfl rfl rfl rfl rfl rfl ⟨Nat.le_of_ble_eq_true rfl, Nat.le_of_ble_eq_true rfl⟩ (Nat.le_of_ble_eq_true rfl) hl.1 ⟨Nat.zero_le _, Nat.zero_le _⟩ rfl dX7_leastBestNext_31 (fun r31 u31 H locs hw O => ?_)
    refine lv_iconst (v := 1) hx hb dX7_leastBestNext_34 (by decide) ?_
    refine lv_isub hx hb dX7_leastBestNext_35 ?_
    exact q_iret X O hw dX7_leastBestNext_36
  · have hw := hw.2 c9
    refine lv_aload_n hx hb dX7_leastBestNext_12 rfl (lv_at hl 0 rfl) ?_
    refine lv_aload_n hx hb dX7_leastBestNext_13 rfl (lv_at hl 1 rfl) ?_
    refine lv_iload_n hx hb dX7_leastBestNext_14 rfl (lv_at hl 2 rfl) ?_
    refine lv_iload_n hx hb dX7_leastBestNext_15 rfl (lv_at hl 3 rfl) ?_
    refine q_civ (rest := []) X O hA 12 (c_X7_isBestNext hw) lk_X7_101 (by decide) rfl rfl rfl rfl rfl rfl ⟨Nat.le_of_ble_eq_true rfl, Nat.le_of_ble_eq_true rfl⟩ (Nat.le_of_ble_eq_true rfl) hl.1 ⟨Nat.zero_le _, Nat.zero_le _⟩ rfl dX7_leastBestNext_16 (fun r16 u16 H locs hw O => ?_)
    refine lv_if_eq (tgt := 24) hx hb dX7_leastBestNext_19 (by decide) (fun c19 => ?_) (fun c19 => ?_)
    · have hw := hw.1 c19
      refine lv_iinc (v := x3 + 1) (lv' := [(3, .int (x3 + 1)), (0, .ref (h 12)), (1, .ref (h 1)), (2, .int x2)]) hx hb dX7_leastBestNext_24 hl (k := 3) rfl rfl (by decide) rfl (fun ls hl => ?_)
      refine lv_goto (tgt := 2) hx hb dX7_leastBestNext_27 (by decide) ?_
      exact k2 _ _ _ _ _ _ hw O (lv_sub hl [1, 2, 3, 0] rfl)
    · have hw := hw.2 c19
      refine lv_iload_n hx hb dX7_leastBestNext_22 rfl (lv_at hl 3 rfl) ?_
      exact q_iret X O hw dX7_leastBestNext_23
def wl_X7_leastBestNext_2 (Post : Int32 → St → Prop) : Nat → Int32 → Int32 → St → Prop
  | 0 => fun _ _ _ => False
  | n + 1 => fun x2 x3 u => wb_X7_leastBestNext_2 Post (wl_X7_leastBestNext_2 Post n) x2 x3 u
set_option maxHeartbeats 4000000 in
set_option maxRecDepth 100000 in
theorem tl_X7_leastBestNext_2 (X : Cx p s m args meth c cX7_leastBestNext 4 (some .int) RX7 D (tyF b) A) (hA : ∀ q, s.heap.size ≤ q → A q) {Post : Int32 → St → Prop} : ∀ n : Nat, ∀ (x2 : Int32) (x3 : Int32) (u : St) (H : Heap) (locs : List Loc) (ls : Array Slot), (wl_X7_leastBestNext_2 Post n) x2 x3 u → wO D 46 (gF b h) h u A s.heap H locs → lv_has ls 4 [(0, .ref (h 12)), (1, .ref (h 1)), (2, .int x2), (3, .int x3)] → W p l e rm_X7_leastBestNext s m args below meth c H locs 0 0 (MQ below (va_Qi Post (cB D (tyF b) 46 (gF b h) h A) A) args s 0 0 A) (F0 m 2 ls []) := by
  intro n
  induction n with
  | zero => intro x2 x3 u H locs ls hw; exact False.elim hw
  | succ n ih => intro x2 x3 u H locs ls hw O hl; exact tb_X7_leastBestNext_2 X hA ih x2 x3 u H locs ls hw O hl
def wp_X7_leastBestNext (a2 : Int32) (u : St) (Post : Int32 → St → Prop) : Prop := ∃ n : Nat, wl_X7_leastBestNext_2 Post n a2 (0 : Int32) u
set_option maxHeartbeats 4000000 in
set_option maxRecDepth 100000 in
theorem c_X7_leastBestNext {a2 : Int32} {l : Launch} {D : va_G} {b : Nat → ClassId} {h : Nat → Nat} {u : St} {Post : Int32 → St → Prop} (hw : wp_X7_leastBestNext a2 u Post) : CtI l yX7_leastBestNext cX7_leastBestNext 4 (some .int) rm_X7_leastBestNext D (tyF b) 46 (gF b h) h [.ref (h 12), .ref (h 1), .int a2] u Post := by
  refine CtI.of (plainFor_of_name (by decide)) (Nat.le_of_ble_eq_true rfl) ?_
  intro p e s m below meth c A ls X hA O hl
  have X : Cx p s m _ meth c cX7_leastBestNext 4 (some .int) RX7 D (tyF b) A := X
  obtain ⟨⟨hx, hb, hml, hown, hts⟩, hK, hNs, hlocks, hr⟩ := id X
  have hl : lv_has ls 4 [(0, .ref (h 12)), (1, .ref (h 1)), (2, .int a2)] := hl
  unfold wp_X7_leastBestNext at hw
  refine lv_iconst (v := 0) hx hb dX7_leastBestNext_0 (by decide) ?_
  refine lv_istore_n (lv' := [(3, .int (0 : Int32)), (0, .ref (h 12)), (1, .ref (h 1)), (2, .int a2)]) hx hb dX7_leastBestNext_1 rfl hl (by decide) rfl (fun ls hl => ?_)
  obtain ⟨n, hw⟩ := hw
  exact tl_X7_leastBestNext_2 X hA n _ _ _ _ _ _ hw O (lv_sub hl [1, 2, 3, 0] rfl)
-- FellersOrder$Plan.readBestRow(LFellersOrder$Yard;)V
abbrev rm_X7_readBestRow : Room := { frames := 3, cells := 0, slots := 0, locals := 68 }
def wb_X7_readBestRow_4 (Post : Int32 → St → Prop) (K4 : Int32 → Int32 → St → Prop) (x2 : Int32) (x3 : Int32) (u : St) : Prop := wp_X10_jobs u (fun r6 u6 => ((r6 ≤ x3) → (Post 0 u6)) ∧ ((¬ r6 ≤ x3) → (wp_X7_leastBestNext x2 u6 (fun r15 u15 => vp_in x3 12 ∧ (K4 (x2 ||| ((1 : Int32) <<< (r15 &&& 31))) (x3 + 1) (su u15 16 (Int32.toNatClampNeg x3) r15))))))
set_option maxHeartbeats 4000000 in
set_option maxRecDepth 100000 in
theorem tb_X7_readBestRow_4 (X : Cx p s m args meth c cX7_readBestRow 5 none RX7 D (tyF b) A) (hA : ∀ q, s.heap.size ≤ q → A q) {Post : Int32 → St → Prop} {K4 : Int32 → Int32 → St → Prop} (k4 : ∀ (x2 : Int32) (x3 : Int32) (u : St) (H : Heap) (locs : List Loc) (ls : Array Slot), K4 x2 x3 u → wO D 46 (gF b h) h u A s.heap H locs → lv_has ls 5 [(0, .ref (h 12)), (1, .ref (h 1)), (2, .int x2), (3, .int x3)] → W p l e rm_X7_readBestRow s m args below meth c H locs 0 0 (MQ below (va_Qv (Post 0) (cB D (tyF b) 46 (gF b h) h A) A) args s 0 0 A) (F0 m 4 ls [])) : ∀ (x2 : Int32) (x3 : Int32) (u : St) (H : Heap) (locs : List Loc) (ls : Array Slot), wb_X7_readBestRow_4 Post K4 x2 x3 u → wO D 46 (gF b h) h u A s.heap H locs → lv_has ls 5 [(0, .ref (h 12)), (1, .ref (h 1)), (2, .int x2), (3, .int x3)] → W p l e rm_X7_readBestRow s m args below meth c H locs 0 0 (MQ below (va_Qv (Post 0) (cB D (tyF b) 46 (gF b h) h A) A) args s 0 0 A) (F0 m 4 ls []) := by
  obtain ⟨⟨hx, hb, hml, hown, hts⟩, hK, hNs, hlocks, hr⟩ := id X
  intro x2 x3 u H locs ls hw O hl
  unfold wb_X7_readBestRow_4 at hw
  refine lv_iload_n hx hb dX7_readBestRow_4 rfl (lv_at hl 3 rfl) ?_
  refine lv_aload_n hx hb dX7_readBestRow_5 rfl (lv_at hl 1 rfl) ?_
  refine q_civ (rest := [.int x3]) X O hA 1 (c_X10_jobs hw) lk_X7_88 (by decide) rfl rfl rfl rfl rfl rfl ⟨Nat.le_of_ble_eq_true rfl, Nat.le_of_ble_eq_true rfl⟩ (Nat.le_of_ble_eq_true rfl) hl.1 ⟨Nat.zero_le _, Nat.zero_le _⟩ rfl dX7_readBestRow_6 (fun r6 u6 H locs hw O => ?_)
  refine lv_icmp_ge (tgt := 41) hx hb dX7_readBestRow_9 (by decide) (fun c9 => ?_) (fun c9 => ?_)
  · have hw := hw.1 c9
    exact q_vret X O hw dX7_readBestRow_41
  · have hw := hw.2 c9
    refine lv_aload_n hx hb dX7_readBestRow_12 rfl (lv_at hl 0 rfl) ?_
    refine lv_aload_n hx hb dX7_readBestRow_13 rfl (lv_at hl 1 rfl) ?_
    refine lv_iload_n hx hb dX7_readBestRow_14 rfl (lv_at hl 2 rfl) ?_
    refine q_civ (rest := []) X O hA 12 (c_X7_leastBestNext hw) lk_X7_98 (by decide) rfl rfl rfl rfl rfl rfl ⟨Nat.le_of_ble_eq_true rfl, Nat.le_of_ble_eq_true rfl⟩ (Nat.le_of_ble_eq_true rfl) hl.1 ⟨Nat.zero_le _, Nat.zero_le _⟩ rfl dX7_readBestRow_15 (fun r15 u15 H locs hw O => ?_)
    refine lv_istore (lv' := [(4, .int r15), (0, .ref (h 12)), (1, .ref (h 1)), (2, .int x2), (3, .int x3)]) hx hb dX7_readBestRow_18 hl (by decide) rfl (fun ls hl => ?_)
    refine lv_aload_n hx hb dX7_readBestRow_20 rfl (lv_at hl 1 rfl) ?_
    refine gt_X7_25 X O dX7_readBestRow_21 ?_
    refine lv_iload_n hx hb dX7_readBestRow_24 rfl (lv_at hl 4 rfl) ?_
    refine lv_iload hx hb dX7_readBestRow_25 (lv_at hl 0 rfl) ?_
    obtain ⟨i27, hw⟩ := hw
    refine q_ist X O 16 0 (by decide) (fun _ => rfl) rfl i27 dX7_readBestRow_27 (fun H locs O => ?_)
    refine lv_iload_n hx hb dX7_readBestRow_28 rfl (lv_at hl 3 rfl) ?_
    refine lv_iconst (v := 1) hx hb dX7_readBestRow_29 (by decide) ?_
    refine lv_iload hx hb dX7_readBestRow_30 (lv_at hl 0 rfl) ?_
    refine lv_ishl hx hb dX7_readBestRow_32 ?_
    refine lv_ior hx hb dX7_readBestRow_33 ?_
    refine lv_istore_n (lv' := [(2, .int (x2 ||| ((1 : Int32) <<< (r15 &&& 31)))), (4, .int r15), (0, .ref (h 12)), (1, .ref (h 1)), (3, .int x3)]) hx hb dX7_readBestRow_34 rfl hl (by decide) rfl (fun ls hl => ?_)
    refine lv_iinc (v := x3 + 1) (lv' := [(3, .int (x3 + 1)), (2, .int (x2 ||| ((1 : Int32) <<< (r15 &&& 31)))), (4, .int r15), (0, .ref (h 12)), (1, .ref (h 1))]) hx hb dX7_readBestRow_35 hl (k := 4) rfl rfl (by decide) rfl (fun ls hl => ?_)
    refine lv_goto (tgt := 4) hx hb dX7_readBestRow_38 (by decide) ?_
    exact k4 _ _ _ _ _ _ hw O (lv_sub hl [3, 4, 1, 0] rfl)
def wl_X7_readBestRow_4 (Post : Int32 → St → Prop) : Nat → Int32 → Int32 → St → Prop
  | 0 => fun _ _ _ => False
  | n + 1 => fun x2 x3 u => wb_X7_readBestRow_4 Post (wl_X7_readBestRow_4 Post n) x2 x3 u
set_option maxHeartbeats 4000000 in
set_option maxRecDepth 100000 in
theorem tl_X7_readBestRow_4 (X : Cx p s m args meth c cX7_readBestRow 5 none RX7 D (tyF b) A) (hA : ∀ q, s.heap.size ≤ q → A q) {Post : Int32 → St → Prop} : ∀ n : Nat, ∀ (x2 : Int32) (x3 : Int32) (u : St) (H : Heap) (locs : List Loc) (ls : Array Slot), (wl_X7_readBestRow_4 Post n) x2 x3 u → wO D 46 (gF b h) h u A s.heap H locs → lv_has ls 5 [(0, .ref (h 12)), (1, .ref (h 1)), (2, .int x2), (3, .int x3)] → W p l e rm_X7_readBestRow s m args below meth c H locs 0 0 (MQ below (va_Qv (Post 0) (cB D (tyF b) 46 (gF b h) h A) A) args s 0 0 A) (F0 m 4 ls []) := by
  intro n
  induction n with
  | zero => intro x2 x3 u H locs ls hw; exact False.elim hw
  | succ n ih => intro x2 x3 u H locs ls hw O hl; exact tb_X7_readBestRow_4 X hA ih x2 x3 u H locs ls hw O hl
def wp_X7_readBestRow (u : St) (Post : Int32 → St → Prop) : Prop := ∃ n : Nat, wl_X7_readBestRow_4 Post n (0 : Int32) (0 : Int32) u
set_option maxHeartbeats 4000000 in
set_option maxRecDepth 100000 in
theorem c_X7_readBestRow {l : Launch} {D : va_G} {b : Nat → ClassId} {h : Nat → Nat} {u : St} {Post : Int32 → St → Prop} (hw : wp_X7_readBestRow u Post) : CtV l yX7_readBestRow cX7_readBestRow 5 none rm_X7_readBestRow D (tyF b) 46 (gF b h) h [.ref (h 12), .ref (h 1)] u Post := by
  refine CtV.of (plainFor_of_name (by decide)) (Nat.le_of_ble_eq_true rfl) ?_
  intro p e s m below meth c A ls X hA O hl
  have X : Cx p s m _ meth c cX7_readBestRow 5 none RX7 D (tyF b) A := X
  obtain ⟨⟨hx, hb, hml, hown, hts⟩, hK, hNs, hlocks, hr⟩ := id X
  have hl : lv_has ls 5 [(0, .ref (h 12)), (1, .ref (h 1))] := hl
  unfold wp_X7_readBestRow at hw
  refine lv_iconst (v := 0) hx hb dX7_readBestRow_0 (by decide) ?_
  refine lv_istore_n (lv' := [(2, .int (0 : Int32)), (0, .ref (h 12)), (1, .ref (h 1))]) hx hb dX7_readBestRow_1 rfl hl (by decide) rfl (fun ls hl => ?_)
  refine lv_iconst (v := 0) hx hb dX7_readBestRow_2 (by decide) ?_
  refine lv_istore_n (lv' := [(3, .int (0 : Int32)), (2, .int (0 : Int32)), (0, .ref (h 12)), (1, .ref (h 1))]) hx hb dX7_readBestRow_3 rfl hl (by decide) rfl (fun ls hl => ?_)
  obtain ⟨n, hw⟩ := hw
  exact tl_X7_readBestRow_4 X hA n _ _ _ _ _ _ hw O (lv_sub hl [2, 3, 1, 0] rfl)
-- FellersOrder$Plan.findOrders(LFellersOrder$Yard;)V
abbrev rm_X7_findOrders : Room := { frames := 4, cells := 0, slots := 0, locals := 92 }
def wb_X7_findOrders_43 (Post : Int32 → St → Prop) (K43 : Int32 → St → Prop) (x3 : Int32) (u : St) : Prop := ((x3 < 0) → (wp_X7_readBestRow u (fun _ u81 => Post 0 u81))) ∧ ((¬ x3 < 0) → (wp_X10_isBeginning x3 (0 : Int32) u (fun r50 u50 => ((r50 = 0) → (vp_in x3 4096 ∧ (K43 (x3 + (-1)) (su u50 14 (Int32.toNatClampNeg x3) (1000000000 : Int32))))) ∧ ((¬ r50 = 0) → (wp_X7_goOnFrom x3 u50 (fun _ u59 => K43 (x3 + (-1)) u59))))))
set_option maxHeartbeats 4000000 in
set_option maxRecDepth 100000 in
theorem tb_X7_findOrders_43 (X : Cx p s m args meth c cX7_findOrders 4 none RX7 D (tyF b) A) (hA : ∀ q, s.heap.size ≤ q → A q) {Post : Int32 → St → Prop} {K43 : Int32 → St → Prop} (k43 : ∀ (x3 : Int32) (u : St) (H : Heap) (locs : List Loc) (ls : Array Slot), K43 x3 u → wO D 46 (gF b h) h u A s.heap H locs → lv_has ls 4 [(0, .ref (h 12)), (1, .ref (h 1)), (3, .int x3)] → W p l e rm_X7_findOrders s m args below meth c H locs 0 0 (MQ below (va_Qv (Post 0) (cB D (tyF b) 46 (gF b h) h A) A) args s 0 0 A) (F0 m 43 ls [])) : ∀ (x3 : Int32) (u : St) (H : Heap) (locs : List Loc) (ls : Array Slot), wb_X7_findOrders_43 Post K43 x3 u → wO D 46 (gF b h) h u A s.heap H locs → lv_has ls 4 [(0, .ref (h 12)), (1, .ref (h 1)), (3, .int x3)] → W p l e rm_X7_findOrders s m args below meth c H locs 0 0 (MQ below (va_Qv (Post 0) (cB D (tyF b) 46 (gF b h) h A) A) args s 0 0 A) (F0 m 43 ls []) := by
  obtain ⟨⟨hx, hb, hml, hown, hts⟩, hK, hNs, hlocks, hr⟩ := id X
  intro x3 u H locs ls hw O hl
  unfold wb_X7_findOrders_43 at hw
  refine lv_iload_n hx hb dX7_findOrders_43 rfl (lv_at hl 2 rfl) ?_
  refine lv_if_lt (tgt := 79) hx hb dX7_findOrders_44 (by decide) (fun c44 => ?_) (fun c44 => ?_)
  · have hw := hw.1 c44
    refine lv_aload_n hx hb dX7_findOrders_79 rfl (lv_at hl 0 rfl) ?_
    refine lv_aload_n hx hb dX7_findOrders_80 rfl (lv_at hl 1 rfl) ?_
    refine q_cvv (rest := []) X O hA 12 (c_X7_readBestRow hw) lk_X7_85 (by decide) rfl rfl rfl rfl rfl rfl ⟨Nat.le_of_ble_eq_true rfl, Nat.le_of_ble_eq_true rfl⟩ (Nat.le_of_ble_eq_true rfl) hl.1 ⟨Nat.zero_le _, Nat.zero_le _⟩ rfl dX7_findOrders_81 (fun u81 H locs hw O => ?_)
    exact q_vret X O hw dX7_findOrders_84
  · have hw := hw.2 c44
    refine lv_aload_n hx hb dX7_findOrders_47 rfl (lv_at hl 1 rfl) ?_
    refine lv_iload_n hx hb dX7_findOrders_48 rfl (lv_at hl 2 rfl) ?_
    refine lv_iconst (v := 0) hx hb dX7_findOrders_49 (by decide) ?_
    refine q_civ (rest := []) X O hA 1 (c_X10_isBeginning hw) lk_X7_77 (by decide) rfl rfl rfl rfl rfl rfl ⟨Nat.le_of_ble_eq_true rfl, Nat.le_of_ble_eq_true rfl⟩ (Nat.le_of_ble_eq_true rfl) hl.1 ⟨Nat.zero_le _, Nat.zero_le _⟩ rfl dX7_findOrders_50 (fun r50 u50 H locs hw O => ?_)
    refine lv_if_eq (tgt := 65) hx hb dX7_findOrders_53 (by decide) (fun c53 => ?_) (fun c53 => ?_)
    · have hw := hw.1 c53
      refine lv_aload_n hx hb dX7_findOrders_65 rfl (lv_at hl 0 rfl) ?_
      refine gt_X7_19 X O dX7_findOrders_66 ?_
      refine lv_iload_n hx hb dX7_findOrders_69 rfl (lv_at hl 2 rfl) ?_
      refine lv_ldc (v := 1000000000) hx hb hown (hts _ wd_25_16) dX7_findOrders_70 ?_
      obtain ⟨i72, hw⟩ := hw
      refine q_ist X O 14 0 (by decide) (fun _ => rfl) rfl i72 dX7_findOrders_72 (fun H locs O => ?_)
      refine lv_iinc (v := x3 + (-1)) (lv' := [(3, .int (x3 + (-1))), (0, .ref (h 12)), (1, .ref (h 1))]) hx hb dX7_findOrders_73 hl (k := 2) rfl rfl (by decide) rfl (fun ls hl => ?_)
      refine lv_goto (tgt := 43) hx hb dX7_findOrders_76 (by decide) ?_
      exact k43 _ _ _ _ _ hw O (lv_sub hl [1, 2, 0] rfl)
    · have hw := hw.2 c53
      refine lv_aload_n hx hb dX7_findOrders_56 rfl (lv_at hl 0 rfl) ?_
      refine lv_aload_n hx hb dX7_findOrders_57 rfl (lv_at hl 1 rfl) ?_
      refine lv_iload_n hx hb dX7_findOrders_58 rfl (lv_at hl 2 rfl) ?_
      refine q_cvv (rest := []) X O hA 12 (c_X7_goOnFrom hw) lk_X7_80 (by decide) rfl rfl rfl rfl rfl rfl ⟨Nat.le_of_ble_eq_true rfl, Nat.le_of_ble_eq_true rfl⟩ (Nat.le_of_ble_eq_true rfl) hl.1 ⟨Nat.zero_le _, Nat.zero_le _⟩ rfl dX7_findOrders_59 (fun u59 H locs hw O => ?_)
      refine lv_goto (tgt := 73) hx hb dX7_findOrders_62 (by decide) ?_
      refine lv_iinc (v := x3 + (-1)) (lv' := [(3, .int (x3 + (-1))), (0, .ref (h 12)), (1, .ref (h 1))]) hx hb dX7_findOrders_73 hl (k := 2) rfl rfl (by decide) rfl (fun ls hl => ?_)
      refine lv_goto (tgt := 43) hx hb dX7_findOrders_76 (by decide) ?_
      exact k43 _ _ _ _ _ hw O (lv_sub hl [1, 2, 0] rfl)
def wl_X7_findOrders_43 (Post : Int32 → St → Prop) : Nat → Int32 → St → Prop
  | 0 => fun _ _ => False
  | n + 1 => fun x3 u => wb_X7_findOrders_43 Post (wl_X7_findOrders_43 Post n) x3 u
set_option maxHeartbeats 4000000 in
set_option maxRecDepth 100000 in
theorem tl_X7_findOrders_43 (X : Cx p s m args meth c cX7_findOrders 4 none RX7 D (tyF b) A) (hA : ∀ q, s.heap.size ≤ q → A q) {Post : Int32 → St → Prop} : ∀ n : Nat, ∀ (x3 : Int32) (u : St) (H : Heap) (locs : List Loc) (ls : Array Slot), (wl_X7_findOrders_43 Post n) x3 u → wO D 46 (gF b h) h u A s.heap H locs → lv_has ls 4 [(0, .ref (h 12)), (1, .ref (h 1)), (3, .int x3)] → W p l e rm_X7_findOrders s m args below meth c H locs 0 0 (MQ below (va_Qv (Post 0) (cB D (tyF b) 46 (gF b h) h A) A) args s 0 0 A) (F0 m 43 ls []) := by
  intro n
  induction n with
  | zero => intro x3 u H locs ls hw; exact False.elim hw
  | succ n ih => intro x3 u H locs ls hw O hl; exact tb_X7_findOrders_43 X hA ih x3 u H locs ls hw O hl
def wp_X7_findOrders (u : St) (Post : Int32 → St → Prop) : Prop := wp_X10_version u (fun r5 u5 => ((¬ (u 12 6) = r5) → (wp_X10_version u5 (fun r14 u14 => wp_X10_everyJob (su u14 12 6 r14) (fun r21 u21 => vp_in r21 4096 ∧ (vp_in r21 4096 ∧ (∃ n : Nat, wl_X7_findOrders_43 Post n (r21 - (1 : Int32)) (su (su u21 14 (Int32.toNatClampNeg r21) (0 : Int32)) 15 (Int32.toNatClampNeg r21) (1 : Int32)))))))) ∧ (((u 12 6) = r5) → (Post 0 u5)))
set_option maxHeartbeats 4000000 in
set_option maxRecDepth 100000 in
theorem c_X7_findOrders {l : Launch} {D : va_G} {b : Nat → ClassId} {h : Nat → Nat} {u : St} {Post : Int32 → St → Prop} (hw : wp_X7_findOrders u Post) : CtV l yX7_findOrders cX7_findOrders 4 none rm_X7_findOrders D (tyF b) 46 (gF b h) h [.ref (h 12), .ref (h 1)] u Post := by
  refine CtV.of (plainFor_of_name (by decide)) (Nat.le_of_ble_eq_true rfl) ?_
  intro p e s m below meth c A ls X hA O hl
  have X : Cx p s m _ meth c cX7_findOrders 4 none RX7 D (tyF b) A := X
  obtain ⟨⟨hx, hb, hml, hown, hts⟩, hK, hNs, hlocks, hr⟩ := id X
  have hl : lv_has ls 4 [(0, .ref (h 12)), (1, .ref (h 1))] := hl
  unfold wp_X7_findOrders at hw
  refine lv_aload_n hx hb dX7_findOrders_0 rfl (lv_at hl 0 rfl) ?_
  refine gt_X7_28 X O dX7_findOrders_1 ?_
  refine lv_aload_n hx hb dX7_findOrders_4 rfl (lv_at hl 1 rfl) ?_
  refine q_civ (rest := [.int (u 12 6)]) X O hA 1 (c_X10_version hw) lk_X7_37 (by decide) rfl rfl rfl rfl rfl rfl ⟨Nat.le_of_ble_eq_true rfl, Nat.le_of_ble_eq_true rfl⟩ (Nat.le_of_ble_eq_true rfl) hl.1 ⟨Nat.zero_le _, Nat.zero_le _⟩ rfl dX7_findOrders_5 (fun r5 u5 H locs hw O => ?_)
  refine lv_icmp_ne (tgt := 12) hx hb dX7_findOrders_8 (by decide) (fun c8 => ?_) (fun c8 => ?_)
  · have hw := hw.1 c8
    refine lv_aload_n hx hb dX7_findOrders_12 rfl (lv_at hl 0 rfl) ?_
    refine lv_aload_n hx hb dX7_findOrders_13 rfl (lv_at hl 1 rfl) ?_
    refine q_civ (rest := [.ref (h 12)]) X O hA 1 (c_X10_version hw) lk_X7_37 (by decide) rfl rfl rfl rfl rfl rfl ⟨Nat.le_of_ble_eq_true rfl, Nat.le_of_ble_eq_true rfl⟩ (Nat.le_of_ble_eq_true rfl) hl.1 ⟨Nat.zero_le _, Nat.zero_le _⟩ rfl dX7_findOrders_14 (fun r14 u14 H locs hw O => ?_)
    refine pt_X7_28 X O dX7_findOrders_17 (fun H locs O => ?_)
    refine lv_aload_n hx hb dX7_findOrders_20 rfl (lv_at hl 1 rfl) ?_
    refine q_civ (rest := []) X O hA 1 (c_X10_everyJob hw) lk_X7_63 (by decide) rfl rfl rfl rfl rfl rfl ⟨Nat.le_of_ble_eq_true rfl, Nat.le_of_ble_eq_true rfl⟩ (Nat.le_of_ble_eq_true rfl) hl.1 ⟨Nat.zero_le _, Nat.zero_le _⟩ rfl dX7_findOrders_21 (fun r21 u21 H locs hw O => ?_)
    refine lv_istore_n (lv' := [(2, .int r21), (0, .ref (h 12)), (1, .ref (h 1))]) hx hb dX7_findOrders_24 rfl hl (by decide) rfl (fun ls hl => ?_)
    refine lv_aload_n hx hb dX7_findOrders_25 rfl (lv_at hl 1 rfl) ?_
    refine gt_X7_19 X O dX7_findOrders_26 ?_
    refine lv_iload_n hx hb dX7_findOrders_29 rfl (lv_at hl 0 rfl) ?_
    refine lv_iconst (v := 0) hx hb dX7_findOrders_30 (by decide) ?_
    obtain ⟨i31, hw⟩ := hw
    refine q_ist X O 14 0 (by decide) (fun _ => rfl) rfl i31 dX7_findOrders_31 (fun H locs O => ?_)
    refine lv_aload_n hx hb dX7_findOrders_32 rfl (lv_at hl 1 rfl) ?_
    refine gt_X7_22 X O dX7_findOrders_33 ?_
    refine lv_iload_n hx hb dX7_findOrders_36 rfl (lv_at hl 0 rfl) ?_
    refine lv_iconst (v := 1) hx hb dX7_findOrders_37 (by decide) ?_
    obtain ⟨i38, hw⟩ := hw
    refine q_ist X O 15 0 (by decide) (fun _ => rfl) rfl i38 dX7_findOrders_38 (fun H locs O => ?_)
    refine lv_iload_n hx hb dX7_findOrders_39 rfl (lv_at hl 0 rfl) ?_
    refine lv_iconst (v := 1) hx hb dX7_findOrders_40 (by decide) ?_
    refine lv_isub hx hb dX7_findOrders_41 ?_
    refine lv_istore_n (lv' := [(3, .int (r21 - (1 : Int32))), (2, .int r21), (0, .ref (h 12)), (1, .ref (h 1))]) hx hb dX7_findOrders_42 rfl hl (by decide) rfl (fun ls hl => ?_)
    obtain ⟨n, hw⟩ := hw
    exact tl_X7_findOrders_43 X hA n _ _ _ _ _ hw O (lv_sub hl [2, 3, 0] rfl)
  · have hw := hw.2 c8
    exact q_vret X O hw dX7_findOrders_11
-- FellersOrder$Plan.leastCost(LFellersOrder$Yard;)I
abbrev rm_X7_leastCost : Room := { frames := 5, cells := 0, slots := 0, locals := 115 }
def wp_X7_leastCost (u : St) (Post : Int32 → St → Prop) : Prop := wp_X7_findOrders u (fun _ u2 => vp_in (0 : Int32) 4096 ∧ (Post (u2 14 (Int32.toNatClampNeg (0 : Int32))) u2))
set_option maxHeartbeats 4000000 in
set_option maxRecDepth 100000 in
theorem c_X7_leastCost {l : Launch} {D : va_G} {b : Nat → ClassId} {h : Nat → Nat} {u : St} {Post : Int32 → St → Prop} (hw : wp_X7_leastCost u Post) : CtI l yX7_leastCost cX7_leastCost 2 (some .int) rm_X7_leastCost D (tyF b) 46 (gF b h) h [.ref (h 12), .ref (h 1)] u Post := by
  refine CtI.of (plainFor_of_name (by decide)) (Nat.le_of_ble_eq_true rfl) ?_
  intro p e s m below meth c A ls X hA O hl
  have X : Cx p s m _ meth c cX7_leastCost 2 (some .int) RX7 D (tyF b) A := X
  obtain ⟨⟨hx, hb, hml, hown, hts⟩, hK, hNs, hlocks, hr⟩ := id X
  have hl : lv_has ls 2 [(0, .ref (h 12)), (1, .ref (h 1))] := hl
  unfold wp_X7_leastCost at hw
  refine lv_aload_n hx hb dX7_leastCost_0 rfl (lv_at hl 0 rfl) ?_
  refine lv_aload_n hx hb dX7_leastCost_1 rfl (lv_at hl 1 rfl) ?_
  refine q_cvv (rest := []) X O hA 12 (c_X7_findOrders hw) lk_X7_57 (by decide) rfl rfl rfl rfl rfl rfl ⟨Nat.le_of_ble_eq_true rfl, Nat.le_of_ble_eq_true rfl⟩ (Nat.le_of_ble_eq_true rfl) hl.1 ⟨Nat.zero_le _, Nat.zero_le _⟩ rfl dX7_leastCost_2 (fun u2 H locs hw O => ?_)
  refine lv_aload_n hx hb dX7_leastCost_5 rfl (lv_at hl 0 rfl) ?_
  refine gt_X7_19 X O dX7_leastCost_6 ?_
  refine lv_iconst (v := 0) hx hb dX7_leastCost_9 (by decide) ?_
  obtain ⟨i10, hw⟩ := hw
  refine q_ild X O 14 0 (by decide) rfl rfl i10 dX7_leastCost_10 ?_
  exact q_iret X O hw dX7_leastCost_11
-- FellersOrder.least()I
abbrev rm_X11_least : Room := { frames := 6, cells := 0, slots := 0, locals := 136 }
def wp_X11_least (u : St) (Post : Int32 → St → Prop) : Prop := wp_X7_leastCost u (fun r8 u8 => Post r8 u8)
set_option maxHeartbeats 4000000 in
set_option maxRecDepth 100000 in
theorem c_X11_least {l : Launch} {D : va_G} {b : Nat → ClassId} {h : Nat → Nat} {u : St} {Post : Int32 → St → Prop} (hw : wp_X11_least u Post) : CtI l yX11_least cX11_least 1 (some .int) rm_X11_least D (tyF b) 46 (gF b h) h [.ref (h 0)] u Post := by
  refine CtI.of (plainFor_of_name (by decide)) (Nat.le_of_ble_eq_true rfl) ?_
  intro p e s m below meth c A ls X hA O hl
  have X : Cx p s m _ meth c cX11_least 1 (some .int) RX11 D (tyF b) A := X
  obtain ⟨⟨hx, hb, hml, hown, hts⟩, hK, hNs, hlocks, hr⟩ := id X
  have hl : lv_has ls 1 [(0, .ref (h 0))] := hl
  unfold wp_X11_least at hw
  refine lv_aload_n hx hb dX11_least_0 rfl (lv_at hl 0 rfl) ?_
  refine gt_X11_19 X O dX11_least_1 ?_
  refine lv_aload_n hx hb dX11_least_4 rfl (lv_at hl 0 rfl) ?_
  refine gt_X11_10 X O dX11_least_5 ?_
  refine q_civ (rest := []) X O hA 12 (c_X7_leastCost hw) lk_X11_212 (by decide) rfl rfl rfl rfl rfl rfl ⟨Nat.le_of_ble_eq_true rfl, Nat.le_of_ble_eq_true rfl⟩ (Nat.le_of_ble_eq_true rfl) hl.1 ⟨Nat.zero_le _, Nat.zero_le _⟩ rfl dX11_least_8 (fun r8 u8 H locs hw O => ?_)
  exact q_iret X O hw dX11_least_11
-- FellersOrder$Plan.bestAt(LFellersOrder$Yard;I)I
abbrev rm_X7_bestAt : Room := { frames := 5, cells := 0, slots := 0, locals := 115 }
def wp_X7_bestAt (a2 : Int32) (u : St) (Post : Int32 → St → Prop) : Prop := wp_X7_findOrders u (fun _ u2 => vp_in a2 12 ∧ (Post (u2 16 (Int32.toNatClampNeg a2)) u2))
set_option maxHeartbeats 4000000 in
set_option maxRecDepth 100000 in
theorem c_X7_bestAt {a2 : Int32} {l : Launch} {D : va_G} {b : Nat → ClassId} {h : Nat → Nat} {u : St} {Post : Int32 → St → Prop} (hw : wp_X7_bestAt a2 u Post) : CtI l yX7_bestAt cX7_bestAt 3 (some .int) rm_X7_bestAt D (tyF b) 46 (gF b h) h [.ref (h 12), .ref (h 1), .int a2] u Post := by
  refine CtI.of (plainFor_of_name (by decide)) (Nat.le_of_ble_eq_true rfl) ?_
  intro p e s m below meth c A ls X hA O hl
  have X : Cx p s m _ meth c cX7_bestAt 3 (some .int) RX7 D (tyF b) A := X
  obtain ⟨⟨hx, hb, hml, hown, hts⟩, hK, hNs, hlocks, hr⟩ := id X
  have hl : lv_has ls 3 [(0, .ref (h 12)), (1, .ref (h 1)), (2, .int a2)] := hl
  unfold wp_X7_bestAt at hw
  refine lv_aload_n hx hb dX7_bestAt_0 rfl (lv_at hl 0 rfl) ?_
  refine lv_aload_n hx hb dX7_bestAt_1 rfl (lv_at hl 1 rfl) ?_
  refine q_cvv (rest := []) X O hA 12 (c_X7_findOrders hw) lk_X7_57 (by decide) rfl rfl rfl rfl rfl rfl ⟨Nat.le_of_ble_eq_true rfl, Nat.le_of_ble_eq_true rfl⟩ (Nat.le_of_ble_eq_true rfl) hl.1 ⟨Nat.zero_le _, Nat.zero_le _⟩ rfl dX7_bestAt_2 (fun u2 H locs hw O => ?_)
  refine lv_aload_n hx hb dX7_bestAt_5 rfl (lv_at hl 0 rfl) ?_
  refine gt_X7_25 X O dX7_bestAt_6 ?_
  refine lv_iload_n hx hb dX7_bestAt_9 rfl (lv_at hl 2 rfl) ?_
  obtain ⟨i10, hw⟩ := hw
  refine q_ild X O 16 0 (by decide) rfl rfl i10 dX7_bestAt_10 ?_
  exact q_iret X O hw dX7_bestAt_11
-- FellersOrder.best(I)I
abbrev rm_X11_best : Room := { frames := 6, cells := 0, slots := 0, locals := 137 }
def wp_X11_best (a1 : Int32) (u : St) (Post : Int32 → St → Prop) : Prop := wp_X10_has a1 u (fun r5 u5 => ((r5 = 0) → (Post (-1 : Int32) u5)) ∧ ((¬ r5 = 0) → (wp_X7_bestAt a1 u5 (fun r20 u20 => Post r20 u20))))
set_option maxHeartbeats 4000000 in
set_option maxRecDepth 100000 in
theorem c_X11_best {a1 : Int32} {l : Launch} {D : va_G} {b : Nat → ClassId} {h : Nat → Nat} {u : St} {Post : Int32 → St → Prop} (hw : wp_X11_best a1 u Post) : CtI l yX11_best cX11_best 2 (some .int) rm_X11_best D (tyF b) 46 (gF b h) h [.ref (h 0), .int a1] u Post := by
  refine CtI.of (plainFor_of_name (by decide)) (Nat.le_of_ble_eq_true rfl) ?_
  intro p e s m below meth c A ls X hA O hl
  have X : Cx p s m _ meth c cX11_best 2 (some .int) RX11 D (tyF b) A := X
  obtain ⟨⟨hx, hb, hml, hown, hts⟩, hK, hNs, hlocks, hr⟩ := id X
  have hl : lv_has ls 2 [(0, .ref (h 0)), (1, .int a1)] := hl
  unfold wp_X11_best at hw
  refine lv_aload_n hx hb dX11_best_0 rfl (lv_at hl 0 rfl) ?_
  refine gt_X11_10 X O dX11_best_1 ?_
  refine lv_iload_n hx hb dX11_best_4 rfl (lv_at hl 1 rfl) ?_
  refine q_civ (rest := []) X O hA 1 (c_X10_has hw) lk_X11_93 (by decide) rfl rfl rfl rfl rfl rfl ⟨Nat.le_of_ble_eq_true rfl, Nat.le_of_ble_eq_true rfl⟩ (Nat.le_of_ble_eq_true rfl) hl.1 ⟨Nat.zero_le _, Nat.zero_le _⟩ rfl dX11_best_5 (fun r5 u5 H locs hw O => ?_)
  refine lv_if_eq (tgt := 26) hx hb dX11_best_8 (by decide) (fun c8 => ?_) (fun c8 => ?_)
  · have hw := hw.1 c8
    refine lv_iconst (v := -1) hx hb dX11_best_26 (by decide) ?_
    exact q_iret X O hw dX11_best_27
  · have hw := hw.2 c8
    refine lv_aload_n hx hb dX11_best_11 rfl (lv_at hl 0 rfl) ?_
    refine gt_X11_19 X O dX11_best_12 ?_
    refine lv_aload_n hx hb dX11_best_15 rfl (lv_at hl 0 rfl) ?_
    refine gt_X11_10 X O dX11_best_16 ?_
    refine lv_iload_n hx hb dX11_best_19 rfl (lv_at hl 1 rfl) ?_
    refine q_civ (rest := []) X O hA 12 (c_X7_bestAt hw) lk_X11_215 (by decide) rfl rfl rfl rfl rfl rfl ⟨Nat.le_of_ble_eq_true rfl, Nat.le_of_ble_eq_true rfl⟩ (Nat.le_of_ble_eq_true rfl) hl.1 ⟨Nat.zero_le _, Nat.zero_le _⟩ rfl dX11_best_20 (fun r20 u20 H locs hw O => ?_)
    refine lv_goto (tgt := 27) hx hb dX11_best_23 (by decide) ?_
    exact q_iret X O hw dX11_best_27
-- FellersOrder$Plan.bestOrders(LFellersOrder$Yard;)I
abbrev rm_X7_bestOrders : Room := { frames := 5, cells := 0, slots := 0, locals := 115 }
def wp_X7_bestOrders (u : St) (Post : Int32 → St → Prop) : Prop := wp_X7_findOrders u (fun _ u2 => vp_in (0 : Int32) 4096 ∧ (Post (u2 15 (Int32.toNatClampNeg (0 : Int32))) u2))
set_option maxHeartbeats 4000000 in
set_option maxRecDepth 100000 in
theorem c_X7_bestOrders {l : Launch} {D : va_G} {b : Nat → ClassId} {h : Nat → Nat} {u : St} {Post : Int32 → St → Prop} (hw : wp_X7_bestOrders u Post) : CtI l yX7_bestOrders cX7_bestOrders 2 (some .int) rm_X7_bestOrders D (tyF b) 46 (gF b h) h [.ref (h 12), .ref (h 1)] u Post := by
  refine CtI.of (plainFor_of_name (by decide)) (Nat.le_of_ble_eq_true rfl) ?_
  intro p e s m below meth c A ls X hA O hl
  have X : Cx p s m _ meth c cX7_bestOrders 2 (some .int) RX7 D (tyF b) A := X
  obtain ⟨⟨hx, hb, hml, hown, hts⟩, hK, hNs, hlocks, hr⟩ := id X
  have hl : lv_has ls 2 [(0, .ref (h 12)), (1, .ref (h 1))] := hl
  unfold wp_X7_bestOrders at hw
  refine lv_aload_n hx hb dX7_bestOrders_0 rfl (lv_at hl 0 rfl) ?_
  refine lv_aload_n hx hb dX7_bestOrders_1 rfl (lv_at hl 1 rfl) ?_
  refine q_cvv (rest := []) X O hA 12 (c_X7_findOrders hw) lk_X7_57 (by decide) rfl rfl rfl rfl rfl rfl ⟨Nat.le_of_ble_eq_true rfl, Nat.le_of_ble_eq_true rfl⟩ (Nat.le_of_ble_eq_true rfl) hl.1 ⟨Nat.zero_le _, Nat.zero_le _⟩ rfl dX7_bestOrders_2 (fun u2 H locs hw O => ?_)
  refine lv_aload_n hx hb dX7_bestOrders_5 rfl (lv_at hl 0 rfl) ?_
  refine gt_X7_22 X O dX7_bestOrders_6 ?_
  refine lv_iconst (v := 0) hx hb dX7_bestOrders_9 (by decide) ?_
  obtain ⟨i10, hw⟩ := hw
  refine q_ild X O 15 0 (by decide) rfl rfl i10 dX7_bestOrders_10 ?_
  exact q_iret X O hw dX7_bestOrders_11
-- FellersOrder.many()I
abbrev rm_X11_many : Room := { frames := 6, cells := 0, slots := 0, locals := 136 }
def wp_X11_many (u : St) (Post : Int32 → St → Prop) : Prop := wp_X7_bestOrders u (fun r8 u8 => Post r8 u8)
set_option maxHeartbeats 4000000 in
set_option maxRecDepth 100000 in
theorem c_X11_many {l : Launch} {D : va_G} {b : Nat → ClassId} {h : Nat → Nat} {u : St} {Post : Int32 → St → Prop} (hw : wp_X11_many u Post) : CtI l yX11_many cX11_many 1 (some .int) rm_X11_many D (tyF b) 46 (gF b h) h [.ref (h 0)] u Post := by
  refine CtI.of (plainFor_of_name (by decide)) (Nat.le_of_ble_eq_true rfl) ?_
  intro p e s m below meth c A ls X hA O hl
  have X : Cx p s m _ meth c cX11_many 1 (some .int) RX11 D (tyF b) A := X
  obtain ⟨⟨hx, hb, hml, hown, hts⟩, hK, hNs, hlocks, hr⟩ := id X
  have hl : lv_has ls 1 [(0, .ref (h 0))] := hl
  unfold wp_X11_many at hw
  refine lv_aload_n hx hb dX11_many_0 rfl (lv_at hl 0 rfl) ?_
  refine gt_X11_19 X O dX11_many_1 ?_
  refine lv_aload_n hx hb dX11_many_4 rfl (lv_at hl 0 rfl) ?_
  refine gt_X11_10 X O dX11_many_5 ?_
  refine q_civ (rest := []) X O hA 12 (c_X7_bestOrders hw) lk_X11_218 (by decide) rfl rfl rfl rfl rfl rfl ⟨Nat.le_of_ble_eq_true rfl, Nat.le_of_ble_eq_true rfl⟩ (Nat.le_of_ble_eq_true rfl) hl.1 ⟨Nat.zero_le _, Nat.zero_le _⟩ rfl dX11_many_8 (fun r8 u8 H locs hw O => ?_)
  exact q_iret X O hw dX11_many_11
end PT
