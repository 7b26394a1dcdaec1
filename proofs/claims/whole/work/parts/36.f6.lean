/-! the class, methods: X10_removeLast X2_takeBack X11_undo X11_status -/
theorem lk_X2_37 : LkV RX2 37 yX10_removeLast cX10_removeLast 1 none 0 := ⟨wd_42_15, wd_42_16, wd_42_17, wd_1_14, wd_42_18, by decide +kernel⟩
theorem lk_X2_42 : LkV RX2 42 yX10_measureAnew cX10_measureAnew 4 none 3 := ⟨wd_42_19, wd_10_23, wd_11_0, wd_1_14, wd_11_1, by decide +kernel⟩
theorem lk_X2_46 : LkV RX2 46 yX10_unbind cX10_unbind 3 none 2 := ⟨wd_42_20, wd_12_19, wd_12_20, wd_1_14, wd_12_21, by decide +kernel⟩
theorem lk_X2_50 : LkV RX2 50 yX10_bind cX10_bind 3 none 2 := ⟨wd_42_21, wd_11_23, wd_12_0, wd_1_14, wd_12_1, by decide +kernel⟩
theorem lk_X11_292 : LkV RX11 292 yX2_takeBack cX2_takeBack 2 none 1 := ⟨wd_42_11, wd_42_12, wd_42_13, wd_2_2, wd_42_14, by decide +kernel⟩
section PT
variable {p : Program} {l : Launch} {e : Env} {s : State} {m : MethodId} {args : Array Value} {below : List Frame} {meth : Method} {c : Code} {A : Nat → Prop} {D : va_G} {b : Nat → ClassId} {h : Nat → Nat}
-- FellersOrder$Yard.removeLast()V
abbrev rm_X10_removeLast : Room := { frames := 3, cells := 0, slots := 0, locals := 67 }
def wp_X10_removeLast (u : St) (Post : Int32 → St → Prop) : Prop := (((u 1 7) ≤ 0) → (wp_X10_renew u (fun _ u18 => Post 0 u18))) ∧ ((¬ (u 1 7) ≤ 0) → (wp_X10_renew (su u 1 7 ((u 1 7) - (1 : Int32))) (fun _ u18 => Post 0 u18)))
set_option maxHeartbeats 4000000 in
set_option maxRecDepth 100000 in
theorem c_X10_removeLast {l : Launch} {D : va_G} {b : Nat → ClassId} {h : Nat → Nat} {u : St} {Post : Int32 → St → Prop} (hw : wp_X10_removeLast u Post) : CtV l yX10_removeLast cX10_removeLast 1 none rm_X10_removeLast D (tyF b) 46 (gF b h) h [.ref (h 1)] u Post := by
  refine CtV.of (plainFor_of_name (by decide)) (Nat.le_of_ble_eq_true rfl) ?_
  intro p e s m below meth c A ls X hA O hl
  have X : Cx p s m _ meth c cX10_removeLast 1 none RX10 D (tyF b) A := X
  obtain ⟨⟨hx, hb, hml, hown, hts⟩, hK, hNs, hlocks, hr⟩ := id X
  have hl : lv_has ls 1 [(0, .ref (h 1))] := hl
  unfold wp_X10_removeLast at hw
  refine lv_aload_n hx hb dX10_removeLast_0 rfl (lv_at hl 0 rfl) ?_
  refine gt_X10_41 X O dX10_removeLast_1 ?_
  refine lv_if_le (tgt := 17) hx hb dX10_removeLast_4 (by decide) (fun c4 => ?_) (fun c4 => ?_)
  · have hw := hw.1 c4
    refine lv_aload_n hx hb dX10_removeLast_17 rfl (lv_at hl 0 rfl) ?_
    refine q_cvv (rest := []) X O hA 1 (c_X10_renew hw) lk_X10_55 (by decide) rfl rfl rfl rfl rfl rfl ⟨Nat.le_of_ble_eq_true rfl, Nat.le_of_ble_eq_true rfl⟩ (Nat.le_of_ble_eq_true rfl) hl.1 ⟨Nat.zero_le _, Nat.zero_le _⟩ rfl dX10_removeLast_18 (fun u18 H locs hw O => ?_)
    exact q_vret X O hw dX10_removeLast_21
  · have hw := hw.2 c4
    refine lv_aload_n hx hb dX10_removeLast_7 rfl (lv_at hl 0 rfl) ?_
    refine lv_dup hx hb dX10_removeLast_8 rfl ?_
    refine gt_X10_41 X O dX10_removeLast_9 ?_
    refine lv_iconst (v := 1) hx hb dX10_removeLast_12 (by decide) ?_
    refine lv_isub hx hb dX10_removeLast_13 ?_
    refine pt_X10_41 X O dX10_removeLast_14 (fun H locs O => ?_)
    refine lv_aload_n hx hb dX10_removeLast_17 rfl (lv_at hl 0 rfl) ?_
    refine q_cvv (rest := []) X O hA 1 (c_X10_renew hw) lk_X10_55 (by decide) rfl rfl rfl rfl rfl rfl ⟨Nat.le_of_ble_eq_true rfl, Nat.le_of_ble_eq_true rfl⟩ (Nat.le_of_ble_eq_true rfl) hl.1 ⟨Nat.zero_le _, Nat.zero_le _⟩ rfl dX10_removeLast_18 (fun u18 H locs hw O => ?_)
    exact q_vret X O hw dX10_removeLast_21
-- FellersOrder$History.takeBack(LFellersOrder$Yard;)V
abbrev rm_X2_takeBack : Room := { frames := 4, cells := 0, slots := 0, locals := 90 }
def wb_X2_takeBack_19 (Post : Int32 → St → Prop) (t0 : Int32) (u : St) : Prop := vp_in ((su (su u 20 4 t0) 20 5 (((su u 20 4 t0) 20 5) - (1 : Int32))) 20 4) 12 ∧ ((((su (su u 20 4 t0) 20 5 (((su u 20 4 t0) 20 5) - (1 : Int32))) 21 (Int32.toNatClampNeg ((su (su u 20 4 t0) 20 5 (((su u 20 4 t0) 20 5) - (1 : Int32))) 20 4))) = 0 → (wp_X10_removeLast (su (su u 20 4 t0) 20 5 (((su u 20 4 t0) 20 5) - (1 : Int32))) (fun _ u69 => Post 0 u69))) ∧ (((su (su u 20 4 t0) 20 5 (((su u 20 4 t0) 20 5) - (1 : Int32))) 21 (Int32.toNatClampNeg ((su (su u 20 4 t0) 20 5 (((su u 20 4 t0) 20 5) - (1 : Int32))) 20 4))) = 1 → (vp_in ((su (su u 20 4 t0) 20 5 (((su u 20 4 t0) 20 5) - (1 : Int32))) 20 4) 12 ∧ (vp_in ((su (su u 20 4 t0) 20 5 (((su u 20 4 t0) 20 5) - (1 : Int32))) 20 4) 12 ∧ (vp_in ((su (su u 20 4 t0) 20 5 (((su u 20 4 t0) 20 5) - (1 : Int32))) 20 4) 12 ∧ (wp_X10_measureAnew ((su (su u 20 4 t0) 20 5 (((su u 20 4 t0) 20 5) - (1 : Int32))) 22 (Int32.toNatClampNeg ((su (su u 20 4 t0) 20 5 (((su u 20 4 t0) 20 5) - (1 : Int32))) 20 4))) ((su (su u 20 4 t0) 20 5 (((su u 20 4 t0) 20 5) - (1 : Int32))) 23 (Int32.toNatClampNeg ((su (su u 20 4 t0) 20 5 (((su u 20 4 t0) 20 5) - (1 : Int32))) 20 4))) ((su (su u 20 4 t0) 20 5 (((su u 20 4 t0) 20 5) - (1 : Int32))) 24 (Int32.toNatClampNeg ((su (su u 20 4 t0) 20 5 (((su u 20 4 t0) 20 5) - (1 : Int32))) 20 4))) (su (su u 20 4 t0) 20 5 (((su u 20 4 t0) 20 5) - (1 : Int32))) (fun _ u103 => Post 0 u103)))))) ∧ (((su (su u 20 4 t0) 20 5 (((su u 20 4 t0) 20 5) - (1 : Int32))) 21 (Int32.toNatClampNeg ((su (su u 20 4 t0) 20 5 (((su u 20 4 t0) 20 5) - (1 : Int32))) 20 4))) = 2 → (vp_in ((su (su u 20 4 t0) 20 5 (((su u 20 4 t0) 20 5) - (1 : Int32))) 20 4) 12 ∧ (vp_in ((su (su u 20 4 t0) 20 5 (((su u 20 4 t0) 20 5) - (1 : Int32))) 20 4) 12 ∧ (wp_X10_unbind ((su (su u 20 4 t0) 20 5 (((su u 20 4 t0) 20 5) - (1 : Int32))) 22 (Int32.toNatClampNeg ((su (su u 20 4 t0) 20 5 (((su u 20 4 t0) 20 5) - (1 : Int32))) 20 4))) ((su (su u 20 4 t0) 20 5 (((su u 20 4 t0) 20 5) - (1 : Int32))) 23 (Int32.toNatClampNeg ((su (su u 20 4 t0) 20 5 (((su u 20 4 t0) 20 5) - (1 : Int32))) 20 4))) (su (su u 20 4 t0) 20 5 (((su u 20 4 t0) 20 5) - (1 : Int32))) (fun _ u128 => Post 0 u128))))) ∧ (¬ ((su (su u 20 4 t0) 20 5 (((su u 20 4 t0) 20 5) - (1 : Int32))) 21 (Int32.toNatClampNeg ((su (su u 20 4 t0) 20 5 (((su u 20 4 t0) 20 5) - (1 : Int32))) 20 4))) = 0 → ¬ ((su (su u 20 4 t0) 20 5 (((su u 20 4 t0) 20 5) - (1 : Int32))) 21 (Int32.toNatClampNeg ((su (su u 20 4 t0) 20 5 (((su u 20 4 t0) 20 5) - (1 : Int32))) 20 4))) = 1 → ¬ ((su (su u 20 4 t0) 20 5 (((su u 20 4 t0) 20 5) - (1 : Int32))) 21 (Int32.toNatClampNeg ((su (su u 20 4 t0) 20 5 (((su u 20 4 t0) 20 5) - (1 : Int32))) 20 4))) = 2 → (vp_in ((su (su u 20 4 t0) 20 5 (((su u 20 4 t0) 20 5) - (1 : Int32))) 20 4) 12 ∧ (vp_in ((su (su u 20 4 t0) 20 5 (((su u 20 4 t0) 20 5) - (1 : Int32))) 20 4) 12 ∧ (wp_X10_bind ((su (su u 20 4 t0) 20 5 (((su u 20 4 t0) 20 5) - (1 : Int32))) 22 (Int32.toNatClampNeg ((su (su u 20 4 t0) 20 5 (((su u 20 4 t0) 20 5) - (1 : Int32))) 20 4))) ((su (su u 20 4 t0) 20 5 (((su u 20 4 t0) 20 5) - (1 : Int32))) 23 (Int32.toNatClampNeg ((su (su u 20 4 t0) 20 5 (((su u 20 4 t0) 20 5) - (1 : Int32))) 20 4))) (su (su u 20 4 t0) 20 5 (((su u 20 4 t0) 20 5) - (1 : Int32))) (fun _ u153 => Post 0 u153))))))
set_option maxHeartbeats 4000000 in
set_option maxRecDepth 100000 in
theorem tb_X2_takeBack_19 (X : Cx p s m args meth c cX2_takeBack 2 none RX2 D (tyF b) A) (hA : ∀ q, s.heap.size ≤ q → A q) {Post : Int32 → St → Prop} : ∀ (t0 : Int32) (u : St) (H : Heap) (locs : List Loc) (ls : Array Slot), wb_X2_takeBack_19 Post t0 u → wO D 46 (gF b h) h u A s.heap H locs → lv_has ls 2 [(0, .ref (h 20)), (1, .ref (h 1))] → W p l e rm_X2_takeBack s m args below meth c H locs 0 0 (MQ below (va_Qv (Post 0) (cB D (tyF b) 46 (gF b h) h A) A) args s 0 0 A) (F0 m 19 ls [.int t0, .ref (h 20)]) := by
  obtain ⟨⟨hx, hb, hml, hown, hts⟩, hK, hNs, hlocks, hr⟩ := id X
  intro t0 u H locs ls hw O hl
  unfold wb_X2_takeBack_19 at hw
  refine pt_X2_28 X O dX2_takeBack_19 (fun H locs O => ?_)
  refine lv_aload_n hx hb dX2_takeBack_22 rfl (lv_at hl 0 rfl) ?_
  refine lv_dup hx hb dX2_takeBack_23 rfl ?_
  refine gt_X2_24 X O dX2_takeBack_24 ?_
  refine lv_iconst (v := 1) hx hb dX2_takeBack_27 (by decide) ?_
  refine lv_isub hx hb dX2_takeBack_28 ?_
  refine pt_X2_24 X O dX2_takeBack_29 (fun H locs O => ?_)
  refine lv_aload_n hx hb dX2_takeBack_32 rfl (lv_at hl 0 rfl) ?_
  refine gt_X2_9 X O dX2_takeBack_33 ?_
  refine lv_aload_n hx hb dX2_takeBack_36 rfl (lv_at hl 0 rfl) ?_
  refine gt_X2_28 X O dX2_takeBack_37 ?_
  obtain ⟨i40, hw⟩ := hw
  refine q_ild X O 21 0 (by decide) rfl rfl i40 dX2_takeBack_40 ?_
  by_cases s41_0 : ((su (su u 20 4 t0) 20 5 (((su u 20 4 t0) 20 5) - (1 : Int32))) 21 (Int32.toNatClampNeg ((su (su u 20 4 t0) 20 5 (((su u 20 4 t0) 20 5) - (1 : Int32))) 20 4))) = 0
  · have hw := hw.1 s41_0
    refine lv_tableIn (off := 27) (tgt := 68) hx hb dX2_takeBack_41 (by rw [s41_0]; decide) (by rw [s41_0]; decide) (by rw [s41_0]; decide) (by decide) ?_
    refine lv_aload_n hx hb dX2_takeBack_68 rfl (lv_at hl 1 rfl) ?_
    refine q_cvv (rest := []) X O hA 1 (c_X10_removeLast hw) lk_X2_37 (by decide) rfl rfl rfl rfl rfl rfl ⟨Nat.le_of_ble_eq_true rfl, Nat.le_of_ble_eq_true rfl⟩ (Nat.le_of_ble_eq_true rfl) hl.1 ⟨Nat.zero_le _, Nat.zero_le _⟩ rfl dX2_takeBack_69 (fun u69 H locs hw O => ?_)
    refine lv_goto (tgt := 156) hx hb dX2_takeBack_72 (by decide) ?_
    exact q_vret X O hw dX2_takeBack_156
  · replace hw := hw.2
    by_cases s41_1 : ((su (su u 20 4 t0) 20 5 (((su u 20 4 t0) 20 5) - (1 : Int32))) 21 (Int32.toNatClampNeg ((su (su u 20 4 t0) 20 5 (((su u 20 4 t0) 20 5) - (1 : Int32))) 20 4))) = 1
    · have hw := hw.1 s41_1
      refine lv_tableIn (off := 34) (tgt := 75) hx hb dX2_takeBack_41 (by rw [s41_1]; decide) (by rw [s41_1]; decide) (by rw [s41_1]; decide) (by decide) ?_
      refine lv_aload_n hx hb dX2_takeBack_75 rfl (lv_at hl 1 rfl) ?_
      refine lv_aload_n hx hb dX2_takeBack_76 rfl (lv_at hl 0 rfl) ?_
      refine gt_X2_15 X O dX2_takeBack_77 ?_
      refine lv_aload_n hx hb dX2_takeBack_80 rfl (lv_at hl 0 rfl) ?_
      refine gt_X2_28 X O dX2_takeBack_81 ?_
      obtain ⟨i84, hw⟩ := hw
      refine q_ild X O 22 0 (by decide) rfl rfl i84 dX2_takeBack_84 ?_
      refine lv_aload_n hx hb dX2_takeBack_85 rfl (lv_at hl 0 rfl) ?_
      refine gt_X2_18 X O dX2_takeBack_86 ?_
      refine lv_aload_n hx hb dX2_takeBack_89 rfl (lv_at hl 0 rfl) ?_
      refine gt_X2_28 X O dX2_takeBack_90 ?_
      obtain ⟨i93, hw⟩ := hw
      refine q_ild X O 23 0 (by decide) rfl rfl i93 dX2_takeBack_93 ?_
      refine lv_aload_n hx hb dX2_takeBack_94 rfl (lv_at hl 0 rfl) ?_
      refine gt_X2_21 X O dX2_takeBack_95 ?_
      refine lv_aload_n hx hb dX2_takeBack_98 rfl (lv_at hl 0 rfl) ?_
      refine gt_X2_28 X O dX2_takeBack_99 ?_
      obtain ⟨i102, hw⟩ := hw
      refine q_ild X O 24 0 (by decide) rfl rfl i102 dX2_takeBack_102 ?_
      refine q_cvv (rest := []) X O hA 1 (c_X10_measureAnew hw) lk_X2_42 (by decide) rfl rfl rfl rfl rfl rfl ⟨Nat.le_of_ble_eq_true rfl, Nat.le_of_ble_eq_true rfl⟩ (Nat.le_of_ble_eq_true rfl) hl.1 ⟨Nat.zero_le _, Nat.zero_le _⟩ rfl dX2_takeBack_103 (fun u103 H locs hw O => ?_)
      refine lv_goto (tgt := 156) hx hb dX2_takeBack_106 (by decide) ?_
      exact q_vret X O hw dX2_takeBack_156
    · replace hw := hw.2
      by_cases s41_2 : ((su (su u 20 4 t0) 20 5 (((su u 20 4 t0) 20 5) - (1 : Int32))) 21 (Int32.toNatClampNeg ((su (su u 20 4 t0) 20 5 (((su u 20 4 t0) 20 5) - (1 : Int32))) 20 4))) = 2
      · have hw := hw.1 s41_2
        refine lv_tableIn (off := 68) (tgt := 109) hx hb dX2_takeBack_41 (by rw [s41_2]; decide) (by rw [s41_2]; decide) (by rw [s41_2]; decide) (by decide) ?_
        refine lv_aload_n hx hb dX2_takeBack_109 rfl (lv_at hl 1 rfl) ?_
        refine lv_aload_n hx hb dX2_takeBack_110 rfl (lv_at hl 0 rfl) ?_
        refine gt_X2_15 X O dX2_takeBack_111 ?_
        refine lv_aload_n hx hb dX2_takeBack_114 rfl (lv_at hl 0 rfl) ?_
        refine gt_X2_28 X O dX2_takeBack_115 ?_
        obtain ⟨i118, hw⟩ := hw
        refine q_ild X O 22 0 (by decide) rfl rfl i118 dX2_takeBack_118 ?_
        refine lv_aload_n hx hb dX2_takeBack_119 rfl (lv_at hl 0 rfl) ?_
        refine gt_X2_18 X O dX2_takeBack_120 ?_
        refine lv_aload_n hx hb dX2_takeBack_123 rfl (lv_at hl 0 rfl) ?_
        refine gt_X2_28 X O dX2_takeBack_124 ?_
        obtain ⟨i127, hw⟩ := hw
        refine q_ild X O 23 0 (by decide) rfl rfl i127 dX2_takeBack_127 ?_
        refine q_cvv (rest := []) X O hA 1 (c_X10_unbind hw) lk_X2_46 (by decide) rfl rfl rfl rfl rfl rfl ⟨Nat.le_of_ble_eq_true rfl, Nat.le_of_ble_eq_true rfl⟩ (Nat.le_of_ble_eq_true rfl) hl.1 ⟨Nat.zero_le _, Nat.zero_le _⟩ rfl dX2_takeBack_128 (fun u128 H locs hw O => ?_)
        refine lv_goto (tgt := 156) hx hb dX2_takeBack_131 (by decide) ?_
        exact q_vret X O hw dX2_takeBack_156
      · replace hw := hw.2
        have hw := hw s41_0 s41_1 s41_2
        refine lv_tableOut (tgt := 134) hx hb dX2_takeBack_41 (by have e0 := ts_ne (k := 0) (by decide) s41_0; have e1 := ts_ne (k := 1) (by decide) s41_1; have e2 := ts_ne (k := 2) (by decide) s41_2; omega) (by decide) ?_
        refine lv_aload_n hx hb dX2_takeBack_134 rfl (lv_at hl 1 rfl) ?_
        refine lv_aload_n hx hb dX2_takeBack_135 rfl (lv_at hl 0 rfl) ?_
        refine gt_X2_15 X O dX2_takeBack_136 ?_
        refine lv_aload_n hx hb dX2_takeBack_139 rfl (lv_at hl 0 rfl) ?_
        refine gt_X2_28 X O dX2_takeBack_140 ?_
        obtain ⟨i143, hw⟩ := hw
        refine q_ild X O 22 0 (by decide) rfl rfl i143 dX2_takeBack_143 ?_
        refine lv_aload_n hx hb dX2_takeBack_144 rfl (lv_at hl 0 rfl) ?_
        refine gt_X2_18 X O dX2_takeBack_145 ?_
        refine lv_aload_n hx hb dX2_takeBack_148 rfl (lv_at hl 0 rfl) ?_
        refine gt_X2_28 X O dX2_takeBack_149 ?_
        obtain ⟨i152, hw⟩ := hw
        refine q_ild X O 23 0 (by decide) rfl rfl i152 dX2_takeBack_152 ?_
        refine q_cvv (rest := []) X O hA 1 (c_X10_bind hw) lk_X2_50 (by decide) rfl rfl rfl rfl rfl rfl ⟨Nat.le_of_ble_eq_true rfl, Nat.le_of_ble_eq_true rfl⟩ (Nat.le_of_ble_eq_true rfl) hl.1 ⟨Nat.zero_le _, Nat.zero_le _⟩ rfl dX2_takeBack_153 (fun u153 H locs hw O => ?_)
        exact q_vret X O hw dX2_takeBack_156
def wp_X2_takeBack (u : St) (Post : Int32 → St → Prop) : Prop := ((¬ (u 20 4) = 0) → (wb_X2_takeBack_19 Post ((u 20 4) - (1 : Int32)) u)) ∧ (((u 20 4) = 0) → (wb_X2_takeBack_19 Post (11 : Int32) u))
set_option maxHeartbeats 4000000 in
set_option maxRecDepth 100000 in
theorem c_X2_takeBack {l : Launch} {D : va_G} {b : Nat → ClassId} {h : Nat → Nat} {u : St} {Post : Int32 → St → Prop} (hw : wp_X2_takeBack u Post) : CtV l yX2_takeBack cX2_takeBack 2 none rm_X2_takeBack D (tyF b) 46 (gF b h) h [.ref (h 20), .ref (h 1)] u Post := by
  refine CtV.of (plainFor_of_name (by decide)) (Nat.le_of_ble_eq_true rfl) ?_
  intro p e s m below meth c A ls X hA O hl
  have X : Cx p s m _ meth c cX2_takeBack 2 none RX2 D (tyF b) A := X
  obtain ⟨⟨hx, hb, hml, hown, hts⟩, hK, hNs, hlocks, hr⟩ := id X
  have hl : lv_has ls 2 [(0, .ref (h 20)), (1, .ref (h 1))] := hl
  unfold wp_X2_takeBack at hw
  refine lv_aload_n hx hb dX2_takeBack_0 rfl (lv_at hl 0 rfl) ?_
  refine lv_aload_n hx hb dX2_takeBack_1 rfl (lv_at hl 0 rfl) ?_
  refine gt_X2_28 X O dX2_takeBack_2 ?_
  refine lv_if_ne (tgt := 13) hx hb dX2_takeBack_5 (by decide) (fun c5 => ?_) (fun c5 => ?_)
  · have hw := hw.1 c5
    refine lv_aload_n hx hb dX2_takeBack_13 rfl (lv_at hl 0 rfl) ?_
    refine gt_X2_28 X O dX2_takeBack_14 ?_
    refine lv_iconst (v := 1) hx hb dX2_takeBack_17 (by decide) ?_
    refine lv_isub hx hb dX2_takeBack_18 ?_
    exact tb_X2_takeBack_19 X hA _ _ _ _ _ hw O (lv_sub hl [0, 1] rfl)
  · have hw := hw.2 c5
    refine lv_bipush (v := 11) hx hb dX2_takeBack_8 (by decide) ?_
    refine lv_goto (tgt := 19) hx hb dX2_takeBack_10 (by decide) ?_
    exact tb_X2_takeBack_19 X hA _ _ _ _ _ hw O (lv_sub hl [0, 1] rfl)
-- FellersOrder.undo()I
abbrev rm_X11_undo : Room := { frames := 5, cells := 0, slots := 0, locals := 111 }
def wp_X11_undo (u : St) (Post : Int32 → St → Prop) : Prop := wp_X2_size u (fun r4 u4 => ((¬ r4 = 0) → (wp_X2_takeBack u4 (fun _ u24 => wp_X6_empty u24 (fun _ u31 => wp_X11_done (1 : Int32) u31 (fun r36 u36 => Post r36 u36))))) ∧ ((r4 = 0) → (wp_X11_refused (3 : Int32) u4 (fun r12 u12 => Post r12 u12))))
set_option maxHeartbeats 4000000 in
set_option maxRecDepth 100000 in
theorem c_X11_undo {l : Launch} {D : va_G} {b : Nat → ClassId} {h : Nat → Nat} {u : St} {Post : Int32 → St → Prop} (hw : wp_X11_undo u Post) : CtI l yX11_undo cX11_undo 1 (some .int) rm_X11_undo D (tyF b) 46 (gF b h) h [.ref (h 0)] u Post := by
  refine CtI.of (plainFor_of_name (by decide)) (Nat.le_of_ble_eq_true rfl) ?_
  intro p e s m below meth c A ls X hA O hl
  have X : Cx p s m _ meth c cX11_undo 1 (some .int) RX11 D (tyF b) A := X
  obtain ⟨⟨hx, hb, hml, hown, hts⟩, hK, hNs, hlocks, hr⟩ := id X
  have hl : lv_has ls 1 [(0, .ref (h 0))] := hl
  unfold wp_X11_undo at hw
  refine lv_aload_n hx hb dX11_undo_0 rfl (lv_at hl 0 rfl) ?_
  refine gt_X11_33 X O dX11_undo_1 ?_
  refine q_civ (rest := []) X O hA 20 (c_X2_size hw) lk_X11_173 (by decide) rfl rfl rfl rfl rfl rfl ⟨Nat.le_of_ble_eq_true rfl, Nat.le_of_ble_eq_true rfl⟩ (Nat.le_of_ble_eq_true rfl) hl.1 ⟨Nat.zero_le _, Nat.zero_le _⟩ rfl dX11_undo_4 (fun r4 u4 H locs hw O => ?_)
  refine lv_if_ne (tgt := 16) hx hb dX11_undo_7 (by decide) (fun c7 => ?_) (fun c7 => ?_)
  · have hw := hw.1 c7
    refine lv_aload_n hx hb dX11_undo_16 rfl (lv_at hl 0 rfl) ?_
    refine gt_X11_33 X O dX11_undo_17 ?_
    refine lv_aload_n hx hb dX11_undo_20 rfl (lv_at hl 0 rfl) ?_
    refine gt_X11_10 X O dX11_undo_21 ?_
    refine q_cvv (rest := []) X O hA 20 (c_X2_takeBack hw) lk_X11_292 (by decide) rfl rfl rfl rfl rfl rfl ⟨Nat.le_of_ble_eq_true rfl, Nat.le_of_ble_eq_true rfl⟩ (Nat.le_of_ble_eq_true rfl) hl.1 ⟨Nat.zero_le _, Nat.zero_le _⟩ rfl dX11_undo_24 (fun u24 H locs hw O => ?_)
    refine lv_aload_n hx hb dX11_undo_27 rfl (lv_at hl 0 rfl) ?_
    refine gt_X11_26 X O dX11_undo_28 ?_
    refine q_cvv (rest := []) X O hA 18 (c_X6_empty hw) lk_X11_132 (by decide) rfl rfl rfl rfl rfl rfl ⟨Nat.le_of_ble_eq_true rfl, Nat.le_of_ble_eq_true rfl⟩ (Nat.le_of_ble_eq_true rfl) hl.1 ⟨Nat.zero_le _, Nat.zero_le _⟩ rfl dX11_undo_31 (fun u31 H locs hw O => ?_)
    refine lv_aload_n hx hb dX11_undo_34 rfl (lv_at hl 0 rfl) ?_
    refine lv_iconst (v := 1) hx hb dX11_undo_35 (by decide) ?_
    refine q_civ (rest := []) X O hA 0 (c_X11_done hw) lk_X11_90 (by decide) rfl rfl rfl rfl rfl rfl ⟨Nat.le_of_ble_eq_true rfl, Nat.le_of_ble_eq_true rfl⟩ (Nat.le_of_ble_eq_true rfl) hl.1 ⟨Nat.zero_le _, Nat.zero_le _⟩ rfl dX11_undo_36 (fun r36 u36 H locs hw O => ?_)
    exact q_iret X O hw dX11_undo_39
  · have hw := hw.2 c7
    refine lv_aload_n hx hb dX11_undo_10 rfl (lv_at hl 0 rfl) ?_
    refine lv_iconst (v := 3) hx hb dX11_undo_11 (by decide) ?_
    refine q_civ (rest := []) X O hA 0 (c_X11_refused hw) lk_X11_78 (by decide) rfl rfl rfl rfl rfl rfl ⟨Nat.le_of_ble_eq_true rfl, Nat.le_of_ble_eq_true rfl⟩ (Nat.le_of_ble_eq_true rfl) hl.1 ⟨Nat.zero_le _, Nat.zero_le _⟩ rfl dX11_undo_12 (fun r12 u12 H locs hw O => ?_)
    exact q_iret X O hw dX11_undo_15
-- FellersOrder.status()I
abbrev rm_X11_status : Room := { frames := 0, cells := 0, slots := 0, locals := 0 }
def wp_X11_status (u : St) (Post : Int32 → St → Prop) : Prop := Post (u 0 7) u
set_option maxHeartbeats 4000000 in
set_option maxRecDepth 100000 in
theorem c_X11_status {l : Launch} {D : va_G} {b : Nat → ClassId} {h : Nat → Nat} {u : St} {Post : Int32 → St → Prop} (hw : wp_X11_status u Post) : CtI l yX11_status cX11_status 1 (some .int) rm_X11_status D (tyF b) 46 (gF b h) h [.ref (h 0)] u Post := by
  refine CtI.of (plainFor_of_name (by decide)) (Nat.le_of_ble_eq_true rfl) ?_
  intro p e s m below meth c A ls X hA O hl
  have X : Cx p s m _ meth c cX11_status 1 (some .int) RX11 D (tyF b) A := X
  obtain ⟨⟨hx, hb, hml, hown, hts⟩, hK, hNs, hlocks, hr⟩ := id X
  have hl : lv_has ls 1 [(0, .ref (h 0))] := hl
  unfold wp_X11_status at hw
  refine lv_aload_n hx hb dX11_status_0 rfl (lv_at hl 0 rfl) ?_
  refine gt_X11_70 X O dX11_status_1 ?_
  exact q_iret X O hw dX11_status_4
end PT
