/-! the class, methods: X10_measure X10_measureAnew X11_set X10_bind X10_isAhead X10_isLaid X11_lay X10_unbind X11_free X6_append X6_placeOf X6_size X11_put X6_empty X11_clear J6_bitCount_0f7a4 X10_aheadOf X10_behind X10_kindOf X10_version X10_everyJob X10_isBeginning X10_lengthOf -/
theorem lk_X11_93 : LkV RX11 93 yX10_has cX10_has 2 (some .boolean) 1 := ⟨wd_10_14, wd_10_15, wd_10_16, wd_1_14, wd_10_17, by decide +kernel⟩
theorem lk_X11_97 : LkV RX11 97 yX10_measure cX10_measure 3 (some .int) 2 := ⟨wd_10_18, wd_10_19, wd_10_20, wd_1_14, wd_10_21, by decide +kernel⟩
theorem lk_X11_100 : LkV RX11 100 yX10_measureAnew cX10_measureAnew 4 none 3 := ⟨wd_10_22, wd_10_23, wd_11_0, wd_1_14, wd_11_1, by decide +kernel⟩
theorem lk_X11_108 : LkV RX11 108 yX10_isLaid cX10_isLaid 3 (some .boolean) 2 := ⟨wd_11_14, wd_11_15, wd_11_16, wd_1_14, wd_11_17, by decide +kernel⟩
theorem lk_X11_111 : LkV RX11 111 yX10_isAhead cX10_isAhead 3 (some .boolean) 2 := ⟨wd_11_18, wd_11_19, wd_11_20, wd_1_14, wd_11_21, by decide +kernel⟩
theorem lk_X11_114 : LkV RX11 114 yX10_bind cX10_bind 3 none 2 := ⟨wd_11_22, wd_11_23, wd_12_0, wd_1_14, wd_12_1, by decide +kernel⟩
theorem lk_X11_118 : LkV RX11 118 yX10_unbind cX10_unbind 3 none 2 := ⟨wd_12_18, wd_12_19, wd_12_20, wd_1_14, wd_12_21, by decide +kernel⟩
theorem lk_X11_121 : LkV RX11 121 yX6_placeOf cX6_placeOf 3 (some .int) 1 := ⟨wd_13_6, wd_13_7, wd_13_8, wd_1_22, wd_13_9, by decide +kernel⟩
theorem lk_X11_124 : LkV RX11 124 yX6_append cX6_append 2 none 1 := ⟨wd_13_11, wd_13_12, wd_13_13, wd_1_22, wd_13_14, by decide +kernel⟩
theorem lk_X11_128 : LkV RX11 128 yX6_size cX6_size 1 (some .int) 0 := ⟨wd_13_15, wd_13_16, wd_13_17, wd_1_22, wd_13_18, by decide +kernel⟩
theorem lk_X11_132 : LkV RX11 132 yX6_empty cX6_empty 1 none 0 := ⟨wd_14_8, wd_14_9, wd_14_10, wd_1_22, wd_14_11, by decide +kernel⟩
section PT
variable {p : Program} {l : Launch} {e : Env} {s : State} {m : MethodId} {args : Array Value} {below : List Frame} {meth : Method} {c : Code} {A : Nat → Prop} {D : va_G} {b : Nat → ClassId} {h : Nat → Nat}
-- FellersOrder$Yard.measure(II)I
abbrev rm_X10_measure : Room := { frames := 0, cells := 0, slots := 0, locals := 0 }
def wp_X10_measure (a1 : Int32) (a2 : Int32) (u : St) (Post : Int32 → St → Prop) : Prop := vp_in a2 3 ∧ (vp_in a1 12 ∧ (Post (u (3 + Int32.toNatClampNeg a2) (Int32.toNatClampNeg a1)) u))
set_option maxHeartbeats 4000000 in
set_option maxRecDepth 100000 in
theorem c_X10_measure {a1 : Int32} {a2 : Int32} {l : Launch} {D : va_G} {b : Nat → ClassId} {h : Nat → Nat} {u : St} {Post : Int32 → St → Prop} (hw : wp_X10_measure a1 a2 u Post) : CtI l yX10_measure cX10_measure 3 (some .int) rm_X10_measure D (tyF b) 46 (gF b h) h [.ref (h 1), .int a1, .int a2] u Post := by
  refine CtI.of (plainFor_of_name (by decide)) (Nat.le_of_ble_eq_true rfl) ?_
  intro p e s m below meth c A ls X hA O hl
  have X : Cx p s m _ meth c cX10_measure 3 (some .int) RX10 D (tyF b) A := X
  obtain ⟨⟨hx, hb, hml, hown, hts⟩, hK, hNs, hlocks, hr⟩ := id X
  have hl : lv_has ls 3 [(0, .ref (h 1)), (1, .int a1), (2, .int a2)] := hl
  unfold wp_X10_measure at hw
  refine lv_aload_n hx hb dX10_measure_0 rfl (lv_at hl 0 rfl) ?_
  refine gt_X10_13 X O dX10_measure_1 ?_
  refine lv_iload_n hx hb dX10_measure_4 rfl (lv_at hl 2 rfl) ?_
  obtain ⟨i5, hw⟩ := hw
  refine q_alA X O 2 1 (by decide) rfl rfl i5 (me_s i5) dX10_measure_5 ?_
  refine lv_iload_n hx hb dX10_measure_6 rfl (lv_at hl 1 rfl) ?_
  obtain ⟨i7, hw⟩ := hw
  refine q_ild X O (3 + Int32.toNatClampNeg a2) 0 (me_lt (vin_lt i5)) (gF_me (vin_lt i5) _) rfl i7 dX10_measure_7 ?_
  exact q_iret X O hw dX10_measure_8
-- FellersOrder$Yard.measureAnew(III)V
abbrev rm_X10_measureAnew : Room := { frames := 3, cells := 0, slots := 0, locals := 67 }
def wp_X10_measureAnew (a1 : Int32) (a2 : Int32) (a3 : Int32) (u : St) (Post : Int32 → St → Prop) : Prop := vp_in a2 3 ∧ (vp_in a1 12 ∧ (((a2 = (2 : Int32)) → (Post 0 (su u (3 + Int32.toNatClampNeg a2) (Int32.toNatClampNeg a1) a3))) ∧ ((¬ a2 = (2 : Int32)) → (wp_X10_renew (su u (3 + Int32.toNatClampNeg a2) (Int32.toNatClampNeg a1) a3) (fun _ u15 => Post 0 u15)))))
set_option maxHeartbeats 4000000 in
set_option maxRecDepth 100000 in
theorem c_X10_measureAnew {a1 : Int32} {a2 : Int32} {a3 : Int32} {l : Launch} {D : va_G} {b : Nat → ClassId} {h : Nat → Nat} {u : St} {Post : Int32 → St → Prop} (hw : wp_X10_measureAnew a1 a2 a3 u Post) : CtV l yX10_measureAnew cX10_measureAnew 4 none rm_X10_measureAnew D (tyF b) 46 (gF b h) h [.ref (h 1), .int a1, .int a2, .int a3] u Post := by
  refine CtV.of (plainFor_of_name (by decide)) (Nat.le_of_ble_eq_true rfl) ?_
  intro p e s m below meth c A ls X hA O hl
  have X : Cx p s m _ meth c cX10_measureAnew 4 none RX10 D (tyF b) A := X
  obtain ⟨⟨hx, hb, hml, hown, hts⟩, hK, hNs, hlocks, hr⟩ := id X
  have hl : lv_has ls 4 [(0, .ref (h 1)), (1, .int a1), (2, .int a2), (3, .int a3)] := hl
  unfold wp_X10_measureAnew at hw
  refine lv_aload_n hx hb dX10_measureAnew_0 rfl (lv_at hl 0 rfl) ?_
  refine gt_X10_13 X O dX10_measureAnew_1 ?_
  refine lv_iload_n hx hb dX10_measureAnew_4 rfl (lv_at hl 2 rfl) ?_
  obtain ⟨i5, hw⟩ := hw
  refine q_alA X O 2 1 (by decide) rfl rfl i5 (me_s i5) dX10_measureAnew_5 ?_
  refine lv_iload_n hx hb dX10_measureAnew_6 rfl (lv_at hl 1 rfl) ?_
  refine lv_iload_n hx hb dX10_measureAnew_7 rfl (lv_at hl 3 rfl) ?_
  obtain ⟨i8, hw⟩ := hw
  refine q_ist X O (3 + Int32.toNatClampNeg a2) 0 (me_lt (vin_lt i5)) (gF_me (vin_lt i5)) rfl i8 dX10_measureAnew_8 (fun H locs O => ?_)
  refine lv_iload_n hx hb dX10_measureAnew_9 rfl (lv_at hl 2 rfl) ?_
  refine lv_iconst (v := 2) hx hb dX10_measureAnew_10 (by decide) ?_
  refine lv_icmp_eq (tgt := 18) hx hb dX10_measureAnew_11 (by decide) (fun c11 => ?_) (fun c11 => ?_)
  · have hw := hw.1 c11
    exact q_vret X O hw dX10_measureAnew_18
  · have hw := hw.2 c11
    refine lv_aload_n hx hb dX10_measureAnew_14 rfl (lv_at hl 0 rfl) ?_
    refine q_cvv (rest := []) X O hA 1 (c_X10_renew hw) lk_X10_55 (by decide) rfl rfl rfl rfl rfl rfl ⟨Nat.le_of_ble_eq_true rfl, Nat.le_of_ble_eq_true rfl⟩ (Nat.le_of_ble_eq_true rfl) hl.1 ⟨Nat.zero_le _, Nat.zero_le _⟩ rfl dX10_measureAnew_15 (fun u15 H locs hw O => ?_)
    exact q_vret X O hw dX10_measureAnew_18
-- FellersOrder.set(III)I
abbrev rm_X11_set : Room := { frames := 4, cells := 0, slots := 0, locals := 90 }
def wp_X11_set (a1 : Int32) (a2 : Int32) (a3 : Int32) (u : St) (Post : Int32 → St → Prop) : Prop := wp_X10_has a1 u (fun r5 u5 => ((r5 = 0) → (wp_X11_refused (1 : Int32) u5 (fun r21 u21 => Post r21 u21))) ∧ ((¬ r5 = 0) → (wp_X10_allows a2 a3 u5 (fun r13 u13 => ((¬ r13 = 0) → (wp_X10_measure a1 a2 u13 (fun r31 u31 => wp_X10_measureAnew a1 a2 a3 u31 (fun _ u43 => wp_X2_keep (1 : Int32) a1 a2 r31 u43 (fun _ u55 => wp_X11_done r31 u55 (fun r61 u61 => Post r61 u61)))))) ∧ ((r13 = 0) → (wp_X11_refused (1 : Int32) u13 (fun r21 u21 => Post r21 u21)))))))
set_option maxHeartbeats 4000000 in
set_option maxRecDepth 100000 in
theorem c_X11_set {a1 : Int32} {a2 : Int32} {a3 : Int32} {l : Launch} {D : va_G} {b : Nat → ClassId} {h : Nat → Nat} {u : St} {Post : Int32 → St → Prop} (hw : wp_X11_set a1 a2 a3 u Post) : CtI l yX11_set cX11_set 5 (some .int) rm_X11_set D (tyF b) 46 (gF b h) h [.ref (h 0), .int a1, .int a2, .int a3] u Post := by
  refine CtI.of (plainFor_of_name (by decide)) (Nat.le_of_ble_eq_true rfl) ?_
  intro p e s m below meth c A ls X hA O hl
  have X : Cx p s m _ meth c cX11_set 5 (some .int) RX11 D (tyF b) A := X
  obtain ⟨⟨hx, hb, hml, hown, hts⟩, hK, hNs, hlocks, hr⟩ := id X
  have hl : lv_has ls 5 [(0, .ref (h 0)), (1, .int a1), (2, .int a2), (3, .int a3)] := hl
  unfold wp_X11_set at hw
  refine lv_aload_n hx hb dX11_set_0 rfl (lv_at hl 0 rfl) ?_
  refine gt_X11_10 X O dX11_set_1 ?_
  refine lv_iload_n hx hb dX11_set_4 rfl (lv_at hl 1 rfl) ?_
  refine q_civ (rest := []) X O hA 1 (c_X10_has hw) lk_X11_93 (by decide) rfl rfl rfl rfl rfl rfl ⟨Nat.le_of_ble_eq_true rfl, Nat.le_of_ble_eq_true rfl⟩ (Nat.le_of_ble_eq_true rfl) hl.1 ⟨Nat.zero_le _, Nat.zero_le _⟩ rfl dX11_set_5 (fun r5 u5 H locs hw O => ?_)
  refine lv_if_eq (tgt := 19) hx hb dX11_set_8 (by decide) (fun c8 => ?_) (fun c8 => ?_)
  · have hw := hw.1 c8
    refine lv_aload_n hx hb dX11_set_19 rfl (lv_at hl 0 rfl) ?_
    refine lv_iconst (v := 1) hx hb dX11_set_20 (by decide) ?_
    refine q_civ (rest := []) X O hA 0 (c_X11_refused hw) lk_X11_78 (by decide) rfl rfl rfl rfl rfl rfl ⟨Nat.le_of_ble_eq_true rfl, Nat.le_of_ble_eq_true rfl⟩ (Nat.le_of_ble_eq_true rfl) hl.1 ⟨Nat.zero_le _, Nat.zero_le _⟩ rfl dX11_set_21 (fun r21 u21 H locs hw O => ?_)
    exact q_iret X O hw dX11_set_24
  · have hw := hw.2 c8
    refine lv_iload_n hx hb dX11_set_11 rfl (lv_at hl 2 rfl) ?_
    refine lv_iload_n hx hb dX11_set_12 rfl (lv_at hl 3 rfl) ?_
    refine q_cis (rest := []) X O hA (c_X10_allows hw) lk_X11_74 rfl rfl rfl ⟨Nat.le_of_ble_eq_true rfl, Nat.le_of_ble_eq_true rfl⟩ (Nat.le_of_ble_eq_true rfl) hl.1 ⟨Nat.zero_le _, Nat.zero_le _⟩ rfl dX11_set_13 (fun r13 u13 H locs hw O => ?_)
    refine lv_if_ne (tgt := 25) hx hb dX11_set_16 (by decide) (fun c16 => ?_) (fun c16 => ?_)
    · have hw := hw.1 c16
      refine lv_aload_n hx hb dX11_set_25 rfl (lv_at hl 0 rfl) ?_
      refine gt_X11_10 X O dX11_set_26 ?_
      refine lv_iload_n hx hb dX11_set_29 rfl (lv_at hl 1 rfl) ?_
      refine lv_iload_n hx hb dX11_set_30 rfl (lv_at hl 2 rfl) ?_
      refine q_civ (rest := []) X O hA 1 (c_X10_measure hw) lk_X11_97 (by decide) rfl rfl rfl rfl rfl rfl ⟨Nat.le_of_ble_eq_true rfl, Nat.le_of_ble_eq_true rfl⟩ (Nat.le_of_ble_eq_true rfl) hl.1 ⟨Nat.zero_le _, Nat.zero_le _⟩ rfl dX11_set_31 (fun r31 u31 H locs hw O => ?_)
      refine lv_istore (lv' := [(4, .int r31), (0, .ref (h 0)), (1, .int a1), (2, .int a2), (3, .int a3)]) hx hb dX11_set_34 hl (by decide) rfl (fun ls hl => ?_)
      refine lv_aload_n hx hb dX11_set_36 rfl (lv_at hl 1 rfl) ?_
      refine gt_X11_10 X O dX11_set_37 ?_
      refine lv_iload_n hx hb dX11_set_40 rfl (lv_at hl 2 rfl) ?_
      refine lv_iload_n hx hb dX11_set_41 rfl (lv_at hl 3 rfl) ?_
      refine lv_iload_n hx hb dX11_set_42 rfl (lv_at hl 4 rfl) ?_
      refine q_cvv (rest := []) X O hA 1 (c_X10_measureAnew hw) lk_X11_100 (by decide) rfl rfl rfl rfl rfl rfl ⟨Nat.le_of_ble_eq_true rfl, Nat.le_of_ble_eq_true rfl⟩ (Nat.le_of_ble_eq_true rfl) hl.1 ⟨Nat.zero_le _, Nat.zero_le _⟩ rfl dX11_set_43 (fun u43 H locs hw O => ?_)
      refine lv_aload_n hx hb dX11_set_46 rfl (lv_at hl 1 rfl) ?_
      refine gt_X11_33 X O dX11_set_47 ?_
      refine lv_iconst (v := 1) hx hb dX11_set_50 (by decide) ?_
      refine lv_iload_n hx hb dX11_set_51 rfl (lv_at hl 2 rfl) ?_
      refine lv_iload_n hx hb dX11_set_52 rfl (lv_at hl 3 rfl) ?_
      refine lv_iload hx hb dX11_set_53 (lv_at hl 0 rfl) ?_
      refine q_cvv (rest := []) X O hA 20 (c_X2_keep hw) lk_X11_104 (by decide) rfl rfl rfl rfl rfl rfl ⟨Nat.le_of_ble_eq_true rfl, Nat.le_of_ble_eq_true rfl⟩ (Nat.le_of_ble_eq_true rfl) hl.1 ⟨Nat.zero_le _, Nat.zero_le _⟩ rfl dX11_set_55 (fun u55 H locs hw O => ?_)
      refine lv_aload_n hx hb dX11_set_58 rfl (lv_at hl 1 rfl) ?_
      refine lv_iload hx hb dX11_set_59 (lv_at hl 0 rfl) ?_
      refine q_civ (rest := []) X O hA 0 (c_X11_done hw) lk_X11_90 (by decide) rfl rfl rfl rfl rfl rfl ⟨Nat.le_of_ble_eq_true rfl, Nat.le_of_ble_eq_true rfl⟩ (Nat.le_of_ble_eq_true rfl) hl.1 ⟨Nat.zero_le _, Nat.zero_le _⟩ rfl dX11_set_61 (fun r61 u61 H locs hw O => ?_)
      exact q_iret X O hw dX11_set_64
    · have hw := hw.2 c16
      refine lv_aload_n hx hb dX11_set_19 rfl (lv_at hl 0 rfl) ?_
      refine lv_iconst (v := 1) hx hb dX11_set_20 (by decide) ?_
      refine q_civ (rest := []) X O hA 0 (c_X11_refused hw) lk_X11_78 (by decide) rfl rfl rfl rfl rfl rfl ⟨Nat.le_of_ble_eq_true rfl, Nat.le_of_ble_eq_true rfl⟩ (Nat.le_of_ble_eq_true rfl) hl.1 ⟨Nat.zero_le _, Nat.zero_le _⟩ rfl dX11_set_21 (fun r21 u21 H locs hw O => ?_)
      exact q_iret X O hw dX11_set_24
-- FellersOrder$Yard.bind(II)V
abbrev rm_X10_bind : Room := { frames := 3, cells := 0, slots := 0, locals := 67 }
def wp_X10_bind (a1 : Int32) (a2 : Int32) (u : St) (Post : Int32 → St → Prop) : Prop := vp_in a1 12 ∧ (vp_in a1 12 ∧ (wp_X10_renew (su (su u 6 (Int32.toNatClampNeg a1) ((u 6 (Int32.toNatClampNeg a1)) ||| ((1 : Int32) <<< (a2 &&& 31)))) 1 8 (((su u 6 (Int32.toNatClampNeg a1) ((u 6 (Int32.toNatClampNeg a1)) ||| ((1 : Int32) <<< (a2 &&& 31)))) 1 8) + (1 : Int32))) (fun _ u23 => Post 0 u23)))
set_option maxHeartbeats 4000000 in
set_option maxRecDepth 100000 in
theorem c_X10_bind {a1 : Int32} {a2 : Int32} {l : Launch} {D : va_G} {b : Nat → ClassId} {h : Nat → Nat} {u : St} {Post : Int32 → St → Prop} (hw : wp_X10_bind a1 a2 u Post) : CtV l yX10_bind cX10_bind 3 none rm_X10_bind D (tyF b) 46 (gF b h) h [.ref (h 1), .int a1, .int a2] u Post := by
  refine CtV.of (plainFor_of_name (by decide)) (Nat.le_of_ble_eq_true rfl) ?_
  intro p e s m below meth c A ls X hA O hl
  have X : Cx p s m _ meth c cX10_bind 3 none RX10 D (tyF b) A := X
  obtain ⟨⟨hx, hb, hml, hown, hts⟩, hK, hNs, hlocks, hr⟩ := id X
  have hl : lv_has ls 3 [(0, .ref (h 1)), (1, .int a1), (2, .int a2)] := hl
  unfold wp_X10_bind at hw
  refine lv_aload_n hx hb dX10_bind_0 rfl (lv_at hl 0 rfl) ?_
  refine gt_X10_16 X O dX10_bind_1 ?_
  refine lv_iload_n hx hb dX10_bind_4 rfl (lv_at hl 1 rfl) ?_
  refine lv_dup2_11 hx hb dX10_bind_5 rfl rfl ?_
  obtain ⟨i6, hw⟩ := hw
  refine q_ild X O 6 0 (by decide) rfl rfl i6 dX10_bind_6 ?_
  refine lv_iconst (v := 1) hx hb dX10_bind_7 (by decide) ?_
  refine lv_iload_n hx hb dX10_bind_8 rfl (lv_at hl 2 rfl) ?_
  refine lv_ishl hx hb dX10_bind_9 ?_
  refine lv_ior hx hb dX10_bind_10 ?_
  obtain ⟨i11, hw⟩ := hw
  refine q_ist X O 6 0 (by decide) (fun _ => rfl) rfl i11 dX10_bind_11 (fun H locs O => ?_)
  refine lv_aload_n hx hb dX10_bind_12 rfl (lv_at hl 0 rfl) ?_
  refine lv_dup hx hb dX10_bind_13 rfl ?_
  refine gt_X10_45 X O dX10_bind_14 ?_
  refine lv_iconst (v := 1) hx hb dX10_bind_17 (by decide) ?_
  refine lv_iadd hx hb dX10_bind_18 ?_
  refine pt_X10_45 X O dX10_bind_19 (fun H locs O => ?_)
  refine lv_aload_n hx hb dX10_bind_22 rfl (lv_at hl 0 rfl) ?_
  refine q_cvv (rest := []) X O hA 1 (c_X10_renew hw) lk_X10_55 (by decide) rfl rfl rfl rfl rfl rfl ⟨Nat.le_of_ble_eq_true rfl, Nat.le_of_ble_eq_true rfl⟩ (Nat.le_of_ble_eq_true rfl) hl.1 ⟨Nat.zero_le _, Nat.zero_le _⟩ rfl dX10_bind_23 (fun u23 H locs hw O => ?_)
  exact q_vret X O hw dX10_bind_26
-- FellersOrder$Yard.isAhead(II)Z
abbrev rm_X10_isAhead : Room := { frames := 1, cells := 0, slots := 0, locals := 21 }
def wp_X10_isAhead (a1 : Int32) (a2 : Int32) (u : St) (Post : Int32 → St → Prop) : Prop := vp_in a1 12 ∧ (wp_X11_hasBit (u 8 (Int32.toNatClampNeg a1)) a2 u (fun r7 u7 => (r7 = 0 ∨ r7 = 1) ∧ Post r7 u7))
set_option maxHeartbeats 4000000 in
set_option maxRecDepth 100000 in
theorem c_X10_isAhead {a1 : Int32} {a2 : Int32} {l : Launch} {D : va_G} {b : Nat → ClassId} {h : Nat → Nat} {u : St} {Post : Int32 → St → Prop} (hw : wp_X10_isAhead a1 a2 u Post) : CtI l yX10_isAhead cX10_isAhead 3 (some .boolean) rm_X10_isAhead D (tyF b) 46 (gF b h) h [.ref (h 1), .int a1, .int a2] u Post := by
  refine CtI.of (plainFor_of_name (by decide)) (Nat.le_of_ble_eq_true rfl) ?_
  intro p e s m below meth c A ls X hA O hl
  have X : Cx p s m _ meth c cX10_isAhead 3 (some .boolean) RX10 D (tyF b) A := X
  obtain ⟨⟨hx, hb, hml, hown, hts⟩, hK, hNs, hlocks, hr⟩ := id X
  have hl : lv_has ls 3 [(0, .ref (h 1)), (1, .int a1), (2, .int a2)] := hl
  unfold wp_X10_isAhead at hw
  refine lv_aload_n hx hb dX10_isAhead_0 rfl (lv_at hl 0 rfl) ?_
  refine gt_X10_23 X O dX10_isAhead_1 ?_
  refine lv_iload_n hx hb dX10_isAhead_4 rfl (lv_at hl 1 rfl) ?_
  obtain ⟨i5, hw⟩ := hw
  refine q_ild X O 8 0 (by decide) rfl rfl i5 dX10_isAhead_5 ?_
  refine lv_iload_n hx hb dX10_isAhead_6 rfl (lv_at hl 2 rfl) ?_
  refine q_cisN (rest := []) X O hA (c_X11_hasBit hw) lk_X10_51 rfl rfl rfl ⟨Nat.le_of_ble_eq_true rfl, Nat.le_of_ble_eq_true rfl⟩ (Nat.le_of_ble_eq_true rfl) hl.1 ⟨Nat.zero_le _, Nat.zero_le _⟩ rfl dX10_isAhead_7 (fun r7 u7 H locs hw O => ?_)
  exact q_zret X O (nb01 hw.1) hw.2 dX10_isAhead_10
-- FellersOrder$Yard.isLaid(II)Z
abbrev rm_X10_isLaid : Room := { frames := 1, cells := 0, slots := 0, locals := 21 }
def wp_X10_isLaid (a1 : Int32) (a2 : Int32) (u : St) (Post : Int32 → St → Prop) : Prop := vp_in a1 12 ∧ (wp_X11_hasBit (u 6 (Int32.toNatClampNeg a1)) a2 u (fun r7 u7 => (r7 = 0 ∨ r7 = 1) ∧ Post r7 u7))
set_option maxHeartbeats 4000000 in
set_option maxRecDepth 100000 in
theorem c_X10_isLaid {a1 : Int32} {a2 : Int32} {l : Launch} {D : va_G} {b : Nat → ClassId} {h : Nat → Nat} {u : St} {Post : Int32 → St → Prop} (hw : wp_X10_isLaid a1 a2 u Post) : CtI l yX10_isLaid cX10_isLaid 3 (some .boolean) rm_X10_isLaid D (tyF b) 46 (gF b h) h [.ref (h 1), .int a1, .int a2] u Post := by
  refine CtI.of (plainFor_of_name (by decide)) (Nat.le_of_ble_eq_true rfl) ?_
  intro p e s m below meth c A ls X hA O hl
  have X : Cx p s m _ meth c cX10_isLaid 3 (some .boolean) RX10 D (tyF b) A := X
  obtain ⟨⟨hx, hb, hml, hown, hts⟩, hK, hNs, hlocks, hr⟩ := id X
  have hl : lv_has ls 3 [(0, .ref (h 1)), (1, .int a1), (2, .int a2)] := hl
  unfold wp_X10_isLaid at hw
  refine lv_aload_n hx hb dX10_isLaid_0 rfl (lv_at hl 0 rfl) ?_
  refine gt_X10_16 X O dX10_isLaid_1 ?_
  refine lv_iload_n hx hb dX10_isLaid_4 rfl (lv_at hl 1 rfl) ?_
  obtain ⟨i5, hw⟩ := hw
  refine q_ild X O 6 0 (by decide) rfl rfl i5 dX10_isLaid_5 ?_
  refine lv_iload_n hx hb dX10_isLaid_6 rfl (lv_at hl 2 rfl) ?_
  refine q_cisN (rest := []) X O hA (c_X11_hasBit hw) lk_X10_51 rfl rfl rfl ⟨Nat.le_of_ble_eq_true rfl, Nat.le_of_ble_eq_true rfl⟩ (Nat.le_of_ble_eq_true rfl) hl.1 ⟨Nat.zero_le _, Nat.zero_le _⟩ rfl dX10_isLaid_7 (fun r7 u7 H locs hw O => ?_)
  exact q_zret X O (nb01 hw.1) hw.2 dX10_isLaid_10
-- FellersOrder.lay(II)I
abbrev rm_X11_lay : Room := { frames := 4, cells := 0, slots := 0, locals := 89 }
def wp_X11_lay (a1 : Int32) (a2 : Int32) (u : St) (Post : Int32 → St → Prop) : Prop := wp_X10_has a1 u (fun r5 u5 => ((r5 = 0) → (wp_X11_refused (1 : Int32) u5 (fun r24 u24 => Post r24 u24))) ∧ ((¬ r5 = 0) → (wp_X10_has a2 u5 (fun r16 u16 => ((¬ r16 = 0) → (((a1 = a2) → (wp_X11_refused (3 : Int32) u16 (fun r59 u59 => Post r59 u59))) ∧ ((¬ a1 = a2) → (wp_X10_isLaid a1 a2 u16 (fun r39 u39 => ((¬ r39 = 0) → (wp_X11_refused (3 : Int32) u39 (fun r59 u59 => Post r59 u59))) ∧ ((r39 = 0) → (wp_X10_isAhead a2 a1 u39 (fun r51 u51 => ((r51 = 0) → (wp_X10_bind a1 a2 u51 (fun _ u69 => wp_X2_keep (2 : Int32) a1 a2 (0 : Int32) u69 (fun _ u80 => wp_X11_done (1 : Int32) u80 (fun r85 u85 => Post r85 u85))))) ∧ ((¬ r51 = 0) → (wp_X11_refused (3 : Int32) u51 (fun r59 u59 => Post r59 u59))))))))))) ∧ ((r16 = 0) → (wp_X11_refused (1 : Int32) u16 (fun r24 u24 => Post r24 u24)))))))
set_option maxHeartbeats 4000000 in
set_option maxRecDepth 100000 in
theorem c_X11_lay {a1 : Int32} {a2 : Int32} {l : Launch} {D : va_G} {b : Nat → ClassId} {h : Nat → Nat} {u : St} {Post : Int32 → St → Prop} (hw : wp_X11_lay a1 a2 u Post) : CtI l yX11_lay cX11_lay 3 (some .int) rm_X11_lay D (tyF b) 46 (gF b h) h [.ref (h 0), .int a1, .int a2] u Post := by
  refine CtI.of (plainFor_of_name (by decide)) (Nat.le_of_ble_eq_true rfl) ?_
  intro p e s m below meth c A ls X hA O hl
  have X : Cx p s m _ meth c cX11_lay 3 (some .int) RX11 D (tyF b) A := X
  obtain ⟨⟨hx, hb, hml, hown, hts⟩, hK, hNs, hlocks, hr⟩ := id X
  have hl : lv_has ls 3 [(0, .ref (h 0)), (1, .int a1), (2, .int a2)] := hl
  unfold wp_X11_lay at hw
  refine lv_aload_n hx hb dX11_lay_0 rfl (lv_at hl 0 rfl) ?_
  refine gt_X11_10 X O dX11_lay_1 ?_
  refine lv_iload_n hx hb dX11_lay_4 rfl (lv_at hl 1 rfl) ?_
  refine q_civ (rest := []) X O hA 1 (c_X10_has hw) lk_X11_93 (by decide) rfl rfl rfl rfl rfl rfl ⟨Nat.le_of_ble_eq_true rfl, Nat.le_of_ble_eq_true rfl⟩ (Nat.le_of_ble_eq_true rfl) hl.1 ⟨Nat.zero_le _, Nat.zero_le _⟩ rfl dX11_lay_5 (fun r5 u5 H locs hw O => ?_)
  refine lv_if_eq (tgt := 22) hx hb dX11_lay_8 (by decide) (fun c8 => ?_) (fun c8 => ?_)
  · have hw := hw.1 c8
    refine lv_aload_n hx hb dX11_lay_22 rfl (lv_at hl 0 rfl) ?_
    refine lv_iconst (v := 1) hx hb dX11_lay_23 (by decide) ?_
    refine q_civ (rest := []) X O hA 0 (c_X11_refused hw) lk_X11_78 (by decide) rfl rfl rfl rfl rfl rfl ⟨Nat.le_of_ble_eq_true rfl, Nat.le_of_ble_eq_true rfl⟩ (Nat.le_of_ble_eq_true rfl) hl.1 ⟨Nat.zero_le _, Nat.zero_le _⟩ rfl dX11_lay_24 (fun r24 u24 H locs hw O => ?_)
    exact q_iret X O hw dX11_lay_27
  · have hw := hw.2 c8
    refine lv_aload_n hx hb dX11_lay_11 rfl (lv_at hl 0 rfl) ?_
    refine gt_X11_10 X O dX11_lay_12 ?_
    refine lv_iload_n hx hb dX11_lay_15 rfl (lv_at hl 2 rfl) ?_
    refine q_civ (rest := []) X O hA 1 (c_X10_has hw) lk_X11_93 (by decide) rfl rfl rfl rfl rfl rfl ⟨Nat.le_of_ble_eq_true rfl, Nat.le_of_ble_eq_true rfl⟩ (Nat.le_of_ble_eq_true rfl) hl.1 ⟨Nat.zero_le _, Nat.zero_le _⟩ rfl dX11_lay_16 (fun r16 u16 H locs hw O => ?_)
    refine lv_if_ne (tgt := 28) hx hb dX11_lay_19 (by decide) (fun c19 => ?_) (fun c19 => ?_)
    · have hw := hw.1 c19
      refine lv_iload_n hx hb dX11_lay_28 rfl (lv_at hl 1 rfl) ?_
      refine lv_iload_n hx hb dX11_lay_29 rfl (lv_at hl 2 rfl) ?_
      refine lv_icmp_eq (tgt := 57) hx hb dX11_lay_30 (by decide) (fun c30 => ?_) (fun c30 => ?_)
      · have hw := hw.1 c30
        refine lv_aload_n hx hb dX11_lay_57 rfl (lv_at hl 0 rfl) ?_
        refine lv_iconst (v := 3) hx hb dX11_lay_58 (by decide) ?_
        refine q_civ (rest := []) X O hA 0 (c_X11_refused hw) lk_X11_78 (by decide) rfl rfl rfl rfl rfl rfl ⟨Nat.le_of_ble_eq_true rfl, Nat.le_of_ble_eq_true rfl⟩ (Nat.le_of_ble_eq_true rfl) hl.1 ⟨Nat.zero_le _, Nat.zero_le _⟩ rfl dX11_lay_59 (fun r59 u59 H locs hw O => ?_)
        exact q_iret X O hw dX11_lay_62
      · have hw := hw.2 c30
        refine lv_aload_n hx hb dX11_lay_33 rfl (lv_at hl 0 rfl) ?_
        refine gt_X11_10 X O dX11_lay_34 ?_
        refine lv_iload_n hx hb dX11_lay_37 rfl (lv_at hl 1 rfl) ?_
        refine lv_iload_n hx hb dX11_lay_38 rfl (lv_at hl 2 rfl) ?_
        refine q_civ (rest := []) X O hA 1 (c_X10_isLaid hw) lk_X11_108 (by decide) rfl rfl rfl rfl rfl rfl ⟨Nat.le_of_ble_eq_true rfl, Nat.le_of_ble_eq_true rfl⟩ (Nat.le_of_ble_eq_true rfl) hl.1 ⟨Nat.zero_le _, Nat.zero_le _⟩ rfl dX11_lay_39 (fun r39 u39 H locs hw O => ?_)
        refine lv_if_ne (tgt := 57) hx hb dX11_lay_42 (by decide) (fun c42 => ?_) (fun c42 => ?_)
        · have hw := hw.1 c42
          refine lv_aload_n hx hb dX11_lay_57 rfl (lv_at hl 0 rfl) ?_
          refine lv_iconst (v := 3) hx hb dX11_lay_58 (by decide) ?_
          refine q_civ (rest := []) X O hA 0 (c_X11_refused hw) lk_X11_78 (by decide) rfl rfl rfl rfl rfl rfl ⟨Nat.le_of_ble_eq_true rfl, Nat.le_of_ble_eq_true rfl⟩ (Nat.le_of_ble_eq_true rfl) hl.1 ⟨Nat.zero_le _, Nat.zero_le _⟩ rfl dX11_lay_59 (fun r59 u59 H locs hw O => ?_)
          exact q_iret X O hw dX11_lay_62
        · have hw := hw.2 c42
          refine lv_aload_n hx hb dX11_lay_45 rfl (lv_at hl 0 rfl) ?_
          refine gt_X11_10 X O dX11_lay_46 ?_
          refine lv_iload_n hx hb dX11_lay_49 rfl (lv_at hl 2 rfl) ?_
          refine lv_iload_n hx hb dX11_lay_50 rfl (lv_at hl 1 rfl) ?_
          refine q_civ (rest := []) X O hA 1 (c_X10_isAhead hw) lk_X11_111 (by decide) rfl rfl rfl rfl rfl rfl ⟨Nat.le_of_ble_eq_true rfl, Nat.le_of_ble_eq_true rfl⟩ (Nat.le_of_ble_eq_true rfl) hl.1 ⟨Nat.zero_le _, Nat.zero_le _⟩ rfl dX11_lay_51 (fun r51 u51 H locs hw O => ?_)
          refine lv_if_eq (tgt := 63) hx hb dX11_lay_54 (by decide) (fun c54 => ?_) (fun c54 => ?_)
          · have hw := hw.1 c54
            refine lv_aload_n hx hb dX11_lay_63 rfl (lv_at hl 0 rfl) ?_
            refine gt_X11_10 X O dX11_lay_64 ?_
            refine lv_iload_n hx hb dX11_lay_67 rfl (lv_at hl 1 rfl) ?_
            refine lv_iload_n hx hb dX11_lay_68 rfl (lv_at hl 2 rfl) ?_
            refine q_cvv (rest := []) X O hA 1 (c_X10_bind hw) lk_X11_114 (by decide) rfl rfl rfl rfl rfl rfl ⟨Nat.le_of_ble_eq_true rfl, Nat.le_of_ble_eq_true rfl⟩ (Nat.le_of_ble_eq_true rfl) hl.1 ⟨Nat.zero_le _, Nat.zero_le _⟩ rfl dX11_lay_69 (fun u69 H locs hw O => ?_)
            refine lv_aload_n hx hb dX11_lay_72 rfl (lv_at hl 0 rfl) ?_
            refine gt_X11_33 X O dX11_lay_73 ?_
            refine lv_iconst (v := 2) hx hb dX11_lay_76 (by decide) ?_
            refine lv_iload_n hx hb dX11_lay_77 rfl (lv_at hl 1 rfl) ?_
            refine lv_iload_n hx hb dX11_lay_78 rfl (lv_at hl 2 rfl) ?_
            refine lv_iconst (v := 0) hx hb dX11_lay_79 (by decide) ?_
            refine q_cvv (rest := []) X O hA 20 (c_X2_keep hw) lk_X11_104 (by decide) rfl rfl rfl rfl rfl rfl ⟨Nat.le_of_ble_eq_true rfl, Nat.le_of_ble_eq_true rfl⟩ (Nat.le_of_ble_eq_true rfl) hl.1 ⟨Nat.zero_le _, Nat.zero_le _⟩ rfl dX11_lay_80 (fun u80 H locs hw O => ?_)
            refine lv_aload_n hx hb dX11_lay_83 rfl (lv_at hl 0 rfl) ?_
            refine lv_iconst (v := 1) hx hb dX11_lay_84 (by decide) ?_
            refine q_civ (rest := []) X O hA 0 (c_X11_done hw) lk_X11_90 (by decide) rfl rfl rfl rfl rfl rfl ⟨Nat.le_of_ble_eq_true rfl, Nat.le_of_ble_eq_true rfl⟩ (Nat.le_of_ble_eq_true rfl) hl.1 ⟨Nat.zero_le _, Nat.zero_le _⟩ rfl dX11_lay_85 (fun r85 u85 H locs hw O => ?_)
            exact q_iret X O hw dX11_lay_88
          · have hw := hw.2 c54
            refine lv_aload_n hx hb dX11_lay_57 rfl (lv_at hl 0 rfl) ?_
            refine lv_iconst (v := 3) hx hb dX11_lay_58 (by decide) ?_
            refine q_civ (rest := []) X O hA 0 (c_X11_refused hw) lk_X11_78 (by decide) rfl rfl rfl rfl rfl rfl ⟨Nat.le_of_ble_eq_true rfl, Nat.le_of_ble_eq_true rfl⟩ (Nat.le_of_ble_eq_true rfl) hl.1 ⟨Nat.zero_le _, Nat.zero_le _⟩ rfl dX11_lay_59 (fun r59 u59 H locs hw O => ?_)
            exact q_iret X O hw dX11_lay_62
    · have hw := hw.2 c19
      refine lv_aload_n hx hb dX11_lay_22 rfl (lv_at hl 0 rfl) ?_
      refine lv_iconst (v := 1) hx hb dX11_lay_23 (by decide) ?_
      refine q_civ (rest := []) X O hA 0 (c_X11_refused hw) lk_X11_78 (by decide) rfl rfl rfl rfl rfl rfl ⟨Nat.le_of_ble_eq_true rfl, Nat.le_of_ble_eq_true rfl⟩ (Nat.le_of_ble_eq_true rfl) hl.1 ⟨Nat.zero_le _, Nat.zero_le _⟩ rfl dX11_lay_24 (fun r24 u24 H locs hw O => ?_)
      exact q_iret X O hw dX11_lay_27
-- FellersOrder$Yard.unbind(II)V
abbrev rm_X10_unbind : Room := { frames := 3, cells := 0, slots := 0, locals := 67 }
def wp_X10_unbind (a1 : Int32) (a2 : Int32) (u : St) (Post : Int32 → St → Prop) : Prop := vp_in a1 12 ∧ (vp_in a1 12 ∧ (wp_X10_renew (su (su u 6 (Int32.toNatClampNeg a1) ((u 6 (Int32.toNatClampNeg a1)) &&& (((1 : Int32) <<< (a2 &&& 31)) ^^^ (-1 : Int32)))) 1 8 (((su u 6 (Int32.toNatClampNeg a1) ((u 6 (Int32.toNatClampNeg a1)) &&& (((1 : Int32) <<< (a2 &&& 31)) ^^^ (-1 : Int32)))) 1 8) - (1 : Int32))) (fun _ u25 => Post 0 u25)))
set_option maxHeartbeats 4000000 in
set_option maxRecDepth 100000 in
theorem c_X10_unbind {a1 : Int32} {a2 : Int32} {l : Launch} {D : va_G} {b : Nat → ClassId} {h : Nat → Nat} {u : St} {Post : Int32 → St → Prop} (hw : wp_X10_unbind a1 a2 u Post) : CtV l yX10_unbind cX10_unbind 3 none rm_X10_unbind D (tyF b) 46 (gF b h) h [.ref (h 1), .int a1, .int a2] u Post := by
  refine CtV.of (plainFor_of_name (by decide)) (Nat.le_of_ble_eq_true rfl) ?_
  intro p e s m below meth c A ls X hA O hl
  have X : Cx p s m _ meth c cX10_unbind 3 none RX10 D (tyF b) A := X
  obtain ⟨⟨hx, hb, hml, hown, hts⟩, hK, hNs, hlocks, hr⟩ := id X
  have hl : lv_has ls 3 [(0, .ref (h 1)), (1, .int a1), (2, .int a2)] := hl
  unfold wp_X10_unbind at hw
  refine lv_aload_n hx hb dX10_unbind_0 rfl (lv_at hl 0 rfl) ?_
  refine gt_X10_16 X O dX10_unbind_1 ?_
  refine lv_iload_n hx hb dX10_unbind_4 rfl (lv_at hl 1 rfl) ?_
  refine lv_dup2_11 hx hb dX10_unbind_5 rfl rfl ?_
  obtain ⟨i6, hw⟩ := hw
  refine q_ild X O 6 0 (by decide) rfl rfl i6 dX10_unbind_6 ?_
  refine lv_iconst (v := 1) hx hb dX10_unbind_7 (by decide) ?_
  refine lv_iload_n hx hb dX10_unbind_8 rfl (lv_at hl 2 rfl) ?_
  refine lv_ishl hx hb dX10_unbind_9 ?_
  refine lv_iconst (v := -1) hx hb dX10_unbind_10 (by decide) ?_
  refine lv_ixor hx hb dX10_unbind_11 ?_
  refine lv_iand hx hb dX10_unbind_12 ?_
  obtain ⟨i13, hw⟩ := hw
  refine q_ist X O 6 0 (by decide) (fun _ => rfl) rfl i13 dX10_unbind_13 (fun H locs O => ?_)
  refine lv_aload_n hx hb dX10_unbind_14 rfl (lv_at hl 0 rfl) ?_
  refine lv_dup hx hb dX10_unbind_15 rfl ?_
  refine gt_X10_45 X O dX10_unbind_16 ?_
  refine lv_iconst (v := 1) hx hb dX10_unbind_19 (by decide) ?_
  refine lv_isub hx hb dX10_unbind_20 ?_
  refine pt_X10_45 X O dX10_unbind_21 (fun H locs O => ?_)
  refine lv_aload_n hx hb dX10_unbind_24 rfl (lv_at hl 0 rfl) ?_
  refine q_cvv (rest := []) X O hA 1 (c_X10_renew hw) lk_X10_55 (by decide) rfl rfl rfl rfl rfl rfl ⟨Nat.le_of_ble_eq_true rfl, Nat.le_of_ble_eq_true rfl⟩ (Nat.le_of_ble_eq_true rfl) hl.1 ⟨Nat.zero_le _, Nat.zero_le _⟩ rfl dX10_unbind_25 (fun u25 H locs hw O => ?_)
  exact q_vret X O hw dX10_unbind_28
-- FellersOrder.free(II)I
abbrev rm_X11_free : Room := { frames := 4, cells := 0, slots := 0, locals := 89 }
def wp_X11_free (a1 : Int32) (a2 : Int32) (u : St) (Post : Int32 → St → Prop) : Prop := wp_X10_has a1 u (fun r5 u5 => ((r5 = 0) → (wp_X11_refused (1 : Int32) u5 (fun r24 u24 => Post r24 u24))) ∧ ((¬ r5 = 0) → (wp_X10_has a2 u5 (fun r16 u16 => ((¬ r16 = 0) → (wp_X10_isLaid a1 a2 u16 (fun r34 u34 => ((¬ r34 = 0) → (wp_X10_unbind a1 a2 u34 (fun _ u52 => wp_X2_keep (3 : Int32) a1 a2 (0 : Int32) u52 (fun _ u63 => wp_X11_done (1 : Int32) u63 (fun r68 u68 => Post r68 u68))))) ∧ ((r34 = 0) → (wp_X11_refused (3 : Int32) u34 (fun r42 u42 => Post r42 u42)))))) ∧ ((r16 = 0) → (wp_X11_refused (1 : Int32) u16 (fun r24 u24 => Post r24 u24)))))))
set_option maxHeartbeats 4000000 in
set_option maxRecDepth 100000 in
theorem c_X11_free {a1 : Int32} {a2 : Int32} {l : Launch} {D : va_G} {b : Nat → ClassId} {h : Nat → Nat} {u : St} {Post : Int32 → St → Prop} (hw : wp_X11_free a1 a2 u Post) : CtI l yX11_free cX11_free 3 (some .int) rm_X11_free D (tyF b) 46 (gF b h) h [.ref (h 0), .int a1, .int a2] u Post := by
  refine CtI.of (plainFor_of_name (by decide)) (Nat.le_of_ble_eq_true rfl) ?_
  intro p e s m below meth c A ls X hA O hl
  have X : Cx p s m _ meth c cX11_free 3 (some .int) RX11 D (tyF b) A := X
  obtain ⟨⟨hx, hb, hml, hown, hts⟩, hK, hNs, hlocks, hr⟩ := id X
  have hl : lv_has ls 3 [(0, .ref (h 0)), (1, .int a1), (2, .int a2)] := hl
  unfold wp_X11_free at hw
  refine lv_aload_n hx hb dX11_free_0 rfl (lv_at hl 0 rfl) ?_
  refine gt_X11_10 X O dX11_free_1 ?_
  refine lv_iload_n hx hb dX11_free_4 rfl (lv_at hl 1 rfl) ?_
  refine q_civ (rest := []) X O hA 1 (c_X10_has hw) lk_X11_93 (by decide) rfl rfl rfl rfl rfl rfl ⟨Nat.le_of_ble_eq_true rfl, Nat.le_of_ble_eq_true rfl⟩ (Nat.le_of_ble_eq_true rfl) hl.1 ⟨Nat.zero_le _, Nat.zero_le _⟩ rfl dX11_free_5 (fun r5 u5 H locs hw O => ?_)
  refine lv_if_eq (tgt := 22) hx hb dX11_free_8 (by decide) (fun c8 => ?_) (fun c8 => ?_)
  · have hw := hw.1 c8
    refine lv_aload_n hx hb dX11_free_22 rfl (lv_at hl 0 rfl) ?_
    refine lv_iconst (v := 1) hx hb dX11_free_23 (by decide) ?_
    refine q_civ (rest := []) X O hA 0 (c_X11_refused hw) lk_X11_78 (by decide) rfl rfl rfl rfl rfl rfl ⟨Nat.le_of_ble_eq_true rfl, Nat.le_of_ble_eq_true rfl⟩ (Nat.le_of_ble_eq_true rfl) hl.1 ⟨Nat.zero_le _, Nat.zero_le _⟩ rfl dX11_free_24 (fun r24 u24 H locs hw O => ?_)
    exact q_iret X O hw dX11_free_27
  · have hw := hw.2 c8
    refine lv_aload_n hx hb dX11_free_11 rfl (lv_at hl 0 rfl) ?_
    refine gt_X11_10 X O dX11_free_12 ?_
    refine lv_iload_n hx hb dX11_free_15 rfl (lv_at hl 2 rfl) ?_
    refine q_civ (rest := []) X O hA 1 (c_X10_has hw) lk_X11_93 (by decide) rfl rfl rfl rfl rfl rfl ⟨Nat.le_of_ble_eq_true rfl, Nat.le_of_ble_eq_true rfl⟩ (Nat.le_of_ble_eq_true rfl) hl.1 ⟨Nat.zero_le _, Nat.zero_le _⟩ rfl dX11_free_16 (fun r16 u16 H locs hw O => ?_)
    refine lv_if_ne (tgt := 28) hx hb dX11_free_19 (by decide) (fun c19 => ?_) (fun c19 => ?_)
    · have hw := hw.1 c19
      refine lv_aload_n hx hb dX11_free_28 rfl (lv_at hl 0 rfl) ?_
      refine gt_X11_10 X O dX11_free_29 ?_
      refine lv_iload_n hx hb dX11_free_32 rfl (lv_at hl 1 rfl) ?_
      refine lv_iload_n hx hb dX11_free_33 rfl (lv_at hl 2 rfl) ?_
      refine q_civ (rest := []) X O hA 1 (c_X10_isLaid hw) lk_X11_108 (by decide) rfl rfl rfl rfl rfl rfl ⟨Nat.le_of_ble_eq_true rfl, Nat.le_of_ble_eq_true rfl⟩ (Nat.le_of_ble_eq_true rfl) hl.1 ⟨Nat.zero_le _, Nat.zero_le _⟩ rfl dX11_free_34 (fun r34 u34 H locs hw O => ?_)
      refine lv_if_ne (tgt := 46) hx hb dX11_free_37 (by decide) (fun c37 => ?_) (fun c37 => ?_)
      · have hw := hw.1 c37
        refine lv_aload_n hx hb dX11_free_46 rfl (lv_at hl 0 rfl) ?_
        refine gt_X11_10 X O dX11_free_47 ?_
        refine lv_iload_n hx hb dX11_free_50 rfl (lv_at hl 1 rfl) ?_
        refine lv_iload_n hx hb dX11_free_51 rfl (lv_at hl 2 rfl) ?_
        refine q_cvv (rest := []) X O hA 1 (c_X10_unbind hw) lk_X11_118 (by decide) rfl rfl rfl rfl rfl rfl ⟨Nat.le_of_ble_eq_true rfl, Nat.le_of_ble_eq_true rfl⟩ (Nat.le_of_ble_eq_true rfl) hl.1 ⟨Nat.zero_le _, Nat.zero_le _⟩ rfl dX11_free_52 (fun u52 H locs hw O => ?_)
        refine lv_aload_n hx hb dX11_free_55 rfl (lv_at hl 0 rfl) ?_
        refine gt_X11_33 X O dX11_free_56 ?_
        refine lv_iconst (v := 3) hx hb dX11_free_59 (by decide) ?_
        refine lv_iload_n hx hb dX11_free_60 rfl (lv_at hl 1 rfl) ?_
        refine lv_iload_n hx hb dX11_free_61 rfl (lv_at hl 2 rfl) ?_
        refine lv_iconst (v := 0) hx hb dX11_free_62 (by decide) ?_
        refine q_cvv (rest := []) X O hA 20 (c_X2_keep hw) lk_X11_104 (by decide) rfl rfl rfl rfl rfl rfl ⟨Nat.le_of_ble_eq_true rfl, Nat.le_of_ble_eq_true rfl⟩ (Nat.le_of_ble_eq_true rfl) hl.1 ⟨Nat.zero_le _, Nat.zero_le _⟩ rfl dX11_free_63 (fun u63 H locs hw O => ?_)
        refine lv_aload_n hx hb dX11_free_66 rfl (lv_at hl 0 rfl) ?_
        refine lv_iconst (v := 1) hx hb dX11_free_67 (by decide) ?_
        refine q_civ (rest := []) X O hA 0 (c_X11_done hw) lk_X11_90 (by decide) rfl rfl rfl rfl rfl rfl ⟨Nat.le_of_ble_eq_true rfl, Nat.le_of_ble_eq_true rfl⟩ (Nat.le_of_ble_eq_true rfl) hl.1 ⟨Nat.zero_le _, Nat.zero_le _⟩ rfl dX11_free_68 (fun r68 u68 H locs hw O => ?_)
        exact q_iret X O hw dX11_free_71
      · have hw := hw.2 c37
        refine lv_aload_n hx hb dX11_free_40 rfl (lv_at hl 0 rfl) ?_
        refine lv_iconst (v := 3) hx hb dX11_free_41 (by decide) ?_
        refine q_civ (rest := []) X O hA 0 (c_X11_refused hw) lk_X11_78 (by decide) rfl rfl rfl rfl rfl rfl ⟨Nat.le_of_ble_eq_true rfl, Nat.le_of_ble_eq_true rfl⟩ (Nat.le_of_ble_eq_true rfl) hl.1 ⟨Nat.zero_le _, Nat.zero_le _⟩ rfl dX11_free_42 (fun r42 u42 H locs hw O => ?_)
        exact q_iret X O hw dX11_free_45
    · have hw := hw.2 c19
      refine lv_aload_n hx hb dX11_free_22 rfl (lv_at hl 0 rfl) ?_
      refine lv_iconst (v := 1) hx hb dX11_free_23 (by decide) ?_
      refine q_civ (rest := []) X O hA 0 (c_X11_refused hw) lk_X11_78 (by decide) rfl rfl rfl rfl rfl rfl ⟨Nat.le_of_ble_eq_true rfl, Nat.le_of_ble_eq_true rfl⟩ (Nat.le_of_ble_eq_true rfl) hl.1 ⟨Nat.zero_le _, Nat.zero_le _⟩ rfl dX11_free_24 (fun r24 u24 H locs hw O => ?_)
      exact q_iret X O hw dX11_free_27
-- FellersOrder$Line.append(I)V
abbrev rm_X6_append : Room := { frames := 0, cells := 0, slots := 0, locals := 0 }
def wp_X6_append (a1 : Int32) (u : St) (Post : Int32 → St → Prop) : Prop := (((12 : Int32) ≤ (u 18 1)) → (Post 0 u)) ∧ ((¬ (12 : Int32) ≤ (u 18 1)) → (vp_in (u 18 1) 12 ∧ (Post 0 (su (su u 19 (Int32.toNatClampNeg (u 18 1)) a1) 18 1 (((su u 19 (Int32.toNatClampNeg (u 18 1)) a1) 18 1) + (1 : Int32))))))
set_option maxHeartbeats 4000000 in
set_option maxRecDepth 100000 in
theorem c_X6_append {a1 : Int32} {l : Launch} {D : va_G} {b : Nat → ClassId} {h : Nat → Nat} {u : St} {Post : Int32 → St → Prop} (hw : wp_X6_append a1 u Post) : CtV l yX6_append cX6_append 2 none rm_X6_append D (tyF b) 46 (gF b h) h [.ref (h 18), .int a1] u Post := by
  refine CtV.of (plainFor_of_name (by decide)) (Nat.le_of_ble_eq_true rfl) ?_
  intro p e s m below meth c A ls X hA O hl
  have X : Cx p s m _ meth c cX6_append 2 none RX6 D (tyF b) A := X
  obtain ⟨⟨hx, hb, hml, hown, hts⟩, hK, hNs, hlocks, hr⟩ := id X
  have hl : lv_has ls 2 [(0, .ref (h 18)), (1, .int a1)] := hl
  unfold wp_X6_append at hw
  refine lv_aload_n hx hb dX6_append_0 rfl (lv_at hl 0 rfl) ?_
  refine gt_X6_15 X O dX6_append_1 ?_
  refine lv_bipush (v := 12) hx hb dX6_append_4 (by decide) ?_
  refine lv_icmp_ge (tgt := 29) hx hb dX6_append_6 (by decide) (fun c6 => ?_) (fun c6 => ?_)
  · have hw := hw.1 c6
    exact q_vret X O hw dX6_append_29
  · have hw := hw.2 c6
    refine lv_aload_n hx hb dX6_append_9 rfl (lv_at hl 0 rfl) ?_
    refine gt_X6_9 X O dX6_append_10 ?_
    refine lv_aload_n hx hb dX6_append_13 rfl (lv_at hl 0 rfl) ?_
    refine gt_X6_15 X O dX6_append_14 ?_
    refine lv_iload_n hx hb dX6_append_17 rfl (lv_at hl 1 rfl) ?_
    obtain ⟨i18, hw⟩ := hw
    refine q_ist X O 19 0 (by decide) (fun _ => rfl) rfl i18 dX6_append_18 (fun H locs O => ?_)
    refine lv_aload_n hx hb dX6_append_19 rfl (lv_at hl 0 rfl) ?_
    refine lv_dup hx hb dX6_append_20 rfl ?_
    refine gt_X6_15 X O dX6_append_21 ?_
    refine lv_iconst (v := 1) hx hb dX6_append_24 (by decide) ?_
    refine lv_iadd hx hb dX6_append_25 ?_
    refine pt_X6_15 X O dX6_append_26 (fun H locs O => ?_)
    exact q_vret X O hw dX6_append_29
-- FellersOrder$Line.placeOf(I)I
abbrev rm_X6_placeOf : Room := { frames := 0, cells := 0, slots := 0, locals := 0 }
def wb_X6_placeOf_2 (Post : Int32 → St → Prop) (K2 : Int32 → Int32 → St → Prop) (x1 : Int32) (x2 : Int32) (u : St) : Prop := (((u 18 1) ≤ x2) → (Post (-1 : Int32) u)) ∧ ((¬ (u 18 1) ≤ x2) → (vp_in x2 12 ∧ (((¬ (u 19 (Int32.toNatClampNeg x2)) = x1) → (K2 x1 (x2 + 1) u)) ∧ (((u 19 (Int32.toNatClampNeg x2)) = x1) → (Post x2 u)))))
set_option maxHeartbeats 4000000 in
set_option maxRecDepth 100000 in
theorem tb_X6_placeOf_2 (X : Cx p s m args meth c cX6_placeOf 3 (some .int) RX6 D (tyF b) A) (hA : ∀ q, s.heap.size ≤ q → A q) {Post : Int32 → St → Prop} {K2 : Int32 → Int32 → St → Prop} (k2 : ∀ (x1 : Int32) (x2 : Int32) (u : St) (H : Heap) (locs : List Loc) (ls : Array Slot), K2 x1 x2 u → wO D 46 (gF b h) h u A s.heap H locs → lv_has ls 3 [(0, .ref (h 18)), (1, .int x1), (2, .int x2)] → W p l e rm_X6_placeOf s m args below meth c H locs 0 0 (MQ below (va_Qi Post (cB D (tyF b) 46 (gF b h) h A) A) args s 0 0 A) (F0 m 2 ls [])) : ∀ (x1 : Int32) (x2 : Int32) (u : St) (H : Heap) (locs : List Loc) (ls : Array Slot), wb_X6_placeOf_2 Post K2 x1 x2 u → wO D 46 (gF b h) h u A s.heap H locs → lv_has ls 3 [(0, .ref (h 18)), (1, .int x1), (2, .int x2)] → W p l e rm_X6_placeOf s m args below meth c H locs 0 0 (MQ below (va_Qi Post (cB D (tyF b) 46 (gF b h) h A) A) args s 0 0 A) (F0 m 2 ls []) := by
  obtain ⟨⟨hx, hb, hml, hown, hts⟩, hK, hNs, hlocks, hr⟩ := id X
  intro x1 x2 u H locs ls hw O hl
  unfold wb_X6_placeOf_2 at hw
  refine lv_iload_n hx hb dX6_placeOf_2 rfl (lv_at hl 2 rfl) ?_
  refine lv_aload_n hx hb dX6_placeOf_3 rfl (lv_at hl 0 rfl) ?_
  refine gt_X6_15 X O dX6_placeOf_4 ?_
  refine lv_icmp_ge (tgt := 28) hx hb dX6_placeOf_7 (by decide) (fun c7 => ?_) (fun c7 => ?_)
  · have hw := hw.1 c7
    refine lv_iconst (v := -1) hx hb dX6_placeOf_28 (by decide) ?_
    exact q_iret X O hw dX6_placeOf_29
  · have hw := hw.2 c7
    refine lv_aload_n hx hb dX6_placeOf_10 rfl (lv_at hl 0 rfl) ?_
    refine gt_X6_9 X O dX6_placeOf_11 ?_
    refine lv_iload_n hx hb dX6_placeOf_14 rfl (lv_at hl 2 rfl) ?_
    obtain ⟨i15, hw⟩ := hw
    refine q_ild X O 19 0 (by decide) rfl rfl i15 dX6_placeOf_15 ?_
    refine lv_iload_n hx hb dX6_placeOf_16 rfl (lv_at hl 1 rfl) ?_
    refine lv_icmp_ne (tgt := 22) hx hb dX6_placeOf_17 (by decide) (fun c17 => ?_) (fun c17 => ?_)
    · have hw := hw.1 c17
      refine lv_iinc (v := x2 + 1) (lv' := [(2, .int (x2 + 1)), (0, .ref (h 18)), (1, .int x1)]) hx hb dX6_placeOf_22 hl (k := 2) rfl rfl (by decide) rfl (fun ls hl => ?_)
      refine lv_goto (tgt := 2) hx hb dX6_placeOf_25 (by decide) ?_
      exact k2 _ _ _ _ _ _ hw O (lv_sub hl [1, 2, 0] rfl)
    · have hw := hw.2 c17
      refine lv_iload_n hx hb dX6_placeOf_20 rfl (lv_at hl 2 rfl) ?_
      exact q_iret X O hw dX6_placeOf_21
def wl_X6_placeOf_2 (Post : Int32 → St → Prop) : Nat → Int32 → Int32 → St → Prop
  | 0 => fun _ _ _ => False
  | n + 1 => fun x1 x2 u => wb_X6_placeOf_2 Post (wl_X6_placeOf_2 Post n) x1 x2 u
set_option maxHeartbeats 4000000 in
set_option maxRecDepth 100000 in
theorem tl_X6_placeOf_2 (X : Cx p s m args meth c cX6_placeOf 3 (some .int) RX6 D (tyF b) A) (hA : ∀ q, s.heap.size ≤ q → A q) {Post : Int32 → St → Prop} : ∀ n : Nat, ∀ (x1 : Int32) (x2 : Int32) (u : St) (H : Heap) (locs : List Loc) (ls : Array Slot), (wl_X6_placeOf_2 Post n) x1 x2 u → wO D 46 (gF b h) h u A s.heap H locs → lv_has ls 3 [(0, .ref (h 18)), (1, .int x1), (2, .int x2)] → W p l e rm_X6_placeOf s m args below meth c H locs 0 0 (MQ below (va_Qi Post (cB D (tyF b) 46 (gF b h) h A) A) args s 0 0 A) (F0 m 2 ls []) := by
  intro n
  induction n with
  | zero => intro x1 x2 u H locs ls hw; exact False.elim hw
  | succ n ih => intro x1 x2 u H locs ls hw O hl; exact tb_X6_placeOf_2 X hA ih x1 x2 u H locs ls hw O hl
def wp_X6_placeOf (a1 : Int32) (u : St) (Post : Int32 → St → Prop) : Prop := ∃ n : Nat, wl_X6_placeOf_2 Post n a1 (0 : Int32) u
set_option maxHeartbeats 4000000 in
set_option maxRecDepth 100000 in
theorem c_X6_placeOf {a1 : Int32} {l : Launch} {D : va_G} {b : Nat → ClassId} {h : Nat → Nat} {u : St} {Post : Int32 → St → Prop} (hw : wp_X6_placeOf a1 u Post) : CtI l yX6_placeOf cX6_placeOf 3 (some .int) rm_X6_placeOf D (tyF b) 46 (gF b h) h [.ref (h 18), .int a1] u Post := by
  refine CtI.of (plainFor_of_name (by decide)) (Nat.le_of_ble_eq_true rfl) ?_
  intro p e s m below meth c A ls X hA O hl
  have X : Cx p s m _ meth c cX6_placeOf 3 (some .int) RX6 D (tyF b) A := X
  obtain ⟨⟨hx, hb, hml, hown, hts⟩, hK, hNs, hlocks, hr⟩ := id X
  have hl : lv_has ls 3 [(0, .ref (h 18)), (1, .int a1)] := hl
  unfold wp_X6_placeOf at hw
  refine lv_iconst (v := 0) hx hb dX6_placeOf_0 (by decide) ?_
  refine lv_istore_n (lv' := [(2, .int (0 : Int32)), (0, .ref (h 18)), (1, .int a1)]) hx hb dX6_placeOf_1 rfl hl (by decide) rfl (fun ls hl => ?_)
  obtain ⟨n, hw⟩ := hw
  exact tl_X6_placeOf_2 X hA n _ _ _ _ _ _ hw O (lv_sub hl [1, 2, 0] rfl)
-- FellersOrder$Line.size()I
abbrev rm_X6_size : Room := { frames := 0, cells := 0, slots := 0, locals := 0 }
def wp_X6_size (u : St) (Post : Int32 → St → Prop) : Prop := Post (u 18 1) u
set_option maxHeartbeats 4000000 in
set_option maxRecDepth 100000 in
theorem c_X6_size {l : Launch} {D : va_G} {b : Nat → ClassId} {h : Nat → Nat} {u : St} {Post : Int32 → St → Prop} (hw : wp_X6_size u Post) : CtI l yX6_size cX6_size 1 (some .int) rm_X6_size D (tyF b) 46 (gF b h) h [.ref (h 18)] u Post := by
  refine CtI.of (plainFor_of_name (by decide)) (Nat.le_of_ble_eq_true rfl) ?_
  intro p e s m below meth c A ls X hA O hl
  have X : Cx p s m _ meth c cX6_size 1 (some .int) RX6 D (tyF b) A := X
  obtain ⟨⟨hx, hb, hml, hown, hts⟩, hK, hNs, hlocks, hr⟩ := id X
  have hl : lv_has ls 1 [(0, .ref (h 18))] := hl
  unfold wp_X6_size at hw
  refine lv_aload_n hx hb dX6_size_0 rfl (lv_at hl 0 rfl) ?_
  refine gt_X6_15 X O dX6_size_1 ?_
  exact q_iret X O hw dX6_size_4
-- FellersOrder.put(I)I
abbrev rm_X11_put : Room := { frames := 1, cells := 0, slots := 0, locals := 22 }
def wp_X11_put (a1 : Int32) (u : St) (Post : Int32 → St → Prop) : Prop := wp_X10_has a1 u (fun r5 u5 => ((¬ r5 = 0) → (wp_X6_placeOf a1 u5 (fun r22 u22 => ((r22 = (-1 : Int32)) → (wp_X6_append a1 u22 (fun _ u40 => wp_X6_size u40 (fun r48 u48 => wp_X11_done r48 u48 (fun r51 u51 => Post r51 u51))))) ∧ ((¬ r22 = (-1 : Int32)) → (wp_X11_refused (3 : Int32) u22 (fun r31 u31 => Post r31 u31)))))) ∧ ((r5 = 0) → (wp_X11_refused (1 : Int32) u5 (fun r13 u13 => Post r13 u13))))
set_option maxHeartbeats 4000000 in
set_option maxRecDepth 100000 in
theorem c_X11_put {a1 : Int32} {l : Launch} {D : va_G} {b : Nat → ClassId} {h : Nat → Nat} {u : St} {Post : Int32 → St → Prop} (hw : wp_X11_put a1 u Post) : CtI l yX11_put cX11_put 2 (some .int) rm_X11_put D (tyF b) 46 (gF b h) h [.ref (h 0), .int a1] u Post := by
  refine CtI.of (plainFor_of_name (by decide)) (Nat.le_of_ble_eq_true rfl) ?_
  intro p e s m below meth c A ls X hA O hl
  have X : Cx p s m _ meth c cX11_put 2 (some .int) RX11 D (tyF b) A := X
  obtain ⟨⟨hx, hb, hml, hown, hts⟩, hK, hNs, hlocks, hr⟩ := id X
  have hl : lv_has ls 2 [(0, .ref (h 0)), (1, .int a1)] := hl
  unfold wp_X11_put at hw
  refine lv_aload_n hx hb dX11_put_0 rfl (lv_at hl 0 rfl) ?_
  refine gt_X11_10 X O dX11_put_1 ?_
  refine lv_iload_n hx hb dX11_put_4 rfl (lv_at hl 1 rfl) ?_
  refine q_civ (rest := []) X O hA 1 (c_X10_has hw) lk_X11_93 (by decide) rfl rfl rfl rfl rfl rfl ⟨Nat.le_of_ble_eq_true rfl, Nat.le_of_ble_eq_true rfl⟩ (Nat.le_of_ble_eq_true rfl) hl.1 ⟨Nat.zero_le _, Nat.zero_le _⟩ rfl dX11_put_5 (fun r5 u5 H locs hw O => ?_)
  refine lv_if_ne (tgt := 17) hx hb dX11_put_8 (by decide) (fun c8 => ?_) (fun c8 => ?_)
  · have hw := hw.1 c8
    refine lv_aload_n hx hb dX11_put_17 rfl (lv_at hl 0 rfl) ?_
    refine gt_X11_26 X O dX11_put_18 ?_
    refine lv_iload_n hx hb dX11_put_21 rfl (lv_at hl 1 rfl) ?_
    refine q_civ (rest := []) X O hA 18 (c_X6_placeOf hw) lk_X11_121 (by decide) rfl rfl rfl rfl rfl rfl ⟨Nat.le_of_ble_eq_true rfl, Nat.le_of_ble_eq_true rfl⟩ (Nat.le_of_ble_eq_true rfl) hl.1 ⟨Nat.zero_le _, Nat.zero_le _⟩ rfl dX11_put_22 (fun r22 u22 H locs hw O => ?_)
    refine lv_iconst (v := -1) hx hb dX11_put_25 (by decide) ?_
    refine lv_icmp_eq (tgt := 35) hx hb dX11_put_26 (by decide) (fun c26 => ?_) (fun c26 => ?_)
    · have hw := hw.1 c26
      refine lv_aload_n hx hb dX11_put_35 rfl (lv_at hl 0 rfl) ?_
      refine gt_X11_26 X O dX11_put_36 ?_
      refine lv_iload_n hx hb dX11_put_39 rfl (lv_at hl 1 rfl) ?_
      refine q_cvv (rest := []) X O hA 18 (c_X6_append hw) lk_X11_124 (by decide) rfl rfl rfl rfl rfl rfl ⟨Nat.le_of_ble_eq_true rfl, Nat.le_of_ble_eq_true rfl⟩ (Nat.le_of_ble_eq_true rfl) hl.1 ⟨Nat.zero_le _, Nat.zero_le _⟩ rfl dX11_put_40 (fun u40 H locs hw O => ?_)
      refine lv_aload_n hx hb dX11_put_43 rfl (lv_at hl 0 rfl) ?_
      refine lv_aload_n hx hb dX11_put_44 rfl (lv_at hl 0 rfl) ?_
      refine gt_X11_26 X O dX11_put_45 ?_
      refine q_civ (rest := [.ref (h 0)]) X O hA 18 (c_X6_size hw) lk_X11_128 (by decide) rfl rfl rfl rfl rfl rfl ⟨Nat.le_of_ble_eq_true rfl, Nat.le_of_ble_eq_true rfl⟩ (Nat.le_of_ble_eq_true rfl) hl.1 ⟨Nat.zero_le _, Nat.zero_le _⟩ rfl dX11_put_48 (fun r48 u48 H locs hw O => ?_)
      refine q_civ (rest := []) X O hA 0 (c_X11_done hw) lk_X11_90 (by decide) rfl rfl rfl rfl rfl rfl ⟨Nat.le_of_ble_eq_true rfl, Nat.le_of_ble_eq_true rfl⟩ (Nat.le_of_ble_eq_true rfl) hl.1 ⟨Nat.zero_le _, Nat.zero_le _⟩ rfl dX11_put_51 (fun r51 u51 H locs hw O => ?_)
      exact q_iret X O hw dX11_put_54
    · have hw := hw.2 c26
      refine lv_aload_n hx hb dX11_put_29 rfl (lv_at hl 0 rfl) ?_
      refine lv_iconst (v := 3) hx hb dX11_put_30 (by decide) ?_
      refine q_civ (rest := []) X O hA 0 (c_X11_refused hw) lk_X11_78 (by decide) rfl rfl rfl rfl rfl rfl ⟨Nat.le_of_ble_eq_true rfl, Nat.le_of_ble_eq_true rfl⟩ (Nat.le_of_ble_eq_true rfl) hl.1 ⟨Nat.zero_le _, Nat.zero_le _⟩ rfl dX11_put_31 (fun r31 u31 H locs hw O => ?_)
      exact q_iret X O hw dX11_put_34
  · have hw := hw.2 c8
    refine lv_aload_n hx hb dX11_put_11 rfl (lv_at hl 0 rfl) ?_
    refine lv_iconst (v := 1) hx hb dX11_put_12 (by decide) ?_
    refine q_civ (rest := []) X O hA 0 (c_X11_refused hw) lk_X11_78 (by decide) rfl rfl rfl rfl rfl rfl ⟨Nat.le_of_ble_eq_true rfl, Nat.le_of_ble_eq_true rfl⟩ (Nat.le_of_ble_eq_true rfl) hl.1 ⟨Nat.zero_le _, Nat.zero_le _⟩ rfl dX11_put_13 (fun r13 u13 H locs hw O => ?_)
    exact q_iret X O hw dX11_put_16
-- FellersOrder$Line.empty()V
abbrev rm_X6_empty : Room := { frames := 0, cells := 0, slots := 0, locals := 0 }
def wp_X6_empty (u : St) (Post : Int32 → St → Prop) : Prop := Post 0 (su u 18 1 (0 : Int32))
set_option maxHeartbeats 4000000 in
set_option maxRecDepth 100000 in
theorem c_X6_empty {l : Launch} {D : va_G} {b : Nat → ClassId} {h : Nat → Nat} {u : St} {Post : Int32 → St → Prop} (hw : wp_X6_empty u Post) : CtV l yX6_empty cX6_empty 1 none rm_X6_empty D (tyF b) 46 (gF b h) h [.ref (h 18)] u Post := by
  refine CtV.of (plainFor_of_name (by decide)) (Nat.le_of_ble_eq_true rfl) ?_
  intro p e s m below meth c A ls X hA O hl
  have X : Cx p s m _ meth c cX6_empty 1 none RX6 D (tyF b) A := X
  obtain ⟨⟨hx, hb, hml, hown, hts⟩, hK, hNs, hlocks, hr⟩ := id X
  have hl : lv_has ls 1 [(0, .ref (h 18))] := hl
  unfold wp_X6_empty at hw
  refine lv_aload_n hx hb dX6_empty_0 rfl (lv_at hl 0 rfl) ?_
  refine lv_iconst (v := 0) hx hb dX6_empty_1 (by decide) ?_
  refine pt_X6_15 X O dX6_empty_2 (fun H locs O => ?_)
  exact q_vret X O hw dX6_empty_5
-- FellersOrder.clear()I
abbrev rm_X11_clear : Room := { frames := 1, cells := 0, slots := 0, locals := 21 }
def wp_X11_clear (u : St) (Post : Int32 → St → Prop) : Prop := wp_X6_size u (fun r4 u4 => wp_X6_empty u4 (fun _ u12 => wp_X11_done r4 u12 (fun r17 u17 => Post r17 u17)))
set_option maxHeartbeats 4000000 in
set_option maxRecDepth 100000 in
theorem c_X11_clear {l : Launch} {D : va_G} {b : Nat → ClassId} {h : Nat → Nat} {u : St} {Post : Int32 → St → Prop} (hw : wp_X11_clear u Post) : CtI l yX11_clear cX11_clear 2 (some .int) rm_X11_clear D (tyF b) 46 (gF b h) h [.ref (h 0)] u Post := by
  refine CtI.of (plainFor_of_name (by decide)) (Nat.le_of_ble_eq_true rfl) ?_
  intro p e s m below meth c A ls X hA O hl
  have X : Cx p s m _ meth c cX11_clear 2 (some .int) RX11 D (tyF b) A := X
  obtain ⟨⟨hx, hb, hml, hown, hts⟩, hK, hNs, hlocks, hr⟩ := id X
  have hl : lv_has ls 2 [(0, .ref (h 0))] := hl
  unfold wp_X11_clear at hw
  refine lv_aload_n hx hb dX11_clear_0 rfl (lv_at hl 0 rfl) ?_
  refine gt_X11_26 X O dX11_clear_1 ?_
  refine q_civ (rest := []) X O hA 18 (c_X6_size hw) lk_X11_128 (by decide) rfl rfl rfl rfl rfl rfl ⟨Nat.le_of_ble_eq_true rfl, Nat.le_of_ble_eq_true rfl⟩ (Nat.le_of_ble_eq_true rfl) hl.1 ⟨Nat.zero_le _, Nat.zero_le _⟩ rfl dX11_clear_4 (fun r4 u4 H locs hw O => ?_)
  refine lv_istore_n (lv' := [(1, .int r4), (0, .ref (h 0))]) hx hb dX11_clear_7 rfl hl (by decide) rfl (fun ls hl => ?_)
  refine lv_aload_n hx hb dX11_clear_8 rfl (lv_at hl 1 rfl) ?_
  refine gt_X11_26 X O dX11_clear_9 ?_
  refine q_cvv (rest := []) X O hA 18 (c_X6_empty hw) lk_X11_132 (by decide) rfl rfl rfl rfl rfl rfl ⟨Nat.le_of_ble_eq_true rfl, Nat.le_of_ble_eq_true rfl⟩ (Nat.le_of_ble_eq_true rfl) hl.1 ⟨Nat.zero_le _, Nat.zero_le _⟩ rfl dX11_clear_12 (fun u12 H locs hw O => ?_)
  refine lv_aload_n hx hb dX11_clear_15 rfl (lv_at hl 1 rfl) ?_
  refine lv_iload_n hx hb dX11_clear_16 rfl (lv_at hl 0 rfl) ?_
  refine q_civ (rest := []) X O hA 0 (c_X11_done hw) lk_X11_90 (by decide) rfl rfl rfl rfl rfl rfl ⟨Nat.le_of_ble_eq_true rfl, Nat.le_of_ble_eq_true rfl⟩ (Nat.le_of_ble_eq_true rfl) hl.1 ⟨Nat.zero_le _, Nat.zero_le _⟩ rfl dX11_clear_17 (fun r17 u17 H locs hw O => ?_)
  exact q_iret X O hw dX11_clear_20
-- java/lang/Integer.bitCount(I)I
abbrev rm_J6_bitCount_0f7a4 : Room := { frames := 0, cells := 0, slots := 0, locals := 0 }
def wp_J6_bitCount_0f7a4 (a0 : Int32) (u : St) (Post : Int32 → St → Prop) : Prop := Post ((((((((a0 - (((Int32.toUInt32 a0 >>> (Int32.toUInt32 (1 : Int32) &&& Int32.toUInt32 31)).toInt32) &&& (1431655765 : Int32))) &&& (858993459 : Int32)) + (((Int32.toUInt32 (a0 - (((Int32.toUInt32 a0 >>> (Int32.toUInt32 (1 : Int32) &&& Int32.toUInt32 31)).toInt32) &&& (1431655765 : Int32))) >>> (Int32.toUInt32 (2 : Int32) &&& Int32.toUInt32 31)).toInt32) &&& (858993459 : Int32))) + ((Int32.toUInt32 (((a0 - (((Int32.toUInt32 a0 >>> (Int32.toUInt32 (1 : Int32) &&& Int32.toUInt32 31)).toInt32) &&& (1431655765 : Int32))) &&& (858993459 : Int32)) + (((Int32.toUInt32 (a0 - (((Int32.toUInt32 a0 >>> (Int32.toUInt32 (1 : Int32) &&& Int32.toUInt32 31)).toInt32) &&& (1431655765 : Int32))) >>> (Int32.toUInt32 (2 : Int32) &&& Int32.toUInt32 31)).toInt32) &&& (858993459 : Int32))) >>> (Int32.toUInt32 (4 : Int32) &&& Int32.toUInt32 31)).toInt32)) &&& (252645135 : Int32)) + ((Int32.toUInt32 (((((a0 - (((Int32.toUInt32 a0 >>> (Int32.toUInt32 (1 : Int32) &&& Int32.toUInt32 31)).toInt32) &&& (1431655765 : Int32))) &&& (858993459 : Int32)) + (((Int32.toUInt32 (a0 - (((Int32.toUInt32 a0 >>> (Int32.toUInt32 (1 : Int32) &&& Int32.toUInt32 31)).toInt32) &&& (1431655765 : Int32))) >>> (Int32.toUInt32 (2 : Int32) &&& Int32.toUInt32 31)).toInt32) &&& (858993459 : Int32))) + ((Int32.toUInt32 (((a0 - (((Int32.toUInt32 a0 >>> (Int32.toUInt32 (1 : Int32) &&& Int32.toUInt32 31)).toInt32) &&& (1431655765 : Int32))) &&& (858993459 : Int32)) + (((Int32.toUInt32 (a0 - (((Int32.toUInt32 a0 >>> (Int32.toUInt32 (1 : Int32) &&& Int32.toUInt32 31)).toInt32) &&& (1431655765 : Int32))) >>> (Int32.toUInt32 (2 : Int32) &&& Int32.toUInt32 31)).toInt32) &&& (858993459 : Int32))) >>> (Int32.toUInt32 (4 : Int32) &&& Int32.toUInt32 31)).toInt32)) &&& (252645135 : Int32)) >>> (Int32.toUInt32 (8 : Int32) &&& Int32.toUInt32 31)).toInt32)) + ((Int32.toUInt32 ((((((a0 - (((Int32.toUInt32 a0 >>> (Int32.toUInt32 (1 : Int32) &&& Int32.toUInt32 31)).toInt32) &&& (1431655765 : Int32))) &&& (858993459 : Int32)) + (((Int32.toUInt32 (a0 - (((Int32.toUInt32 a0 >>> (Int32.toUInt32 (1 : Int32) &&& Int32.toUInt32 31)).toInt32) &&& (1431655765 : Int32))) >>> (Int32.toUInt32 (2 : Int32) &&& Int32.toUInt32 31)).toInt32) &&& (858993459 : Int32))) + ((Int32.toUInt32 (((a0 - (((Int32.toUInt32 a0 >>> (Int32.toUInt32 (1 : Int32) &&& Int32.toUInt32 31)).toInt32) &&& (1431655765 : Int32))) &&& (858993459 : Int32)) + (((Int32.toUInt32 (a0 - (((Int32.toUInt32 a0 >>> (Int32.toUInt32 (1 : Int32) &&& Int32.toUInt32 31)).toInt32) &&& (1431655765 : Int32))) >>> (Int32.toUInt32 (2 : Int32) &&& Int32.toUInt32 31)).toInt32) &&& (858993459 : Int32))) >>> (Int32.toUInt32 (4 : Int32) &&& Int32.toUInt32 31)).toInt32)) &&& (252645135 : Int32)) + ((Int32.toUInt32 (((((a0 - (((Int32.toUInt32 a0 >>> (Int32.toUInt32 (1 : Int32) &&& Int32.toUInt32 31)).toInt32) &&& (1431655765 : Int32))) &&& (858993459 : Int32)) + (((Int32.toUInt32 (a0 - (((Int32.toUInt32 a0 >>> (Int32.toUInt32 (1 : Int32) &&& Int32.toUInt32 31)).toInt32) &&& (1431655765 : Int32))) >>> (Int32.toUInt32 (2 : Int32) &&& Int32.toUInt32 31)).toInt32) &&& (858993459 : Int32))) + ((Int32.toUInt32 (((a0 - (((Int32.toUInt32 a0 >>> (Int32.toUInt32 (1 : Int32) &&& Int32.toUInt32 31)).toInt32) &&& (1431655765 : Int32))) &&& (858993459 : Int32)) + (((Int32.toUInt32 (a0 - (((Int32.toUInt32 a0 >>> (Int32.toUInt32 (1 : Int32) &&& Int32.toUInt32 31)).toInt32) &&& (1431655765 : Int32))) >>> (Int32.toUInt32 (2 : Int32) &&& Int32.toUInt32 31)).toInt32) &&& (858993459 : Int32))) >>> (Int32.toUInt32 (4 : Int32) &&& Int32.toUInt32 31)).toInt32)) &&& (252645135 : Int32)) >>> (Int32.toUInt32 (8 : Int32) &&& Int32.toUInt32 31)).toInt32)) >>> (Int32.toUInt32 (16 : Int32) &&& Int32.toUInt32 31)).toInt32)) &&& (63 : Int32)) u
set_option maxHeartbeats 4000000 in
set_option maxRecDepth 100000 in
theorem c_J6_bitCount_0f7a4 {a0 : Int32} {l : Launch} {D : va_G} {b : Nat → ClassId} {h : Nat → Nat} {u : St} {Post : Int32 → St → Prop} (hw : wp_J6_bitCount_0f7a4 a0 u Post) : CtI l yJ6_bitCount_0f7a4 cJ6_bitCount_0f7a4 1 (some .int) rm_J6_bitCount_0f7a4 D (tyF b) 46 (gF b h) h [.int a0] u Post := by
  refine CtI.of (by decide +kernel) (Nat.le_of_ble_eq_true rfl) ?_
  intro p e s m below meth c A ls X hA O hl
  have X : Cx p s m _ meth c cJ6_bitCount_0f7a4 1 (some .int) RJ6 D (tyF b) A := X
  obtain ⟨⟨hx, hb, hml, hown, hts⟩, hK, hNs, hlocks, hr⟩ := id X
  have hl : lv_has ls 1 [(0, .int a0)] := hl
  unfold wp_J6_bitCount_0f7a4 at hw
  refine lv_iload_n hx hb dJ6_bitCount_0f7a4_0 rfl (lv_at hl 0 rfl) ?_
  refine lv_iload_n hx hb dJ6_bitCount_0f7a4_1 rfl (lv_at hl 0 rfl) ?_
  refine lv_iconst (v := 1) hx hb dJ6_bitCount_0f7a4_2 (by decide) ?_
  refine lv_iushr hx hb dJ6_bitCount_0f7a4_3 rfl ?_
  refine lv_ldcw (v := 1431655765) hx hb hown (hts _ wd_15_7) dJ6_bitCount_0f7a4_4 ?_
  refine lv_iand hx hb dJ6_bitCount_0f7a4_7 ?_
  refine lv_isub hx hb dJ6_bitCount_0f7a4_8 ?_
  refine lv_istore_n (lv' := [(0, .int (a0 - (((Int32.toUInt32 a0 >>> (Int32.toUInt32 (1 : Int32) &&& Int32.toUInt32 31)).toInt32) &&& (1431655765 : Int32))))]) hx hb dJ6_bitCount_0f7a4_9 rfl hl (by decide) rfl (fun ls hl => ?_)
  refine lv_iload_n hx hb dJ6_bitCount_0f7a4_10 rfl (lv_at hl 0 rfl) ?_
  refine lv_ldcw (v := 858993459) hx hb hown (hts _ wd_15_8) dJ6_bitCount_0f7a4_11 ?_
  refine lv_iand hx hb dJ6_bitCount_0f7a4_14 ?_
  refine lv_iload_n hx hb dJ6_bitCount_0f7a4_15 rfl (lv_at hl 0 rfl) ?_
  refine lv_iconst (v := 2) hx hb dJ6_bitCount_0f7a4_16 (by decide) ?_
  refine lv_iushr hx hb dJ6_bitCount_0f7a4_17 rfl ?_
  refine lv_ldcw (v := 858993459) hx hb hown (hts _ wd_15_8) dJ6_bitCount_0f7a4_18 ?_
  refine lv_iand hx hb dJ6_bitCount_0f7a4_21 ?_
  refine lv_iadd hx hb dJ6_bitCount_0f7a4_22 ?_
  refine lv_istore_n (lv' := [(0, .int (((a0 - (((Int32.toUInt32 a0 >>> (Int32.toUInt32 (1 : Int32) &&& Int32.toUInt32 31)).toInt32) &&& (1431655765 : Int32))) &&& (858993459 : Int32)) + (((Int32.toUInt32 (a0 - (((Int32.toUInt32 a0 >>> (Int32.toUInt32 (1 : Int32) &&& Int32.toUInt32 31)).toInt32) &&& (1431655765 : Int32))) >>> (Int32.toUInt32 (2 : Int32) &&& Int32.toUInt32 31)).toInt32) &&& (858993459 : Int32))))]) hx hb dJ6_bitCount_0f7a4_23 rfl hl (by decide) rfl (fun ls hl => ?_)
  refine lv_iload_n hx hb dJ6_bitCount_0f7a4_24 rfl (lv_at hl 0 rfl) ?_
  refine lv_iload_n hx hb dJ6_bitCount_0f7a4_25 rfl (lv_at hl 0 rfl) ?_
  refine lv_iconst (v := 4) hx hb dJ6_bitCount_0f7a4_26 (by decide) ?_
  refine lv_iushr hx hb dJ6_bitCount_0f7a4_27 rfl ?_
  refine lv_iadd hx hb dJ6_bitCount_0f7a4_28 ?_
  refine lv_ldcw (v := 252645135) hx hb hown (hts _ wd_15_9) dJ6_bitCount_0f7a4_29 ?_
  refine lv_iand hx hb dJ6_bitCount_0f7a4_32 ?_
  refine lv_istore_n (lv' := [(0, .int (((((a0 - (((Int32.toUInt32 a0 >>> (Int32.toUInt32 (1 : Int32) &&& Int32.toUInt32 31)).toInt32) &&& (1431655765 : Int32))) &&& (858993459 : Int32)) + (((Int32.toUInt32 (a0 - (((Int32.toUInt32 a0 >>> (Int32.toUInt32 (1 : Int32) &&& Int32.toUInt32 31)).toInt32) &&& (1431655765 : Int32))) >>> (Int32.toUInt32 (2 : Int32) &&& Int32.toUInt32 31)).toInt32) &&& (858993459 : Int32))) + ((Int32.toUInt32 (((a0 - (((Int32.toUInt32 a0 >>> (Int32.toUInt32 (1 : Int32) &&& Int32.toUInt32 31)).toInt32) &&& (1431655765 : Int32))) &&& (858993459 : Int32)) + (((Int32.toUInt32 (a0 - (((Int32.toUInt32 a0 >>> (Int32.toUInt32 (1 : Int32) &&& Int32.toUInt32 31)).toInt32) &&& (1431655765 : Int32))) >>> (Int32.toUInt32 (2 : Int32) &&& Int32.toUInt32 31)).toInt32) &&& (858993459 : Int32))) >>> (Int32.toUInt32 (4 : Int32) &&& Int32.toUInt32 31)).toInt32)) &&& (252645135 : Int32)))]) hx hb dJ6_bitCount_0f7a4_33 rfl hl (by decide) rfl (fun ls hl => ?_)
  refine lv_iload_n hx hb dJ6_bitCount_0f7a4_34 rfl (lv_at hl 0 rfl) ?_
  refine lv_iload_n hx hb dJ6_bitCount_0f7a4_35 rfl (lv_at hl 0 rfl) ?_
  refine lv_bipush (v := 8) hx hb dJ6_bitCount_0f7a4_36 (by decide) ?_
  refine lv_iushr hx hb dJ6_bitCount_0f7a4_38 rfl ?_
  refine lv_iadd hx hb dJ6_bitCount_0f7a4_39 ?_
  refine lv_istore_n (lv' := [(0, .int ((((((a0 - (((Int32.toUInt32 a0 >>> (Int32.toUInt32 (1 : Int32) &&& Int32.toUInt32 31)).toInt32) &&& (1431655765 : Int32))) &&& (858993459 : Int32)) + (((Int32.toUInt32 (a0 - (((Int32.toUInt32 a0 >>> (Int32.toUInt32 (1 : Int32) &&& Int32.toUInt32 31)).toInt32) &&& (1431655765 : Int32))) >>> (Int32.toUInt32 (2 : Int32) &&& Int32.toUInt32 31)).toInt32) &&& (858993459 : Int32))) + ((Int32.toUInt32 (((a0 - (((Int32.toUInt32 a0 >>> (Int32.toUInt32 (1 : Int32) &&& Int32.toUInt32 31)).toInt32) &&& (1431655765 : Int32))) &&& (858993459 : Int32)) + (((Int32.toUInt32 (a0 - (((Int32.toUInt32 a0 >>> (Int32.toUInt32 (1 : Int32) &&& Int32.toUInt32 31)).toInt32) &&& (1431655765 : Int32))) >>> (Int32.toUInt32 (2 : Int32) &&& Int32.toUInt32 31)).toInt32) &&& (858993459 : Int32))) >>> (Int32.toUInt32 (4 : Int32) &&& Int32.toUInt32 31)).toInt32)) &&& (252645135 : Int32)) + ((Int32.toUInt32 (((((a0 - (((Int32.toUInt32 a0 >>> (Int32.toUInt32 (1 : Int32) &&& Int32.toUInt32 31)).toInt32) &&& (1431655765 : Int32))) &&& (858993459 : Int32)) + (((Int32.toUInt32 (a0 - (((Int32.toUInt32 a0 >>> (Int32.toUInt32 (1 : Int32) &&& Int32.toUInt32 31)).toInt32) &&& (1431655765 : Int32))) >>> (Int32.toUInt32 (2 : Int32) &&& Int32.toUInt32 31)).toInt32) &&& (858993459 : Int32))) + ((Int32.toUInt32 (((a0 - (((Int32.toUInt32 a0 >>> (Int32.toUInt32 (1 : Int32) &&& Int32.toUInt32 31)).toInt32) &&& (1431655765 : Int32))) &&& (858993459 : Int32)) + (((Int32.toUInt32 (a0 - (((Int32.toUInt32 a0 >>> (Int32.toUInt32 (1 : Int32) &&& Int32.toUInt32 31)).toInt32) &&& (1431655765 : Int32))) >>> (Int32.toUInt32 (2 : Int32) &&& Int32.toUInt32 31)).toInt32) &&& (858993459 : Int32))) >>> (Int32.toUInt32 (4 : Int32) &&& Int32.toUInt32 31)).toInt32)) &&& (252645135 : Int32)) >>> (Int32.toUInt32 (8 : Int32) &&& Int32.toUInt32 31)).toInt32)))]) hx hb dJ6_bitCount_0f7a4_40 rfl hl (by decide) rfl (fun ls hl => ?_)
  refine lv_iload_n hx hb dJ6_bitCount_0f7a4_41 rfl (lv_at hl 0 rfl) ?_
  refine lv_iload_n hx hb dJ6_bitCount_0f7a4_42 rfl (lv_at hl 0 rfl) ?_
  refine lv_bipush (v := 16) hx hb dJ6_bitCount_0f7a4_43 (by decide) ?_
  refine lv_iushr hx hb dJ6_bitCount_0f7a4_45 rfl ?_
  refine lv_iadd hx hb dJ6_bitCount_0f7a4_46 ?_
  refine lv_istore_n (lv' := [(0, .int (((((((a0 - (((Int32.toUInt32 a0 >>> (Int32.toUInt32 (1 : Int32) &&& Int32.toUInt32 31)).toInt32) &&& (1431655765 : Int32))) &&& (858993459 : Int32)) + (((Int32.toUInt32 (a0 - (((Int32.toUInt32 a0 >>> (Int32.toUInt32 (1 : Int32) &&& Int32.toUInt32 31)).toInt32) &&& (1431655765 : Int32))) >>> (Int32.toUInt32 (2 : Int32) &&& Int32.toUInt32 31)).toInt32) &&& (858993459 : Int32))) + ((Int32.toUInt32 (((a0 - (((Int32.toUInt32 a0 >>> (Int32.toUInt32 (1 : Int32) &&& Int32.toUInt32 31)).toInt32) &&& (1431655765 : Int32))) &&& (858993459 : Int32)) + (((Int32.toUInt32 (a0 - (((Int32.toUInt32 a0 >>> (Int32.toUInt32 (1 : Int32) &&& Int32.toUInt32 31)).toInt32) &&& (1431655765 : Int32))) >>> (Int32.toUInt32 (2 : Int32) &&& Int32.toUInt32 31)).toInt32) &&& (858993459 : Int32))) >>> (Int32.toUInt32 (4 : Int32) &&& Int32.toUInt32 31)).toInt32)) &&& (252645135 : Int32)) + ((Int32.toUInt32 (((((a0 - (((Int32.toUInt32 a0 >>> (Int32.toUInt32 (1 : Int32) &&& Int32.toUInt32 31)).toInt32) &&& (1431655765 : Int32))) &&& (858993459 : Int32)) + (((Int32.toUInt32 (a0 - (((Int32.toUInt32 a0 >>> (Int32.toUInt32 (1 : Int32) &&& Int32.toUInt32 31)).toInt32) &&& (1431655765 : Int32))) >>> (Int32.toUInt32 (2 : Int32) &&& Int32.toUInt32 31)).toInt32) &&& (858993459 : Int32))) + ((Int32.toUInt32 (((a0 - (((Int32.toUInt32 a0 >>> (Int32.toUInt32 (1 : Int32) &&& Int32.toUInt32 31)).toInt32) &&& (1431655765 : Int32))) &&& (858993459 : Int32)) + (((Int32.toUInt32 (a0 - (((Int32.toUInt32 a0 >>> (Int32.toUInt32 (1 : Int32) &&& Int32.toUInt32 31)).toInt32) &&& (1431655765 : Int32))) >>> (Int32.toUInt32 (2 : Int32) &&& Int32.toUInt32 31)).toInt32) &&& (858993459 : Int32))) >>> (Int32.toUInt32 (4 : Int32) &&& Int32.toUInt32 31)).toInt32)) &&& (252645135 : Int32)) >>> (Int32.toUInt32 (8 : Int32) &&& Int32.toUInt32 31)).toInt32)) + ((Int32.toUInt32 ((((((a0 - (((Int32.toUInt32 a0 >>> (Int32.toUInt32 (1 : Int32) &&& Int32.toUInt32 31)).toInt32) &&& (1431655765 : Int32))) &&& (858993459 : Int32)) + (((Int32.toUInt32 (a0 - (((Int32.toUInt32 a0 >>> (Int32.toUInt32 (1 : Int32) &&& Int32.toUInt32 31)).toInt32) &&& (1431655765 : Int32))) >>> (Int32.toUInt32 (2 : Int32) &&& Int32.toUInt32 31)).toInt32) &&& (858993459 : Int32))) + ((Int32.toUInt32 (((a0 - (((Int32.toUInt32 a0 >>> (Int32.toUInt32 (1 : Int32) &&& Int32.toUInt32 31)).toInt32) &&& (1431655765 : Int32))) &&& (858993459 : Int32)) + (((Int32.toUInt32 (a0 - (((Int32.toUInt32 a0 >>> (Int32.toUInt32 (1 : Int32) &&& Int32.toUInt32 31)).toInt32) &&& (1431655765 : Int32))) >>> (Int32.toUInt32 (2 : Int32) &&& Int32.toUInt32 31)).toInt32) &&& (858993459 : Int32))) >>> (Int32.toUInt32 (4 : Int32) &&& Int32.toUInt32 31)).toInt32)) &&& (252645135 : Int32)) + ((Int32.toUInt32 (((((a0 - (((Int32.toUInt32 a0 >>> (Int32.toUInt32 (1 : Int32) &&& Int32.toUInt32 31)).toInt32) &&& (1431655765 : Int32))) &&& (858993459 : Int32)) + (((Int32.toUInt32 (a0 - (((Int32.toUInt32 a0 >>> (Int32.toUInt32 (1 : Int32) &&& Int32.toUInt32 31)).toInt32) &&& (1431655765 : Int32))) >>> (Int32.toUInt32 (2 : Int32) &&& Int32.toUInt32 31)).toInt32) &&& (858993459 : Int32))) + ((Int32.toUInt32 (((a0 - (((Int32.toUInt32 a0 >>> (Int32.toUInt32 (1 : Int32) &&& Int32.toUInt32 31)).toInt32) &&& (1431655765 : Int32))) &&& (858993459 : Int32)) + (((Int32.toUInt32 (a0 - (((Int32.toUInt32 a0 >>> (Int32.toUInt32 (1 : Int32) &&& Int32.toUInt32 31)).toInt32) &&& (1431655765 : Int32))) >>> (Int32.toUInt32 (2 : Int32) &&& Int32.toUInt32 31)).toInt32) &&& (858993459 : Int32))) >>> (Int32.toUInt32 (4 : Int32) &&& Int32.toUInt32 31)).toInt32)) &&& (252645135 : Int32)) >>> (Int32.toUInt32 (8 : Int32) &&& Int32.toUInt32 31)).toInt32)) >>> (Int32.toUInt32 (16 : Int32) &&& Int32.toUInt32 31)).toInt32)))]) hx hb dJ6_bitCount_0f7a4_47 rfl hl (by decide) rfl (fun ls hl => ?_)
  refine lv_iload_n hx hb dJ6_bitCount_0f7a4_48 rfl (lv_at hl 0 rfl) ?_
  refine lv_bipush (v := 63) hx hb dJ6_bitCount_0f7a4_49 (by decide) ?_
  refine lv_iand hx hb dJ6_bitCount_0f7a4_51 ?_
  exact q_iret X O hw dJ6_bitCount_0f7a4_52
-- FellersOrder$Yard.aheadOf(I)I
abbrev rm_X10_aheadOf : Room := { frames := 0, cells := 0, slots := 0, locals := 0 }
def wp_X10_aheadOf (a1 : Int32) (u : St) (Post : Int32 → St → Prop) : Prop := vp_in a1 12 ∧ (Post (u 7 (Int32.toNatClampNeg a1)) u)
set_option maxHeartbeats 4000000 in
set_option maxRecDepth 100000 in
theorem c_X10_aheadOf {a1 : Int32} {l : Launch} {D : va_G} {b : Nat → ClassId} {h : Nat → Nat} {u : St} {Post : Int32 → St → Prop} (hw : wp_X10_aheadOf a1 u Post) : CtI l yX10_aheadOf cX10_aheadOf 2 (some .int) rm_X10_aheadOf D (tyF b) 46 (gF b h) h [.ref (h 1), .int a1] u Post := by
  refine CtI.of (plainFor_of_name (by decide)) (Nat.le_of_ble_eq_true rfl) ?_
  intro p e s m below meth c A ls X hA O hl
  have X : Cx p s m _ meth c cX10_aheadOf 2 (some .int) RX10 D (tyF b) A := X
  obtain ⟨⟨hx, hb, hml, hown, hts⟩, hK, hNs, hlocks, hr⟩ := id X
  have hl : lv_has ls 2 [(0, .ref (h 1)), (1, .int a1)] := hl
  unfold wp_X10_aheadOf at hw
  refine lv_aload_n hx hb dX10_aheadOf_0 rfl (lv_at hl 0 rfl) ?_
  refine gt_X10_20 X O dX10_aheadOf_1 ?_
  refine lv_iload_n hx hb dX10_aheadOf_4 rfl (lv_at hl 1 rfl) ?_
  obtain ⟨i5, hw⟩ := hw
  refine q_ild X O 7 0 (by decide) rfl rfl i5 dX10_aheadOf_5 ?_
  exact q_iret X O hw dX10_aheadOf_6
-- FellersOrder$Yard.behind(I)I
abbrev rm_X10_behind : Room := { frames := 0, cells := 0, slots := 0, locals := 0 }
def wp_X10_behind (a1 : Int32) (u : St) (Post : Int32 → St → Prop) : Prop := vp_in a1 12 ∧ (Post (u 8 (Int32.toNatClampNeg a1)) u)
set_option maxHeartbeats 4000000 in
set_option maxRecDepth 100000 in
theorem c_X10_behind {a1 : Int32} {l : Launch} {D : va_G} {b : Nat → ClassId} {h : Nat → Nat} {u : St} {Post : Int32 → St → Prop} (hw : wp_X10_behind a1 u Post) : CtI l yX10_behind cX10_behind 2 (some .int) rm_X10_behind D (tyF b) 46 (gF b h) h [.ref (h 1), .int a1] u Post := by
  refine CtI.of (plainFor_of_name (by decide)) (Nat.le_of_ble_eq_true rfl) ?_
  intro p e s m below meth c A ls X hA O hl
  have X : Cx p s m _ meth c cX10_behind 2 (some .int) RX10 D (tyF b) A := X
  obtain ⟨⟨hx, hb, hml, hown, hts⟩, hK, hNs, hlocks, hr⟩ := id X
  have hl : lv_has ls 2 [(0, .ref (h 1)), (1, .int a1)] := hl
  unfold wp_X10_behind at hw
  refine lv_aload_n hx hb dX10_behind_0 rfl (lv_at hl 0 rfl) ?_
  refine gt_X10_23 X O dX10_behind_1 ?_
  refine lv_iload_n hx hb dX10_behind_4 rfl (lv_at hl 1 rfl) ?_
  obtain ⟨i5, hw⟩ := hw
  refine q_ild X O 8 0 (by decide) rfl rfl i5 dX10_behind_5 ?_
  exact q_iret X O hw dX10_behind_6
-- FellersOrder$Yard.kindOf(I)I
abbrev rm_X10_kindOf : Room := { frames := 0, cells := 0, slots := 0, locals := 0 }
def wp_X10_kindOf (a1 : Int32) (u : St) (Post : Int32 → St → Prop) : Prop := vp_in a1 12 ∧ ((((u 5 (Int32.toNatClampNeg a1)) ≤ 0) → (vp_in a1 12 ∧ (((¬ (u 3 (Int32.toNatClampNeg a1)) = (1 : Int32)) → (vp_in a1 12 ∧ (((¬ (u 4 (Int32.toNatClampNeg a1)) = 0) → (Post (0 : Int32) u)) ∧ (((u 4 (Int32.toNatClampNeg a1)) = 0) → (Post (2 : Int32) u))))) ∧ (((u 3 (Int32.toNatClampNeg a1)) = (1 : Int32)) → (vp_in a1 12 ∧ (((¬ (u 7 (Int32.toNatClampNeg a1)) = 0) → (Post (1 : Int32) u)) ∧ (((u 7 (Int32.toNatClampNeg a1)) = 0) → (Post (3 : Int32) u)))))))) ∧ ((¬ (u 5 (Int32.toNatClampNeg a1)) ≤ 0) → (Post (4 : Int32) u)))
set_option maxHeartbeats 4000000 in
set_option maxRecDepth 100000 in
theorem c_X10_kindOf {a1 : Int32} {l : Launch} {D : va_G} {b : Nat → ClassId} {h : Nat → Nat} {u : St} {Post : Int32 → St → Prop} (hw : wp_X10_kindOf a1 u Post) : CtI l yX10_kindOf cX10_kindOf 2 (some .int) rm_X10_kindOf D (tyF b) 46 (gF b h) h [.ref (h 1), .int a1] u Post := by
  refine CtI.of (plainFor_of_name (by decide)) (Nat.le_of_ble_eq_true rfl) ?_
  intro p e s m below meth c A ls X hA O hl
  have X : Cx p s m _ meth c cX10_kindOf 2 (some .int) RX10 D (tyF b) A := X
  obtain ⟨⟨hx, hb, hml, hown, hts⟩, hK, hNs, hlocks, hr⟩ := id X
  have hl : lv_has ls 2 [(0, .ref (h 1)), (1, .int a1)] := hl
  unfold wp_X10_kindOf at hw
  refine lv_aload_n hx hb dX10_kindOf_0 rfl (lv_at hl 0 rfl) ?_
  refine gt_X10_13 X O dX10_kindOf_1 ?_
  refine lv_iconst (v := 2) hx hb dX10_kindOf_4 (by decide) ?_
  refine q_alA X O 2 1 (by decide) rfl rfl (by unfold vp_in; decide) (me_f 2 5 (by decide) (by decide) rfl) dX10_kindOf_5 ?_
  refine lv_iload_n hx hb dX10_kindOf_6 rfl (lv_at hl 1 rfl) ?_
  obtain ⟨i7, hw⟩ := hw
  refine q_ild X O 5 0 (by decide) rfl rfl i7 dX10_kindOf_7 ?_
  refine lv_if_le (tgt := 13) hx hb dX10_kindOf_8 (by decide) (fun c8 => ?_) (fun c8 => ?_)
  · have hw := hw.1 c8
    refine lv_aload_n hx hb dX10_kindOf_13 rfl (lv_at hl 0 rfl) ?_
    refine gt_X10_13 X O dX10_kindOf_14 ?_
    refine lv_iconst (v := 0) hx hb dX10_kindOf_17 (by decide) ?_
    refine q_alA X O 2 1 (by decide) rfl rfl (by unfold vp_in; decide) (me_f 0 3 (by decide) (by decide) rfl) dX10_kindOf_18 ?_
    refine lv_iload_n hx hb dX10_kindOf_19 rfl (lv_at hl 1 rfl) ?_
    obtain ⟨i20, hw⟩ := hw
    refine q_ild X O 3 0 (by decide) rfl rfl i20 dX10_kindOf_20 ?_
    refine lv_iconst (v := 1) hx hb dX10_kindOf_21 (by decide) ?_
    refine lv_icmp_ne (tgt := 40) hx hb dX10_kindOf_22 (by decide) (fun c22 => ?_) (fun c22 => ?_)
    · have hw := hw.1 c22
      refine lv_aload_n hx hb dX10_kindOf_40 rfl (lv_at hl 0 rfl) ?_
      refine gt_X10_13 X O dX10_kindOf_41 ?_
      refine lv_iconst (v := 1) hx hb dX10_kindOf_44 (by decide) ?_
      refine q_alA X O 2 1 (by decide) rfl rfl (by unfold vp_in; decide) (me_f 1 4 (by decide) (by decide) rfl) dX10_kindOf_45 ?_
      refine lv_iload_n hx hb dX10_kindOf_46 rfl (lv_at hl 1 rfl) ?_
      obtain ⟨i47, hw⟩ := hw
      refine q_ild X O 4 0 (by decide) rfl rfl i47 dX10_kindOf_47 ?_
      refine lv_if_ne (tgt := 55) hx hb dX10_kindOf_48 (by decide) (fun c48 => ?_) (fun c48 => ?_)
      · have hw := hw.1 c48
        refine lv_iconst (v := 0) hx hb dX10_kindOf_55 (by decide) ?_
        exact q_iret X O hw dX10_kindOf_56
      · have hw := hw.2 c48
        refine lv_iconst (v := 2) hx hb dX10_kindOf_51 (by decide) ?_
        refine lv_goto (tgt := 56) hx hb dX10_kindOf_52 (by decide) ?_
        exact q_iret X O hw dX10_kindOf_56
    · have hw := hw.2 c22
      refine lv_aload_n hx hb dX10_kindOf_25 rfl (lv_at hl 0 rfl) ?_
      refine gt_X10_20 X O dX10_kindOf_26 ?_
      refine lv_iload_n hx hb dX10_kindOf_29 rfl (lv_at hl 1 rfl) ?_
      obtain ⟨i30, hw⟩ := hw
      refine q_ild X O 7 0 (by decide) rfl rfl i30 dX10_kindOf_30 ?_
      refine lv_if_ne (tgt := 38) hx hb dX10_kindOf_31 (by decide) (fun c31 => ?_) (fun c31 => ?_)
      · have hw := hw.1 c31
        refine lv_iconst (v := 1) hx hb dX10_kindOf_38 (by decide) ?_
        exact q_iret X O hw dX10_kindOf_39
      · have hw := hw.2 c31
        refine lv_iconst (v := 3) hx hb dX10_kindOf_34 (by decide) ?_
        refine lv_goto (tgt := 39) hx hb dX10_kindOf_35 (by decide) ?_
        exact q_iret X O hw dX10_kindOf_39
  · have hw := hw.2 c8
    refine lv_iconst (v := 4) hx hb dX10_kindOf_11 (by decide) ?_
    exact q_iret X O hw dX10_kindOf_12
-- FellersOrder$Yard.version()I
abbrev rm_X10_version : Room := { frames := 0, cells := 0, slots := 0, locals := 0 }
def wp_X10_version (u : St) (Post : Int32 → St → Prop) : Prop := Post (u 1 9) u
set_option maxHeartbeats 4000000 in
set_option maxRecDepth 100000 in
theorem c_X10_version {l : Launch} {D : va_G} {b : Nat → ClassId} {h : Nat → Nat} {u : St} {Post : Int32 → St → Prop} (hw : wp_X10_version u Post) : CtI l yX10_version cX10_version 1 (some .int) rm_X10_version D (tyF b) 46 (gF b h) h [.ref (h 1)] u Post := by
  refine CtI.of (plainFor_of_name (by decide)) (Nat.le_of_ble_eq_true rfl) ?_
  intro p e s m below meth c A ls X hA O hl
  have X : Cx p s m _ meth c cX10_version 1 (some .int) RX10 D (tyF b) A := X
  obtain ⟨⟨hx, hb, hml, hown, hts⟩, hK, hNs, hlocks, hr⟩ := id X
  have hl : lv_has ls 1 [(0, .ref (h 1))] := hl
  unfold wp_X10_version at hw
  refine lv_aload_n hx hb dX10_version_0 rfl (lv_at hl 0 rfl) ?_
  refine gt_X10_48 X O dX10_version_1 ?_
  exact q_iret X O hw dX10_version_4
-- FellersOrder$Yard.everyJob()I
abbrev rm_X10_everyJob : Room := { frames := 0, cells := 0, slots := 0, locals := 0 }
def wp_X10_everyJob (u : St) (Post : Int32 → St → Prop) : Prop := Post (((1 : Int32) <<< ((u 1 7) &&& 31)) - (1 : Int32)) u
set_option maxHeartbeats 4000000 in
set_option maxRecDepth 100000 in
theorem c_X10_everyJob {l : Launch} {D : va_G} {b : Nat → ClassId} {h : Nat → Nat} {u : St} {Post : Int32 → St → Prop} (hw : wp_X10_everyJob u Post) : CtI l yX10_everyJob cX10_everyJob 1 (some .int) rm_X10_everyJob D (tyF b) 46 (gF b h) h [.ref (h 1)] u Post := by
  refine CtI.of (plainFor_of_name (by decide)) (Nat.le_of_ble_eq_true rfl) ?_
  intro p e s m below meth c A ls X hA O hl
  have X : Cx p s m _ meth c cX10_everyJob 1 (some .int) RX10 D (tyF b) A := X
  obtain ⟨⟨hx, hb, hml, hown, hts⟩, hK, hNs, hlocks, hr⟩ := id X
  have hl : lv_has ls 1 [(0, .ref (h 1))] := hl
  unfold wp_X10_everyJob at hw
  refine lv_iconst (v := 1) hx hb dX10_everyJob_0 (by decide) ?_
  refine lv_aload_n hx hb dX10_everyJob_1 rfl (lv_at hl 0 rfl) ?_
  refine gt_X10_41 X O dX10_everyJob_2 ?_
  refine lv_ishl hx hb dX10_everyJob_5 ?_
  refine lv_iconst (v := 1) hx hb dX10_everyJob_6 (by decide) ?_
  refine lv_isub hx hb dX10_everyJob_7 ?_
  exact q_iret X O hw dX10_everyJob_8
-- FellersOrder$Yard.isBeginning(II)Z
abbrev rm_X10_isBeginning : Room := { frames := 0, cells := 0, slots := 0, locals := 0 }
def wp_X10_isBeginning (a1 : Int32) (a2 : Int32) (u : St) (Post : Int32 → St → Prop) : Prop := vp_in (a1 &&& (63 : Int32)) 128 ∧ (vp_in ((64 : Int32) + (a1 >>> ((6 : Int32) &&& 31))) 128 ∧ (((¬ ((((u 11 (Int32.toNatClampNeg (a1 &&& (63 : Int32)))) ||| (u 11 (Int32.toNatClampNeg ((64 : Int32) + (a1 >>> ((6 : Int32) &&& 31)))))) &&& (a1 ^^^ (-1 : Int32))) &&& (a2 ^^^ (-1 : Int32))) = 0) → (Post (0 : Int32) u)) ∧ ((((((u 11 (Int32.toNatClampNeg (a1 &&& (63 : Int32)))) ||| (u 11 (Int32.toNatClampNeg ((64 : Int32) + (a1 >>> ((6 : Int32) &&& 31)))))) &&& (a1 ^^^ (-1 : Int32))) &&& (a2 ^^^ (-1 : Int32))) = 0) → (Post (1 : Int32) u))))
set_option maxHeartbeats 4000000 in
set_option maxRecDepth 100000 in
theorem c_X10_isBeginning {a1 : Int32} {a2 : Int32} {l : Launch} {D : va_G} {b : Nat → ClassId} {h : Nat → Nat} {u : St} {Post : Int32 → St → Prop} (hw : wp_X10_isBeginning a1 a2 u Post) : CtI l yX10_isBeginning cX10_isBeginning 4 (some .boolean) rm_X10_isBeginning D (tyF b) 46 (gF b h) h [.ref (h 1), .int a1, .int a2] u Post := by
  refine CtI.of (plainFor_of_name (by decide)) (Nat.le_of_ble_eq_true rfl) ?_
  intro p e s m below meth c A ls X hA O hl
  have X : Cx p s m _ meth c cX10_isBeginning 4 (some .boolean) RX10 D (tyF b) A := X
  obtain ⟨⟨hx, hb, hml, hown, hts⟩, hK, hNs, hlocks, hr⟩ := id X
  have hl : lv_has ls 4 [(0, .ref (h 1)), (1, .int a1), (2, .int a2)] := hl
  unfold wp_X10_isBeginning at hw
  refine lv_aload_n hx hb dX10_isBeginning_0 rfl (lv_at hl 0 rfl) ?_
  refine gt_X10_32 X O dX10_isBeginning_1 ?_
  refine lv_iload_n hx hb dX10_isBeginning_4 rfl (lv_at hl 1 rfl) ?_
  refine lv_bipush (v := 63) hx hb dX10_isBeginning_5 (by decide) ?_
  refine lv_iand hx hb dX10_isBeginning_7 ?_
  obtain ⟨i8, hw⟩ := hw
  refine q_ild X O 11 0 (by decide) rfl rfl i8 dX10_isBeginning_8 ?_
  refine lv_aload_n hx hb dX10_isBeginning_9 rfl (lv_at hl 0 rfl) ?_
  refine gt_X10_32 X O dX10_isBeginning_10 ?_
  refine lv_bipush (v := 64) hx hb dX10_isBeginning_13 (by decide) ?_
  refine lv_iload_n hx hb dX10_isBeginning_15 rfl (lv_at hl 1 rfl) ?_
  refine lv_bipush (v := 6) hx hb dX10_isBeginning_16 (by decide) ?_
  refine lv_ishr hx hb dX10_isBeginning_18 ?_
  refine lv_iadd hx hb dX10_isBeginning_19 ?_
  obtain ⟨i20, hw⟩ := hw
  refine q_ild X O 11 0 (by decide) rfl rfl i20 dX10_isBeginning_20 ?_
  refine lv_ior hx hb dX10_isBeginning_21 ?_
  refine lv_istore_n (lv' := [(3, .int ((u 11 (Int32.toNatClampNeg (a1 &&& (63 : Int32)))) ||| (u 11 (Int32.toNatClampNeg ((64 : Int32) + (a1 >>> ((6 : Int32) &&& 31))))))), (0, .ref (h 1)), (1, .int a1), (2, .int a2)]) hx hb dX10_isBeginning_22 rfl hl (by decide) rfl (fun ls hl => ?_)
  refine lv_iload_n hx hb dX10_isBeginning_23 rfl (lv_at hl 0 rfl) ?_
  refine lv_iload_n hx hb dX10_isBeginning_24 rfl (lv_at hl 2 rfl) ?_
  refine lv_iconst (v := -1) hx hb dX10_isBeginning_25 (by decide) ?_
  refine lv_ixor hx hb dX10_isBeginning_26 ?_
  refine lv_iand hx hb dX10_isBeginning_27 ?_
  refine lv_iload_n hx hb dX10_isBeginning_28 rfl (lv_at hl 3 rfl) ?_
  refine lv_iconst (v := -1) hx hb dX10_isBeginning_29 (by decide) ?_
  refine lv_ixor hx hb dX10_isBeginning_30 ?_
  refine lv_iand hx hb dX10_isBeginning_31 ?_
  refine lv_if_ne (tgt := 39) hx hb dX10_isBeginning_32 (by decide) (fun c32 => ?_) (fun c32 => ?_)
  · have hw := hw.1 c32
    refine lv_iconst (v := 0) hx hb dX10_isBeginning_39 (by decide) ?_
    exact q_zret X O rfl hw dX10_isBeginning_40
  · have hw := hw.2 c32
    refine lv_iconst (v := 1) hx hb dX10_isBeginning_35 (by decide) ?_
    refine lv_goto (tgt := 40) hx hb dX10_isBeginning_36 (by decide) ?_
    exact q_zret X O rfl hw dX10_isBeginning_40
-- FellersOrder$Yard.lengthOf(I)I
abbrev rm_X10_lengthOf : Room := { frames := 0, cells := 0, slots := 0, locals := 0 }
def wp_X10_lengthOf (a1 : Int32) (u : St) (Post : Int32 → St → Prop) : Prop := vp_in (a1 &&& (63 : Int32)) 128 ∧ (vp_in ((64 : Int32) + (a1 >>> ((6 : Int32) &&& 31))) 128 ∧ (Post ((u 9 (Int32.toNatClampNeg (a1 &&& (63 : Int32)))) + (u 9 (Int32.toNatClampNeg ((64 : Int32) + (a1 >>> ((6 : Int32) &&& 31)))))) u))
set_option maxHeartbeats 4000000 in
set_option maxRecDepth 100000 in
theorem c_X10_lengthOf {a1 : Int32} {l : Launch} {D : va_G} {b : Nat → ClassId} {h : Nat → Nat} {u : St} {Post : Int32 → St → Prop} (hw : wp_X10_lengthOf a1 u Post) : CtI l yX10_lengthOf cX10_lengthOf 2 (some .int) rm_X10_lengthOf D (tyF b) 46 (gF b h) h [.ref (h 1), .int a1] u Post := by
  refine CtI.of (plainFor_of_name (by decide)) (Nat.le_of_ble_eq_true rfl) ?_
  intro p e s m below meth c A ls X hA O hl
  have X : Cx p s m _ meth c cX10_lengthOf 2 (some .int) RX10 D (tyF b) A := X
  obtain ⟨⟨hx, hb, hml, hown, hts⟩, hK, hNs, hlocks, hr⟩ := id X
  have hl : lv_has ls 2 [(0, .ref (h 1)), (1, .int a1)] := hl
  unfold wp_X10_lengthOf at hw
  refine lv_aload_n hx hb dX10_lengthOf_0 rfl (lv_at hl 0 rfl) ?_
  refine gt_X10_26 X O dX10_lengthOf_1 ?_
  refine lv_iload_n hx hb dX10_lengthOf_4 rfl (lv_at hl 1 rfl) ?_
  refine lv_bipush (v := 63) hx hb dX10_lengthOf_5 (by decide) ?_
  refine lv_iand hx hb dX10_lengthOf_7 ?_
  obtain ⟨i8, hw⟩ := hw
  refine q_ild X O 9 0 (by decide) rfl rfl i8 dX10_lengthOf_8 ?_
  refine lv_aload_n hx hb dX10_lengthOf_9 rfl (lv_at hl 0 rfl) ?_
  refine gt_X10_26 X O dX10_lengthOf_10 ?_
  refine lv_bipush (v := 64) hx hb dX10_lengthOf_13 (by decide) ?_
  refine lv_iload_n hx hb dX10_lengthOf_15 rfl (lv_at hl 1 rfl) ?_
  refine lv_bipush (v := 6) hx hb dX10_lengthOf_16 (by decide) ?_
  refine lv_ishr hx hb dX10_lengthOf_18 ?_
  refine lv_iadd hx hb dX10_lengthOf_19 ?_
  obtain ⟨i20, hw⟩ := hw
  refine q_ild X O 9 0 (by decide) rfl rfl i20 dX10_lengthOf_20 ?_
  refine lv_iadd hx hb dX10_lengthOf_21 ?_
  exact q_iret X O hw dX10_lengthOf_22
end PT
