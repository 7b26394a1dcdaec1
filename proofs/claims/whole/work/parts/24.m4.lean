/-! the reference, methods: ran jobFollow follow jobLast unitLast last weigh jobTell tell act trace sheet cell fromSheet -/
theorem lk_X12_197 : LkV RX12 197 yX12_ran cX12_ran 2 none 1 := ⟨wd_36_7, wd_36_8, wd_36_9, wd_1_5, wd_36_10, by decide +kernel⟩
theorem lk_X12_206 : LkV RX12 206 yX12_jobFollow cX12_jobFollow 3 (some .int) 2 := ⟨wd_36_15, wd_36_16, wd_36_17, wd_1_5, wd_36_18, by decide +kernel⟩
theorem lk_X12_200 : LkV RX12 200 yX12_jobLast cX12_jobLast 3 (some .int) 2 := ⟨wd_36_11, wd_36_12, wd_36_13, wd_1_5, wd_36_14, by decide +kernel⟩
theorem lk_X12_203 : LkV RX12 203 yX12_unitLast cX12_unitLast 3 (some .int) 2 := ⟨wd_36_3, wd_36_4, wd_36_5, wd_1_5, wd_36_6, by decide +kernel⟩
theorem lk_X12_209 : LkV RX12 209 yX12_last cX12_last 5 (some .int) 3 := ⟨wd_35_23, wd_36_0, wd_36_1, wd_1_5, wd_36_2, by decide +kernel⟩
theorem lk_X12_213 : LkV RX12 213 yX12_weigh cX12_weigh 5 (some .int) 3 := ⟨wd_36_19, wd_36_20, wd_36_21, wd_1_5, wd_36_22, by decide +kernel⟩
theorem lk_X12_216 : LkV RX12 216 yX12_follow cX12_follow 4 (some .int) 3 := ⟨wd_36_23, wd_37_0, wd_37_1, wd_1_5, wd_37_2, by decide +kernel⟩
theorem lk_X12_219 : LkV RX12 219 yX12_jobTell cX12_jobTell 5 (some .int) 3 := ⟨wd_37_7, wd_37_8, wd_37_9, wd_1_5, wd_37_10, by decide +kernel⟩
theorem lk_X12_222 : LkV RX12 222 yX12_tell cX12_tell 5 (some .int) 3 := ⟨wd_37_3, wd_37_4, wd_37_5, wd_1_5, wd_37_6, by decide +kernel⟩
section PT
variable {p : Program} {l : Launch} {e : Env} {s : State} {m : MethodId} {args : Array Value} {below : List Frame} {meth : Method} {c : Code} {A : Nat → Prop} {D : va_G} {b : Nat → ClassId} {h : Nat → Nat}
-- FellersOrderModel.ran(I)V
abbrev rm_X12_ran : Room := { frames := 0, cells := 0, slots := 0, locals := 0 }
def wp_X12_ran (a1 : Int32) (u : St) (Post : Int32 → St → Prop) : Prop := (((50 : Int32) ≤ (u 0 16)) → (Post 0 (su u 0 16 ((u 0 16) + (1 : Int32))))) ∧ ((¬ (50 : Int32) ≤ (u 0 16)) → (vp_in (u 0 16) 50 ∧ (Post 0 (su (su u 12 (Int32.toNatClampNeg (u 0 16)) a1) 0 16 (((su u 12 (Int32.toNatClampNeg (u 0 16)) a1) 0 16) + (1 : Int32))))))
set_option maxHeartbeats 4000000 in
set_option maxRecDepth 100000 in
theorem c_X12_ran {a1 : Int32} {l : Launch} {D : va_G} {b : Nat → ClassId} {h : Nat → Nat} {u : St} {Post : Int32 → St → Prop} (hw : wp_X12_ran a1 u Post) : CtV l yX12_ran cX12_ran 2 none rm_X12_ran D (tyM b) 21 (gM b h) h [.ref (h 0), .int a1] u Post := by
  refine CtV.of (plainFor_of_name (by decide)) (Nat.le_of_ble_eq_true rfl) ?_
  intro p e s m below meth c A ls X hA O hl
  have X : Cx p s m _ meth c cX12_ran 2 none RX12 D (tyM b) A := X
  obtain ⟨⟨hx, hb, hml, hown, hts⟩, hK, hNs, hlocks, hr⟩ := id X
  have hl : lv_has ls 2 [(0, .ref (h 0)), (1, .int a1)] := hl
  unfold wp_X12_ran at hw
  refine lv_aload_n hx hb dX12_ran_0 rfl (lv_at hl 0 rfl) ?_
  refine gt_X12_188 X O dX12_ran_1 ?_
  refine lv_bipush (v := 50) hx hb dX12_ran_4 (by decide) ?_
  refine lv_icmp_ge (tgt := 19) hx hb dX12_ran_6 (by decide) (fun c6 => ?_) (fun c6 => ?_)
  · have hw := hw.1 c6
    refine lv_aload_n hx hb dX12_ran_19 rfl (lv_at hl 0 rfl) ?_
    refine lv_dup hx hb dX12_ran_20 rfl ?_
    refine gt_X12_188 X O dX12_ran_21 ?_
    refine lv_iconst (v := 1) hx hb dX12_ran_24 (by decide) ?_
    refine lv_iadd hx hb dX12_ran_25 ?_
    refine pt_X12_188 X O dX12_ran_26 (fun H locs O => ?_)
    exact q_vret X O hw dX12_ran_29
  · have hw := hw.2 c6
    refine lv_aload_n hx hb dX12_ran_9 rfl (lv_at hl 0 rfl) ?_
    refine gt_X12_44 X O dX12_ran_10 ?_
    refine lv_aload_n hx hb dX12_ran_13 rfl (lv_at hl 0 rfl) ?_
    refine gt_X12_188 X O dX12_ran_14 ?_
    refine lv_iload_n hx hb dX12_ran_17 rfl (lv_at hl 1 rfl) ?_
    obtain ⟨i18, hw⟩ := hw
    refine q_ist X O 12 0 (by decide) (fun _ => rfl) rfl i18 dX12_ran_18 (fun H locs O => ?_)
    refine lv_aload_n hx hb dX12_ran_19 rfl (lv_at hl 0 rfl) ?_
    refine lv_dup hx hb dX12_ran_20 rfl ?_
    refine gt_X12_188 X O dX12_ran_21 ?_
    refine lv_iconst (v := 1) hx hb dX12_ran_24 (by decide) ?_
    refine lv_iadd hx hb dX12_ran_25 ?_
    refine pt_X12_188 X O dX12_ran_26 (fun H locs O => ?_)
    exact q_vret X O hw dX12_ran_29
-- FellersOrderModel.jobFollow(II)I
abbrev rm_X12_jobFollow : Room := { frames := 1, cells := 0, slots := 0, locals := 22 }
def wp_X12_jobFollow (a1 : Int32) (a2 : Int32) (u : St) (Post : Int32 → St → Prop) : Prop := wp_X12_ran (12 : Int32) u (fun _ u3 => vp_in a1 12 ∧ (wp_X12_bits (u3 5 (Int32.toNatClampNeg a1)) u3 (fun r13 u13 => Post (a2 + r13) u13)))
set_option maxHeartbeats 4000000 in
set_option maxRecDepth 100000 in
theorem c_X12_jobFollow {a1 : Int32} {a2 : Int32} {l : Launch} {D : va_G} {b : Nat → ClassId} {h : Nat → Nat} {u : St} {Post : Int32 → St → Prop} (hw : wp_X12_jobFollow a1 a2 u Post) : CtI l yX12_jobFollow cX12_jobFollow 3 (some .int) rm_X12_jobFollow D (tyM b) 21 (gM b h) h [.ref (h 0), .int a1, .int a2] u Post := by
  refine CtI.of (plainFor_of_name (by decide)) (Nat.le_of_ble_eq_true rfl) ?_
  intro p e s m below meth c A ls X hA O hl
  have X : Cx p s m _ meth c cX12_jobFollow 3 (some .int) RX12 D (tyM b) A := X
  obtain ⟨⟨hx, hb, hml, hown, hts⟩, hK, hNs, hlocks, hr⟩ := id X
  have hl : lv_has ls 3 [(0, .ref (h 0)), (1, .int a1), (2, .int a2)] := hl
  unfold wp_X12_jobFollow at hw
  refine lv_aload_n hx hb dX12_jobFollow_0 rfl (lv_at hl 0 rfl) ?_
  refine lv_bipush (v := 12) hx hb dX12_jobFollow_1 (by decide) ?_
  refine q_cvv (rest := []) X O hA 0 (c_X12_ran hw) lk_X12_197 (by decide) rfl rfl rfl rfl rfl rfl ⟨Nat.le_of_ble_eq_true rfl, Nat.le_of_ble_eq_true rfl⟩ (Nat.le_of_ble_eq_true rfl) hl.1 ⟨Nat.zero_le _, Nat.zero_le _⟩ rfl dX12_jobFollow_3 (fun u3 H locs hw O => ?_)
  refine lv_iload_n hx hb dX12_jobFollow_6 rfl (lv_at hl 2 rfl) ?_
  refine lv_aload_n hx hb dX12_jobFollow_7 rfl (lv_at hl 0 rfl) ?_
  refine gt_X12_22 X O dX12_jobFollow_8 ?_
  refine lv_iload_n hx hb dX12_jobFollow_11 rfl (lv_at hl 1 rfl) ?_
  obtain ⟨i12, hw⟩ := hw
  refine q_ild X O 5 0 (by decide) rfl rfl i12 dX12_jobFollow_12 ?_
  refine q_cis (rest := [.int a2]) X O hA (c_X12_bits hw) lk_X12_173 rfl rfl rfl ⟨Nat.le_of_ble_eq_true rfl, Nat.le_of_ble_eq_true rfl⟩ (Nat.le_of_ble_eq_true rfl) hl.1 ⟨Nat.zero_le _, Nat.zero_le _⟩ rfl dX12_jobFollow_13 (fun r13 u13 H locs hw O => ?_)
  refine lv_iadd hx hb dX12_jobFollow_16 ?_
  exact q_iret X O hw dX12_jobFollow_17
-- FellersOrderModel.follow(III)I
abbrev rm_X12_follow : Room := { frames := 2, cells := 0, slots := 0, locals := 44 }
def wp_X12_follow (a1 : Int32) (a2 : Int32) (a3 : Int32) (u : St) (Post : Int32 → St → Prop) : Prop := ((¬ a2 = (3 : Int32)) → (wp_X12_jobFollow a1 a3 u (fun r24 u24 => Post r24 u24))) ∧ ((a2 = (3 : Int32)) → (wp_X12_ran (40 : Int32) u (fun _ u8 => wp_X12_jobFollow a1 a3 u8 (fun r14 u14 => Post (r14 - (7 : Int32)) u14))))
set_option maxHeartbeats 4000000 in
set_option maxRecDepth 100000 in
theorem c_X12_follow {a1 : Int32} {a2 : Int32} {a3 : Int32} {l : Launch} {D : va_G} {b : Nat → ClassId} {h : Nat → Nat} {u : St} {Post : Int32 → St → Prop} (hw : wp_X12_follow a1 a2 a3 u Post) : CtI l yX12_follow cX12_follow 4 (some .int) rm_X12_follow D (tyM b) 21 (gM b h) h [.ref (h 0), .int a1, .int a2, .int a3] u Post := by
  refine CtI.of (plainFor_of_name (by decide)) (Nat.le_of_ble_eq_true rfl) ?_
  intro p e s m below meth c A ls X hA O hl
  have X : Cx p s m _ meth c cX12_follow 4 (some .int) RX12 D (tyM b) A := X
  obtain ⟨⟨hx, hb, hml, hown, hts⟩, hK, hNs, hlocks, hr⟩ := id X
  have hl : lv_has ls 4 [(0, .ref (h 0)), (1, .int a1), (2, .int a2), (3, .int a3)] := hl
  unfold wp_X12_follow at hw
  refine lv_iload_n hx hb dX12_follow_0 rfl (lv_at hl 2 rfl) ?_
  refine lv_iconst (v := 3) hx hb dX12_follow_1 (by decide) ?_
  refine lv_icmp_ne (tgt := 21) hx hb dX12_follow_2 (by decide) (fun c2 => ?_) (fun c2 => ?_)
  · have hw := hw.1 c2
    refine lv_aload_n hx hb dX12_follow_21 rfl (lv_at hl 0 rfl) ?_
    refine lv_iload_n hx hb dX12_follow_22 rfl (lv_at hl 1 rfl) ?_
    refine lv_iload_n hx hb dX12_follow_23 rfl (lv_at hl 3 rfl) ?_
    refine q_civ (rest := []) X O hA 0 (c_X12_jobFollow hw) lk_X12_206 (by decide) rfl rfl rfl rfl rfl rfl ⟨Nat.le_of_ble_eq_true rfl, Nat.le_of_ble_eq_true rfl⟩ (Nat.le_of_ble_eq_true rfl) hl.1 ⟨Nat.zero_le _, Nat.zero_le _⟩ rfl dX12_follow_24 (fun r24 u24 H locs hw O => ?_)
    exact q_iret X O hw dX12_follow_27
  · have hw := hw.2 c2
    refine lv_aload_n hx hb dX12_follow_5 rfl (lv_at hl 0 rfl) ?_
    refine lv_bipush (v := 40) hx hb dX12_follow_6 (by decide) ?_
    refine q_cvv (rest := []) X O hA 0 (c_X12_ran hw) lk_X12_197 (by decide) rfl rfl rfl rfl rfl rfl ⟨Nat.le_of_ble_eq_true rfl, Nat.le_of_ble_eq_true rfl⟩ (Nat.le_of_ble_eq_true rfl) hl.1 ⟨Nat.zero_le _, Nat.zero_le _⟩ rfl dX12_follow_8 (fun u8 H locs hw O => ?_)
    refine lv_aload_n hx hb dX12_follow_11 rfl (lv_at hl 0 rfl) ?_
    refine lv_iload_n hx hb dX12_follow_12 rfl (lv_at hl 1 rfl) ?_
    refine lv_iload_n hx hb dX12_follow_13 rfl (lv_at hl 3 rfl) ?_
    refine q_civ (rest := []) X O hA 0 (c_X12_jobFollow hw) lk_X12_206 (by decide) rfl rfl rfl rfl rfl rfl ⟨Nat.le_of_ble_eq_true rfl, Nat.le_of_ble_eq_true rfl⟩ (Nat.le_of_ble_eq_true rfl) hl.1 ⟨Nat.zero_le _, Nat.zero_le _⟩ rfl dX12_follow_14 (fun r14 u14 H locs hw O => ?_)
    refine lv_bipush (v := 7) hx hb dX12_follow_17 (by decide) ?_
    refine lv_isub hx hb dX12_follow_19 ?_
    exact q_iret X O hw dX12_follow_20
-- FellersOrderModel.jobLast(II)I
abbrev rm_X12_jobLast : Room := { frames := 1, cells := 0, slots := 0, locals := 21 }
def wp_X12_jobLast (a1 : Int32) (a2 : Int32) (u : St) (Post : Int32 → St → Prop) : Prop := wp_X12_ran (10 : Int32) u (fun _ u3 => vp_in a1 12 ∧ (Post (a2 + (u3 1 (Int32.toNatClampNeg a1))) u3))
set_option maxHeartbeats 4000000 in
set_option maxRecDepth 100000 in
theorem c_X12_jobLast {a1 : Int32} {a2 : Int32} {l : Launch} {D : va_G} {b : Nat → ClassId} {h : Nat → Nat} {u : St} {Post : Int32 → St → Prop} (hw : wp_X12_jobLast a1 a2 u Post) : CtI l yX12_jobLast cX12_jobLast 3 (some .int) rm_X12_jobLast D (tyM b) 21 (gM b h) h [.ref (h 0), .int a1, .int a2] u Post := by
  refine CtI.of (plainFor_of_name (by decide)) (Nat.le_of_ble_eq_true rfl) ?_
  intro p e s m below meth c A ls X hA O hl
  have X : Cx p s m _ meth c cX12_jobLast 3 (some .int) RX12 D (tyM b) A := X
  obtain ⟨⟨hx, hb, hml, hown, hts⟩, hK, hNs, hlocks, hr⟩ := id X
  have hl : lv_has ls 3 [(0, .ref (h 0)), (1, .int a1), (2, .int a2)] := hl
  unfold wp_X12_jobLast at hw
  refine lv_aload_n hx hb dX12_jobLast_0 rfl (lv_at hl 0 rfl) ?_
  refine lv_bipush (v := 10) hx hb dX12_jobLast_1 (by decide) ?_
  refine q_cvv (rest := []) X O hA 0 (c_X12_ran hw) lk_X12_197 (by decide) rfl rfl rfl rfl rfl rfl ⟨Nat.le_of_ble_eq_true rfl, Nat.le_of_ble_eq_true rfl⟩ (Nat.le_of_ble_eq_true rfl) hl.1 ⟨Nat.zero_le _, Nat.zero_le _⟩ rfl dX12_jobLast_3 (fun u3 H locs hw O => ?_)
  refine lv_iload_n hx hb dX12_jobLast_6 rfl (lv_at hl 2 rfl) ?_
  refine lv_aload_n hx hb dX12_jobLast_7 rfl (lv_at hl 0 rfl) ?_
  refine gt_X12_7 X O dX12_jobLast_8 ?_
  refine lv_iload_n hx hb dX12_jobLast_11 rfl (lv_at hl 1 rfl) ?_
  obtain ⟨i12, hw⟩ := hw
  refine q_ild X O 1 0 (by decide) rfl rfl i12 dX12_jobLast_12 ?_
  refine lv_iadd hx hb dX12_jobLast_13 ?_
  exact q_iret X O hw dX12_jobLast_14
-- FellersOrderModel.unitLast(II)I
abbrev rm_X12_unitLast : Room := { frames := 2, cells := 0, slots := 0, locals := 43 }
def wp_X12_unitLast (a1 : Int32) (a2 : Int32) (u : St) (Post : Int32 → St → Prop) : Prop := wp_X12_ran (20 : Int32) u (fun _ u3 => wp_X12_jobLast a1 a2 u3 (fun r9 u9 => Post (r9 * (2 : Int32)) u9))
set_option maxHeartbeats 4000000 in
set_option maxRecDepth 100000 in
theorem c_X12_unitLast {a1 : Int32} {a2 : Int32} {l : Launch} {D : va_G} {b : Nat → ClassId} {h : Nat → Nat} {u : St} {Post : Int32 → St → Prop} (hw : wp_X12_unitLast a1 a2 u Post) : CtI l yX12_unitLast cX12_unitLast 3 (some .int) rm_X12_unitLast D (tyM b) 21 (gM b h) h [.ref (h 0), .int a1, .int a2] u Post := by
  refine CtI.of (plainFor_of_name (by decide)) (Nat.le_of_ble_eq_true rfl) ?_
  intro p e s m below meth c A ls X hA O hl
  have X : Cx p s m _ meth c cX12_unitLast 3 (some .int) RX12 D (tyM b) A := X
  obtain ⟨⟨hx, hb, hml, hown, hts⟩, hK, hNs, hlocks, hr⟩ := id X
  have hl : lv_has ls 3 [(0, .ref (h 0)), (1, .int a1), (2, .int a2)] := hl
  unfold wp_X12_unitLast at hw
  refine lv_aload_n hx hb dX12_unitLast_0 rfl (lv_at hl 0 rfl) ?_
  refine lv_bipush (v := 20) hx hb dX12_unitLast_1 (by decide) ?_
  refine q_cvv (rest := []) X O hA 0 (c_X12_ran hw) lk_X12_197 (by decide) rfl rfl rfl rfl rfl rfl ⟨Nat.le_of_ble_eq_true rfl, Nat.le_of_ble_eq_true rfl⟩ (Nat.le_of_ble_eq_true rfl) hl.1 ⟨Nat.zero_le _, Nat.zero_le _⟩ rfl dX12_unitLast_3 (fun u3 H locs hw O => ?_)
  refine lv_aload_n hx hb dX12_unitLast_6 rfl (lv_at hl 0 rfl) ?_
  refine lv_iload_n hx hb dX12_unitLast_7 rfl (lv_at hl 1 rfl) ?_
  refine lv_iload_n hx hb dX12_unitLast_8 rfl (lv_at hl 2 rfl) ?_
  refine q_civ (rest := []) X O hA 0 (c_X12_jobLast hw) lk_X12_200 (by decide) rfl rfl rfl rfl rfl rfl ⟨Nat.le_of_ble_eq_true rfl, Nat.le_of_ble_eq_true rfl⟩ (Nat.le_of_ble_eq_true rfl) hl.1 ⟨Nat.zero_le _, Nat.zero_le _⟩ rfl dX12_unitLast_9 (fun r9 u9 H locs hw O => ?_)
  refine lv_iconst (v := 2) hx hb dX12_unitLast_12 (by decide) ?_
  refine lv_imul hx hb dX12_unitLast_13 ?_
  exact q_iret X O hw dX12_unitLast_14
-- FellersOrderModel.last(III)I
abbrev rm_X12_last : Room := { frames := 3, cells := 0, slots := 0, locals := 65 }
def wp_X12_last (a1 : Int32) (a2 : Int32) (a3 : Int32) (u : St) (Post : Int32 → St → Prop) : Prop := (a2 = 1 → (wp_X12_unitLast a1 a3 u (fun r35 u35 => Post r35 u35))) ∧ (a2 = 2 → (wp_X12_jobLast a1 a3 u (fun r86 u86 => Post r86 u86))) ∧ (a2 = 3 → (wp_X12_ran (41 : Int32) u (fun _ u42 => wp_X12_unitLast a1 a3 u42 (fun r48 u48 => wp_X12_jobFollow a1 a3 u48 (fun r58 u58 => Post (r48 + r58) u58))))) ∧ (a2 = 4 → (wp_X12_ran (50 : Int32) u (fun _ u66 => vp_in a1 12 ∧ (wp_X12_jobLast a1 (a3 + (u66 3 (Int32.toNatClampNeg a1))) u66 (fun r79 u79 => Post r79 u79))))) ∧ (¬ a2 = 1 → ¬ a2 = 2 → ¬ a2 = 3 → ¬ a2 = 4 → (wp_X12_jobLast a1 a3 u (fun r86 u86 => Post r86 u86)))
set_option maxHeartbeats 4000000 in
set_option maxRecDepth 100000 in
theorem c_X12_last {a1 : Int32} {a2 : Int32} {a3 : Int32} {l : Launch} {D : va_G} {b : Nat → ClassId} {h : Nat → Nat} {u : St} {Post : Int32 → St → Prop} (hw : wp_X12_last a1 a2 a3 u Post) : CtI l yX12_last cX12_last 5 (some .int) rm_X12_last D (tyM b) 21 (gM b h) h [.ref (h 0), .int a1, .int a2, .int a3] u Post := by
  refine CtI.of (plainFor_of_name (by decide)) (Nat.le_of_ble_eq_true rfl) ?_
  intro p e s m below meth c A ls X hA O hl
  have X : Cx p s m _ meth c cX12_last 5 (some .int) RX12 D (tyM b) A := X
  obtain ⟨⟨hx, hb, hml, hown, hts⟩, hK, hNs, hlocks, hr⟩ := id X
  have hl : lv_has ls 5 [(0, .ref (h 0)), (1, .int a1), (2, .int a2), (3, .int a3)] := hl
  unfold wp_X12_last at hw
  refine lv_iload_n hx hb dX12_last_0 rfl (lv_at hl 2 rfl) ?_
  by_cases s1_0 : a2 = 1
  · have hw := hw.1 s1_0
    refine lv_tableIn (off := 31) (tgt := 32) hx hb dX12_last_1 (by rw [s1_0]; decide) (by rw [s1_0]; decide) (by rw [s1_0]; decide) (by decide) ?_
    refine lv_aload_n hx hb dX12_last_32 rfl (lv_at hl 0 rfl) ?_
    refine lv_iload_n hx hb dX12_last_33 rfl (lv_at hl 1 rfl) ?_
    refine lv_iload_n hx hb dX12_last_34 rfl (lv_at hl 3 rfl) ?_
    refine q_civ (rest := []) X O hA 0 (c_X12_unitLast hw) lk_X12_203 (by decide) rfl rfl rfl rfl rfl rfl ⟨Nat.le_of_ble_eq_true rfl, Nat.le_of_ble_eq_true rfl⟩ (Nat.le_of_ble_eq_true rfl) hl.1 ⟨Nat.zero_le _, Nat.zero_le _⟩ rfl dX12_last_35 (fun r35 u35 H locs hw O => ?_)
    exact q_iret X O hw dX12_last_38
  · replace hw := hw.2
    by_cases s1_1 : a2 = 2
    · have hw := hw.1 s1_1
      refine lv_tableIn (off := 82) (tgt := 83) hx hb dX12_last_1 (by rw [s1_1]; decide) (by rw [s1_1]; decide) (by rw [s1_1]; decide) (by decide) ?_
      refine lv_aload_n hx hb dX12_last_83 rfl (lv_at hl 0 rfl) ?_
      refine lv_iload_n hx hb dX12_last_84 rfl (lv_at hl 1 rfl) ?_
      refine lv_iload_n hx hb dX12_last_85 rfl (lv_at hl 3 rfl) ?_
      refine q_civ (rest := []) X O hA 0 (c_X12_jobLast hw) lk_X12_200 (by decide) rfl rfl rfl rfl rfl rfl ⟨Nat.le_of_ble_eq_true rfl, Nat.le_of_ble_eq_true rfl⟩ (Nat.le_of_ble_eq_true rfl) hl.1 ⟨Nat.zero_le _, Nat.zero_le _⟩ rfl dX12_last_86 (fun r86 u86 H locs hw O => ?_)
      exact q_iret X O hw dX12_last_89
    · replace hw := hw.2
      by_cases s1_2 : a2 = 3
      · have hw := hw.1 s1_2
        refine lv_tableIn (off := 38) (tgt := 39) hx hb dX12_last_1 (by rw [s1_2]; decide) (by rw [s1_2]; decide) (by rw [s1_2]; decide) (by decide) ?_
        refine lv_aload_n hx hb dX12_last_39 rfl (lv_at hl 0 rfl) ?_
        refine lv_bipush (v := 41) hx hb dX12_last_40 (by decide) ?_
        refine q_cvv (rest := []) X O hA 0 (c_X12_ran hw) lk_X12_197 (by decide) rfl rfl rfl rfl rfl rfl ⟨Nat.le_of_ble_eq_true rfl, Nat.le_of_ble_eq_true rfl⟩ (Nat.le_of_ble_eq_true rfl) hl.1 ⟨Nat.zero_le _, Nat.zero_le _⟩ rfl dX12_last_42 (fun u42 H locs hw O => ?_)
        refine lv_aload_n hx hb dX12_last_45 rfl (lv_at hl 0 rfl) ?_
        refine lv_iload_n hx hb dX12_last_46 rfl (lv_at hl 1 rfl) ?_
        refine lv_iload_n hx hb dX12_last_47 rfl (lv_at hl 3 rfl) ?_
        refine q_civ (rest := []) X O hA 0 (c_X12_unitLast hw) lk_X12_203 (by decide) rfl rfl rfl rfl rfl rfl ⟨Nat.le_of_ble_eq_true rfl, Nat.le_of_ble_eq_true rfl⟩ (Nat.le_of_ble_eq_true rfl) hl.1 ⟨Nat.zero_le _, Nat.zero_le _⟩ rfl dX12_last_48 (fun r48 u48 H locs hw O => ?_)
        refine lv_istore (lv' := [(4, .int r48), (0, .ref (h 0)), (1, .int a1), (2, .int a2), (3, .int a3)]) hx hb dX12_last_51 hl (by decide) rfl (fun ls hl => ?_)
        refine lv_iload hx hb dX12_last_53 (lv_at hl 0 rfl) ?_
        refine lv_aload_n hx hb dX12_last_55 rfl (lv_at hl 1 rfl) ?_
        refine lv_iload_n hx hb dX12_last_56 rfl (lv_at hl 2 rfl) ?_
        refine lv_iload_n hx hb dX12_last_57 rfl (lv_at hl 4 rfl) ?_
        refine q_civ (rest := [.int r48]) X O hA 0 (c_X12_jobFollow hw) lk_X12_206 (by decide) rfl rfl rfl rfl rfl rfl ⟨Nat.le_of_ble_eq_true rfl, Nat.le_of_ble_eq_true rfl⟩ (Nat.le_of_ble_eq_true rfl) hl.1 ⟨Nat.zero_le _, Nat.zero_le _⟩ rfl dX12_last_58 (fun r58 u58 H locs hw O => ?_)
        refine lv_iadd hx hb dX12_last_61 ?_
        exact q_iret X O hw dX12_last_62
      · replace hw := hw.2
        by_cases s1_3 : a2 = 4
        · have hw := hw.1 s1_3
          refine lv_tableIn (off := 62) (tgt := 63) hx hb dX12_last_1 (by rw [s1_3]; decide) (by rw [s1_3]; decide) (by rw [s1_3]; decide) (by decide) ?_
          refine lv_aload_n hx hb dX12_last_63 rfl (lv_at hl 0 rfl) ?_
          refine lv_bipush (v := 50) hx hb dX12_last_64 (by decide) ?_
          refine q_cvv (rest := []) X O hA 0 (c_X12_ran hw) lk_X12_197 (by decide) rfl rfl rfl rfl rfl rfl ⟨Nat.le_of_ble_eq_true rfl, Nat.le_of_ble_eq_true rfl⟩ (Nat.le_of_ble_eq_true rfl) hl.1 ⟨Nat.zero_le _, Nat.zero_le _⟩ rfl dX12_last_66 (fun u66 H locs hw O => ?_)
          refine lv_aload_n hx hb dX12_last_69 rfl (lv_at hl 0 rfl) ?_
          refine lv_iload_n hx hb dX12_last_70 rfl (lv_at hl 1 rfl) ?_
          refine lv_iload_n hx hb dX12_last_71 rfl (lv_at hl 3 rfl) ?_
          refine lv_aload_n hx hb dX12_last_72 rfl (lv_at hl 0 rfl) ?_
          refine gt_X12_16 X O dX12_last_73 ?_
          refine lv_iload_n hx hb dX12_last_76 rfl (lv_at hl 1 rfl) ?_
          obtain ⟨i77, hw⟩ := hw
          refine q_ild X O 3 0 (by decide) rfl rfl i77 dX12_last_77 ?_
          refine lv_iadd hx hb dX12_last_78 ?_
          refine q_civ (rest := []) X O hA 0 (c_X12_jobLast hw) lk_X12_200 (by decide) rfl rfl rfl rfl rfl rfl ⟨Nat.le_of_ble_eq_true rfl, Nat.le_of_ble_eq_true rfl⟩ (Nat.le_of_ble_eq_true rfl) hl.1 ⟨Nat.zero_le _, Nat.zero_le _⟩ rfl dX12_last_79 (fun r79 u79 H locs hw O => ?_)
          exact q_iret X O hw dX12_last_82
        · replace hw := hw.2
          have hw := hw s1_0 s1_1 s1_2 s1_3
          refine lv_tableOut (tgt := 83) hx hb dX12_last_1 (by have e0 := ts_ne (k := 1) (by decide) s1_0; have e1 := ts_ne (k := 2) (by decide) s1_1; have e2 := ts_ne (k := 3) (by decide) s1_2; have e3 := ts_ne (k := 4) (by decide) s1_3; omega) (by decide) ?_
          refine lv_aload_n hx hb dX12_last_83 rfl (lv_at hl 0 rfl) ?_
          refine lv_iload_n hx hb dX12_last_84 rfl (lv_at hl 1 rfl) ?_
          refine lv_iload_n hx hb dX12_last_85 rfl (lv_at hl 3 rfl) ?_
          refine q_civ (rest := []) X O hA 0 (c_X12_jobLast hw) lk_X12_200 (by decide) rfl rfl rfl rfl rfl rfl ⟨Nat.le_of_ble_eq_true rfl, Nat.le_of_ble_eq_true rfl⟩ (Nat.le_of_ble_eq_true rfl) hl.1 ⟨Nat.zero_le _, Nat.zero_le _⟩ rfl dX12_last_86 (fun r86 u86 H locs hw O => ?_)
          exact q_iret X O hw dX12_last_89
-- FellersOrderModel.weigh(III)I
abbrev rm_X12_weigh : Room := { frames := 4, cells := 0, slots := 0, locals := 89 }
def wb_X12_weigh_11 (Post : Int32 → St → Prop) (x1 : Int32) (x2 : Int32) (x3 : Int32) (u : St) : Prop := wp_X12_ran (11 : Int32) u (fun _ u14 => wp_X12_last x1 x2 x3 u14 (fun r21 u21 => vp_in x1 12 ∧ (((¬ x2 = (2 : Int32)) → (Post (r21 * (u21 2 (Int32.toNatClampNeg x1))) u21)) ∧ ((x2 = (2 : Int32)) → (vp_in x1 12 ∧ (Post ((r21 * (u21 2 (Int32.toNatClampNeg x1))) + (u21 1 (Int32.toNatClampNeg x1))) u21))))))
set_option maxHeartbeats 4000000 in
set_option maxRecDepth 100000 in
theorem tb_X12_weigh_11 (X : Cx p s m args meth c cX12_weigh 5 (some .int) RX12 D (tyM b) A) (hA : ∀ q, s.heap.size ≤ q → A q) {Post : Int32 → St → Prop} : ∀ (x1 : Int32) (x2 : Int32) (x3 : Int32) (u : St) (H : Heap) (locs : List Loc) (ls : Array Slot), wb_X12_weigh_11 Post x1 x2 x3 u → wO D 21 (gM b h) h u A s.heap H locs → lv_has ls 5 [(0, .ref (h 0)), (1, .int x1), (2, .int x2), (3, .int x3)] → W p l e rm_X12_weigh s m args below meth c H locs 0 0 (MQ below (va_Qi Post (cB D (tyM b) 21 (gM b h) h A) A) args s 0 0 A) (F0 m 11 ls []) := by
  obtain ⟨⟨hx, hb, hml, hown, hts⟩, hK, hNs, hlocks, hr⟩ := id X
  intro x1 x2 x3 u H locs ls hw O hl
  unfold wb_X12_weigh_11 at hw
  refine lv_aload_n hx hb dX12_weigh_11 rfl (lv_at hl 0 rfl) ?_
  refine lv_bipush (v := 11) hx hb dX12_weigh_12 (by decide) ?_
  refine q_cvv (rest := []) X O hA 0 (c_X12_ran hw) lk_X12_197 (by decide) rfl rfl rfl rfl rfl rfl ⟨Nat.le_of_ble_eq_true rfl, Nat.le_of_ble_eq_true rfl⟩ (Nat.le_of_ble_eq_true rfl) hl.1 ⟨Nat.zero_le _, Nat.zero_le _⟩ rfl dX12_weigh_14 (fun u14 H locs hw O => ?_)
  refine lv_aload_n hx hb dX12_weigh_17 rfl (lv_at hl 0 rfl) ?_
  refine lv_iload_n hx hb dX12_weigh_18 rfl (lv_at hl 1 rfl) ?_
  refine lv_iload_n hx hb dX12_weigh_19 rfl (lv_at hl 2 rfl) ?_
  refine lv_iload_n hx hb dX12_weigh_20 rfl (lv_at hl 3 rfl) ?_
  refine q_civ (rest := []) X O hA 0 (c_X12_last hw) lk_X12_209 (by decide) rfl rfl rfl rfl rfl rfl ⟨Nat.le_of_ble_eq_true rfl, Nat.le_of_ble_eq_true rfl⟩ (Nat.le_of_ble_eq_true rfl) hl.1 ⟨Nat.zero_le _, Nat.zero_le _⟩ rfl dX12_weigh_21 (fun r21 u21 H locs hw O => ?_)
  refine lv_aload_n hx hb dX12_weigh_24 rfl (lv_at hl 0 rfl) ?_
  refine gt_X12_13 X O dX12_weigh_25 ?_
  refine lv_iload_n hx hb dX12_weigh_28 rfl (lv_at hl 1 rfl) ?_
  obtain ⟨i29, hw⟩ := hw
  refine q_ild X O 2 0 (by decide) rfl rfl i29 dX12_weigh_29 ?_
  refine lv_imul hx hb dX12_weigh_30 ?_
  refine lv_istore (lv' := [(4, .int (r21 * (u21 2 (Int32.toNatClampNeg x1)))), (0, .ref (h 0)), (1, .int x1), (2, .int x2), (3, .int x3)]) hx hb dX12_weigh_31 hl (by decide) rfl (fun ls hl => ?_)
  refine lv_iload_n hx hb dX12_weigh_33 rfl (lv_at hl 3 rfl) ?_
  refine lv_iconst (v := 2) hx hb dX12_weigh_34 (by decide) ?_
  refine lv_icmp_ne (tgt := 50) hx hb dX12_weigh_35 (by decide) (fun c35 => ?_) (fun c35 => ?_)
  · have hw := hw.1 c35
    refine lv_iload hx hb dX12_weigh_50 (lv_at hl 0 rfl) ?_
    exact q_iret X O hw dX12_weigh_52
  · have hw := hw.2 c35
    refine lv_iload hx hb dX12_weigh_38 (lv_at hl 0 rfl) ?_
    refine lv_aload_n hx hb dX12_weigh_40 rfl (lv_at hl 1 rfl) ?_
    refine gt_X12_7 X O dX12_weigh_41 ?_
    refine lv_iload_n hx hb dX12_weigh_44 rfl (lv_at hl 2 rfl) ?_
    obtain ⟨i45, hw⟩ := hw
    refine q_ild X O 1 0 (by decide) rfl rfl i45 dX12_weigh_45 ?_
    refine lv_iadd hx hb dX12_weigh_46 ?_
    refine lv_goto (tgt := 52) hx hb dX12_weigh_47 (by decide) ?_
    exact q_iret X O hw dX12_weigh_52
def wp_X12_weigh (a1 : Int32) (a2 : Int32) (a3 : Int32) (u : St) (Post : Int32 → St → Prop) : Prop := ((¬ a2 = (2 : Int32)) → (wb_X12_weigh_11 Post a1 a2 a3 u)) ∧ ((a2 = (2 : Int32)) → (wp_X12_ran (30 : Int32) u (fun _ u8 => wb_X12_weigh_11 Post a1 a2 a3 u8)))
set_option maxHeartbeats 4000000 in
set_option maxRecDepth 100000 in
theorem c_X12_weigh {a1 : Int32} {a2 : Int32} {a3 : Int32} {l : Launch} {D : va_G} {b : Nat → ClassId} {h : Nat → Nat} {u : St} {Post : Int32 → St → Prop} (hw : wp_X12_weigh a1 a2 a3 u Post) : CtI l yX12_weigh cX12_weigh 5 (some .int) rm_X12_weigh D (tyM b) 21 (gM b h) h [.ref (h 0), .int a1, .int a2, .int a3] u Post := by
  refine CtI.of (plainFor_of_name (by decide)) (Nat.le_of_ble_eq_true rfl) ?_
  intro p e s m below meth c A ls X hA O hl
  have X : Cx p s m _ meth c cX12_weigh 5 (some .int) RX12 D (tyM b) A := X
  obtain ⟨⟨hx, hb, hml, hown, hts⟩, hK, hNs, hlocks, hr⟩ := id X
  have hl : lv_has ls 5 [(0, .ref (h 0)), (1, .int a1), (2, .int a2), (3, .int a3)] := hl
  unfold wp_X12_weigh at hw
  refine lv_iload_n hx hb dX12_weigh_0 rfl (lv_at hl 2 rfl) ?_
  refine lv_iconst (v := 2) hx hb dX12_weigh_1 (by decide) ?_
  refine lv_icmp_ne (tgt := 11) hx hb dX12_weigh_2 (by decide) (fun c2 => ?_) (fun c2 => ?_)
  · have hw := hw.1 c2
    exact tb_X12_weigh_11 X hA _ _ _ _ _ _ _ hw O (lv_sub hl [0, 1, 2, 3] rfl)
  · have hw := hw.2 c2
    refine lv_aload_n hx hb dX12_weigh_5 rfl (lv_at hl 0 rfl) ?_
    refine lv_bipush (v := 30) hx hb dX12_weigh_6 (by decide) ?_
    refine q_cvv (rest := []) X O hA 0 (c_X12_ran hw) lk_X12_197 (by decide) rfl rfl rfl rfl rfl rfl ⟨Nat.le_of_ble_eq_true rfl, Nat.le_of_ble_eq_true rfl⟩ (Nat.le_of_ble_eq_true rfl) hl.1 ⟨Nat.zero_le _, Nat.zero_le _⟩ rfl dX12_weigh_8 (fun u8 H locs hw O => ?_)
    exact tb_X12_weigh_11 X hA _ _ _ _ _ _ _ hw O (lv_sub hl [0, 1, 2, 3] rfl)
-- FellersOrderModel.jobTell(III)I
abbrev rm_X12_jobTell : Room := { frames := 5, cells := 0, slots := 0, locals := 113 }
def wp_X12_jobTell (a1 : Int32) (a2 : Int32) (a3 : Int32) (u : St) (Post : Int32 → St → Prop) : Prop := wp_X12_ran (13 : Int32) u (fun _ u3 => wp_X12_weigh a1 a2 a3 u3 (fun r10 u10 => wp_X12_follow a1 a2 a3 u10 (fun r21 u21 => Post (r10 - r21) u21)))
set_option maxHeartbeats 4000000 in
set_option maxRecDepth 100000 in
theorem c_X12_jobTell {a1 : Int32} {a2 : Int32} {a3 : Int32} {l : Launch} {D : va_G} {b : Nat → ClassId} {h : Nat → Nat} {u : St} {Post : Int32 → St → Prop} (hw : wp_X12_jobTell a1 a2 a3 u Post) : CtI l yX12_jobTell cX12_jobTell 5 (some .int) rm_X12_jobTell D (tyM b) 21 (gM b h) h [.ref (h 0), .int a1, .int a2, .int a3] u Post := by
  refine CtI.of (plainFor_of_name (by decide)) (Nat.le_of_ble_eq_true rfl) ?_
  intro p e s m below meth c A ls X hA O hl
  have X : Cx p s m _ meth c cX12_jobTell 5 (some .int) RX12 D (tyM b) A := X
  obtain ⟨⟨hx, hb, hml, hown, hts⟩, hK, hNs, hlocks, hr⟩ := id X
  have hl : lv_has ls 5 [(0, .ref (h 0)), (1, .int a1), (2, .int a2), (3, .int a3)] := hl
  unfold wp_X12_jobTell at hw
  refine lv_aload_n hx hb dX12_jobTell_0 rfl (lv_at hl 0 rfl) ?_
  refine lv_bipush (v := 13) hx hb dX12_jobTell_1 (by decide) ?_
  refine q_cvv (rest := []) X O hA 0 (c_X12_ran hw) lk_X12_197 (by decide) rfl rfl rfl rfl rfl rfl ⟨Nat.le_of_ble_eq_true rfl, Nat.le_of_ble_eq_true rfl⟩ (Nat.le_of_ble_eq_true rfl) hl.1 ⟨Nat.zero_le _, Nat.zero_le _⟩ rfl dX12_jobTell_3 (fun u3 H locs hw O => ?_)
  refine lv_aload_n hx hb dX12_jobTell_6 rfl (lv_at hl 0 rfl) ?_
  refine lv_iload_n hx hb dX12_jobTell_7 rfl (lv_at hl 1 rfl) ?_
  refine lv_iload_n hx hb dX12_jobTell_8 rfl (lv_at hl 2 rfl) ?_
  refine lv_iload_n hx hb dX12_jobTell_9 rfl (lv_at hl 3 rfl) ?_
  refine q_civ (rest := []) X O hA 0 (c_X12_weigh hw) lk_X12_213 (by decide) rfl rfl rfl rfl rfl rfl ⟨Nat.le_of_ble_eq_true rfl, Nat.le_of_ble_eq_true rfl⟩ (Nat.le_of_ble_eq_true rfl) hl.1 ⟨Nat.zero_le _, Nat.zero_le _⟩ rfl dX12_jobTell_10 (fun r10 u10 H locs hw O => ?_)
  refine lv_istore (lv' := [(4, .int r10), (0, .ref (h 0)), (1, .int a1), (2, .int a2), (3, .int a3)]) hx hb dX12_jobTell_13 hl (by decide) rfl (fun ls hl => ?_)
  refine lv_iload hx hb dX12_jobTell_15 (lv_at hl 0 rfl) ?_
  refine lv_aload_n hx hb dX12_jobTell_17 rfl (lv_at hl 1 rfl) ?_
  refine lv_iload_n hx hb dX12_jobTell_18 rfl (lv_at hl 2 rfl) ?_
  refine lv_iload_n hx hb dX12_jobTell_19 rfl (lv_at hl 3 rfl) ?_
  refine lv_iload_n hx hb dX12_jobTell_20 rfl (lv_at hl 4 rfl) ?_
  refine q_civ (rest := [.int r10]) X O hA 0 (c_X12_follow hw) lk_X12_216 (by decide) rfl rfl rfl rfl rfl rfl ⟨Nat.le_of_ble_eq_true rfl, Nat.le_of_ble_eq_true rfl⟩ (Nat.le_of_ble_eq_true rfl) hl.1 ⟨Nat.zero_le _, Nat.zero_le _⟩ rfl dX12_jobTell_21 (fun r21 u21 H locs hw O => ?_)
  refine lv_isub hx hb dX12_jobTell_24 ?_
  exact q_iret X O hw dX12_jobTell_25
-- FellersOrderModel.tell(III)I
abbrev rm_X12_tell : Room := { frames := 6, cells := 0, slots := 0, locals := 137 }
def wp_X12_tell (a1 : Int32) (a2 : Int32) (a3 : Int32) (u : St) (Post : Int32 → St → Prop) : Prop := (a2 = 1 → (wp_X12_ran (21 : Int32) u (fun _ u35 => wp_X12_jobTell a1 a2 (a3 + (1 : Int32)) u35 (fun r44 u44 => Post (r44 ^^^ (3 : Int32)) u44)))) ∧ (a2 = 2 → (wp_X12_jobTell a1 a2 a3 u (fun r80 u80 => Post r80 u80))) ∧ (a2 = 3 → (wp_X12_ran (21 : Int32) u (fun _ u35 => wp_X12_jobTell a1 a2 (a3 + (1 : Int32)) u35 (fun r44 u44 => Post (r44 ^^^ (3 : Int32)) u44)))) ∧ (a2 = 4 → (wp_X12_ran (51 : Int32) u (fun _ u53 => wp_X12_follow a1 a2 a3 u53 (fun r60 u60 => wp_X12_jobTell a1 a2 a3 u60 (fun r71 u71 => Post (r60 * r71) u71))))) ∧ (¬ a2 = 1 → ¬ a2 = 2 → ¬ a2 = 3 → ¬ a2 = 4 → (wp_X12_jobTell a1 a2 a3 u (fun r80 u80 => Post r80 u80)))
set_option maxHeartbeats 4000000 in
set_option maxRecDepth 100000 in
theorem c_X12_tell {a1 : Int32} {a2 : Int32} {a3 : Int32} {l : Launch} {D : va_G} {b : Nat → ClassId} {h : Nat → Nat} {u : St} {Post : Int32 → St → Prop} (hw : wp_X12_tell a1 a2 a3 u Post) : CtI l yX12_tell cX12_tell 5 (some .int) rm_X12_tell D (tyM b) 21 (gM b h) h [.ref (h 0), .int a1, .int a2, .int a3] u Post := by
  refine CtI.of (plainFor_of_name (by decide)) (Nat.le_of_ble_eq_true rfl) ?_
  intro p e s m below meth c A ls X hA O hl
  have X : Cx p s m _ meth c cX12_tell 5 (some .int) RX12 D (tyM b) A := X
  obtain ⟨⟨hx, hb, hml, hown, hts⟩, hK, hNs, hlocks, hr⟩ := id X
  have hl : lv_has ls 5 [(0, .ref (h 0)), (1, .int a1), (2, .int a2), (3, .int a3)] := hl
  unfold wp_X12_tell at hw
  refine lv_iload_n hx hb dX12_tell_0 rfl (lv_at hl 2 rfl) ?_
  by_cases s1_0 : a2 = 1
  · have hw := hw.1 s1_0
    refine lv_tableIn (off := 31) (tgt := 32) hx hb dX12_tell_1 (by rw [s1_0]; decide) (by rw [s1_0]; decide) (by rw [s1_0]; decide) (by decide) ?_
    refine lv_aload_n hx hb dX12_tell_32 rfl (lv_at hl 0 rfl) ?_
    refine lv_bipush (v := 21) hx hb dX12_tell_33 (by decide) ?_
    refine q_cvv (rest := []) X O hA 0 (c_X12_ran hw) lk_X12_197 (by decide) rfl rfl rfl rfl rfl rfl ⟨Nat.le_of_ble_eq_true rfl, Nat.le_of_ble_eq_true rfl⟩ (Nat.le_of_ble_eq_true rfl) hl.1 ⟨Nat.zero_le _, Nat.zero_le _⟩ rfl dX12_tell_35 (fun u35 H locs hw O => ?_)
    refine lv_aload_n hx hb dX12_tell_38 rfl (lv_at hl 0 rfl) ?_
    refine lv_iload_n hx hb dX12_tell_39 rfl (lv_at hl 1 rfl) ?_
    refine lv_iload_n hx hb dX12_tell_40 rfl (lv_at hl 2 rfl) ?_
    refine lv_iload_n hx hb dX12_tell_41 rfl (lv_at hl 3 rfl) ?_
    refine lv_iconst (v := 1) hx hb dX12_tell_42 (by decide) ?_
    refine lv_iadd hx hb dX12_tell_43 ?_
    refine q_civ (rest := []) X O hA 0 (c_X12_jobTell hw) lk_X12_219 (by decide) rfl rfl rfl rfl rfl rfl ⟨Nat.le_of_ble_eq_true rfl, Nat.le_of_ble_eq_true rfl⟩ (Nat.le_of_ble_eq_true rfl) hl.1 ⟨Nat.zero_le _, Nat.zero_le _⟩ rfl dX12_tell_44 (fun r44 u44 H locs hw O => ?_)
    refine lv_iconst (v := 3) hx hb dX12_tell_47 (by decide) ?_
    refine lv_ixor hx hb dX12_tell_48 ?_
    exact q_iret X O hw dX12_tell_49
  · replace hw := hw.2
    by_cases s1_1 : a2 = 2
    · have hw := hw.1 s1_1
      refine lv_tableIn (off := 75) (tgt := 76) hx hb dX12_tell_1 (by rw [s1_1]; decide) (by rw [s1_1]; decide) (by rw [s1_1]; decide) (by decide) ?_
      refine lv_aload_n hx hb dX12_tell_76 rfl (lv_at hl 0 rfl) ?_
      refine lv_iload_n hx hb dX12_tell_77 rfl (lv_at hl 1 rfl) ?_
      refine lv_iload_n hx hb dX12_tell_78 rfl (lv_at hl 2 rfl) ?_
      refine lv_iload_n hx hb dX12_tell_79 rfl (lv_at hl 3 rfl) ?_
      refine q_civ (rest := []) X O hA 0 (c_X12_jobTell hw) lk_X12_219 (by decide) rfl rfl rfl rfl rfl rfl ⟨Nat.le_of_ble_eq_true rfl, Nat.le_of_ble_eq_true rfl⟩ (Nat.le_of_ble_eq_true rfl) hl.1 ⟨Nat.zero_le _, Nat.zero_le _⟩ rfl dX12_tell_80 (fun r80 u80 H locs hw O => ?_)
      exact q_iret X O hw dX12_tell_83
    · replace hw := hw.2
      by_cases s1_2 : a2 = 3
      · have hw := hw.1 s1_2
        refine lv_tableIn (off := 31) (tgt := 32) hx hb dX12_tell_1 (by rw [s1_2]; decide) (by rw [s1_2]; decide) (by rw [s1_2]; decide) (by decide) ?_
        refine lv_aload_n hx hb dX12_tell_32 rfl (lv_at hl 0 rfl) ?_
        refine lv_bipush (v := 21) hx hb dX12_tell_33 (by decide) ?_
        refine q_cvv (rest := []) X O hA 0 (c_X12_ran hw) lk_X12_197 (by decide) rfl rfl rfl rfl rfl rfl ⟨Nat.le_of_ble_eq_true rfl, Nat.le_of_ble_eq_true rfl⟩ (Nat.le_of_ble_eq_true rfl) hl.1 ⟨Nat.zero_le _, Nat.zero_le _⟩ rfl dX12_tell_35 (fun u35 H locs hw O => ?_)
        refine lv_aload_n hx hb dX12_tell_38 rfl (lv_at hl 0 rfl) ?_
        refine lv_iload_n hx hb dX12_tell_39 rfl (lv_at hl 1 rfl) ?_
        refine lv_iload_n hx hb dX12_tell_40 rfl (lv_at hl 2 rfl) ?_
        refine lv_iload_n hx hb dX12_tell_41 rfl (lv_at hl 3 rfl) ?_
        refine lv_iconst (v := 1) hx hb dX12_tell_42 (by decide) ?_
        refine lv_iadd hx hb dX12_tell_43 ?_
        refine q_civ (rest := []) X O hA 0 (c_X12_jobTell hw) lk_X12_219 (by decide) rfl rfl rfl rfl rfl rfl ⟨Nat.le_of_ble_eq_true rfl, Nat.le_of_ble_eq_true rfl⟩ (Nat.le_of_ble_eq_true rfl) hl.1 ⟨Nat.zero_le _, Nat.zero_le _⟩ rfl dX12_tell_44 (fun r44 u44 H locs hw O => ?_)
        refine lv_iconst (v := 3) hx hb dX12_tell_47 (by decide) ?_
        refine lv_ixor hx hb dX12_tell_48 ?_
        exact q_iret X O hw dX12_tell_49
      · replace hw := hw.2
        by_cases s1_3 : a2 = 4
        · have hw := hw.1 s1_3
          refine lv_tableIn (off := 49) (tgt := 50) hx hb dX12_tell_1 (by rw [s1_3]; decide) (by rw [s1_3]; decide) (by rw [s1_3]; decide) (by decide) ?_
          refine lv_aload_n hx hb dX12_tell_50 rfl (lv_at hl 0 rfl) ?_
          refine lv_bipush (v := 51) hx hb dX12_tell_51 (by decide) ?_
          refine q_cvv (rest := []) X O hA 0 (c_X12_ran hw) lk_X12_197 (by decide) rfl rfl rfl rfl rfl rfl ⟨Nat.le_of_ble_eq_true rfl, Nat.le_of_ble_eq_true rfl⟩ (Nat.le_of_ble_eq_true rfl) hl.1 ⟨Nat.zero_le _, Nat.zero_le _⟩ rfl dX12_tell_53 (fun u53 H locs hw O => ?_)
          refine lv_aload_n hx hb dX12_tell_56 rfl (lv_at hl 0 rfl) ?_
          refine lv_iload_n hx hb dX12_tell_57 rfl (lv_at hl 1 rfl) ?_
          refine lv_iload_n hx hb dX12_tell_58 rfl (lv_at hl 2 rfl) ?_
          refine lv_iload_n hx hb dX12_tell_59 rfl (lv_at hl 3 rfl) ?_
          refine q_civ (rest := []) X O hA 0 (c_X12_follow hw) lk_X12_216 (by decide) rfl rfl rfl rfl rfl rfl ⟨Nat.le_of_ble_eq_true rfl, Nat.le_of_ble_eq_true rfl⟩ (Nat.le_of_ble_eq_true rfl) hl.1 ⟨Nat.zero_le _, Nat.zero_le _⟩ rfl dX12_tell_60 (fun r60 u60 H locs hw O => ?_)
          refine lv_istore (lv' := [(4, .int r60), (0, .ref (h 0)), (1, .int a1), (2, .int a2), (3, .int a3)]) hx hb dX12_tell_63 hl (by decide) rfl (fun ls hl => ?_)
          refine lv_iload hx hb dX12_tell_65 (lv_at hl 0 rfl) ?_
          refine lv_aload_n hx hb dX12_tell_67 rfl (lv_at hl 1 rfl) ?_
          refine lv_iload_n hx hb dX12_tell_68 rfl (lv_at hl 2 rfl) ?_
          refine lv_iload_n hx hb dX12_tell_69 rfl (lv_at hl 3 rfl) ?_
          refine lv_iload_n hx hb dX12_tell_70 rfl (lv_at hl 4 rfl) ?_
          refine q_civ (rest := [.int r60]) X O hA 0 (c_X12_jobTell hw) lk_X12_219 (by decide) rfl rfl rfl rfl rfl rfl ⟨Nat.le_of_ble_eq_true rfl, Nat.le_of_ble_eq_true rfl⟩ (Nat.le_of_ble_eq_true rfl) hl.1 ⟨Nat.zero_le _, Nat.zero_le _⟩ rfl dX12_tell_71 (fun r71 u71 H locs hw O => ?_)
          refine lv_imul hx hb dX12_tell_74 ?_
          exact q_iret X O hw dX12_tell_75
        · replace hw := hw.2
          have hw := hw s1_0 s1_1 s1_2 s1_3
          refine lv_tableOut (tgt := 76) hx hb dX12_tell_1 (by have e0 := ts_ne (k := 1) (by decide) s1_0; have e1 := ts_ne (k := 2) (by decide) s1_1; have e2 := ts_ne (k := 3) (by decide) s1_2; have e3 := ts_ne (k := 4) (by decide) s1_3; omega) (by decide) ?_
          refine lv_aload_n hx hb dX12_tell_76 rfl (lv_at hl 0 rfl) ?_
          refine lv_iload_n hx hb dX12_tell_77 rfl (lv_at hl 1 rfl) ?_
          refine lv_iload_n hx hb dX12_tell_78 rfl (lv_at hl 2 rfl) ?_
          refine lv_iload_n hx hb dX12_tell_79 rfl (lv_at hl 3 rfl) ?_
          refine q_civ (rest := []) X O hA 0 (c_X12_jobTell hw) lk_X12_219 (by decide) rfl rfl rfl rfl rfl rfl ⟨Nat.le_of_ble_eq_true rfl, Nat.le_of_ble_eq_true rfl⟩ (Nat.le_of_ble_eq_true rfl) hl.1 ⟨Nat.zero_le _, Nat.zero_le _⟩ rfl dX12_tell_80 (fun r80 u80 H locs hw O => ?_)
          exact q_iret X O hw dX12_tell_83
-- FellersOrderModel.act(III)I
abbrev rm_X12_act : Room := { frames := 7, cells := 0, slots := 0, locals := 161 }
def wp_X12_act (a1 : Int32) (a2 : Int32) (a3 : Int32) (u : St) (Post : Int32 → St → Prop) : Prop := wp_X12_isJob a1 u (fun r2 u2 => ((r2 = 0) → (wp_X12_refused (1 : Int32) u2 (fun r19 u19 => Post r19 u19))) ∧ ((¬ r2 = 0) → (wp_X12_in a2 (0 : Int32) (3 : Int32) u2 (fun r11 u11 => ((¬ r11 = 0) → (wp_X12_kindOf a1 u11 (fun r25 u25 => ((¬ a2 = 0) → (((¬ a2 = (1 : Int32)) → (((¬ a2 = (2 : Int32)) → (wp_X12_tell a1 r25 a3 (su u25 0 16 (0 : Int32)) (fun r88 u88 => wp_X12_done r88 u88 (fun r91 u91 => Post r91 u91)))) ∧ ((a2 = (2 : Int32)) → (wp_X12_follow a1 r25 a3 (su u25 0 16 (0 : Int32)) (fun r77 u77 => wp_X12_done r77 u77 (fun r91 u91 => Post r91 u91)))))) ∧ ((a2 = (1 : Int32)) → (wp_X12_weigh a1 r25 a3 (su u25 0 16 (0 : Int32)) (fun r61 u61 => wp_X12_done r61 u61 (fun r91 u91 => Post r91 u91)))))) ∧ ((a2 = 0) → (wp_X12_last a1 r25 a3 (su u25 0 16 (0 : Int32)) (fun r45 u45 => wp_X12_done r45 u45 (fun r91 u91 => Post r91 u91))))))) ∧ ((r11 = 0) → (wp_X12_refused (1 : Int32) u11 (fun r19 u19 => Post r19 u19)))))))
set_option maxHeartbeats 4000000 in
set_option maxRecDepth 100000 in
theorem c_X12_act {a1 : Int32} {a2 : Int32} {a3 : Int32} {l : Launch} {D : va_G} {b : Nat → ClassId} {h : Nat → Nat} {u : St} {Post : Int32 → St → Prop} (hw : wp_X12_act a1 a2 a3 u Post) : CtI l yX12_act cX12_act 5 (some .int) rm_X12_act D (tyM b) 21 (gM b h) h [.ref (h 0), .int a1, .int a2, .int a3] u Post := by
  refine CtI.of (plainFor_of_name (by decide)) (Nat.le_of_ble_eq_true rfl) ?_
  intro p e s m below meth c A ls X hA O hl
  have X : Cx p s m _ meth c cX12_act 5 (some .int) RX12 D (tyM b) A := X
  obtain ⟨⟨hx, hb, hml, hown, hts⟩, hK, hNs, hlocks, hr⟩ := id X
  have hl : lv_has ls 5 [(0, .ref (h 0)), (1, .int a1), (2, .int a2), (3, .int a3)] := hl
  unfold wp_X12_act at hw
  refine lv_aload_n hx hb dX12_act_0 rfl (lv_at hl 0 rfl) ?_
  refine lv_iload_n hx hb dX12_act_1 rfl (lv_at hl 1 rfl) ?_
  refine q_civ (rest := []) X O hA 0 (c_X12_isJob hw) lk_X12_106 (by decide) rfl rfl rfl rfl rfl rfl ⟨Nat.le_of_ble_eq_true rfl, Nat.le_of_ble_eq_true rfl⟩ (Nat.le_of_ble_eq_true rfl) hl.1 ⟨Nat.zero_le _, Nat.zero_le _⟩ rfl dX12_act_2 (fun r2 u2 H locs hw O => ?_)
  refine lv_if_eq (tgt := 17) hx hb dX12_act_5 (by decide) (fun c5 => ?_) (fun c5 => ?_)
  · have hw := hw.1 c5
    refine lv_aload_n hx hb dX12_act_17 rfl (lv_at hl 0 rfl) ?_
    refine lv_iconst (v := 1) hx hb dX12_act_18 (by decide) ?_
    refine q_civ (rest := []) X O hA 0 (c_X12_refused hw) lk_X12_89 (by decide) rfl rfl rfl rfl rfl rfl ⟨Nat.le_of_ble_eq_true rfl, Nat.le_of_ble_eq_true rfl⟩ (Nat.le_of_ble_eq_true rfl) hl.1 ⟨Nat.zero_le _, Nat.zero_le _⟩ rfl dX12_act_19 (fun r19 u19 H locs hw O => ?_)
    exact q_iret X O hw dX12_act_22
  · have hw := hw.2 c5
    refine lv_iload_n hx hb dX12_act_8 rfl (lv_at hl 2 rfl) ?_
    refine lv_iconst (v := 0) hx hb dX12_act_9 (by decide) ?_
    refine lv_iconst (v := 3) hx hb dX12_act_10 (by decide) ?_
    refine q_cis (rest := []) X O hA (c_X12_in hw) lk_X12_78 rfl rfl rfl ⟨Nat.le_of_ble_eq_true rfl, Nat.le_of_ble_eq_true rfl⟩ (Nat.le_of_ble_eq_true rfl) hl.1 ⟨Nat.zero_le _, Nat.zero_le _⟩ rfl dX12_act_11 (fun r11 u11 H locs hw O => ?_)
    refine lv_if_ne (tgt := 23) hx hb dX12_act_14 (by decide) (fun c14 => ?_) (fun c14 => ?_)
    · have hw := hw.1 c14
      refine lv_aload_n hx hb dX12_act_23 rfl (lv_at hl 0 rfl) ?_
      refine lv_iload_n hx hb dX12_act_24 rfl (lv_at hl 1 rfl) ?_
      refine q_civ (rest := []) X O hA 0 (c_X12_kindOf hw) lk_X12_170 (by decide) rfl rfl rfl rfl rfl rfl ⟨Nat.le_of_ble_eq_true rfl, Nat.le_of_ble_eq_true rfl⟩ (Nat.le_of_ble_eq_true rfl) hl.1 ⟨Nat.zero_le _, Nat.zero_le _⟩ rfl dX12_act_25 (fun r25 u25 H locs hw O => ?_)
      refine lv_istore (lv' := [(4, .int r25), (0, .ref (h 0)), (1, .int a1), (2, .int a2), (3, .int a3)]) hx hb dX12_act_28 hl (by decide) rfl (fun ls hl => ?_)
      refine lv_aload_n hx hb dX12_act_30 rfl (lv_at hl 1 rfl) ?_
      refine lv_iconst (v := 0) hx hb dX12_act_31 (by decide) ?_
      refine pt_X12_188 X O dX12_act_32 (fun H locs O => ?_)
      refine lv_aload_n hx hb dX12_act_35 rfl (lv_at hl 1 rfl) ?_
      refine lv_iload_n hx hb dX12_act_36 rfl (lv_at hl 3 rfl) ?_
      refine lv_if_ne (tgt := 51) hx hb dX12_act_37 (by decide) (fun c37 => ?_) (fun c37 => ?_)
      · have hw := hw.1 c37
        refine lv_iload_n hx hb dX12_act_51 rfl (lv_at hl 3 rfl) ?_
        refine lv_iconst (v := 1) hx hb dX12_act_52 (by decide) ?_
        refine lv_icmp_ne (tgt := 67) hx hb dX12_act_53 (by decide) (fun c53 => ?_) (fun c53 => ?_)
        · have hw := hw.1 c53
          refine lv_iload_n hx hb dX12_act_67 rfl (lv_at hl 3 rfl) ?_
          refine lv_iconst (v := 2) hx hb dX12_act_68 (by decide) ?_
          refine lv_icmp_ne (tgt := 83) hx hb dX12_act_69 (by decide) (fun c69 => ?_) (fun c69 => ?_)
          · have hw := hw.1 c69
            refine lv_aload_n hx hb dX12_act_83 rfl (lv_at hl 1 rfl) ?_
            refine lv_iload_n hx hb dX12_act_84 rfl (lv_at hl 2 rfl) ?_
            refine lv_iload hx hb dX12_act_85 (lv_at hl 0 rfl) ?_
            refine lv_iload_n hx hb dX12_act_87 rfl (lv_at hl 4 rfl) ?_
            refine q_civ (rest := [.ref (h 0)]) X O hA 0 (c_X12_tell hw) lk_X12_222 (by decide) rfl rfl rfl rfl rfl rfl ⟨Nat.le_of_ble_eq_true rfl, Nat.le_of_ble_eq_true rfl⟩ (Nat.le_of_ble_eq_true rfl) hl.1 ⟨Nat.zero_le _, Nat.zero_le _⟩ rfl dX12_act_88 (fun r88 u88 H locs hw O => ?_)
            refine q_civ (rest := []) X O hA 0 (c_X12_done hw) lk_X12_96 (by decide) rfl rfl rfl rfl rfl rfl ⟨Nat.le_of_ble_eq_true rfl, Nat.le_of_ble_eq_true rfl⟩ (Nat.le_of_ble_eq_true rfl) hl.1 ⟨Nat.zero_le _, Nat.zero_le _⟩ rfl dX12_act_91 (fun r91 u91 H locs hw O => ?_)
            exact q_iret X O hw dX12_act_94
          · have hw := hw.2 c69
            refine lv_aload_n hx hb dX12_act_72 rfl (lv_at hl 1 rfl) ?_
            refine lv_iload_n hx hb dX12_act_73 rfl (lv_at hl 2 rfl) ?_
            refine lv_iload hx hb dX12_act_74 (lv_at hl 0 rfl) ?_
            refine lv_iload_n hx hb dX12_act_76 rfl (lv_at hl 4 rfl) ?_
            refine q_civ (rest := [.ref (h 0)]) X O hA 0 (c_X12_follow hw) lk_X12_216 (by decide) rfl rfl rfl rfl rfl rfl ⟨Nat.le_of_ble_eq_true rfl, Nat.le_of_ble_eq_true rfl⟩ (Nat.le_of_ble_eq_true rfl) hl.1 ⟨Nat.zero_le _, Nat.zero_le _⟩ rfl dX12_act_77 (fun r77 u77 H locs hw O => ?_)
            refine lv_goto (tgt := 91) hx hb dX12_act_80 (by decide) ?_
            refine q_civ (rest := []) X O hA 0 (c_X12_done hw) lk_X12_96 (by decide) rfl rfl rfl rfl rfl rfl ⟨Nat.le_of_ble_eq_true rfl, Nat.le_of_ble_eq_true rfl⟩ (Nat.le_of_ble_eq_true rfl) hl.1 ⟨Nat.zero_le _, Nat.zero_le _⟩ rfl dX12_act_91 (fun r91 u91 H locs hw O => ?_)
            exact q_iret X O hw dX12_act_94
        · have hw := hw.2 c53
          refine lv_aload_n hx hb dX12_act_56 rfl (lv_at hl 1 rfl) ?_
          refine lv_iload_n hx hb dX12_act_57 rfl (lv_at hl 2 rfl) ?_
          refine lv_iload hx hb dX12_act_58 (lv_at hl 0 rfl) ?_
          refine lv_iload_n hx hb dX12_act_60 rfl (lv_at hl 4 rfl) ?_
          refine q_civ (rest := [.ref (h 0)]) X O hA 0 (c_X12_weigh hw) lk_X12_213 (by decide) rfl rfl rfl rfl rfl rfl ⟨Nat.le_of_ble_eq_true rfl, Nat.le_of_ble_eq_true rfl⟩ (Nat.le_of_ble_eq_true rfl) hl.1 ⟨Nat.zero_le _, Nat.zero_le _⟩ rfl dX12_act_61 (fun r61 u61 H locs hw O => ?_)
          refine lv_goto (tgt := 91) hx hb dX12_act_64 (by decide) ?_
          refine q_civ (rest := []) X O hA 0 (c_X12_done hw) lk_X12_96 (by decide) rfl rfl rfl rfl rfl rfl ⟨Nat.le_of_ble_eq_true rfl, Nat.le_of_ble_eq_true rfl⟩ (Nat.le_of_ble_eq_true rfl) hl.1 ⟨Nat.zero_le _, Nat.zero_le _⟩ rfl dX12_act_91 (fun r91 u91 H locs hw O => ?_)
          exact q_iret X O hw dX12_act_94
      · have hw := hw.2 c37
        refine lv_aload_n hx hb dX12_act_40 rfl (lv_at hl 1 rfl) ?_
        refine lv_iload_n hx hb dX12_act_41 rfl (lv_at hl 2 rfl) ?_
        refine lv_iload hx hb dX12_act_42 (lv_at hl 0 rfl) ?_
        refine lv_iload_n hx hb dX12_act_44 rfl (lv_at hl 4 rfl) ?_
        refine q_civ (rest := [.ref (h 0)]) X O hA 0 (c_X12_last hw) lk_X12_209 (by decide) rfl rfl rfl rfl rfl rfl ⟨Nat.le_of_ble_eq_true rfl, Nat.le_of_ble_eq_true rfl⟩ (Nat.le_of_ble_eq_true rfl) hl.1 ⟨Nat.zero_le _, Nat.zero_le _⟩ rfl dX12_act_45 (fun r45 u45 H locs hw O => ?_)
        refine lv_goto (tgt := 91) hx hb dX12_act_48 (by decide) ?_
        refine q_civ (rest := []) X O hA 0 (c_X12_done hw) lk_X12_96 (by decide) rfl rfl rfl rfl rfl rfl ⟨Nat.le_of_ble_eq_true rfl, Nat.le_of_ble_eq_true rfl⟩ (Nat.le_of_ble_eq_true rfl) hl.1 ⟨Nat.zero_le _, Nat.zero_le _⟩ rfl dX12_act_91 (fun r91 u91 H locs hw O => ?_)
        exact q_iret X O hw dX12_act_94
    · have hw := hw.2 c14
      refine lv_aload_n hx hb dX12_act_17 rfl (lv_at hl 0 rfl) ?_
      refine lv_iconst (v := 1) hx hb dX12_act_18 (by decide) ?_
      refine q_civ (rest := []) X O hA 0 (c_X12_refused hw) lk_X12_89 (by decide) rfl rfl rfl rfl rfl rfl ⟨Nat.le_of_ble_eq_true rfl, Nat.le_of_ble_eq_true rfl⟩ (Nat.le_of_ble_eq_true rfl) hl.1 ⟨Nat.zero_le _, Nat.zero_le _⟩ rfl dX12_act_19 (fun r19 u19 H locs hw O => ?_)
      exact q_iret X O hw dX12_act_22
-- FellersOrderModel.trace(I)I
abbrev rm_X12_trace : Room := { frames := 1, cells := 0, slots := 0, locals := 22 }
def wb_X12_trace_20 (Post : Int32 → St → Prop) (x1 : Int32) (t0 : Int32) (t1 : Int32) (t2 : Int32) (u : St) : Prop := wp_X12_in t2 t1 (t0 - (1 : Int32)) u (fun r22 u22 => ((r22 = 0) → (Post (-1 : Int32) u22)) ∧ ((¬ r22 = 0) → (vp_in x1 50 ∧ (Post (u22 12 (Int32.toNatClampNeg x1)) u22))))
set_option maxHeartbeats 4000000 in
set_option maxRecDepth 100000 in
theorem tb_X12_trace_20 (X : Cx p s m args meth c cX12_trace 2 (some .int) RX12 D (tyM b) A) (hA : ∀ q, s.heap.size ≤ q → A q) {Post : Int32 → St → Prop} : ∀ (x1 : Int32) (t0 : Int32) (t1 : Int32) (t2 : Int32) (u : St) (H : Heap) (locs : List Loc) (ls : Array Slot), wb_X12_trace_20 Post x1 t0 t1 t2 u → wO D 21 (gM b h) h u A s.heap H locs → lv_has ls 2 [(0, .ref (h 0)), (1, .int x1)] → W p l e rm_X12_trace s m args below meth c H locs 0 0 (MQ below (va_Qi Post (cB D (tyM b) 21 (gM b h) h A) A) args s 0 0 A) (F0 m 20 ls [.int t0, .int t1, .int t2]) := by
  obtain ⟨⟨hx, hb, hml, hown, hts⟩, hK, hNs, hlocks, hr⟩ := id X
  intro x1 t0 t1 t2 u H locs ls hw O hl
  unfold wb_X12_trace_20 at hw
  refine lv_iconst (v := 1) hx hb dX12_trace_20 (by decide) ?_
  refine lv_isub hx hb dX12_trace_21 ?_
  refine q_cis (rest := []) X O hA (c_X12_in hw) lk_X12_78 rfl rfl rfl ⟨Nat.le_of_ble_eq_true rfl, Nat.le_of_ble_eq_true rfl⟩ (Nat.le_of_ble_eq_true rfl) hl.1 ⟨Nat.zero_le _, Nat.zero_le _⟩ rfl dX12_trace_22 (fun r22 u22 H locs hw O => ?_)
  refine lv_if_eq (tgt := 37) hx hb dX12_trace_25 (by decide) (fun c25 => ?_) (fun c25 => ?_)
  · have hw := hw.1 c25
    refine lv_iconst (v := -1) hx hb dX12_trace_37 (by decide) ?_
    exact q_iret X O hw dX12_trace_38
  · have hw := hw.2 c25
    refine lv_aload_n hx hb dX12_trace_28 rfl (lv_at hl 0 rfl) ?_
    refine gt_X12_44 X O dX12_trace_29 ?_
    refine lv_iload_n hx hb dX12_trace_32 rfl (lv_at hl 1 rfl) ?_
    obtain ⟨i33, hw⟩ := hw
    refine q_ild X O 12 0 (by decide) rfl rfl i33 dX12_trace_33 ?_
    refine lv_goto (tgt := 38) hx hb dX12_trace_34 (by decide) ?_
    exact q_iret X O hw dX12_trace_38
def wp_X12_trace (a1 : Int32) (u : St) (Post : Int32 → St → Prop) : Prop := (((50 : Int32) ≤ (u 0 16)) → (wb_X12_trace_20 Post a1 (50 : Int32) (0 : Int32) a1 u)) ∧ ((¬ (50 : Int32) ≤ (u 0 16)) → (wb_X12_trace_20 Post a1 (u 0 16) (0 : Int32) a1 u))
set_option maxHeartbeats 4000000 in
set_option maxRecDepth 100000 in
theorem c_X12_trace {a1 : Int32} {l : Launch} {D : va_G} {b : Nat → ClassId} {h : Nat → Nat} {u : St} {Post : Int32 → St → Prop} (hw : wp_X12_trace a1 u Post) : CtI l yX12_trace cX12_trace 2 (some .int) rm_X12_trace D (tyM b) 21 (gM b h) h [.ref (h 0), .int a1] u Post := by
  refine CtI.of (plainFor_of_name (by decide)) (Nat.le_of_ble_eq_true rfl) ?_
  intro p e s m below meth c A ls X hA O hl
  have X : Cx p s m _ meth c cX12_trace 2 (some .int) RX12 D (tyM b) A := X
  obtain ⟨⟨hx, hb, hml, hown, hts⟩, hK, hNs, hlocks, hr⟩ := id X
  have hl : lv_has ls 2 [(0, .ref (h 0)), (1, .int a1)] := hl
  unfold wp_X12_trace at hw
  refine lv_iload_n hx hb dX12_trace_0 rfl (lv_at hl 1 rfl) ?_
  refine lv_iconst (v := 0) hx hb dX12_trace_1 (by decide) ?_
  refine lv_aload_n hx hb dX12_trace_2 rfl (lv_at hl 0 rfl) ?_
  refine gt_X12_188 X O dX12_trace_3 ?_
  refine lv_bipush (v := 50) hx hb dX12_trace_6 (by decide) ?_
  refine lv_icmp_ge (tgt := 18) hx hb dX12_trace_8 (by decide) (fun c8 => ?_) (fun c8 => ?_)
  · have hw := hw.1 c8
    refine lv_bipush (v := 50) hx hb dX12_trace_18 (by decide) ?_
    exact tb_X12_trace_20 X hA _ _ _ _ _ _ _ _ hw O (lv_sub hl [0, 1] rfl)
  · have hw := hw.2 c8
    refine lv_aload_n hx hb dX12_trace_11 rfl (lv_at hl 0 rfl) ?_
    refine gt_X12_188 X O dX12_trace_12 ?_
    refine lv_goto (tgt := 20) hx hb dX12_trace_15 (by decide) ?_
    exact tb_X12_trace_20 X hA _ _ _ _ _ _ _ _ hw O (lv_sub hl [0, 1] rfl)
-- FellersOrderModel.sheet(III)I
abbrev rm_X12_sheet : Room := { frames := 1, cells := 0, slots := 0, locals := 22 }
def wb_X12_sheet_65 (Post : Int32 → St → Prop) (K65 : Int32 → Int32 → St → Prop) (x1 : Int32) (x4 : Int32) (u : St) : Prop := (((20 : Int32) ≤ x4) → (wp_X12_done (1 : Int32) u (fun r93 u93 => Post r93 u93))) ∧ ((¬ (20 : Int32) ≤ x4) → (vp_in (((20 : Int32) * x1) + x4) 120 ∧ (K65 x1 (x4 + 1) (su u 11 (Int32.toNatClampNeg (((20 : Int32) * x1) + x4)) (0 : Int32)))))
set_option maxHeartbeats 4000000 in
set_option maxRecDepth 100000 in
theorem tb_X12_sheet_65 (X : Cx p s m args meth c cX12_sheet 5 (some .int) RX12 D (tyM b) A) (hA : ∀ q, s.heap.size ≤ q → A q) {Post : Int32 → St → Prop} {K65 : Int32 → Int32 → St → Prop} (k65 : ∀ (x1 : Int32) (x4 : Int32) (u : St) (H : Heap) (locs : List Loc) (ls : Array Slot), K65 x1 x4 u → wO D 21 (gM b h) h u A s.heap H locs → lv_has ls 5 [(0, .ref (h 0)), (1, .int x1), (4, .int x4)] → W p l e rm_X12_sheet s m args below meth c H locs 0 0 (MQ below (va_Qi Post (cB D (tyM b) 21 (gM b h) h A) A) args s 0 0 A) (F0 m 65 ls [])) : ∀ (x1 : Int32) (x4 : Int32) (u : St) (H : Heap) (locs : List Loc) (ls : Array Slot), wb_X12_sheet_65 Post K65 x1 x4 u → wO D 21 (gM b h) h u A s.heap H locs → lv_has ls 5 [(0, .ref (h 0)), (1, .int x1), (4, .int x4)] → W p l e rm_X12_sheet s m args below meth c H locs 0 0 (MQ below (va_Qi Post (cB D (tyM b) 21 (gM b h) h A) A) args s 0 0 A) (F0 m 65 ls []) := by
  obtain ⟨⟨hx, hb, hml, hown, hts⟩, hK, hNs, hlocks, hr⟩ := id X
  intro x1 x4 u H locs ls hw O hl
  unfold wb_X12_sheet_65 at hw
  refine lv_iload hx hb dX12_sheet_65 (lv_at hl 2 rfl) ?_
  refine lv_bipush (v := 20) hx hb dX12_sheet_67 (by decide) ?_
  refine lv_icmp_ge (tgt := 91) hx hb dX12_sheet_69 (by decide) (fun c69 => ?_) (fun c69 => ?_)
  · have hw := hw.1 c69
    refine lv_aload_n hx hb dX12_sheet_91 rfl (lv_at hl 0 rfl) ?_
    refine lv_iconst (v := 1) hx hb dX12_sheet_92 (by decide) ?_
    refine q_civ (rest := []) X O hA 0 (c_X12_done hw) lk_X12_96 (by decide) rfl rfl rfl rfl rfl rfl ⟨Nat.le_of_ble_eq_true rfl, Nat.le_of_ble_eq_true rfl⟩ (Nat.le_of_ble_eq_true rfl) hl.1 ⟨Nat.zero_le _, Nat.zero_le _⟩ rfl dX12_sheet_93 (fun r93 u93 H locs hw O => ?_)
    exact q_iret X O hw dX12_sheet_96
  · have hw := hw.2 c69
    refine lv_aload_n hx hb dX12_sheet_72 rfl (lv_at hl 0 rfl) ?_
    refine gt_X12_40 X O dX12_sheet_73 ?_
    refine lv_bipush (v := 20) hx hb dX12_sheet_76 (by decide) ?_
    refine lv_iload_n hx hb dX12_sheet_78 rfl (lv_at hl 1 rfl) ?_
    refine lv_imul hx hb dX12_sheet_79 ?_
    refine lv_iload hx hb dX12_sheet_80 (lv_at hl 2 rfl) ?_
    refine lv_iadd hx hb dX12_sheet_82 ?_
    refine lv_lconst (v := Int32.toInt64 0) hx hb dX12_sheet_83 (by decide) ?_
    obtain ⟨i84, hw⟩ := hw
    refine q_lst X O 11 1 (by decide) (fun _ => rfl) rfl i84 dX12_sheet_84 (fun H locs O => ?_)
    refine lv_iinc (v := x4 + 1) (lv' := [(4, .int (x4 + 1)), (0, .ref (h 0)), (1, .int x1)]) hx hb dX12_sheet_85 hl (k := 2) rfl rfl (by decide) rfl (fun ls hl => ?_)
    refine lv_goto (tgt := 65) hx hb dX12_sheet_88 (by decide) ?_
    exact k65 _ _ _ _ _ _ hw O (lv_sub hl [1, 2, 0] rfl)
def wl_X12_sheet_65 (Post : Int32 → St → Prop) : Nat → Int32 → Int32 → St → Prop
  | 0 => fun _ _ _ => False
  | n + 1 => fun x1 x4 u => wb_X12_sheet_65 Post (wl_X12_sheet_65 Post n) x1 x4 u
set_option maxHeartbeats 4000000 in
set_option maxRecDepth 100000 in
theorem tl_X12_sheet_65 (X : Cx p s m args meth c cX12_sheet 5 (some .int) RX12 D (tyM b) A) (hA : ∀ q, s.heap.size ≤ q → A q) {Post : Int32 → St → Prop} : ∀ n : Nat, ∀ (x1 : Int32) (x4 : Int32) (u : St) (H : Heap) (locs : List Loc) (ls : Array Slot), (wl_X12_sheet_65 Post n) x1 x4 u → wO D 21 (gM b h) h u A s.heap H locs → lv_has ls 5 [(0, .ref (h 0)), (1, .int x1), (4, .int x4)] → W p l e rm_X12_sheet s m args below meth c H locs 0 0 (MQ below (va_Qi Post (cB D (tyM b) 21 (gM b h) h A) A) args s 0 0 A) (F0 m 65 ls []) := by
  intro n
  induction n with
  | zero => intro x1 x4 u H locs ls hw; exact False.elim hw
  | succ n ih => intro x1 x4 u H locs ls hw O hl; exact tb_X12_sheet_65 X hA ih x1 x4 u H locs ls hw O hl
def wb_X12_sheet_39 (Post : Int32 → St → Prop) (x1 : Int32) (x2 : Int32) (x3 : Int32) (u : St) : Prop := vp_in x1 6 ∧ (((¬ x2 = (-1 : Int32)) → (vp_in x1 6 ∧ (∃ n : Nat, wl_X12_sheet_65 Post n x1 (0 : Int32) (su (su u 9 (Int32.toNatClampNeg x1) x2) 10 (Int32.toNatClampNeg x1) x3)))) ∧ ((x2 = (-1 : Int32)) → (vp_in x1 6 ∧ (∃ n : Nat, wl_X12_sheet_65 Post n x1 (0 : Int32) (su (su u 9 (Int32.toNatClampNeg x1) x2) 10 (Int32.toNatClampNeg x1) (0 : Int32))))))
set_option maxHeartbeats 4000000 in
set_option maxRecDepth 100000 in
theorem tb_X12_sheet_39 (X : Cx p s m args meth c cX12_sheet 5 (some .int) RX12 D (tyM b) A) (hA : ∀ q, s.heap.size ≤ q → A q) {Post : Int32 → St → Prop} : ∀ (x1 : Int32) (x2 : Int32) (x3 : Int32) (u : St) (H : Heap) (locs : List Loc) (ls : Array Slot), wb_X12_sheet_39 Post x1 x2 x3 u → wO D 21 (gM b h) h u A s.heap H locs → lv_has ls 5 [(0, .ref (h 0)), (1, .int x1), (2, .int x2), (3, .int x3)] → W p l e rm_X12_sheet s m args below meth c H locs 0 0 (MQ below (va_Qi Post (cB D (tyM b) 21 (gM b h) h A) A) args s 0 0 A) (F0 m 39 ls []) := by
  obtain ⟨⟨hx, hb, hml, hown, hts⟩, hK, hNs, hlocks, hr⟩ := id X
  intro x1 x2 x3 u H locs ls hw O hl
  unfold wb_X12_sheet_39 at hw
  refine lv_aload_n hx hb dX12_sheet_39 rfl (lv_at hl 0 rfl) ?_
  refine gt_X12_34 X O dX12_sheet_40 ?_
  refine lv_iload_n hx hb dX12_sheet_43 rfl (lv_at hl 1 rfl) ?_
  refine lv_iload_n hx hb dX12_sheet_44 rfl (lv_at hl 2 rfl) ?_
  obtain ⟨i45, hw⟩ := hw
  refine q_ist X O 9 0 (by decide) (fun _ => rfl) rfl i45 dX12_sheet_45 (fun H locs O => ?_)
  refine lv_aload_n hx hb dX12_sheet_46 rfl (lv_at hl 0 rfl) ?_
  refine gt_X12_37 X O dX12_sheet_47 ?_
  refine lv_iload_n hx hb dX12_sheet_50 rfl (lv_at hl 1 rfl) ?_
  refine lv_iload_n hx hb dX12_sheet_51 rfl (lv_at hl 2 rfl) ?_
  refine lv_iconst (v := -1) hx hb dX12_sheet_52 (by decide) ?_
  refine lv_icmp_ne (tgt := 60) hx hb dX12_sheet_53 (by decide) (fun c53 => ?_) (fun c53 => ?_)
  · have hw := hw.1 c53
    refine lv_iload_n hx hb dX12_sheet_60 rfl (lv_at hl 3 rfl) ?_
    obtain ⟨i61, hw⟩ := hw
    refine q_ist X O 10 0 (by decide) (fun _ => rfl) rfl i61 dX12_sheet_61 (fun H locs O => ?_)
    refine lv_iconst (v := 0) hx hb dX12_sheet_62 (by decide) ?_
    refine lv_istore (lv' := [(4, .int (0 : Int32)), (0, .ref (h 0)), (1, .int x1), (2, .int x2), (3, .int x3)]) hx hb dX12_sheet_63 hl (by decide) rfl (fun ls hl => ?_)
    obtain ⟨n, hw⟩ := hw
    exact tl_X12_sheet_65 X hA n _ _ _ _ _ _ hw O (lv_sub hl [1, 2, 0] rfl)
  · have hw := hw.2 c53
    refine lv_iconst (v := 0) hx hb dX12_sheet_56 (by decide) ?_
    refine lv_goto (tgt := 61) hx hb dX12_sheet_57 (by decide) ?_
    obtain ⟨i61, hw⟩ := hw
    refine q_ist X O 10 0 (by decide) (fun _ => rfl) rfl i61 dX12_sheet_61 (fun H locs O => ?_)
    refine lv_iconst (v := 0) hx hb dX12_sheet_62 (by decide) ?_
    refine lv_istore (lv' := [(4, .int (0 : Int32)), (0, .ref (h 0)), (1, .int x1), (2, .int x2), (3, .int x3)]) hx hb dX12_sheet_63 hl (by decide) rfl (fun ls hl => ?_)
    obtain ⟨n, hw⟩ := hw
    exact tl_X12_sheet_65 X hA n _ _ _ _ _ _ hw O (lv_sub hl [1, 2, 0] rfl)
def wp_X12_sheet (a1 : Int32) (a2 : Int32) (a3 : Int32) (u : St) (Post : Int32 → St → Prop) : Prop := wp_X12_in a1 (0 : Int32) (5 : Int32) u (fun r3 u3 => ((r3 = 0) → (wp_X12_refused (1 : Int32) u3 (fun r35 u35 => Post r35 u35))) ∧ ((¬ r3 = 0) → (wp_X12_in a2 (-1 : Int32) (2 : Int32) u3 (fun r12 u12 => ((r12 = 0) → (wp_X12_refused (1 : Int32) u12 (fun r35 u35 => Post r35 u35))) ∧ ((¬ r12 = 0) → (((a2 = (-1 : Int32)) → (wb_X12_sheet_39 Post a1 a2 a3 u12)) ∧ ((¬ a2 = (-1 : Int32)) → (wp_X12_in a3 (0 : Int32) (20 : Int32) u12 (fun r27 u27 => ((¬ r27 = 0) → (wb_X12_sheet_39 Post a1 a2 a3 u27)) ∧ ((r27 = 0) → (wp_X12_refused (1 : Int32) u27 (fun r35 u35 => Post r35 u35))))))))))))
set_option maxHeartbeats 4000000 in
set_option maxRecDepth 100000 in
theorem c_X12_sheet {a1 : Int32} {a2 : Int32} {a3 : Int32} {l : Launch} {D : va_G} {b : Nat → ClassId} {h : Nat → Nat} {u : St} {Post : Int32 → St → Prop} (hw : wp_X12_sheet a1 a2 a3 u Post) : CtI l yX12_sheet cX12_sheet 5 (some .int) rm_X12_sheet D (tyM b) 21 (gM b h) h [.ref (h 0), .int a1, .int a2, .int a3] u Post := by
  refine CtI.of (plainFor_of_name (by decide)) (Nat.le_of_ble_eq_true rfl) ?_
  intro p e s m below meth c A ls X hA O hl
  have X : Cx p s m _ meth c cX12_sheet 5 (some .int) RX12 D (tyM b) A := X
  obtain ⟨⟨hx, hb, hml, hown, hts⟩, hK, hNs, hlocks, hr⟩ := id X
  have hl : lv_has ls 5 [(0, .ref (h 0)), (1, .int a1), (2, .int a2), (3, .int a3)] := hl
  unfold wp_X12_sheet at hw
  refine lv_iload_n hx hb dX12_sheet_0 rfl (lv_at hl 1 rfl) ?_
  refine lv_iconst (v := 0) hx hb dX12_sheet_1 (by decide) ?_
  refine lv_iconst (v := 5) hx hb dX12_sheet_2 (by decide) ?_
  refine q_cis (rest := []) X O hA (c_X12_in hw) lk_X12_78 rfl rfl rfl ⟨Nat.le_of_ble_eq_true rfl, Nat.le_of_ble_eq_true rfl⟩ (Nat.le_of_ble_eq_true rfl) hl.1 ⟨Nat.zero_le _, Nat.zero_le _⟩ rfl dX12_sheet_3 (fun r3 u3 H locs hw O => ?_)
  refine lv_if_eq (tgt := 33) hx hb dX12_sheet_6 (by decide) (fun c6 => ?_) (fun c6 => ?_)
  · have hw := hw.1 c6
    refine lv_aload_n hx hb dX12_sheet_33 rfl (lv_at hl 0 rfl) ?_
    refine lv_iconst (v := 1) hx hb dX12_sheet_34 (by decide) ?_
    refine q_civ (rest := []) X O hA 0 (c_X12_refused hw) lk_X12_89 (by decide) rfl rfl rfl rfl rfl rfl ⟨Nat.le_of_ble_eq_true rfl, Nat.le_of_ble_eq_true rfl⟩ (Nat.le_of_ble_eq_true rfl) hl.1 ⟨Nat.zero_le _, Nat.zero_le _⟩ rfl dX12_sheet_35 (fun r35 u35 H locs hw O => ?_)
    exact q_iret X O hw dX12_sheet_38
  · have hw := hw.2 c6
    refine lv_iload_n hx hb dX12_sheet_9 rfl (lv_at hl 2 rfl) ?_
    refine lv_iconst (v := -1) hx hb dX12_sheet_10 (by decide) ?_
    refine lv_iconst (v := 2) hx hb dX12_sheet_11 (by decide) ?_
    refine q_cis (rest := []) X O hA (c_X12_in hw) lk_X12_78 rfl rfl rfl ⟨Nat.le_of_ble_eq_true rfl, Nat.le_of_ble_eq_true rfl⟩ (Nat.le_of_ble_eq_true rfl) hl.1 ⟨Nat.zero_le _, Nat.zero_le _⟩ rfl dX12_sheet_12 (fun r12 u12 H locs hw O => ?_)
    refine lv_if_eq (tgt := 33) hx hb dX12_sheet_15 (by decide) (fun c15 => ?_) (fun c15 => ?_)
    · have hw := hw.1 c15
      refine lv_aload_n hx hb dX12_sheet_33 rfl (lv_at hl 0 rfl) ?_
      refine lv_iconst (v := 1) hx hb dX12_sheet_34 (by decide) ?_
      refine q_civ (rest := []) X O hA 0 (c_X12_refused hw) lk_X12_89 (by decide) rfl rfl rfl rfl rfl rfl ⟨Nat.le_of_ble_eq_true rfl, Nat.le_of_ble_eq_true rfl⟩ (Nat.le_of_ble_eq_true rfl) hl.1 ⟨Nat.zero_le _, Nat.zero_le _⟩ rfl dX12_sheet_35 (fun r35 u35 H locs hw O => ?_)
      exact q_iret X O hw dX12_sheet_38
    · have hw := hw.2 c15
      refine lv_iload_n hx hb dX12_sheet_18 rfl (lv_at hl 2 rfl) ?_
      refine lv_iconst (v := -1) hx hb dX12_sheet_19 (by decide) ?_
      refine lv_icmp_eq (tgt := 39) hx hb dX12_sheet_20 (by decide) (fun c20 => ?_) (fun c20 => ?_)
      · have hw := hw.1 c20
        exact tb_X12_sheet_39 X hA _ _ _ _ _ _ _ hw O (lv_sub hl [0, 1, 2, 3] rfl)
      · have hw := hw.2 c20
        refine lv_iload_n hx hb dX12_sheet_23 rfl (lv_at hl 3 rfl) ?_
        refine lv_iconst (v := 0) hx hb dX12_sheet_24 (by decide) ?_
        refine lv_bipush (v := 20) hx hb dX12_sheet_25 (by decide) ?_
        refine q_cis (rest := []) X O hA (c_X12_in hw) lk_X12_78 rfl rfl rfl ⟨Nat.le_of_ble_eq_true rfl, Nat.le_of_ble_eq_true rfl⟩ (Nat.le_of_ble_eq_true rfl) hl.1 ⟨Nat.zero_le _, Nat.zero_le _⟩ rfl dX12_sheet_27 (fun r27 u27 H locs hw O => ?_)
        refine lv_if_ne (tgt := 39) hx hb dX12_sheet_30 (by decide) (fun c30 => ?_) (fun c30 => ?_)
        · have hw := hw.1 c30
          exact tb_X12_sheet_39 X hA _ _ _ _ _ _ _ hw O (lv_sub hl [0, 1, 2, 3] rfl)
        · have hw := hw.2 c30
          refine lv_aload_n hx hb dX12_sheet_33 rfl (lv_at hl 0 rfl) ?_
          refine lv_iconst (v := 1) hx hb dX12_sheet_34 (by decide) ?_
          refine q_civ (rest := []) X O hA 0 (c_X12_refused hw) lk_X12_89 (by decide) rfl rfl rfl rfl rfl rfl ⟨Nat.le_of_ble_eq_true rfl, Nat.le_of_ble_eq_true rfl⟩ (Nat.le_of_ble_eq_true rfl) hl.1 ⟨Nat.zero_le _, Nat.zero_le _⟩ rfl dX12_sheet_35 (fun r35 u35 H locs hw O => ?_)
          exact q_iret X O hw dX12_sheet_38
-- FellersOrderModel.cell(III)I
abbrev rm_X12_cell : Room := { frames := 1, cells := 0, slots := 0, locals := 22 }
def wp_X12_cell (a1 : Int32) (a2 : Int32) (a3 : Int32) (u : St) (Post : Int32 → St → Prop) : Prop := wp_X12_in a1 (0 : Int32) (5 : Int32) u (fun r3 u3 => ((¬ r3 = 0) → (vp_in a1 6 ∧ (((¬ (u3 9 (Int32.toNatClampNeg a1)) = (-1 : Int32)) → (vp_in a1 6 ∧ (wp_X12_in a2 (0 : Int32) ((u3 10 (Int32.toNatClampNeg a1)) - (1 : Int32)) u3 (fun r42 u42 => ((¬ r42 = 0) → (vp_in a1 6 ∧ (((¬ (u42 9 (Int32.toNatClampNeg a1)) = 0) → (vp_in (((20 : Int32) * a1) + a2) 120 ∧ (wp_X12_done (1 : Int32) (su u42 11 (Int32.toNatClampNeg (((20 : Int32) * a1) + a2)) a3) (fun r85 u85 => Post r85 u85)))) ∧ (((u42 9 (Int32.toNatClampNeg a1)) = 0) → (vp_in (((20 : Int32) * a1) + a2) 120 ∧ (wp_X12_done (1 : Int32) (su u42 11 (Int32.toNatClampNeg (((20 : Int32) * a1) + a2)) ((Int32.toInt16 a3).toInt32)) (fun r85 u85 => Post r85 u85))))))) ∧ ((r42 = 0) → (wp_X12_refused (12 : Int32) u42 (fun r51 u51 => Post r51 u51))))))) ∧ (((u3 9 (Int32.toNatClampNeg a1)) = (-1 : Int32)) → (wp_X12_refused (10 : Int32) u3 (fun r28 u28 => Post r28 u28)))))) ∧ ((r3 = 0) → (wp_X12_refused (1 : Int32) u3 (fun r11 u11 => Post r11 u11))))
set_option maxHeartbeats 4000000 in
set_option maxRecDepth 100000 in
theorem c_X12_cell {a1 : Int32} {a2 : Int32} {a3 : Int32} {l : Launch} {D : va_G} {b : Nat → ClassId} {h : Nat → Nat} {u : St} {Post : Int32 → St → Prop} (hw : wp_X12_cell a1 a2 a3 u Post) : CtI l yX12_cell cX12_cell 4 (some .int) rm_X12_cell D (tyM b) 21 (gM b h) h [.ref (h 0), .int a1, .int a2, .int a3] u Post := by
  refine CtI.of (plainFor_of_name (by decide)) (Nat.le_of_ble_eq_true rfl) ?_
  intro p e s m below meth c A ls X hA O hl
  have X : Cx p s m _ meth c cX12_cell 4 (some .int) RX12 D (tyM b) A := X
  obtain ⟨⟨hx, hb, hml, hown, hts⟩, hK, hNs, hlocks, hr⟩ := id X
  have hl : lv_has ls 4 [(0, .ref (h 0)), (1, .int a1), (2, .int a2), (3, .int a3)] := hl
  unfold wp_X12_cell at hw
  refine lv_iload_n hx hb dX12_cell_0 rfl (lv_at hl 1 rfl) ?_
  refine lv_iconst (v := 0) hx hb dX12_cell_1 (by decide) ?_
  refine lv_iconst (v := 5) hx hb dX12_cell_2 (by decide) ?_
  refine q_cis (rest := []) X O hA (c_X12_in hw) lk_X12_78 rfl rfl rfl ⟨Nat.le_of_ble_eq_true rfl, Nat.le_of_ble_eq_true rfl⟩ (Nat.le_of_ble_eq_true rfl) hl.1 ⟨Nat.zero_le _, Nat.zero_le _⟩ rfl dX12_cell_3 (fun r3 u3 H locs hw O => ?_)
  refine lv_if_ne (tgt := 15) hx hb dX12_cell_6 (by decide) (fun c6 => ?_) (fun c6 => ?_)
  · have hw := hw.1 c6
    refine lv_aload_n hx hb dX12_cell_15 rfl (lv_at hl 0 rfl) ?_
    refine gt_X12_34 X O dX12_cell_16 ?_
    refine lv_iload_n hx hb dX12_cell_19 rfl (lv_at hl 1 rfl) ?_
    obtain ⟨i20, hw⟩ := hw
    refine q_ild X O 9 0 (by decide) rfl rfl i20 dX12_cell_20 ?_
    refine lv_iconst (v := -1) hx hb dX12_cell_21 (by decide) ?_
    refine lv_icmp_ne (tgt := 32) hx hb dX12_cell_22 (by decide) (fun c22 => ?_) (fun c22 => ?_)
    · have hw := hw.1 c22
      refine lv_iload_n hx hb dX12_cell_32 rfl (lv_at hl 2 rfl) ?_
      refine lv_iconst (v := 0) hx hb dX12_cell_33 (by decide) ?_
      refine lv_aload_n hx hb dX12_cell_34 rfl (lv_at hl 0 rfl) ?_
      refine gt_X12_37 X O dX12_cell_35 ?_
      refine lv_iload_n hx hb dX12_cell_38 rfl (lv_at hl 1 rfl) ?_
      obtain ⟨i39, hw⟩ := hw
      refine q_ild X O 10 0 (by decide) rfl rfl i39 dX12_cell_39 ?_
      refine lv_iconst (v := 1) hx hb dX12_cell_40 (by decide) ?_
      refine lv_isub hx hb dX12_cell_41 ?_
      refine q_cis (rest := []) X O hA (c_X12_in hw) lk_X12_78 rfl rfl rfl ⟨Nat.le_of_ble_eq_true rfl, Nat.le_of_ble_eq_true rfl⟩ (Nat.le_of_ble_eq_true rfl) hl.1 ⟨Nat.zero_le _, Nat.zero_le _⟩ rfl dX12_cell_42 (fun r42 u42 H locs hw O => ?_)
      refine lv_if_ne (tgt := 55) hx hb dX12_cell_45 (by decide) (fun c45 => ?_) (fun c45 => ?_)
      · have hw := hw.1 c45
        refine lv_aload_n hx hb dX12_cell_55 rfl (lv_at hl 0 rfl) ?_
        refine gt_X12_40 X O dX12_cell_56 ?_
        refine lv_bipush (v := 20) hx hb dX12_cell_59 (by decide) ?_
        refine lv_iload_n hx hb dX12_cell_61 rfl (lv_at hl 1 rfl) ?_
        refine lv_imul hx hb dX12_cell_62 ?_
        refine lv_iload_n hx hb dX12_cell_63 rfl (lv_at hl 2 rfl) ?_
        refine lv_iadd hx hb dX12_cell_64 ?_
        refine lv_aload_n hx hb dX12_cell_65 rfl (lv_at hl 0 rfl) ?_
        refine gt_X12_34 X O dX12_cell_66 ?_
        refine lv_iload_n hx hb dX12_cell_69 rfl (lv_at hl 1 rfl) ?_
        obtain ⟨i70, hw⟩ := hw
        refine q_ild X O 9 0 (by decide) rfl rfl i70 dX12_cell_70 ?_
        refine lv_if_ne (tgt := 80) hx hb dX12_cell_71 (by decide) (fun c71 => ?_) (fun c71 => ?_)
        · have hw := hw.1 c71
          refine lv_iload_n hx hb dX12_cell_80 rfl (lv_at hl 3 rfl) ?_
          refine lv_i2l hx hb dX12_cell_81 rfl ?_
          obtain ⟨i82, hw⟩ := hw
          refine q_lst X O 11 1 (by decide) (fun _ => rfl) rfl i82 dX12_cell_82 (fun H locs O => ?_)
          refine lv_aload_n hx hb dX12_cell_83 rfl (lv_at hl 0 rfl) ?_
          refine lv_iconst (v := 1) hx hb dX12_cell_84 (by decide) ?_
          refine q_civ (rest := []) X O hA 0 (c_X12_done hw) lk_X12_96 (by decide) rfl rfl rfl rfl rfl rfl ⟨Nat.le_of_ble_eq_true rfl, Nat.le_of_ble_eq_true rfl⟩ (Nat.le_of_ble_eq_true rfl) hl.1 ⟨Nat.zero_le _, Nat.zero_le _⟩ rfl dX12_cell_85 (fun r85 u85 H locs hw O => ?_)
          exact q_iret X O hw dX12_cell_88
        · have hw := hw.2 c71
          refine lv_iload_n hx hb dX12_cell_74 rfl (lv_at hl 3 rfl) ?_
          refine lv_i2s hx hb dX12_cell_75 rfl ?_
          refine lv_i2l hx hb dX12_cell_76 rfl ?_
          refine lv_goto (tgt := 82) hx hb dX12_cell_77 (by decide) ?_
          obtain ⟨i82, hw⟩ := hw
          refine q_lst X O 11 1 (by decide) (fun _ => rfl) rfl i82 dX12_cell_82 (fun H locs O => ?_)
          refine lv_aload_n hx hb dX12_cell_83 rfl (lv_at hl 0 rfl) ?_
          refine lv_iconst (v := 1) hx hb dX12_cell_84 (by decide) ?_
          refine q_civ (rest := []) X O hA 0 (c_X12_done hw) lk_X12_96 (by decide) rfl rfl rfl rfl rfl rfl ⟨Nat.le_of_ble_eq_true rfl, Nat.le_of_ble_eq_true rfl⟩ (Nat.le_of_ble_eq_true rfl) hl.1 ⟨Nat.zero_le _, Nat.zero_le _⟩ rfl dX12_cell_85 (fun r85 u85 H locs hw O => ?_)
          exact q_iret X O hw dX12_cell_88
      · have hw := hw.2 c45
        refine lv_aload_n hx hb dX12_cell_48 rfl (lv_at hl 0 rfl) ?_
        refine lv_bipush (v := 12) hx hb dX12_cell_49 (by decide) ?_
        refine q_civ (rest := []) X O hA 0 (c_X12_refused hw) lk_X12_89 (by decide) rfl rfl rfl rfl rfl rfl ⟨Nat.le_of_ble_eq_true rfl, Nat.le_of_ble_eq_true rfl⟩ (Nat.le_of_ble_eq_true rfl) hl.1 ⟨Nat.zero_le _, Nat.zero_le _⟩ rfl dX12_cell_51 (fun r51 u51 H locs hw O => ?_)
        exact q_iret X O hw dX12_cell_54
    · have hw := hw.2 c22
      refine lv_aload_n hx hb dX12_cell_25 rfl (lv_at hl 0 rfl) ?_
      refine lv_bipush (v := 10) hx hb dX12_cell_26 (by decide) ?_
      refine q_civ (rest := []) X O hA 0 (c_X12_refused hw) lk_X12_89 (by decide) rfl rfl rfl rfl rfl rfl ⟨Nat.le_of_ble_eq_true rfl, Nat.le_of_ble_eq_true rfl⟩ (Nat.le_of_ble_eq_true rfl) hl.1 ⟨Nat.zero_le _, Nat.zero_le _⟩ rfl dX12_cell_28 (fun r28 u28 H locs hw O => ?_)
      exact q_iret X O hw dX12_cell_31
  · have hw := hw.2 c6
    refine lv_aload_n hx hb dX12_cell_9 rfl (lv_at hl 0 rfl) ?_
    refine lv_iconst (v := 1) hx hb dX12_cell_10 (by decide) ?_
    refine q_civ (rest := []) X O hA 0 (c_X12_refused hw) lk_X12_89 (by decide) rfl rfl rfl rfl rfl rfl ⟨Nat.le_of_ble_eq_true rfl, Nat.le_of_ble_eq_true rfl⟩ (Nat.le_of_ble_eq_true rfl) hl.1 ⟨Nat.zero_le _, Nat.zero_le _⟩ rfl dX12_cell_11 (fun r11 u11 H locs hw O => ?_)
    exact q_iret X O hw dX12_cell_14
-- FellersOrderModel.fromSheet(III)I
abbrev rm_X12_fromSheet : Room := { frames := 2, cells := 0, slots := 0, locals := 44 }
def wp_X12_fromSheet (a1 : Int32) (a2 : Int32) (a3 : Int32) (u : St) (Post : Int32 → St → Prop) : Prop := wp_X12_in a1 (0 : Int32) (5 : Int32) u (fun r3 u3 => ((r3 = 0) → (wp_X12_refused (1 : Int32) u3 (fun r20 u20 => Post r20 u20))) ∧ ((¬ r3 = 0) → (wp_X12_in a2 (0 : Int32) (2 : Int32) u3 (fun r12 u12 => ((¬ r12 = 0) → (((¬ (u12 0 0) = (12 : Int32)) → (vp_in a1 6 ∧ (((¬ (u12 9 (Int32.toNatClampNeg a1)) = (-1 : Int32)) → (vp_in a1 6 ∧ ((((u12 9 (Int32.toNatClampNeg a1)) = a2) → (((a3 < 0) → (wp_X12_refused (12 : Int32) u12 (fun r92 u92 => Post r92 u92))) ∧ ((¬ a3 < 0) → (vp_in a1 6 ∧ (((a3 ≤ ((u12 10 (Int32.toNatClampNeg a1)) - (2 : Int32))) → (vp_in (((20 : Int32) * a1) + a3) 120 ∧ (vp_in ((((20 : Int32) * a1) + a3) + (1 : Int32)) 120 ∧ ((((lg_cmp (Int32.toInt64 (u12 11 (Int32.toNatClampNeg (((20 : Int32) * a1) + a3)))) (Int32.toInt64 1)) < 0) → (wp_X12_refused (3 : Int32) u12 (fun r158 u158 => Post r158 u158))) ∧ ((¬ (lg_cmp (Int32.toInt64 (u12 11 (Int32.toNatClampNeg (((20 : Int32) * a1) + a3)))) (Int32.toInt64 1)) < 0) → (((0 < (lg_cmp (Int32.toInt64 (u12 11 (Int32.toNatClampNeg (((20 : Int32) * a1) + a3)))) (100 : Int64))) → (wp_X12_refused (3 : Int32) u12 (fun r158 u158 => Post r158 u158))) ∧ ((¬ 0 < (lg_cmp (Int32.toInt64 (u12 11 (Int32.toNatClampNeg (((20 : Int32) * a1) + a3)))) (100 : Int64))) → ((((lg_cmp (Int32.toInt64 (u12 11 (Int32.toNatClampNeg ((((20 : Int32) * a1) + a3) + (1 : Int32))))) (Int32.toInt64 0)) < 0) → (wp_X12_refused (3 : Int32) u12 (fun r158 u158 => Post r158 u158))) ∧ ((¬ (lg_cmp (Int32.toInt64 (u12 11 (Int32.toNatClampNeg ((((20 : Int32) * a1) + a3) + (1 : Int32))))) (Int32.toInt64 0)) < 0) → ((((lg_cmp (Int32.toInt64 (u12 11 (Int32.toNatClampNeg ((((20 : Int32) * a1) + a3) + (1 : Int32))))) (100 : Int64)) ≤ 0) → (wp_X12_made (Int64.toInt32 (Int32.toInt64 (u12 11 (Int32.toNatClampNeg (((20 : Int32) * a1) + a3))))) (Int64.toInt32 (Int32.toInt64 (u12 11 (Int32.toNatClampNeg ((((20 : Int32) * a1) + a3) + (1 : Int32)))))) u12 (fun r169 u169 => Post r169 u169))) ∧ ((¬ (lg_cmp (Int32.toInt64 (u12 11 (Int32.toNatClampNeg ((((20 : Int32) * a1) + a3) + (1 : Int32))))) (100 : Int64)) ≤ 0) → (wp_X12_refused (3 : Int32) u12 (fun r158 u158 => Post r158 u158))))))))))))) ∧ ((¬ a3 ≤ ((u12 10 (Int32.toNatClampNeg a1)) - (2 : Int32))) → (wp_X12_refused (12 : Int32) u12 (fun r92 u92 => Post r92 u92)))))))) ∧ ((¬ (u12 9 (Int32.toNatClampNeg a1)) = a2) → (wp_X12_refused (11 : Int32) u12 (fun r69 u69 => Post r69 u69)))))) ∧ (((u12 9 (Int32.toNatClampNeg a1)) = (-1 : Int32)) → (wp_X12_refused (10 : Int32) u12 (fun r52 u52 => Post r52 u52)))))) ∧ (((u12 0 0) = (12 : Int32)) → (wp_X12_refused (2 : Int32) u12 (fun r35 u35 => Post r35 u35))))) ∧ ((r12 = 0) → (wp_X12_refused (1 : Int32) u12 (fun r20 u20 => Post r20 u20)))))))
set_option maxHeartbeats 4000000 in
set_option maxRecDepth 100000 in
theorem c_X12_fromSheet {a1 : Int32} {a2 : Int32} {a3 : Int32} {l : Launch} {D : va_G} {b : Nat → ClassId} {h : Nat → Nat} {u : St} {Post : Int32 → St → Prop} (hw : wp_X12_fromSheet a1 a2 a3 u Post) : CtI l yX12_fromSheet cX12_fromSheet 8 (some .int) rm_X12_fromSheet D (tyM b) 21 (gM b h) h [.ref (h 0), .int a1, .int a2, .int a3] u Post := by
  refine CtI.of (plainFor_of_name (by decide)) (Nat.le_of_ble_eq_true rfl) ?_
  intro p e s m below meth c A ls X hA O hl
  have X : Cx p s m _ meth c cX12_fromSheet 8 (some .int) RX12 D (tyM b) A := X
  obtain ⟨⟨hx, hb, hml, hown, hts⟩, hK, hNs, hlocks, hr⟩ := id X
  have hl : lv_has ls 8 [(0, .ref (h 0)), (1, .int a1), (2, .int a2), (3, .int a3)] := hl
  unfold wp_X12_fromSheet at hw
  refine lv_iload_n hx hb dX12_fromSheet_0 rfl (lv_at hl 1 rfl) ?_
  refine lv_iconst (v := 0) hx hb dX12_fromSheet_1 (by decide) ?_
  refine lv_iconst (v := 5) hx hb dX12_fromSheet_2 (by decide) ?_
  refine q_cis (rest := []) X O hA (c_X12_in hw) lk_X12_78 rfl rfl rfl ⟨Nat.le_of_ble_eq_true rfl, Nat.le_of_ble_eq_true rfl⟩ (Nat.le_of_ble_eq_true rfl) hl.1 ⟨Nat.zero_le _, Nat.zero_le _⟩ rfl dX12_fromSheet_3 (fun r3 u3 H locs hw O => ?_)
  refine lv_if_eq (tgt := 18) hx hb dX12_fromSheet_6 (by decide) (fun c6 => ?_) (fun c6 => ?_)
  · have hw := hw.1 c6
    refine lv_aload_n hx hb dX12_fromSheet_18 rfl (lv_at hl 0 rfl) ?_
    refine lv_iconst (v := 1) hx hb dX12_fromSheet_19 (by decide) ?_
    refine q_civ (rest := []) X O hA 0 (c_X12_refused hw) lk_X12_89 (by decide) rfl rfl rfl rfl rfl rfl ⟨Nat.le_of_ble_eq_true rfl, Nat.le_of_ble_eq_true rfl⟩ (Nat.le_of_ble_eq_true rfl) hl.1 ⟨Nat.zero_le _, Nat.zero_le _⟩ rfl dX12_fromSheet_20 (fun r20 u20 H locs hw O => ?_)
    exact q_iret X O hw dX12_fromSheet_23
  · have hw := hw.2 c6
    refine lv_iload_n hx hb dX12_fromSheet_9 rfl (lv_at hl 2 rfl) ?_
    refine lv_iconst (v := 0) hx hb dX12_fromSheet_10 (by decide) ?_
    refine lv_iconst (v := 2) hx hb dX12_fromSheet_11 (by decide) ?_
    refine q_cis (rest := []) X O hA (c_X12_in hw) lk_X12_78 rfl rfl rfl ⟨Nat.le_of_ble_eq_true rfl, Nat.le_of_ble_eq_true rfl⟩ (Nat.le_of_ble_eq_true rfl) hl.1 ⟨Nat.zero_le _, Nat.zero_le _⟩ rfl dX12_fromSheet_12 (fun r12 u12 H locs hw O => ?_)
    refine lv_if_ne (tgt := 24) hx hb dX12_fromSheet_15 (by decide) (fun c15 => ?_) (fun c15 => ?_)
    · have hw := hw.1 c15
      refine lv_aload_n hx hb dX12_fromSheet_24 rfl (lv_at hl 0 rfl) ?_
      refine gt_X12_75 X O dX12_fromSheet_25 ?_
      refine lv_bipush (v := 12) hx hb dX12_fromSheet_28 (by decide) ?_
      refine lv_icmp_ne (tgt := 39) hx hb dX12_fromSheet_30 (by decide) (fun c30 => ?_) (fun c30 => ?_)
      · have hw := hw.1 c30
        refine lv_aload_n hx hb dX12_fromSheet_39 rfl (lv_at hl 0 rfl) ?_
        refine gt_X12_34 X O dX12_fromSheet_40 ?_
        refine lv_iload_n hx hb dX12_fromSheet_43 rfl (lv_at hl 1 rfl) ?_
        obtain ⟨i44, hw⟩ := hw
        refine q_ild X O 9 0 (by decide) rfl rfl i44 dX12_fromSheet_44 ?_
        refine lv_iconst (v := -1) hx hb dX12_fromSheet_45 (by decide) ?_
        refine lv_icmp_ne (tgt := 56) hx hb dX12_fromSheet_46 (by decide) (fun c46 => ?_) (fun c46 => ?_)
        · have hw := hw.1 c46
          refine lv_aload_n hx hb dX12_fromSheet_56 rfl (lv_at hl 0 rfl) ?_
          refine gt_X12_34 X O dX12_fromSheet_57 ?_
          refine lv_iload_n hx hb dX12_fromSheet_60 rfl (lv_at hl 1 rfl) ?_
          obtain ⟨i61, hw⟩ := hw
          refine q_ild X O 9 0 (by decide) rfl rfl i61 dX12_fromSheet_61 ?_
          refine lv_iload_n hx hb dX12_fromSheet_62 rfl (lv_at hl 2 rfl) ?_
          refine lv_icmp_eq (tgt := 73) hx hb dX12_fromSheet_63 (by decide) (fun c63 => ?_) (fun c63 => ?_)
          · have hw := hw.1 c63
            refine lv_iload_n hx hb dX12_fromSheet_73 rfl (lv_at hl 3 rfl) ?_
            refine lv_if_lt (tgt := 89) hx hb dX12_fromSheet_74 (by decide) (fun c74 => ?_) (fun c74 => ?_)
            · have hw := hw.1 c74
              refine lv_aload_n hx hb dX12_fromSheet_89 rfl (lv_at hl 0 rfl) ?_
              refine lv_bipush (v := 12) hx hb dX12_fromSheet_90 (by decide) ?_
              refine q_civ (rest := []) X O hA 0 (c_X12_refused hw) lk_X12_89 (by decide) rfl rfl rfl rfl rfl rfl ⟨Nat.le_of_ble_eq_true rfl, Nat.le_of_ble_eq_true rfl⟩ (Nat.le_of_ble_eq_true rfl) hl.1 ⟨Nat.zero_le _, Nat.zero_le _⟩ rfl dX12_fromSheet_92 (fun r92 u92 H locs hw O => ?_)
              exact q_iret X O hw dX12_fromSheet_95
            · have hw := hw.2 c74
              refine lv_iload_n hx hb dX12_fromSheet_77 rfl (lv_at hl 3 rfl) ?_
              refine lv_aload_n hx hb dX12_fromSheet_78 rfl (lv_at hl 0 rfl) ?_
              refine gt_X12_37 X O dX12_fromSheet_79 ?_
              refine lv_iload_n hx hb dX12_fromSheet_82 rfl (lv_at hl 1 rfl) ?_
              obtain ⟨i83, hw⟩ := hw
              refine q_ild X O 10 0 (by decide) rfl rfl i83 dX12_fromSheet_83 ?_
              refine lv_iconst (v := 2) hx hb dX12_fromSheet_84 (by decide) ?_
              refine lv_isub hx hb dX12_fromSheet_85 ?_
              refine lv_icmp_le (tgt := 96) hx hb dX12_fromSheet_86 (by decide) (fun c86 => ?_) (fun c86 => ?_)
              · have hw := hw.1 c86
                refine lv_aload_n hx hb dX12_fromSheet_96 rfl (lv_at hl 0 rfl) ?_
                refine gt_X12_40 X O dX12_fromSheet_97 ?_
                refine lv_bipush (v := 20) hx hb dX12_fromSheet_100 (by decide) ?_
                refine lv_iload_n hx hb dX12_fromSheet_102 rfl (lv_at hl 1 rfl) ?_
                refine lv_imul hx hb dX12_fromSheet_103 ?_
                refine lv_iload_n hx hb dX12_fromSheet_104 rfl (lv_at hl 3 rfl) ?_
                refine lv_iadd hx hb dX12_fromSheet_105 ?_
                obtain ⟨i106, hw⟩ := hw
                refine q_lld X O 11 1 (by decide) rfl rfl i106 dX12_fromSheet_106 ?_
                refine lv_lstore (lv' := [(4, .long (Int32.toInt64 (u12 11 (Int32.toNatClampNeg (((20 : Int32) * a1) + a3))))), (0, .ref (h 0)), (1, .int a1), (2, .int a2), (3, .int a3)]) hx hb dX12_fromSheet_107 hl (by decide) rfl (fun ls hl => ?_)
                refine lv_aload_n hx hb dX12_fromSheet_109 rfl (lv_at hl 1 rfl) ?_
                refine gt_X12_40 X O dX12_fromSheet_110 ?_
                refine lv_bipush (v := 20) hx hb dX12_fromSheet_113 (by decide) ?_
                refine lv_iload_n hx hb dX12_fromSheet_115 rfl (lv_at hl 2 rfl) ?_
                refine lv_imul hx hb dX12_fromSheet_116 ?_
                refine lv_iload_n hx hb dX12_fromSheet_117 rfl (lv_at hl 4 rfl) ?_
                refine lv_iadd hx hb dX12_fromSheet_118 ?_
                refine lv_iconst (v := 1) hx hb dX12_fromSheet_119 (by decide) ?_
                refine lv_iadd hx hb dX12_fromSheet_120 ?_
                obtain ⟨i121, hw⟩ := hw
                refine q_lld X O 11 1 (by decide) rfl rfl i121 dX12_fromSheet_121 ?_
                refine lv_lstore (lv' := [(6, .long (Int32.toInt64 (u12 11 (Int32.toNatClampNeg ((((20 : Int32) * a1) + a3) + (1 : Int32)))))), (4, .long (Int32.toInt64 (u12 11 (Int32.toNatClampNeg (((20 : Int32) * a1) + a3))))), (0, .ref (h 0)), (1, .int a1), (2, .int a2), (3, .int a3)]) hx hb dX12_fromSheet_122 hl (by decide) rfl (fun ls hl => ?_)
                refine lv_lload hx hb dX12_fromSheet_124 (lv_at hl 1 rfl) ?_
                refine lv_lconst (v := Int32.toInt64 1) hx hb dX12_fromSheet_126 (by decide) ?_
                refine W.lcmp hx hb dX12_fromSheet_127 ?_
                refine lv_if_lt (tgt := 156) hx hb dX12_fromSheet_128 (by decide) (fun c128 => ?_) (fun c128 => ?_)
                · have hw := hw.1 c128
                  refine lv_aload_n hx hb dX12_fromSheet_156 rfl (lv_at hl 2 rfl) ?_
                  refine lv_iconst (v := 3) hx hb dX12_fromSheet_157 (by decide) ?_
                  refine q_civ (rest := []) X O hA 0 (c_X12_refused hw) lk_X12_89 (by decide) rfl rfl rfl rfl rfl rfl ⟨Nat.le_of_ble_eq_true rfl, Nat.le_of_ble_eq_true rfl⟩ (Nat.le_of_ble_eq_true rfl) hl.1 ⟨Nat.zero_le _, Nat.zero_le _⟩ rfl dX12_fromSheet_158 (fun r158 u158 H locs hw O => ?_)
                  exact q_iret X O hw dX12_fromSheet_161
                · have hw := hw.2 c128
                  refine lv_lload hx hb dX12_fromSheet_131 (lv_at hl 1 rfl) ?_
                  refine lv_ldc2 (v := 100) hx hb hown (hts _ wd_40_12) dX12_fromSheet_133 ?_
                  refine W.lcmp hx hb dX12_fromSheet_136 ?_
                  refine lv_if_gt (tgt := 156) hx hb dX12_fromSheet_137 (by decide) (fun c137 => ?_) (fun c137 => ?_)
                  · have hw := hw.1 c137
                    refine lv_aload_n hx hb dX12_fromSheet_156 rfl (lv_at hl 2 rfl) ?_
                    refine lv_iconst (v := 3) hx hb dX12_fromSheet_157 (by decide) ?_
                    refine q_civ (rest := []) X O hA 0 (c_X12_refused hw) lk_X12_89 (by decide) rfl rfl rfl rfl rfl rfl ⟨Nat.le_of_ble_eq_true rfl, Nat.le_of_ble_eq_true rfl⟩ (Nat.le_of_ble_eq_true rfl) hl.1 ⟨Nat.zero_le _, Nat.zero_le _⟩ rfl dX12_fromSheet_158 (fun r158 u158 H locs hw O => ?_)
                    exact q_iret X O hw dX12_fromSheet_161
                  · have hw := hw.2 c137
                    refine lv_lload hx hb dX12_fromSheet_140 (lv_at hl 0 rfl) ?_
                    refine lv_lconst (v := Int32.toInt64 0) hx hb dX12_fromSheet_142 (by decide) ?_
                    refine W.lcmp hx hb dX12_fromSheet_143 ?_
                    refine lv_if_lt (tgt := 156) hx hb dX12_fromSheet_144 (by decide) (fun c144 => ?_) (fun c144 => ?_)
                    · have hw := hw.1 c144
                      refine lv_aload_n hx hb dX12_fromSheet_156 rfl (lv_at hl 2 rfl) ?_
                      refine lv_iconst (v := 3) hx hb dX12_fromSheet_157 (by decide) ?_
                      refine q_civ (rest := []) X O hA 0 (c_X12_refused hw) lk_X12_89 (by decide) rfl rfl rfl rfl rfl rfl ⟨Nat.le_of_ble_eq_true rfl, Nat.le_of_ble_eq_true rfl⟩ (Nat.le_of_ble_eq_true rfl) hl.1 ⟨Nat.zero_le _, Nat.zero_le _⟩ rfl dX12_fromSheet_158 (fun r158 u158 H locs hw O => ?_)
                      exact q_iret X O hw dX12_fromSheet_161
                    · have hw := hw.2 c144
                      refine lv_lload hx hb dX12_fromSheet_147 (lv_at hl 0 rfl) ?_
                      refine lv_ldc2 (v := 100) hx hb hown (hts _ wd_40_12) dX12_fromSheet_149 ?_
                      refine W.lcmp hx hb dX12_fromSheet_152 ?_
                      refine lv_if_le (tgt := 162) hx hb dX12_fromSheet_153 (by decide) (fun c153 => ?_) (fun c153 => ?_)
                      · have hw := hw.1 c153
                        refine lv_aload_n hx hb dX12_fromSheet_162 rfl (lv_at hl 2 rfl) ?_
                        refine lv_lload hx hb dX12_fromSheet_163 (lv_at hl 1 rfl) ?_
                        refine lv_l2i hx hb dX12_fromSheet_165 rfl ?_
                        refine lv_lload hx hb dX12_fromSheet_166 (lv_at hl 0 rfl) ?_
                        refine lv_l2i hx hb dX12_fromSheet_168 rfl ?_
                        refine q_civ (rest := []) X O hA 0 (c_X12_made hw) lk_X12_102 (by decide) rfl rfl rfl rfl rfl rfl ⟨Nat.le_of_ble_eq_true rfl, Nat.le_of_ble_eq_true rfl⟩ (Nat.le_of_ble_eq_true rfl) hl.1 ⟨Nat.zero_le _, Nat.zero_le _⟩ rfl dX12_fromSheet_169 (fun r169 u169 H locs hw O => ?_)
                        exact q_iret X O hw dX12_fromSheet_172
                      · have hw := hw.2 c153
                        refine lv_aload_n hx hb dX12_fromSheet_156 rfl (lv_at hl 2 rfl) ?_
                        refine lv_iconst (v := 3) hx hb dX12_fromSheet_157 (by decide) ?_
                        refine q_civ (rest := []) X O hA 0 (c_X12_refused hw) lk_X12_89 (by decide) rfl rfl rfl rfl rfl rfl ⟨Nat.le_of_ble_eq_true rfl, Nat.le_of_ble_eq_true rfl⟩ (Nat.le_of_ble_eq_true rfl) hl.1 ⟨Nat.zero_le _, Nat.zero_le _⟩ rfl dX12_fromSheet_158 (fun r158 u158 H locs hw O => ?_)
                        exact q_iret X O hw dX12_fromSheet_161
              · have hw := hw.2 c86
                refine lv_aload_n hx hb dX12_fromSheet_89 rfl (lv_at hl 0 rfl) ?_
                refine lv_bipush (v := 12) hx hb dX12_fromSheet_90 (by decide) ?_
                refine q_civ (rest := []) X O hA 0 (c_X12_refused hw) lk_X12_89 (by decide) rfl rfl rfl rfl rfl rfl ⟨Nat.le_of_ble_eq_true rfl, Nat.le_of_ble_eq_true rfl⟩ (Nat.le_of_ble_eq_true rfl) hl.1 ⟨Nat.zero_le _, Nat.zero_le _⟩ rfl dX12_fromSheet_92 (fun r92 u92 H locs hw O => ?_)
                exact q_iret X O hw dX12_fromSheet_95
          · have hw := hw.2 c63
            refine lv_aload_n hx hb dX12_fromSheet_66 rfl (lv_at hl 0 rfl) ?_
            refine lv_bipush (v := 11) hx hb dX12_fromSheet_67 (by decide) ?_
            refine q_civ (rest := []) X O hA 0 (c_X12_refused hw) lk_X12_89 (by decide) rfl rfl rfl rfl rfl rfl ⟨Nat.le_of_ble_eq_true rfl, Nat.le_of_ble_eq_true rfl⟩ (Nat.le_of_ble_eq_true rfl) hl.1 ⟨Nat.zero_le _, Nat.zero_le _⟩ rfl dX12_fromSheet_69 (fun r69 u69 H locs hw O => ?_)
            exact q_iret X O hw dX12_fromSheet_72
        · have hw := hw.2 c46
          refine lv_aload_n hx hb dX12_fromSheet_49 rfl (lv_at hl 0 rfl) ?_
          refine lv_bipush (v := 10) hx hb dX12_fromSheet_50 (by decide) ?_
          refine q_civ (rest := []) X O hA 0 (c_X12_refused hw) lk_X12_89 (by decide) rfl rfl rfl rfl rfl rfl ⟨Nat.le_of_ble_eq_true rfl, Nat.le_of_ble_eq_true rfl⟩ (Nat.le_of_ble_eq_true rfl) hl.1 ⟨Nat.zero_le _, Nat.zero_le _⟩ rfl dX12_fromSheet_52 (fun r52 u52 H locs hw O => ?_)
          exact q_iret X O hw dX12_fromSheet_55
      · have hw := hw.2 c30
        refine lv_aload_n hx hb dX12_fromSheet_33 rfl (lv_at hl 0 rfl) ?_
        refine lv_iconst (v := 2) hx hb dX12_fromSheet_34 (by decide) ?_
        refine q_civ (rest := []) X O hA 0 (c_X12_refused hw) lk_X12_89 (by decide) rfl rfl rfl rfl rfl rfl ⟨Nat.le_of_ble_eq_true rfl, Nat.le_of_ble_eq_true rfl⟩ (Nat.le_of_ble_eq_true rfl) hl.1 ⟨Nat.zero_le _, Nat.zero_le _⟩ rfl dX12_fromSheet_35 (fun r35 u35 H locs hw O => ?_)
        exact q_iret X O hw dX12_fromSheet_38
    · have hw := hw.2 c15
      refine lv_aload_n hx hb dX12_fromSheet_18 rfl (lv_at hl 0 rfl) ?_
      refine lv_iconst (v := 1) hx hb dX12_fromSheet_19 (by decide) ?_
      refine q_civ (rest := []) X O hA 0 (c_X12_refused hw) lk_X12_89 (by decide) rfl rfl rfl rfl rfl rfl ⟨Nat.le_of_ble_eq_true rfl, Nat.le_of_ble_eq_true rfl⟩ (Nat.le_of_ble_eq_true rfl) hl.1 ⟨Nat.zero_le _, Nat.zero_le _⟩ rfl dX12_fromSheet_20 (fun r20 u20 H locs hw O => ?_)
      exact q_iret X O hw dX12_fromSheet_23
end PT
