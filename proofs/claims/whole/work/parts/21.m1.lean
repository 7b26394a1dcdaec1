/-! the reference, methods: placeOf put clear behindOf bits all isBeginning lengthOf weightOf blockBehind findBlocks blockWith kindOf told ahead beginnings pairs -/
theorem lk_X12_113 : LkV RX12 113 yX12_placeOf cX12_placeOf 3 (some .int) 1 := ⟨wd_14_0, wd_14_1, wd_14_2, wd_1_5, wd_14_3, by decide +kernel⟩
theorem lk_X12_134 : LkV RX12 134 yX12_all cX12_all 1 (some .int) 0 := ⟨wd_18_2, wd_18_3, wd_18_4, wd_1_5, wd_18_5, by decide +kernel⟩
theorem lk_X12_152 : LkV RX12 152 yX12_isBeginning cX12_isBeginning 5 (some .boolean) 2 := ⟨wd_18_10, wd_18_11, wd_18_12, wd_1_5, wd_18_13, by decide +kernel⟩
theorem lk_X12_155 : LkV RX12 155 yX12_weightOf cX12_weightOf 4 (some .int) 1 := ⟨wd_18_14, wd_18_15, wd_18_16, wd_1_5, wd_18_17, by decide +kernel⟩
theorem lk_X12_158 : LkV RX12 158 yX12_lengthOf cX12_lengthOf 4 (some .int) 1 := ⟨wd_18_18, wd_18_19, wd_18_20, wd_1_5, wd_18_21, by decide +kernel⟩
theorem lk_X12_164 : LkV RX12 164 yX12_blockBehind cX12_blockBehind 5 (some .int) 1 := ⟨wd_18_6, wd_18_7, wd_18_8, wd_1_5, wd_18_9, by decide +kernel⟩
theorem lk_X12_167 : LkV RX12 167 yX12_findBlocks cX12_findBlocks 2 none 0 := ⟨wd_17_21, wd_17_22, wd_17_23, wd_1_5, wd_18_0, by decide +kernel⟩
theorem lk_X12_170 : LkV RX12 170 yX12_kindOf cX12_kindOf 2 (some .int) 1 := ⟨wd_17_6, wd_17_7, wd_17_8, wd_1_5, wd_17_9, by decide +kernel⟩
theorem lk_X12_173 : LkS RX12 173 yX12_bits cX12_bits 3 (some .int) 1 := ⟨wd_17_10, wd_17_11, wd_1_5, wd_17_12, by decide +kernel⟩
theorem lk_X12_176 : LkV RX12 176 yX12_behindOf cX12_behindOf 4 (some .int) 1 := ⟨wd_17_13, wd_17_14, wd_17_15, wd_1_5, wd_17_16, by decide +kernel⟩
theorem lk_X12_179 : LkV RX12 179 yX12_blockWith cX12_blockWith 3 (some .int) 1 := ⟨wd_17_17, wd_17_18, wd_17_19, wd_1_5, wd_17_20, by decide +kernel⟩
section PT
variable {p : Program} {l : Launch} {e : Env} {s : State} {m : MethodId} {args : Array Value} {below : List Frame} {meth : Method} {c : Code} {A : Nat → Prop} {D : va_G} {b : Nat → ClassId} {h : Nat → Nat}
-- FellersOrderModel.placeOf(I)I
abbrev rm_X12_placeOf : Room := { frames := 0, cells := 0, slots := 0, locals := 0 }
def wb_X12_placeOf_2 (Post : Int32 → St → Prop) (K2 : Int32 → Int32 → St → Prop) (x1 : Int32) (x2 : Int32) (u : St) : Prop := (((u 0 7) ≤ x2) → (Post (-1 : Int32) u)) ∧ ((¬ (u 0 7) ≤ x2) → (vp_in x2 12 ∧ (((¬ (u 6 (Int32.toNatClampNeg x2)) = x1) → (K2 x1 (x2 + 1) u)) ∧ (((u 6 (Int32.toNatClampNeg x2)) = x1) → (Post x2 u)))))
set_option maxHeartbeats 4000000 in
set_option maxRecDepth 100000 in
theorem tb_X12_placeOf_2 (X : Cx p s m args meth c cX12_placeOf 3 (some .int) RX12 D (tyM b) A) (hA : ∀ q, s.heap.size ≤ q → A q) {Post : Int32 → St → Prop} {K2 : Int32 → Int32 → St → Prop} (k2 : ∀ (x1 : Int32) (x2 : Int32) (u : St) (H : Heap) (locs : List Loc) (ls : Array Slot), K2 x1 x2 u → wO D 21 (gM b h) h u A s.heap H locs → lv_has ls 3 [(0, .ref (h 0)), (1, .int x1), (2, .int x2)] → W p l e rm_X12_placeOf s m args below meth c H locs 0 0 (MQ below (va_Qi Post (cB D (tyM b) 21 (gM b h) h A) A) args s 0 0 A) (F0 m 2 ls [])) : ∀ (x1 : Int32) (x2 : Int32) (u : St) (H : Heap) (locs : List Loc) (ls : Array Slot), wb_X12_placeOf_2 Post K2 x1 x2 u → wO D 21 (gM b h) h u A s.heap H locs → lv_has ls 3 [(0, .ref (h 0)), (1, .int x1), (2, .int x2)] → W p l e rm_X12_placeOf s m args below meth c H locs 0 0 (MQ below (va_Qi Post (cB D (tyM b) 21 (gM b h) h A) A) args s 0 0 A) (F0 m 2 ls []) := by
  obtain ⟨⟨hx, hb, hml, hown, hts⟩, hK, hNs, hlocks, hr⟩ := id X
  intro x1 x2 u H locs ls hw O hl
  unfold wb_X12_placeOf_2 at hw
  refine lv_iload_n hx hb dX12_placeOf_2 rfl (lv_at hl 2 rfl) ?_
  refine lv_aload_n hx hb dX12_placeOf_3 rfl (lv_at hl 0 rfl) ?_
  refine gt_X12_93 X O dX12_placeOf_4 ?_
  refine lv_icmp_ge (tgt := 28) hx hb dX12_placeOf_7 (by decide) (fun c7 => ?_) (fun c7 => ?_)
  · have hw := hw.1 c7
    refine lv_iconst (v := -1) hx hb dX12_placeOf_28 (by decide) ?_
    exact q_iret X O hw dX12_placeOf_29
  · have hw := hw.2 c7
    refine lv_aload_n hx hb dX12_placeOf_10 rfl (lv_at hl 0 rfl) ?_
    refine gt_X12_25 X O dX12_placeOf_11 ?_
    refine lv_iload_n hx hb dX12_placeOf_14 rfl (lv_at hl 2 rfl) ?_
    obtain ⟨i15, hw⟩ := hw
    refine q_ild X O 6 0 (by decide) rfl rfl i15 dX12_placeOf_15 ?_
    refine lv_iload_n hx hb dX12_placeOf_16 rfl (lv_at hl 1 rfl) ?_
    refine lv_icmp_ne (tgt := 22) hx hb dX12_placeOf_17 (by decide) (fun c17 => ?_) (fun c17 => ?_)
    · have hw := hw.1 c17
      refine lv_iinc (v := x2 + 1) (lv' := [(2, .int (x2 + 1)), (0, .ref (h 0)), (1, .int x1)]) hx hb dX12_placeOf_22 hl (k := 2) rfl rfl (by decide) rfl (fun ls hl => ?_)
      refine lv_goto (tgt := 2) hx hb dX12_placeOf_25 (by decide) ?_
      exact k2 _ _ _ _ _ _ hw O (lv_sub hl [1, 2, 0] rfl)
    · have hw := hw.2 c17
      refine lv_iload_n hx hb dX12_placeOf_20 rfl (lv_at hl 2 rfl) ?_
      exact q_iret X O hw dX12_placeOf_21
def wl_X12_placeOf_2 (Post : Int32 → St → Prop) : Nat → Int32 → Int32 → St → Prop
  | 0 => fun _ _ _ => False
  | n + 1 => fun x1 x2 u => wb_X12_placeOf_2 Post (wl_X12_placeOf_2 Post n) x1 x2 u
set_option maxHeartbeats 4000000 in
set_option maxRecDepth 100000 in
theorem tl_X12_placeOf_2 (X : Cx p s m args meth c cX12_placeOf 3 (some .int) RX12 D (tyM b) A) (hA : ∀ q, s.heap.size ≤ q → A q) {Post : Int32 → St → Prop} : ∀ n : Nat, ∀ (x1 : Int32) (x2 : Int32) (u : St) (H : Heap) (locs : List Loc) (ls : Array Slot), (wl_X12_placeOf_2 Post n) x1 x2 u → wO D 21 (gM b h) h u A s.heap H locs → lv_has ls 3 [(0, .ref (h 0)), (1, .int x1), (2, .int x2)] → W p l e rm_X12_placeOf s m args below meth c H locs 0 0 (MQ below (va_Qi Post (cB D (tyM b) 21 (gM b h) h A) A) args s 0 0 A) (F0 m 2 ls []) := by
  intro n
  induction n with
  | zero => intro x1 x2 u H locs ls hw; exact False.elim hw
  | succ n ih => intro x1 x2 u H locs ls hw O hl; exact tb_X12_placeOf_2 X hA ih x1 x2 u H locs ls hw O hl
def wp_X12_placeOf (a1 : Int32) (u : St) (Post : Int32 → St → Prop) : Prop := ∃ n : Nat, wl_X12_placeOf_2 Post n a1 (0 : Int32) u
set_option maxHeartbeats 4000000 in
set_option maxRecDepth 100000 in
theorem c_X12_placeOf {a1 : Int32} {l : Launch} {D : va_G} {b : Nat → ClassId} {h : Nat → Nat} {u : St} {Post : Int32 → St → Prop} (hw : wp_X12_placeOf a1 u Post) : CtI l yX12_placeOf cX12_placeOf 3 (some .int) rm_X12_placeOf D (tyM b) 21 (gM b h) h [.ref (h 0), .int a1] u Post := by
  refine CtI.of (plainFor_of_name (by decide)) (Nat.le_of_ble_eq_true rfl) ?_
  intro p e s m below meth c A ls X hA O hl
  have X : Cx p s m _ meth c cX12_placeOf 3 (some .int) RX12 D (tyM b) A := X
  obtain ⟨⟨hx, hb, hml, hown, hts⟩, hK, hNs, hlocks, hr⟩ := id X
  have hl : lv_has ls 3 [(0, .ref (h 0)), (1, .int a1)] := hl
  unfold wp_X12_placeOf at hw
  refine lv_iconst (v := 0) hx hb dX12_placeOf_0 (by decide) ?_
  refine lv_istore_n (lv' := [(2, .int (0 : Int32)), (0, .ref (h 0)), (1, .int a1)]) hx hb dX12_placeOf_1 rfl hl (by decide) rfl (fun ls hl => ?_)
  obtain ⟨n, hw⟩ := hw
  exact tl_X12_placeOf_2 X hA n _ _ _ _ _ _ hw O (lv_sub hl [1, 2, 0] rfl)
-- FellersOrderModel.put(I)I
abbrev rm_X12_put : Room := { frames := 2, cells := 0, slots := 0, locals := 43 }
def wp_X12_put (a1 : Int32) (u : St) (Post : Int32 → St → Prop) : Prop := wp_X12_isJob a1 u (fun r2 u2 => ((¬ r2 = 0) → (wp_X12_placeOf a1 u2 (fun r16 u16 => ((r16 = (-1 : Int32)) → (vp_in (u16 0 7) 12 ∧ (wp_X12_done ((su (su u16 6 (Int32.toNatClampNeg (u16 0 7)) a1) 0 7 (((su u16 6 (Int32.toNatClampNeg (u16 0 7)) a1) 0 7) + (1 : Int32))) 0 7) (su (su u16 6 (Int32.toNatClampNeg (u16 0 7)) a1) 0 7 (((su u16 6 (Int32.toNatClampNeg (u16 0 7)) a1) 0 7) + (1 : Int32))) (fun r54 u54 => Post r54 u54)))) ∧ ((¬ r16 = (-1 : Int32)) → (wp_X12_refused (3 : Int32) u16 (fun r25 u25 => Post r25 u25)))))) ∧ ((r2 = 0) → (wp_X12_refused (1 : Int32) u2 (fun r10 u10 => Post r10 u10))))
set_option maxHeartbeats 4000000 in
set_option maxRecDepth 100000 in
theorem c_X12_put {a1 : Int32} {l : Launch} {D : va_G} {b : Nat → ClassId} {h : Nat → Nat} {u : St} {Post : Int32 → St → Prop} (hw : wp_X12_put a1 u Post) : CtI l yX12_put cX12_put 2 (some .int) rm_X12_put D (tyM b) 21 (gM b h) h [.ref (h 0), .int a1] u Post := by
  refine CtI.of (plainFor_of_name (by decide)) (Nat.le_of_ble_eq_true rfl) ?_
  intro p e s m below meth c A ls X hA O hl
  have X : Cx p s m _ meth c cX12_put 2 (some .int) RX12 D (tyM b) A := X
  obtain ⟨⟨hx, hb, hml, hown, hts⟩, hK, hNs, hlocks, hr⟩ := id X
  have hl : lv_has ls 2 [(0, .ref (h 0)), (1, .int a1)] := hl
  unfold wp_X12_put at hw
  refine lv_aload_n hx hb dX12_put_0 rfl (lv_at hl 0 rfl) ?_
  refine lv_iload_n hx hb dX12_put_1 rfl (lv_at hl 1 rfl) ?_
  refine q_civ (rest := []) X O hA 0 (c_X12_isJob hw) lk_X12_106 (by decide) rfl rfl rfl rfl rfl rfl ⟨Nat.le_of_ble_eq_true rfl, Nat.le_of_ble_eq_true rfl⟩ (Nat.le_of_ble_eq_true rfl) hl.1 ⟨Nat.zero_le _, Nat.zero_le _⟩ rfl dX12_put_2 (fun r2 u2 H locs hw O => ?_)
  refine lv_if_ne (tgt := 14) hx hb dX12_put_5 (by decide) (fun c5 => ?_) (fun c5 => ?_)
  · have hw := hw.1 c5
    refine lv_aload_n hx hb dX12_put_14 rfl (lv_at hl 0 rfl) ?_
    refine lv_iload_n hx hb dX12_put_15 rfl (lv_at hl 1 rfl) ?_
    refine q_civ (rest := []) X O hA 0 (c_X12_placeOf hw) lk_X12_113 (by decide) rfl rfl rfl rfl rfl rfl ⟨Nat.le_of_ble_eq_true rfl, Nat.le_of_ble_eq_true rfl⟩ (Nat.le_of_ble_eq_true rfl) hl.1 ⟨Nat.zero_le _, Nat.zero_le _⟩ rfl dX12_put_16 (fun r16 u16 H locs hw O => ?_)
    refine lv_iconst (v := -1) hx hb dX12_put_19 (by decide) ?_
    refine lv_icmp_eq (tgt := 29) hx hb dX12_put_20 (by decide) (fun c20 => ?_) (fun c20 => ?_)
    · have hw := hw.1 c20
      refine lv_aload_n hx hb dX12_put_29 rfl (lv_at hl 0 rfl) ?_
      refine gt_X12_25 X O dX12_put_30 ?_
      refine lv_aload_n hx hb dX12_put_33 rfl (lv_at hl 0 rfl) ?_
      refine gt_X12_93 X O dX12_put_34 ?_
      refine lv_iload_n hx hb dX12_put_37 rfl (lv_at hl 1 rfl) ?_
      obtain ⟨i38, hw⟩ := hw
      refine q_ist X O 6 0 (by decide) (fun _ => rfl) rfl i38 dX12_put_38 (fun H locs O => ?_)
      refine lv_aload_n hx hb dX12_put_39 rfl (lv_at hl 0 rfl) ?_
      refine lv_dup hx hb dX12_put_40 rfl ?_
      refine gt_X12_93 X O dX12_put_41 ?_
      refine lv_iconst (v := 1) hx hb dX12_put_44 (by decide) ?_
      refine lv_iadd hx hb dX12_put_45 ?_
      refine pt_X12_93 X O dX12_put_46 (fun H locs O => ?_)
      refine lv_aload_n hx hb dX12_put_49 rfl (lv_at hl 0 rfl) ?_
      refine lv_aload_n hx hb dX12_put_50 rfl (lv_at hl 0 rfl) ?_
      refine gt_X12_93 X O dX12_put_51 ?_
      refine q_civ (rest := []) X O hA 0 (c_X12_done hw) lk_X12_96 (by decide) rfl rfl rfl rfl rfl rfl ⟨Nat.le_of_ble_eq_true rfl, Nat.le_of_ble_eq_true rfl⟩ (Nat.le_of_ble_eq_true rfl) hl.1 ⟨Nat.zero_le _, Nat.zero_le _⟩ rfl dX12_put_54 (fun r54 u54 H locs hw O => ?_)
      exact q_iret X O hw dX12_put_57
    · have hw := hw.2 c20
      refine lv_aload_n hx hb dX12_put_23 rfl (lv_at hl 0 rfl) ?_
      refine lv_iconst (v := 3) hx hb dX12_put_24 (by decide) ?_
      refine q_civ (rest := []) X O hA 0 (c_X12_refused hw) lk_X12_89 (by decide) rfl rfl rfl rfl rfl rfl ⟨Nat.le_of_ble_eq_true rfl, Nat.le_of_ble_eq_true rfl⟩ (Nat.le_of_ble_eq_true rfl) hl.1 ⟨Nat.zero_le _, Nat.zero_le _⟩ rfl dX12_put_25 (fun r25 u25 H locs hw O => ?_)
      exact q_iret X O hw dX12_put_28
  · have hw := hw.2 c5
    refine lv_aload_n hx hb dX12_put_8 rfl (lv_at hl 0 rfl) ?_
    refine lv_iconst (v := 1) hx hb dX12_put_9 (by decide) ?_
    refine q_civ (rest := []) X O hA 0 (c_X12_refused hw) lk_X12_89 (by decide) rfl rfl rfl rfl rfl rfl ⟨Nat.le_of_ble_eq_true rfl, Nat.le_of_ble_eq_true rfl⟩ (Nat.le_of_ble_eq_true rfl) hl.1 ⟨Nat.zero_le _, Nat.zero_le _⟩ rfl dX12_put_10 (fun r10 u10 H locs hw O => ?_)
    exact q_iret X O hw dX12_put_13
-- FellersOrderModel.clear()I
abbrev rm_X12_clear : Room := { frames := 1, cells := 0, slots := 0, locals := 21 }
def wp_X12_clear (u : St) (Post : Int32 → St → Prop) : Prop := wp_X12_done (u 0 7) (su u 0 7 (0 : Int32)) (fun r12 u12 => Post r12 u12)
set_option maxHeartbeats 4000000 in
set_option maxRecDepth 100000 in
theorem c_X12_clear {l : Launch} {D : va_G} {b : Nat → ClassId} {h : Nat → Nat} {u : St} {Post : Int32 → St → Prop} (hw : wp_X12_clear u Post) : CtI l yX12_clear cX12_clear 2 (some .int) rm_X12_clear D (tyM b) 21 (gM b h) h [.ref (h 0)] u Post := by
  refine CtI.of (plainFor_of_name (by decide)) (Nat.le_of_ble_eq_true rfl) ?_
  intro p e s m below meth c A ls X hA O hl
  have X : Cx p s m _ meth c cX12_clear 2 (some .int) RX12 D (tyM b) A := X
  obtain ⟨⟨hx, hb, hml, hown, hts⟩, hK, hNs, hlocks, hr⟩ := id X
  have hl : lv_has ls 2 [(0, .ref (h 0))] := hl
  unfold wp_X12_clear at hw
  refine lv_aload_n hx hb dX12_clear_0 rfl (lv_at hl 0 rfl) ?_
  refine gt_X12_93 X O dX12_clear_1 ?_
  refine lv_istore_n (lv' := [(1, .int (u 0 7)), (0, .ref (h 0))]) hx hb dX12_clear_4 rfl hl (by decide) rfl (fun ls hl => ?_)
  refine lv_aload_n hx hb dX12_clear_5 rfl (lv_at hl 1 rfl) ?_
  refine lv_iconst (v := 0) hx hb dX12_clear_6 (by decide) ?_
  refine pt_X12_93 X O dX12_clear_7 (fun H locs O => ?_)
  refine lv_aload_n hx hb dX12_clear_10 rfl (lv_at hl 1 rfl) ?_
  refine lv_iload_n hx hb dX12_clear_11 rfl (lv_at hl 0 rfl) ?_
  refine q_civ (rest := []) X O hA 0 (c_X12_done hw) lk_X12_96 (by decide) rfl rfl rfl rfl rfl rfl ⟨Nat.le_of_ble_eq_true rfl, Nat.le_of_ble_eq_true rfl⟩ (Nat.le_of_ble_eq_true rfl) hl.1 ⟨Nat.zero_le _, Nat.zero_le _⟩ rfl dX12_clear_12 (fun r12 u12 H locs hw O => ?_)
  exact q_iret X O hw dX12_clear_15
-- FellersOrderModel.behindOf(I)I
abbrev rm_X12_behindOf : Room := { frames := 1, cells := 0, slots := 0, locals := 21 }
def wb_X12_behindOf_4 (Post : Int32 → St → Prop) (K4 : Int32 → Int32 → Int32 → St → Prop) (x1 : Int32) (x2 : Int32) (x3 : Int32) (u : St) : Prop := (((u 0 0) ≤ x3) → (Post x2 u)) ∧ ((¬ (u 0 0) ≤ x3) → (vp_in x3 12 ∧ (wp_X12_has (u 5 (Int32.toNatClampNeg x3)) x1 u (fun r20 u20 => ((r20 = 0) → (K4 x1 (x2 + (0 : Int32)) (x3 + 1) u20)) ∧ ((¬ r20 = 0) → (K4 x1 (x2 + (1 : Int32)) (x3 + 1) u20))))))
set_option maxHeartbeats 4000000 in
set_option maxRecDepth 100000 in
theorem tb_X12_behindOf_4 (X : Cx p s m args meth c cX12_behindOf 4 (some .int) RX12 D (tyM b) A) (hA : ∀ q, s.heap.size ≤ q → A q) {Post : Int32 → St → Prop} {K4 : Int32 → Int32 → Int32 → St → Prop} (k4 : ∀ (x1 : Int32) (x2 : Int32) (x3 : Int32) (u : St) (H : Heap) (locs : List Loc) (ls : Array Slot), K4 x1 x2 x3 u → wO D 21 (gM b h) h u A s.heap H locs → lv_has ls 4 [(0, .ref (h 0)), (1, .int x1), (2, .int x2), (3, .int x3)] → W p l e rm_X12_behindOf s m args below meth c H locs 0 0 (MQ below (va_Qi Post (cB D (tyM b) 21 (gM b h) h A) A) args s 0 0 A) (F0 m 4 ls [])) : ∀ (x1 : Int32) (x2 : Int32) (x3 : Int32) (u : St) (H : Heap) (locs : List Loc) (ls : Array Slot), wb_X12_behindOf_4 Post K4 x1 x2 x3 u → wO D 21 (gM b h) h u A s.heap H locs → lv_has ls 4 [(0, .ref (h 0)), (1, .int x1), (2, .int x2), (3, .int x3)] → W p l e rm_X12_behindOf s m args below meth c H locs 0 0 (MQ below (va_Qi Post (cB D (tyM b) 21 (gM b h) h A) A) args s 0 0 A) (F0 m 4 ls []) := by
  obtain ⟨⟨hx, hb, hml, hown, hts⟩, hK, hNs, hlocks, hr⟩ := id X
  intro x1 x2 x3 u H locs ls hw O hl
  unfold wb_X12_behindOf_4 at hw
  refine lv_iload_n hx hb dX12_behindOf_4 rfl (lv_at hl 3 rfl) ?_
  refine lv_aload_n hx hb dX12_behindOf_5 rfl (lv_at hl 0 rfl) ?_
  refine gt_X12_75 X O dX12_behindOf_6 ?_
  refine lv_icmp_ge (tgt := 39) hx hb dX12_behindOf_9 (by decide) (fun c9 => ?_) (fun c9 => ?_)
  · have hw := hw.1 c9
    refine lv_iload_n hx hb dX12_behindOf_39 rfl (lv_at hl 2 rfl) ?_
    exact q_iret X O hw dX12_behindOf_40
  · have hw := hw.2 c9
    refine lv_iload_n hx hb dX12_behindOf_12 rfl (lv_at hl 2 rfl) ?_
    refine lv_aload_n hx hb dX12_behindOf_13 rfl (lv_at hl 0 rfl) ?_
    refine gt_X12_22 X O dX12_behindOf_14 ?_
    refine lv_iload_n hx hb dX12_behindOf_17 rfl (lv_at hl 3 rfl) ?_
    obtain ⟨i18, hw⟩ := hw
    refine q_ild X O 5 0 (by decide) rfl rfl i18 dX12_behindOf_18 ?_
    refine lv_iload_n hx hb dX12_behindOf_19 rfl (lv_at hl 1 rfl) ?_
    refine q_cis (rest := [.int x2]) X O hA (c_X12_has hw) lk_X12_82 rfl rfl rfl ⟨Nat.le_of_ble_eq_true rfl, Nat.le_of_ble_eq_true rfl⟩ (Nat.le_of_ble_eq_true rfl) hl.1 ⟨Nat.zero_le _, Nat.zero_le _⟩ rfl dX12_behindOf_20 (fun r20 u20 H locs hw O => ?_)
    refine lv_if_eq (tgt := 30) hx hb dX12_behindOf_23 (by decide) (fun c23 => ?_) (fun c23 => ?_)
    · have hw := hw.1 c23
      refine lv_iconst (v := 0) hx hb dX12_behindOf_30 (by decide) ?_
      refine lv_iadd hx hb dX12_behindOf_31 ?_
      refine lv_istore_n (lv' := [(2, .int (x2 + (0 : Int32))), (0, .ref (h 0)), (1, .int x1), (3, .int x3)]) hx hb dX12_behindOf_32 rfl hl (by decide) rfl (fun ls hl => ?_)
      refine lv_iinc (v := x3 + 1) (lv' := [(3, .int (x3 + 1)), (2, .int (x2 + (0 : Int32))), (0, .ref (h 0)), (1, .int x1)]) hx hb dX12_behindOf_33 hl (k := 3) rfl rfl (by decide) rfl (fun ls hl => ?_)
      refine lv_goto (tgt := 4) hx hb dX12_behindOf_36 (by decide) ?_
      exact k4 _ _ _ _ _ _ _ hw O (lv_sub hl [2, 3, 1, 0] rfl)
    · have hw := hw.2 c23
      refine lv_iconst (v := 1) hx hb dX12_behindOf_26 (by decide) ?_
      refine lv_goto (tgt := 31) hx hb dX12_behindOf_27 (by decide) ?_
      refine lv_iadd hx hb dX12_behindOf_31 ?_
      refine lv_istore_n (lv' := [(2, .int (x2 + (1 : Int32))), (0, .ref (h 0)), (1, .int x1), (3, .int x3)]) hx hb dX12_behindOf_32 rfl hl (by decide) rfl (fun ls hl => ?_)
      refine lv_iinc (v := x3 + 1) (lv' := [(3, .int (x3 + 1)), (2, .int (x2 + (1 : Int32))), (0, .ref (h 0)), (1, .int x1)]) hx hb dX12_behindOf_33 hl (k := 3) rfl rfl (by decide) rfl (fun ls hl => ?_)
      refine lv_goto (tgt := 4) hx hb dX12_behindOf_36 (by decide) ?_
      exact k4 _ _ _ _ _ _ _ hw O (lv_sub hl [2, 3, 1, 0] rfl)
def wl_X12_behindOf_4 (Post : Int32 → St → Prop) : Nat → Int32 → Int32 → Int32 → St → Prop
  | 0 => fun _ _ _ _ => False
  | n + 1 => fun x1 x2 x3 u => wb_X12_behindOf_4 Post (wl_X12_behindOf_4 Post n) x1 x2 x3 u
set_option maxHeartbeats 4000000 in
set_option maxRecDepth 100000 in
theorem tl_X12_behindOf_4 (X : Cx p s m args meth c cX12_behindOf 4 (some .int) RX12 D (tyM b) A) (hA : ∀ q, s.heap.size ≤ q → A q) {Post : Int32 → St → Prop} : ∀ n : Nat, ∀ (x1 : Int32) (x2 : Int32) (x3 : Int32) (u : St) (H : Heap) (locs : List Loc) (ls : Array Slot), (wl_X12_behindOf_4 Post n) x1 x2 x3 u → wO D 21 (gM b h) h u A s.heap H locs → lv_has ls 4 [(0, .ref (h 0)), (1, .int x1), (2, .int x2), (3, .int x3)] → W p l e rm_X12_behindOf s m args below meth c H locs 0 0 (MQ below (va_Qi Post (cB D (tyM b) 21 (gM b h) h A) A) args s 0 0 A) (F0 m 4 ls []) := by
  intro n
  induction n with
  | zero => intro x1 x2 x3 u H locs ls hw; exact False.elim hw
  | succ n ih => intro x1 x2 x3 u H locs ls hw O hl; exact tb_X12_behindOf_4 X hA ih x1 x2 x3 u H locs ls hw O hl
def wp_X12_behindOf (a1 : Int32) (u : St) (Post : Int32 → St → Prop) : Prop := ∃ n : Nat, wl_X12_behindOf_4 Post n a1 (0 : Int32) (0 : Int32) u
set_option maxHeartbeats 4000000 in
set_option maxRecDepth 100000 in
theorem c_X12_behindOf {a1 : Int32} {l : Launch} {D : va_G} {b : Nat → ClassId} {h : Nat → Nat} {u : St} {Post : Int32 → St → Prop} (hw : wp_X12_behindOf a1 u Post) : CtI l yX12_behindOf cX12_behindOf 4 (some .int) rm_X12_behindOf D (tyM b) 21 (gM b h) h [.ref (h 0), .int a1] u Post := by
  refine CtI.of (plainFor_of_name (by decide)) (Nat.le_of_ble_eq_true rfl) ?_
  intro p e s m below meth c A ls X hA O hl
  have X : Cx p s m _ meth c cX12_behindOf 4 (some .int) RX12 D (tyM b) A := X
  obtain ⟨⟨hx, hb, hml, hown, hts⟩, hK, hNs, hlocks, hr⟩ := id X
  have hl : lv_has ls 4 [(0, .ref (h 0)), (1, .int a1)] := hl
  unfold wp_X12_behindOf at hw
  refine lv_iconst (v := 0) hx hb dX12_behindOf_0 (by decide) ?_
  refine lv_istore_n (lv' := [(2, .int (0 : Int32)), (0, .ref (h 0)), (1, .int a1)]) hx hb dX12_behindOf_1 rfl hl (by decide) rfl (fun ls hl => ?_)
  refine lv_iconst (v := 0) hx hb dX12_behindOf_2 (by decide) ?_
  refine lv_istore_n (lv' := [(3, .int (0 : Int32)), (2, .int (0 : Int32)), (0, .ref (h 0)), (1, .int a1)]) hx hb dX12_behindOf_3 rfl hl (by decide) rfl (fun ls hl => ?_)
  obtain ⟨n, hw⟩ := hw
  exact tl_X12_behindOf_4 X hA n _ _ _ _ _ _ _ hw O (lv_sub hl [2, 3, 1, 0] rfl)
-- FellersOrderModel.bits(I)I
abbrev rm_X12_bits : Room := { frames := 0, cells := 0, slots := 0, locals := 0 }
def wb_X12_bits_4 (Post : Int32 → St → Prop) (K4 : Int32 → Int32 → Int32 → St → Prop) (x0 : Int32) (x1 : Int32) (x2 : Int32) (u : St) : Prop := (((12 : Int32) ≤ x2) → (Post x1 u)) ∧ ((¬ (12 : Int32) ≤ x2) → (K4 x0 (x1 + ((x0 >>> (x2 &&& 31)) &&& (1 : Int32))) (x2 + 1) u))
set_option maxHeartbeats 4000000 in
set_option maxRecDepth 100000 in
theorem tb_X12_bits_4 (X : Cx p s m args meth c cX12_bits 3 (some .int) RX12 D (tyM b) A) (hA : ∀ q, s.heap.size ≤ q → A q) {Post : Int32 → St → Prop} {K4 : Int32 → Int32 → Int32 → St → Prop} (k4 : ∀ (x0 : Int32) (x1 : Int32) (x2 : Int32) (u : St) (H : Heap) (locs : List Loc) (ls : Array Slot), K4 x0 x1 x2 u → wO D 21 (gM b h) h u A s.heap H locs → lv_has ls 3 [(0, .int x0), (1, .int x1), (2, .int x2)] → W p l e rm_X12_bits s m args below meth c H locs 0 0 (MQ below (va_Qi Post (cB D (tyM b) 21 (gM b h) h A) A) args s 0 0 A) (F0 m 4 ls [])) : ∀ (x0 : Int32) (x1 : Int32) (x2 : Int32) (u : St) (H : Heap) (locs : List Loc) (ls : Array Slot), wb_X12_bits_4 Post K4 x0 x1 x2 u → wO D 21 (gM b h) h u A s.heap H locs → lv_has ls 3 [(0, .int x0), (1, .int x1), (2, .int x2)] → W p l e rm_X12_bits s m args below meth c H locs 0 0 (MQ below (va_Qi Post (cB D (tyM b) 21 (gM b h) h A) A) args s 0 0 A) (F0 m 4 ls []) := by
  obtain ⟨⟨hx, hb, hml, hown, hts⟩, hK, hNs, hlocks, hr⟩ := id X
  intro x0 x1 x2 u H locs ls hw O hl
  unfold wb_X12_bits_4 at hw
  refine lv_iload_n hx hb dX12_bits_4 rfl (lv_at hl 2 rfl) ?_
  refine lv_bipush (v := 12) hx hb dX12_bits_5 (by decide) ?_
  refine lv_icmp_ge (tgt := 24) hx hb dX12_bits_7 (by decide) (fun c7 => ?_) (fun c7 => ?_)
  · have hw := hw.1 c7
    refine lv_iload_n hx hb dX12_bits_24 rfl (lv_at hl 1 rfl) ?_
    exact q_iret X O hw dX12_bits_25
  · have hw := hw.2 c7
    refine lv_iload_n hx hb dX12_bits_10 rfl (lv_at hl 1 rfl) ?_
    refine lv_iload_n hx hb dX12_bits_11 rfl (lv_at hl 0 rfl) ?_
    refine lv_iload_n hx hb dX12_bits_12 rfl (lv_at hl 2 rfl) ?_
    refine lv_ishr hx hb dX12_bits_13 ?_
    refine lv_iconst (v := 1) hx hb dX12_bits_14 (by decide) ?_
    refine lv_iand hx hb dX12_bits_15 ?_
    refine lv_iadd hx hb dX12_bits_16 ?_
    refine lv_istore_n (lv' := [(1, .int (x1 + ((x0 >>> (x2 &&& 31)) &&& (1 : Int32)))), (0, .int x0), (2, .int x2)]) hx hb dX12_bits_17 rfl hl (by decide) rfl (fun ls hl => ?_)
    refine lv_iinc (v := x2 + 1) (lv' := [(2, .int (x2 + 1)), (1, .int (x1 + ((x0 >>> (x2 &&& 31)) &&& (1 : Int32)))), (0, .int x0)]) hx hb dX12_bits_18 hl (k := 2) rfl rfl (by decide) rfl (fun ls hl => ?_)
    refine lv_goto (tgt := 4) hx hb dX12_bits_21 (by decide) ?_
    exact k4 _ _ _ _ _ _ _ hw O (lv_sub hl [2, 1, 0] rfl)
def wl_X12_bits_4 (Post : Int32 → St → Prop) : Nat → Int32 → Int32 → Int32 → St → Prop
  | 0 => fun _ _ _ _ => False
  | n + 1 => fun x0 x1 x2 u => wb_X12_bits_4 Post (wl_X12_bits_4 Post n) x0 x1 x2 u
set_option maxHeartbeats 4000000 in
set_option maxRecDepth 100000 in
theorem tl_X12_bits_4 (X : Cx p s m args meth c cX12_bits 3 (some .int) RX12 D (tyM b) A) (hA : ∀ q, s.heap.size ≤ q → A q) {Post : Int32 → St → Prop} : ∀ n : Nat, ∀ (x0 : Int32) (x1 : Int32) (x2 : Int32) (u : St) (H : Heap) (locs : List Loc) (ls : Array Slot), (wl_X12_bits_4 Post n) x0 x1 x2 u → wO D 21 (gM b h) h u A s.heap H locs → lv_has ls 3 [(0, .int x0), (1, .int x1), (2, .int x2)] → W p l e rm_X12_bits s m args below meth c H locs 0 0 (MQ below (va_Qi Post (cB D (tyM b) 21 (gM b h) h A) A) args s 0 0 A) (F0 m 4 ls []) := by
  intro n
  induction n with
  | zero => intro x0 x1 x2 u H locs ls hw; exact False.elim hw
  | succ n ih => intro x0 x1 x2 u H locs ls hw O hl; exact tb_X12_bits_4 X hA ih x0 x1 x2 u H locs ls hw O hl
def wp_X12_bits (a0 : Int32) (u : St) (Post : Int32 → St → Prop) : Prop := ∃ n : Nat, wl_X12_bits_4 Post n a0 (0 : Int32) (0 : Int32) u
set_option maxHeartbeats 4000000 in
set_option maxRecDepth 100000 in
theorem c_X12_bits {a0 : Int32} {l : Launch} {D : va_G} {b : Nat → ClassId} {h : Nat → Nat} {u : St} {Post : Int32 → St → Prop} (hw : wp_X12_bits a0 u Post) : CtI l yX12_bits cX12_bits 3 (some .int) rm_X12_bits D (tyM b) 21 (gM b h) h [.int a0] u Post := by
  refine CtI.of (plainFor_of_name (by decide)) (Nat.le_of_ble_eq_true rfl) ?_
  intro p e s m below meth c A ls X hA O hl
  have X : Cx p s m _ meth c cX12_bits 3 (some .int) RX12 D (tyM b) A := X
  obtain ⟨⟨hx, hb, hml, hown, hts⟩, hK, hNs, hlocks, hr⟩ := id X
  have hl : lv_has ls 3 [(0, .int a0)] := hl
  unfold wp_X12_bits at hw
  refine lv_iconst (v := 0) hx hb dX12_bits_0 (by decide) ?_
  refine lv_istore_n (lv' := [(1, .int (0 : Int32)), (0, .int a0)]) hx hb dX12_bits_1 rfl hl (by decide) rfl (fun ls hl => ?_)
  refine lv_iconst (v := 0) hx hb dX12_bits_2 (by decide) ?_
  refine lv_istore_n (lv' := [(2, .int (0 : Int32)), (1, .int (0 : Int32)), (0, .int a0)]) hx hb dX12_bits_3 rfl hl (by decide) rfl (fun ls hl => ?_)
  obtain ⟨n, hw⟩ := hw
  exact tl_X12_bits_4 X hA n _ _ _ _ _ _ _ hw O (lv_sub hl [2, 1, 0] rfl)
-- FellersOrderModel.all()I
abbrev rm_X12_all : Room := { frames := 0, cells := 0, slots := 0, locals := 0 }
def wp_X12_all (u : St) (Post : Int32 → St → Prop) : Prop := Post (((1 : Int32) <<< ((u 0 0) &&& 31)) - (1 : Int32)) u
set_option maxHeartbeats 4000000 in
set_option maxRecDepth 100000 in
theorem c_X12_all {l : Launch} {D : va_G} {b : Nat → ClassId} {h : Nat → Nat} {u : St} {Post : Int32 → St → Prop} (hw : wp_X12_all u Post) : CtI l yX12_all cX12_all 1 (some .int) rm_X12_all D (tyM b) 21 (gM b h) h [.ref (h 0)] u Post := by
  refine CtI.of (plainFor_of_name (by decide)) (Nat.le_of_ble_eq_true rfl) ?_
  intro p e s m below meth c A ls X hA O hl
  have X : Cx p s m _ meth c cX12_all 1 (some .int) RX12 D (tyM b) A := X
  obtain ⟨⟨hx, hb, hml, hown, hts⟩, hK, hNs, hlocks, hr⟩ := id X
  have hl : lv_has ls 1 [(0, .ref (h 0))] := hl
  unfold wp_X12_all at hw
  refine lv_iconst (v := 1) hx hb dX12_all_0 (by decide) ?_
  refine lv_aload_n hx hb dX12_all_1 rfl (lv_at hl 0 rfl) ?_
  refine gt_X12_75 X O dX12_all_2 ?_
  refine lv_ishl hx hb dX12_all_5 ?_
  refine lv_iconst (v := 1) hx hb dX12_all_6 (by decide) ?_
  refine lv_isub hx hb dX12_all_7 ?_
  exact q_iret X O hw dX12_all_8
-- FellersOrderModel.isBeginning(II)Z
abbrev rm_X12_isBeginning : Room := { frames := 1, cells := 0, slots := 0, locals := 21 }
def wb_X12_isBeginning_5 (Post : Int32 → St → Prop) (K5 : Int32 → Int32 → Int32 → Int32 → St → Prop) (x1 : Int32) (x2 : Int32) (x3 : Int32) (x4 : Int32) (u : St) : Prop := (((u 0 0) ≤ x4) → ((x3 = 0 ∨ x3 = 1) ∧ Post x3 u)) ∧ ((¬ (u 0 0) ≤ x4) → (((x3 = 0) → (K5 x1 x2 (0 : Int32) (x4 + 1) u)) ∧ ((¬ x3 = 0) → (wp_X12_has x1 x4 u (fun r21 u21 => ((r21 = 0) → (K5 x1 x2 (1 : Int32) (x4 + 1) u21)) ∧ ((¬ r21 = 0) → (vp_in x4 12 ∧ (((¬ ((u21 5 (Int32.toNatClampNeg x4)) &&& ((x1 ||| x2) ^^^ (-1 : Int32))) = 0) → (K5 x1 x2 (0 : Int32) (x4 + 1) u21)) ∧ ((((u21 5 (Int32.toNatClampNeg x4)) &&& ((x1 ||| x2) ^^^ (-1 : Int32))) = 0) → (K5 x1 x2 (1 : Int32) (x4 + 1) u21))))))))))
set_option maxHeartbeats 4000000 in
set_option maxRecDepth 100000 in
theorem tb_X12_isBeginning_5 (X : Cx p s m args meth c cX12_isBeginning 5 (some .boolean) RX12 D (tyM b) A) (hA : ∀ q, s.heap.size ≤ q → A q) {Post : Int32 → St → Prop} {K5 : Int32 → Int32 → Int32 → Int32 → St → Prop} (k5 : ∀ (x1 : Int32) (x2 : Int32) (x3 : Int32) (x4 : Int32) (u : St) (H : Heap) (locs : List Loc) (ls : Array Slot), K5 x1 x2 x3 x4 u → wO D 21 (gM b h) h u A s.heap H locs → lv_has ls 5 [(0, .ref (h 0)), (1, .int x1), (2, .int x2), (3, .int x3), (4, .int x4)] → W p l e rm_X12_isBeginning s m args below meth c H locs 0 0 (MQ below (va_Qi Post (cB D (tyM b) 21 (gM b h) h A) A) args s 0 0 A) (F0 m 5 ls [])) : ∀ (x1 : Int32) (x2 : Int32) (x3 : Int32) (x4 : Int32) (u : St) (H : Heap) (locs : List Loc) (ls : Array Slot), wb_X12_isBeginning_5 Post K5 x1 x2 x3 x4 u → wO D 21 (gM b h) h u A s.heap H locs → lv_has ls 5 [(0, .ref (h 0)), (1, .int x1), (2, .int x2), (3, .int x3), (4, .int x4)] → W p l e rm_X12_isBeginning s m args below meth c H locs 0 0 (MQ below (va_Qi Post (cB D (tyM b) 21 (gM b h) h A) A) args s 0 0 A) (F0 m 5 ls []) := by
  obtain ⟨⟨hx, hb, hml, hown, hts⟩, hK, hNs, hlocks, hr⟩ := id X
  intro x1 x2 x3 x4 u H locs ls hw O hl
  unfold wb_X12_isBeginning_5 at hw
  refine lv_iload hx hb dX12_isBeginning_5 (lv_at hl 4 rfl) ?_
  refine lv_aload_n hx hb dX12_isBeginning_7 rfl (lv_at hl 0 rfl) ?_
  refine gt_X12_75 X O dX12_isBeginning_8 ?_
  refine lv_icmp_ge (tgt := 55) hx hb dX12_isBeginning_11 (by decide) (fun c11 => ?_) (fun c11 => ?_)
  · have hw := hw.1 c11
    refine lv_iload_n hx hb dX12_isBeginning_55 rfl (lv_at hl 3 rfl) ?_
    exact q_zret X O (nb01 hw.1) hw.2 dX12_isBeginning_56
  · have hw := hw.2 c11
    refine lv_iload_n hx hb dX12_isBeginning_14 rfl (lv_at hl 3 rfl) ?_
    refine lv_if_eq (tgt := 47) hx hb dX12_isBeginning_15 (by decide) (fun c15 => ?_) (fun c15 => ?_)
    · have hw := hw.1 c15
      refine lv_iconst (v := 0) hx hb dX12_isBeginning_47 (by decide) ?_
      refine lv_istore_n (lv' := [(3, .int (0 : Int32)), (0, .ref (h 0)), (1, .int x1), (2, .int x2), (4, .int x4)]) hx hb dX12_isBeginning_48 rfl hl (by decide) rfl (fun ls hl => ?_)
      refine lv_iinc (v := x4 + 1) (lv' := [(4, .int (x4 + 1)), (3, .int (0 : Int32)), (0, .ref (h 0)), (1, .int x1), (2, .int x2)]) hx hb dX12_isBeginning_49 hl (k := 4) rfl rfl (by decide) rfl (fun ls hl => ?_)
      refine lv_goto (tgt := 5) hx hb dX12_isBeginning_52 (by decide) ?_
      exact k5 _ _ _ _ _ _ _ _ hw O (lv_sub hl [2, 3, 4, 1, 0] rfl)
    · have hw := hw.2 c15
      refine lv_iload_n hx hb dX12_isBeginning_18 rfl (lv_at hl 1 rfl) ?_
      refine lv_iload hx hb dX12_isBeginning_19 (lv_at hl 4 rfl) ?_
      refine q_cis (rest := []) X O hA (c_X12_has hw) lk_X12_82 rfl rfl rfl ⟨Nat.le_of_ble_eq_true rfl, Nat.le_of_ble_eq_true rfl⟩ (Nat.le_of_ble_eq_true rfl) hl.1 ⟨Nat.zero_le _, Nat.zero_le _⟩ rfl dX12_isBeginning_21 (fun r21 u21 H locs hw O => ?_)
      refine lv_if_eq (tgt := 43) hx hb dX12_isBeginning_24 (by decide) (fun c24 => ?_) (fun c24 => ?_)
      · have hw := hw.1 c24
        refine lv_iconst (v := 1) hx hb dX12_isBeginning_43 (by decide) ?_
        refine lv_goto (tgt := 48) hx hb dX12_isBeginning_44 (by decide) ?_
        refine lv_istore_n (lv' := [(3, .int (1 : Int32)), (0, .ref (h 0)), (1, .int x1), (2, .int x2), (4, .int x4)]) hx hb dX12_isBeginning_48 rfl hl (by decide) rfl (fun ls hl => ?_)
        refine lv_iinc (v := x4 + 1) (lv' := [(4, .int (x4 + 1)), (3, .int (1 : Int32)), (0, .ref (h 0)), (1, .int x1), (2, .int x2)]) hx hb dX12_isBeginning_49 hl (k := 4) rfl rfl (by decide) rfl (fun ls hl => ?_)
        refine lv_goto (tgt := 5) hx hb dX12_isBeginning_52 (by decide) ?_
        exact k5 _ _ _ _ _ _ _ _ hw O (lv_sub hl [2, 3, 4, 1, 0] rfl)
      · have hw := hw.2 c24
        refine lv_aload_n hx hb dX12_isBeginning_27 rfl (lv_at hl 0 rfl) ?_
        refine gt_X12_22 X O dX12_isBeginning_28 ?_
        refine lv_iload hx hb dX12_isBeginning_31 (lv_at hl 4 rfl) ?_
        obtain ⟨i33, hw⟩ := hw
        refine q_ild X O 5 0 (by decide) rfl rfl i33 dX12_isBeginning_33 ?_
        refine lv_iload_n hx hb dX12_isBeginning_34 rfl (lv_at hl 1 rfl) ?_
        refine lv_iload_n hx hb dX12_isBeginning_35 rfl (lv_at hl 2 rfl) ?_
        refine lv_ior hx hb dX12_isBeginning_36 ?_
        refine lv_iconst (v := -1) hx hb dX12_isBeginning_37 (by decide) ?_
        refine lv_ixor hx hb dX12_isBeginning_38 ?_
        refine lv_iand hx hb dX12_isBeginning_39 ?_
        refine lv_if_ne (tgt := 47) hx hb dX12_isBeginning_40 (by decide) (fun c40 => ?_) (fun c40 => ?_)
        · have hw := hw.1 c40
          refine lv_iconst (v := 0) hx hb dX12_isBeginning_47 (by decide) ?_
          refine lv_istore_n (lv' := [(3, .int (0 : Int32)), (0, .ref (h 0)), (1, .int x1), (2, .int x2), (4, .int x4)]) hx hb dX12_isBeginning_48 rfl hl (by decide) rfl (fun ls hl => ?_)
          refine lv_iinc (v := x4 + 1) (lv' := [(4, .int (x4 + 1)), (3, .int (0 : Int32)), (0, .ref (h 0)), (1, .int x1), (2, .int x2)]) hx hb dX12_isBeginning_49 hl (k := 4) rfl rfl (by decide) rfl (fun ls hl => ?_)
          refine lv_goto (tgt := 5) hx hb dX12_isBeginning_52 (by decide) ?_
          exact k5 _ _ _ _ _ _ _ _ hw O (lv_sub hl [2, 3, 4, 1, 0] rfl)
        · have hw := hw.2 c40
          refine lv_iconst (v := 1) hx hb dX12_isBeginning_43 (by decide) ?_
          refine lv_goto (tgt := 48) hx hb dX12_isBeginning_44 (by decide) ?_
          refine lv_istore_n (lv' := [(3, .int (1 : Int32)), (0, .ref (h 0)), (1, .int x1), (2, .int x2), (4, .int x4)]) hx hb dX12_isBeginning_48 rfl hl (by decide) rfl (fun ls hl => ?_)
          refine lv_iinc (v := x4 + 1) (lv' := [(4, .int (x4 + 1)), (3, .int (1 : Int32)), (0, .ref (h 0)), (1, .int x1), (2, .int x2)]) hx hb dX12_isBeginning_49 hl (k := 4) rfl rfl (by decide) rfl (fun ls hl => ?_)
          refine lv_goto (tgt := 5) hx hb dX12_isBeginning_52 (by decide) ?_
          exact k5 _ _ _ _ _ _ _ _ hw O (lv_sub hl [2, 3, 4, 1, 0] rfl)
def wl_X12_isBeginning_5 (Post : Int32 → St → Prop) : Nat → Int32 → Int32 → Int32 → Int32 → St → Prop
  | 0 => fun _ _ _ _ _ => False
  | n + 1 => fun x1 x2 x3 x4 u => wb_X12_isBeginning_5 Post (wl_X12_isBeginning_5 Post n) x1 x2 x3 x4 u
set_option maxHeartbeats 4000000 in
set_option maxRecDepth 100000 in
theorem tl_X12_isBeginning_5 (X : Cx p s m args meth c cX12_isBeginning 5 (some .boolean) RX12 D (tyM b) A) (hA : ∀ q, s.heap.size ≤ q → A q) {Post : Int32 → St → Prop} : ∀ n : Nat, ∀ (x1 : Int32) (x2 : Int32) (x3 : Int32) (x4 : Int32) (u : St) (H : Heap) (locs : List Loc) (ls : Array Slot), (wl_X12_isBeginning_5 Post n) x1 x2 x3 x4 u → wO D 21 (gM b h) h u A s.heap H locs → lv_has ls 5 [(0, .ref (h 0)), (1, .int x1), (2, .int x2), (3, .int x3), (4, .int x4)] → W p l e rm_X12_isBeginning s m args below meth c H locs 0 0 (MQ below (va_Qi Post (cB D (tyM b) 21 (gM b h) h A) A) args s 0 0 A) (F0 m 5 ls []) := by
  intro n
  induction n with
  | zero => intro x1 x2 x3 x4 u H locs ls hw; exact False.elim hw
  | succ n ih => intro x1 x2 x3 x4 u H locs ls hw O hl; exact tb_X12_isBeginning_5 X hA ih x1 x2 x3 x4 u H locs ls hw O hl
def wp_X12_isBeginning (a1 : Int32) (a2 : Int32) (u : St) (Post : Int32 → St → Prop) : Prop := ∃ n : Nat, wl_X12_isBeginning_5 Post n a1 a2 (1 : Int32) (0 : Int32) u
set_option maxHeartbeats 4000000 in
set_option maxRecDepth 100000 in
theorem c_X12_isBeginning {a1 : Int32} {a2 : Int32} {l : Launch} {D : va_G} {b : Nat → ClassId} {h : Nat → Nat} {u : St} {Post : Int32 → St → Prop} (hw : wp_X12_isBeginning a1 a2 u Post) : CtI l yX12_isBeginning cX12_isBeginning 5 (some .boolean) rm_X12_isBeginning D (tyM b) 21 (gM b h) h [.ref (h 0), .int a1, .int a2] u Post := by
  refine CtI.of (plainFor_of_name (by decide)) (Nat.le_of_ble_eq_true rfl) ?_
  intro p e s m below meth c A ls X hA O hl
  have X : Cx p s m _ meth c cX12_isBeginning 5 (some .boolean) RX12 D (tyM b) A := X
  obtain ⟨⟨hx, hb, hml, hown, hts⟩, hK, hNs, hlocks, hr⟩ := id X
  have hl : lv_has ls 5 [(0, .ref (h 0)), (1, .int a1), (2, .int a2)] := hl
  unfold wp_X12_isBeginning at hw
  refine lv_iconst (v := 1) hx hb dX12_isBeginning_0 (by decide) ?_
  refine lv_istore_n (lv' := [(3, .int (1 : Int32)), (0, .ref (h 0)), (1, .int a1), (2, .int a2)]) hx hb dX12_isBeginning_1 rfl hl (by decide) rfl (fun ls hl => ?_)
  refine lv_iconst (v := 0) hx hb dX12_isBeginning_2 (by decide) ?_
  refine lv_istore (lv' := [(4, .int (0 : Int32)), (3, .int (1 : Int32)), (0, .ref (h 0)), (1, .int a1), (2, .int a2)]) hx hb dX12_isBeginning_3 hl (by decide) rfl (fun ls hl => ?_)
  obtain ⟨n, hw⟩ := hw
  exact tl_X12_isBeginning_5 X hA n _ _ _ _ _ _ _ _ hw O (lv_sub hl [2, 3, 4, 1, 0] rfl)
-- FellersOrderModel.lengthOf(I)I
abbrev rm_X12_lengthOf : Room := { frames := 1, cells := 0, slots := 0, locals := 21 }
def wb_X12_lengthOf_4 (Post : Int32 → St → Prop) (K4 : Int32 → Int32 → Int32 → St → Prop) (x1 : Int32) (x2 : Int32) (x3 : Int32) (u : St) : Prop := (((u 0 0) ≤ x3) → (Post x2 u)) ∧ ((¬ (u 0 0) ≤ x3) → (wp_X12_has x1 x3 u (fun r15 u15 => ((r15 = 0) → (K4 x1 (x2 + (0 : Int32)) (x3 + 1) u15)) ∧ ((¬ r15 = 0) → (vp_in x3 12 ∧ (K4 x1 (x2 + (u15 1 (Int32.toNatClampNeg x3))) (x3 + 1) u15))))))
set_option maxHeartbeats 4000000 in
set_option maxRecDepth 100000 in
theorem tb_X12_lengthOf_4 (X : Cx p s m args meth c cX12_lengthOf 4 (some .int) RX12 D (tyM b) A) (hA : ∀ q, s.heap.size ≤ q → A q) {Post : Int32 → St → Prop} {K4 : Int32 → Int32 → Int32 → St → Prop} (k4 : ∀ (x1 : Int32) (x2 : Int32) (x3 : Int32) (u : St) (H : Heap) (locs : List Loc) (ls : Array Slot), K4 x1 x2 x3 u → wO D 21 (gM b h) h u A s.heap H locs → lv_has ls 4 [(0, .ref (h 0)), (1, .int x1), (2, .int x2), (3, .int x3)] → W p l e rm_X12_lengthOf s m args below meth c H locs 0 0 (MQ below (va_Qi Post (cB D (tyM b) 21 (gM b h) h A) A) args s 0 0 A) (F0 m 4 ls [])) : ∀ (x1 : Int32) (x2 : Int32) (x3 : Int32) (u : St) (H : Heap) (locs : List Loc) (ls : Array Slot), wb_X12_lengthOf_4 Post K4 x1 x2 x3 u → wO D 21 (gM b h) h u A s.heap H locs → lv_has ls 4 [(0, .ref (h 0)), (1, .int x1), (2, .int x2), (3, .int x3)] → W p l e rm_X12_lengthOf s m args below meth c H locs 0 0 (MQ below (va_Qi Post (cB D (tyM b) 21 (gM b h) h A) A) args s 0 0 A) (F0 m 4 ls []) := by
  obtain ⟨⟨hx, hb, hml, hown, hts⟩, hK, hNs, hlocks, hr⟩ := id X
  intro x1 x2 x3 u H locs ls hw O hl
  unfold wb_X12_lengthOf_4 at hw
  refine lv_iload_n hx hb dX12_lengthOf_4 rfl (lv_at hl 3 rfl) ?_
  refine lv_aload_n hx hb dX12_lengthOf_5 rfl (lv_at hl 0 rfl) ?_
  refine gt_X12_75 X O dX12_lengthOf_6 ?_
  refine lv_icmp_ge (tgt := 39) hx hb dX12_lengthOf_9 (by decide) (fun c9 => ?_) (fun c9 => ?_)
  · have hw := hw.1 c9
    refine lv_iload_n hx hb dX12_lengthOf_39 rfl (lv_at hl 2 rfl) ?_
    exact q_iret X O hw dX12_lengthOf_40
  · have hw := hw.2 c9
    refine lv_iload_n hx hb dX12_lengthOf_12 rfl (lv_at hl 2 rfl) ?_
    refine lv_iload_n hx hb dX12_lengthOf_13 rfl (lv_at hl 1 rfl) ?_
    refine lv_iload_n hx hb dX12_lengthOf_14 rfl (lv_at hl 3 rfl) ?_
    refine q_cis (rest := [.int x2]) X O hA (c_X12_has hw) lk_X12_82 rfl rfl rfl ⟨Nat.le_of_ble_eq_true rfl, Nat.le_of_ble_eq_true rfl⟩ (Nat.le_of_ble_eq_true rfl) hl.1 ⟨Nat.zero_le _, Nat.zero_le _⟩ rfl dX12_lengthOf_15 (fun r15 u15 H locs hw O => ?_)
    refine lv_if_eq (tgt := 30) hx hb dX12_lengthOf_18 (by decide) (fun c18 => ?_) (fun c18 => ?_)
    · have hw := hw.1 c18
      refine lv_iconst (v := 0) hx hb dX12_lengthOf_30 (by decide) ?_
      refine lv_iadd hx hb dX12_lengthOf_31 ?_
      refine lv_istore_n (lv' := [(2, .int (x2 + (0 : Int32))), (0, .ref (h 0)), (1, .int x1), (3, .int x3)]) hx hb dX12_lengthOf_32 rfl hl (by decide) rfl (fun ls hl => ?_)
      refine lv_iinc (v := x3 + 1) (lv' := [(3, .int (x3 + 1)), (2, .int (x2 + (0 : Int32))), (0, .ref (h 0)), (1, .int x1)]) hx hb dX12_lengthOf_33 hl (k := 3) rfl rfl (by decide) rfl (fun ls hl => ?_)
      refine lv_goto (tgt := 4) hx hb dX12_lengthOf_36 (by decide) ?_
      exact k4 _ _ _ _ _ _ _ hw O (lv_sub hl [2, 3, 1, 0] rfl)
    · have hw := hw.2 c18
      refine lv_aload_n hx hb dX12_lengthOf_21 rfl (lv_at hl 0 rfl) ?_
      refine gt_X12_7 X O dX12_lengthOf_22 ?_
      refine lv_iload_n hx hb dX12_lengthOf_25 rfl (lv_at hl 3 rfl) ?_
      obtain ⟨i26, hw⟩ := hw
      refine q_ild X O 1 0 (by decide) rfl rfl i26 dX12_lengthOf_26 ?_
      refine lv_goto (tgt := 31) hx hb dX12_lengthOf_27 (by decide) ?_
      refine lv_iadd hx hb dX12_lengthOf_31 ?_
      refine lv_istore_n (lv' := [(2, .int (x2 + (u15 1 (Int32.toNatClampNeg x3)))), (0, .ref (h 0)), (1, .int x1), (3, .int x3)]) hx hb dX12_lengthOf_32 rfl hl (by decide) rfl (fun ls hl => ?_)
      refine lv_iinc (v := x3 + 1) (lv' := [(3, .int (x3 + 1)), (2, .int (x2 + (u15 1 (Int32.toNatClampNeg x3)))), (0, .ref (h 0)), (1, .int x1)]) hx hb dX12_lengthOf_33 hl (k := 3) rfl rfl (by decide) rfl (fun ls hl => ?_)
      refine lv_goto (tgt := 4) hx hb dX12_lengthOf_36 (by decide) ?_
      exact k4 _ _ _ _ _ _ _ hw O (lv_sub hl [2, 3, 1, 0] rfl)
def wl_X12_lengthOf_4 (Post : Int32 → St → Prop) : Nat → Int32 → Int32 → Int32 → St → Prop
  | 0 => fun _ _ _ _ => False
  | n + 1 => fun x1 x2 x3 u => wb_X12_lengthOf_4 Post (wl_X12_lengthOf_4 Post n) x1 x2 x3 u
set_option maxHeartbeats 4000000 in
set_option maxRecDepth 100000 in
theorem tl_X12_lengthOf_4 (X : Cx p s m args meth c cX12_lengthOf 4 (some .int) RX12 D (tyM b) A) (hA : ∀ q, s.heap.size ≤ q → A q) {Post : Int32 → St → Prop} : ∀ n : Nat, ∀ (x1 : Int32) (x2 : Int32) (x3 : Int32) (u : St) (H : Heap) (locs : List Loc) (ls : Array Slot), (wl_X12_lengthOf_4 Post n) x1 x2 x3 u → wO D 21 (gM b h) h u A s.heap H locs → lv_has ls 4 [(0, .ref (h 0)), (1, .int x1), (2, .int x2), (3, .int x3)] → W p l e rm_X12_lengthOf s m args below meth c H locs 0 0 (MQ below (va_Qi Post (cB D (tyM b) 21 (gM b h) h A) A) args s 0 0 A) (F0 m 4 ls []) := by
  intro n
  induction n with
  | zero => intro x1 x2 x3 u H locs ls hw; exact False.elim hw
  | succ n ih => intro x1 x2 x3 u H locs ls hw O hl; exact tb_X12_lengthOf_4 X hA ih x1 x2 x3 u H locs ls hw O hl
def wp_X12_lengthOf (a1 : Int32) (u : St) (Post : Int32 → St → Prop) : Prop := ∃ n : Nat, wl_X12_lengthOf_4 Post n a1 (0 : Int32) (0 : Int32) u
set_option maxHeartbeats 4000000 in
set_option maxRecDepth 100000 in
theorem c_X12_lengthOf {a1 : Int32} {l : Launch} {D : va_G} {b : Nat → ClassId} {h : Nat → Nat} {u : St} {Post : Int32 → St → Prop} (hw : wp_X12_lengthOf a1 u Post) : CtI l yX12_lengthOf cX12_lengthOf 4 (some .int) rm_X12_lengthOf D (tyM b) 21 (gM b h) h [.ref (h 0), .int a1] u Post := by
  refine CtI.of (plainFor_of_name (by decide)) (Nat.le_of_ble_eq_true rfl) ?_
  intro p e s m below meth c A ls X hA O hl
  have X : Cx p s m _ meth c cX12_lengthOf 4 (some .int) RX12 D (tyM b) A := X
  obtain ⟨⟨hx, hb, hml, hown, hts⟩, hK, hNs, hlocks, hr⟩ := id X
  have hl : lv_has ls 4 [(0, .ref (h 0)), (1, .int a1)] := hl
  unfold wp_X12_lengthOf at hw
  refine lv_iconst (v := 0) hx hb dX12_lengthOf_0 (by decide) ?_
  refine lv_istore_n (lv' := [(2, .int (0 : Int32)), (0, .ref (h 0)), (1, .int a1)]) hx hb dX12_lengthOf_1 rfl hl (by decide) rfl (fun ls hl => ?_)
  refine lv_iconst (v := 0) hx hb dX12_lengthOf_2 (by decide) ?_
  refine lv_istore_n (lv' := [(3, .int (0 : Int32)), (2, .int (0 : Int32)), (0, .ref (h 0)), (1, .int a1)]) hx hb dX12_lengthOf_3 rfl hl (by decide) rfl (fun ls hl => ?_)
  obtain ⟨n, hw⟩ := hw
  exact tl_X12_lengthOf_4 X hA n _ _ _ _ _ _ _ hw O (lv_sub hl [2, 3, 1, 0] rfl)
-- FellersOrderModel.weightOf(I)I
abbrev rm_X12_weightOf : Room := { frames := 1, cells := 0, slots := 0, locals := 21 }
def wb_X12_weightOf_4 (Post : Int32 → St → Prop) (K4 : Int32 → Int32 → Int32 → St → Prop) (x1 : Int32) (x2 : Int32) (x3 : Int32) (u : St) : Prop := (((u 0 0) ≤ x3) → (Post x2 u)) ∧ ((¬ (u 0 0) ≤ x3) → (wp_X12_has x1 x3 u (fun r15 u15 => ((r15 = 0) → (K4 x1 (x2 + (0 : Int32)) (x3 + 1) u15)) ∧ ((¬ r15 = 0) → (vp_in x3 12 ∧ (K4 x1 (x2 + (u15 2 (Int32.toNatClampNeg x3))) (x3 + 1) u15))))))
set_option maxHeartbeats 4000000 in
set_option maxRecDepth 100000 in
theorem tb_X12_weightOf_4 (X : Cx p s m args meth c cX12_weightOf 4 (some .int) RX12 D (tyM b) A) (hA : ∀ q, s.heap.size ≤ q → A q) {Post : Int32 → St → Prop} {K4 : Int32 → Int32 → Int32 → St → Prop} (k4 : ∀ (x1 : Int32) (x2 : Int32) (x3 : Int32) (u : St) (H : Heap) (locs : List Loc) (ls : Array Slot), K4 x1 x2 x3 u → wO D 21 (gM b h) h u A s.heap H locs → lv_has ls 4 [(0, .ref (h 0)), (1, .int x1), (2, .int x2), (3, .int x3)] → W p l e rm_X12_weightOf s m args below meth c H locs 0 0 (MQ below (va_Qi Post (cB D (tyM b) 21 (gM b h) h A) A) args s 0 0 A) (F0 m 4 ls [])) : ∀ (x1 : Int32) (x2 : Int32) (x3 : Int32) (u : St) (H : Heap) (locs : List Loc) (ls : Array Slot), wb_X12_weightOf_4 Post K4 x1 x2 x3 u → wO D 21 (gM b h) h u A s.heap H locs → lv_has ls 4 [(0, .ref (h 0)), (1, .int x1), (2, .int x2), (3, .int x3)] → W p l e rm_X12_weightOf s m args below meth c H locs 0 0 (MQ below (va_Qi Post (cB D (tyM b) 21 (gM b h) h A) A) args s 0 0 A) (F0 m 4 ls []) := by
  obtain ⟨⟨hx, hb, hml, hown, hts⟩, hK, hNs, hlocks, hr⟩ := id X
  intro x1 x2 x3 u H locs ls hw O hl
  unfold wb_X12_weightOf_4 at hw
  refine lv_iload_n hx hb dX12_weightOf_4 rfl (lv_at hl 3 rfl) ?_
  refine lv_aload_n hx hb dX12_weightOf_5 rfl (lv_at hl 0 rfl) ?_
  refine gt_X12_75 X O dX12_weightOf_6 ?_
  refine lv_icmp_ge (tgt := 39) hx hb dX12_weightOf_9 (by decide) (fun c9 => ?_) (fun c9 => ?_)
  · have hw := hw.1 c9
    refine lv_iload_n hx hb dX12_weightOf_39 rfl (lv_at hl 2 rfl) ?_
    exact q_iret X O hw dX12_weightOf_40
  · have hw := hw.2 c9
    refine lv_iload_n hx hb dX12_weightOf_12 rfl (lv_at hl 2 rfl) ?_
    refine lv_iload_n hx hb dX12_weightOf_13 rfl (lv_at hl 1 rfl) ?_
    refine lv_iload_n hx hb dX12_weightOf_14 rfl (lv_at hl 3 rfl) ?_
    refine q_cis (rest := [.int x2]) X O hA (c_X12_has hw) lk_X12_82 rfl rfl rfl ⟨Nat.le_of_ble_eq_true rfl, Nat.le_of_ble_eq_true rfl⟩ (Nat.le_of_ble_eq_true rfl) hl.1 ⟨Nat.zero_le _, Nat.zero_le _⟩ rfl dX12_weightOf_15 (fun r15 u15 H locs hw O => ?_)
    refine lv_if_eq (tgt := 30) hx hb dX12_weightOf_18 (by decide) (fun c18 => ?_) (fun c18 => ?_)
    · have hw := hw.1 c18
      refine lv_iconst (v := 0) hx hb dX12_weightOf_30 (by decide) ?_
      refine lv_iadd hx hb dX12_weightOf_31 ?_
      refine lv_istore_n (lv' := [(2, .int (x2 + (0 : Int32))), (0, .ref (h 0)), (1, .int x1), (3, .int x3)]) hx hb dX12_weightOf_32 rfl hl (by decide) rfl (fun ls hl => ?_)
      refine lv_iinc (v := x3 + 1) (lv' := [(3, .int (x3 + 1)), (2, .int (x2 + (0 : Int32))), (0, .ref (h 0)), (1, .int x1)]) hx hb dX12_weightOf_33 hl (k := 3) rfl rfl (by decide) rfl (fun ls hl => ?_)
      refine lv_goto (tgt := 4) hx hb dX12_weightOf_36 (by decide) ?_
      exact k4 _ _ _ _ _ _ _ hw O (lv_sub hl [2, 3, 1, 0] rfl)
    · have hw := hw.2 c18
      refine lv_aload_n hx hb dX12_weightOf_21 rfl (lv_at hl 0 rfl) ?_
      refine gt_X12_13 X O dX12_weightOf_22 ?_
      refine lv_iload_n hx hb dX12_weightOf_25 rfl (lv_at hl 3 rfl) ?_
      obtain ⟨i26, hw⟩ := hw
      refine q_ild X O 2 0 (by decide) rfl rfl i26 dX12_weightOf_26 ?_
      refine lv_goto (tgt := 31) hx hb dX12_weightOf_27 (by decide) ?_
      refine lv_iadd hx hb dX12_weightOf_31 ?_
      refine lv_istore_n (lv' := [(2, .int (x2 + (u15 2 (Int32.toNatClampNeg x3)))), (0, .ref (h 0)), (1, .int x1), (3, .int x3)]) hx hb dX12_weightOf_32 rfl hl (by decide) rfl (fun ls hl => ?_)
      refine lv_iinc (v := x3 + 1) (lv' := [(3, .int (x3 + 1)), (2, .int (x2 + (u15 2 (Int32.toNatClampNeg x3)))), (0, .ref (h 0)), (1, .int x1)]) hx hb dX12_weightOf_33 hl (k := 3) rfl rfl (by decide) rfl (fun ls hl => ?_)
      refine lv_goto (tgt := 4) hx hb dX12_weightOf_36 (by decide) ?_
      exact k4 _ _ _ _ _ _ _ hw O (lv_sub hl [2, 3, 1, 0] rfl)
def wl_X12_weightOf_4 (Post : Int32 → St → Prop) : Nat → Int32 → Int32 → Int32 → St → Prop
  | 0 => fun _ _ _ _ => False
  | n + 1 => fun x1 x2 x3 u => wb_X12_weightOf_4 Post (wl_X12_weightOf_4 Post n) x1 x2 x3 u
set_option maxHeartbeats 4000000 in
set_option maxRecDepth 100000 in
theorem tl_X12_weightOf_4 (X : Cx p s m args meth c cX12_weightOf 4 (some .int) RX12 D (tyM b) A) (hA : ∀ q, s.heap.size ≤ q → A q) {Post : Int32 → St → Prop} : ∀ n : Nat, ∀ (x1 : Int32) (x2 : Int32) (x3 : Int32) (u : St) (H : Heap) (locs : List Loc) (ls : Array Slot), (wl_X12_weightOf_4 Post n) x1 x2 x3 u → wO D 21 (gM b h) h u A s.heap H locs → lv_has ls 4 [(0, .ref (h 0)), (1, .int x1), (2, .int x2), (3, .int x3)] → W p l e rm_X12_weightOf s m args below meth c H locs 0 0 (MQ below (va_Qi Post (cB D (tyM b) 21 (gM b h) h A) A) args s 0 0 A) (F0 m 4 ls []) := by
  intro n
  induction n with
  | zero => intro x1 x2 x3 u H locs ls hw; exact False.elim hw
  | succ n ih => intro x1 x2 x3 u H locs ls hw O hl; exact tb_X12_weightOf_4 X hA ih x1 x2 x3 u H locs ls hw O hl
def wp_X12_weightOf (a1 : Int32) (u : St) (Post : Int32 → St → Prop) : Prop := ∃ n : Nat, wl_X12_weightOf_4 Post n a1 (0 : Int32) (0 : Int32) u
set_option maxHeartbeats 4000000 in
set_option maxRecDepth 100000 in
theorem c_X12_weightOf {a1 : Int32} {l : Launch} {D : va_G} {b : Nat → ClassId} {h : Nat → Nat} {u : St} {Post : Int32 → St → Prop} (hw : wp_X12_weightOf a1 u Post) : CtI l yX12_weightOf cX12_weightOf 4 (some .int) rm_X12_weightOf D (tyM b) 21 (gM b h) h [.ref (h 0), .int a1] u Post := by
  refine CtI.of (plainFor_of_name (by decide)) (Nat.le_of_ble_eq_true rfl) ?_
  intro p e s m below meth c A ls X hA O hl
  have X : Cx p s m _ meth c cX12_weightOf 4 (some .int) RX12 D (tyM b) A := X
  obtain ⟨⟨hx, hb, hml, hown, hts⟩, hK, hNs, hlocks, hr⟩ := id X
  have hl : lv_has ls 4 [(0, .ref (h 0)), (1, .int a1)] := hl
  unfold wp_X12_weightOf at hw
  refine lv_iconst (v := 0) hx hb dX12_weightOf_0 (by decide) ?_
  refine lv_istore_n (lv' := [(2, .int (0 : Int32)), (0, .ref (h 0)), (1, .int a1)]) hx hb dX12_weightOf_1 rfl hl (by decide) rfl (fun ls hl => ?_)
  refine lv_iconst (v := 0) hx hb dX12_weightOf_2 (by decide) ?_
  refine lv_istore_n (lv' := [(3, .int (0 : Int32)), (2, .int (0 : Int32)), (0, .ref (h 0)), (1, .int a1)]) hx hb dX12_weightOf_3 rfl hl (by decide) rfl (fun ls hl => ?_)
  obtain ⟨n, hw⟩ := hw
  exact tl_X12_weightOf_4 X hA n _ _ _ _ _ _ _ hw O (lv_sub hl [2, 3, 1, 0] rfl)
-- FellersOrderModel.blockBehind(I)I
abbrev rm_X12_blockBehind : Room := { frames := 2, cells := 0, slots := 0, locals := 45 }
def wb_X12_blockBehind_58 (Post : Int32 → St → Prop) (K4 : Int32 → Int32 → Int32 → St → Prop) (x1 : Int32) (x2 : Int32) (x3 : Int32) (t0 : Int32) (u : St) : Prop := ((t0 ≤ 0) → (((¬ t0 = 0) → (K4 x1 x2 (x3 + 1) u)) ∧ ((t0 = 0) → (K4 x1 (x2 ||| x3) (x3 + 1) u)))) ∧ ((¬ t0 ≤ 0) → (K4 x1 x3 (x3 + 1) u))
set_option maxHeartbeats 4000000 in
set_option maxRecDepth 100000 in
theorem tb_X12_blockBehind_58 (X : Cx p s m args meth c cX12_blockBehind 5 (some .int) RX12 D (tyM b) A) (hA : ∀ q, s.heap.size ≤ q → A q) {Post : Int32 → St → Prop} {K4 : Int32 → Int32 → Int32 → St → Prop} (k4 : ∀ (x1 : Int32) (x2 : Int32) (x3 : Int32) (u : St) (H : Heap) (locs : List Loc) (ls : Array Slot), K4 x1 x2 x3 u → wO D 21 (gM b h) h u A s.heap H locs → lv_has ls 5 [(0, .ref (h 0)), (1, .int x1), (2, .int x2), (3, .int x3)] → W p l e rm_X12_blockBehind s m args below meth c H locs 0 0 (MQ below (va_Qi Post (cB D (tyM b) 21 (gM b h) h A) A) args s 0 0 A) (F0 m 4 ls [])) : ∀ (x1 : Int32) (x2 : Int32) (x3 : Int32) (t0 : Int32) (u : St) (H : Heap) (locs : List Loc) (ls : Array Slot), wb_X12_blockBehind_58 Post K4 x1 x2 x3 t0 u → wO D 21 (gM b h) h u A s.heap H locs → lv_has ls 5 [(0, .ref (h 0)), (1, .int x1), (2, .int x2), (3, .int x3)] → W p l e rm_X12_blockBehind s m args below meth c H locs 0 0 (MQ below (va_Qi Post (cB D (tyM b) 21 (gM b h) h A) A) args s 0 0 A) (F0 m 58 ls [.int t0]) := by
  obtain ⟨⟨hx, hb, hml, hown, hts⟩, hK, hNs, hlocks, hr⟩ := id X
  intro x1 x2 x3 t0 u H locs ls hw O hl
  unfold wb_X12_blockBehind_58 at hw
  refine lv_istore (lv' := [(4, .int t0), (0, .ref (h 0)), (1, .int x1), (2, .int x2), (3, .int x3)]) hx hb dX12_blockBehind_58 hl (by decide) rfl (fun ls hl => ?_)
  refine lv_iload hx hb dX12_blockBehind_60 (lv_at hl 0 rfl) ?_
  refine lv_if_le (tgt := 69) hx hb dX12_blockBehind_62 (by decide) (fun c62 => ?_) (fun c62 => ?_)
  · have hw := hw.1 c62
    refine lv_iload hx hb dX12_blockBehind_69 (lv_at hl 0 rfl) ?_
    refine lv_if_ne (tgt := 80) hx hb dX12_blockBehind_71 (by decide) (fun c71 => ?_) (fun c71 => ?_)
    · have hw := hw.1 c71
      refine lv_iload_n hx hb dX12_blockBehind_80 rfl (lv_at hl 3 rfl) ?_
      refine lv_istore_n (lv' := [(2, .int x2), (4, .int t0), (0, .ref (h 0)), (1, .int x1), (3, .int x3)]) hx hb dX12_blockBehind_81 rfl hl (by decide) rfl (fun ls hl => ?_)
      refine lv_iinc (v := x3 + 1) (lv' := [(3, .int (x3 + 1)), (2, .int x2), (4, .int t0), (0, .ref (h 0)), (1, .int x1)]) hx hb dX12_blockBehind_82 hl (k := 4) rfl rfl (by decide) rfl (fun ls hl => ?_)
      refine lv_goto (tgt := 4) hx hb dX12_blockBehind_85 (by decide) ?_
      exact k4 _ _ _ _ _ _ _ hw O (lv_sub hl [3, 4, 1, 0] rfl)
    · have hw := hw.2 c71
      refine lv_iload_n hx hb dX12_blockBehind_74 rfl (lv_at hl 3 rfl) ?_
      refine lv_iload_n hx hb dX12_blockBehind_75 rfl (lv_at hl 4 rfl) ?_
      refine lv_ior hx hb dX12_blockBehind_76 ?_
      refine lv_goto (tgt := 81) hx hb dX12_blockBehind_77 (by decide) ?_
      refine lv_istore_n (lv' := [(2, .int (x2 ||| x3)), (4, .int t0), (0, .ref (h 0)), (1, .int x1), (3, .int x3)]) hx hb dX12_blockBehind_81 rfl hl (by decide) rfl (fun ls hl => ?_)
      refine lv_iinc (v := x3 + 1) (lv' := [(3, .int (x3 + 1)), (2, .int (x2 ||| x3)), (4, .int t0), (0, .ref (h 0)), (1, .int x1)]) hx hb dX12_blockBehind_82 hl (k := 4) rfl rfl (by decide) rfl (fun ls hl => ?_)
      refine lv_goto (tgt := 4) hx hb dX12_blockBehind_85 (by decide) ?_
      exact k4 _ _ _ _ _ _ _ hw O (lv_sub hl [3, 4, 1, 0] rfl)
  · have hw := hw.2 c62
    refine lv_iload_n hx hb dX12_blockBehind_65 rfl (lv_at hl 4 rfl) ?_
    refine lv_goto (tgt := 81) hx hb dX12_blockBehind_66 (by decide) ?_
    refine lv_istore_n (lv' := [(2, .int x3), (4, .int t0), (0, .ref (h 0)), (1, .int x1), (3, .int x3)]) hx hb dX12_blockBehind_81 rfl hl (by decide) rfl (fun ls hl => ?_)
    refine lv_iinc (v := x3 + 1) (lv' := [(3, .int (x3 + 1)), (2, .int x3), (4, .int t0), (0, .ref (h 0)), (1, .int x1)]) hx hb dX12_blockBehind_82 hl (k := 4) rfl rfl (by decide) rfl (fun ls hl => ?_)
    refine lv_goto (tgt := 4) hx hb dX12_blockBehind_85 (by decide) ?_
    exact k4 _ _ _ _ _ _ _ hw O (lv_sub hl [3, 4, 1, 0] rfl)
def wb_X12_blockBehind_4 (Post : Int32 → St → Prop) (K4 : Int32 → Int32 → Int32 → St → Prop) (x1 : Int32) (x2 : Int32) (x3 : Int32) (u : St) : Prop := wp_X12_all u (fun r6 u6 => ((r6 < x3) → (Post x2 u6)) ∧ ((¬ r6 < x3) → (((¬ (x3 &&& x1) = 0) → (K4 x1 x2 (x3 + 1) u6)) ∧ (((x3 &&& x1) = 0) → (wp_X12_isBeginning x3 x1 u6 (fun r21 u21 => ((r21 = 0) → (K4 x1 x2 (x3 + 1) u21)) ∧ ((¬ r21 = 0) → (((¬ x2 = 0) → (wp_X12_weightOf x3 u21 (fun r37 u37 => wp_X12_lengthOf x2 u37 (fun r42 u42 => wp_X12_weightOf x2 u42 (fun r48 u48 => wp_X12_lengthOf x3 u48 (fun r53 u53 => wb_X12_blockBehind_58 Post K4 x1 x2 x3 ((r37 * r42) - (r48 * r53)) u53)))))) ∧ ((x2 = 0) → (wb_X12_blockBehind_58 Post K4 x1 x2 x3 (1 : Int32) u21))))))))))
set_option maxHeartbeats 4000000 in
set_option maxRecDepth 100000 in
theorem tb_X12_blockBehind_4 (X : Cx p s m args meth c cX12_blockBehind 5 (some .int) RX12 D (tyM b) A) (hA : ∀ q, s.heap.size ≤ q → A q) {Post : Int32 → St → Prop} {K4 : Int32 → Int32 → Int32 → St → Prop} (k4 : ∀ (x1 : Int32) (x2 : Int32) (x3 : Int32) (u : St) (H : Heap) (locs : List Loc) (ls : Array Slot), K4 x1 x2 x3 u → wO D 21 (gM b h) h u A s.heap H locs → lv_has ls 5 [(0, .ref (h 0)), (1, .int x1), (2, .int x2), (3, .int x3)] → W p l e rm_X12_blockBehind s m args below meth c H locs 0 0 (MQ below (va_Qi Post (cB D (tyM b) 21 (gM b h) h A) A) args s 0 0 A) (F0 m 4 ls [])) : ∀ (x1 : Int32) (x2 : Int32) (x3 : Int32) (u : St) (H : Heap) (locs : List Loc) (ls : Array Slot), wb_X12_blockBehind_4 Post K4 x1 x2 x3 u → wO D 21 (gM b h) h u A s.heap H locs → lv_has ls 5 [(0, .ref (h 0)), (1, .int x1), (2, .int x2), (3, .int x3)] → W p l e rm_X12_blockBehind s m args below meth c H locs 0 0 (MQ below (va_Qi Post (cB D (tyM b) 21 (gM b h) h A) A) args s 0 0 A) (F0 m 4 ls []) := by
  obtain ⟨⟨hx, hb, hml, hown, hts⟩, hK, hNs, hlocks, hr⟩ := id X
  intro x1 x2 x3 u H locs ls hw O hl
  unfold wb_X12_blockBehind_4 at hw
  refine lv_iload_n hx hb dX12_blockBehind_4 rfl (lv_at hl 3 rfl) ?_
  refine lv_aload_n hx hb dX12_blockBehind_5 rfl (lv_at hl 0 rfl) ?_
  refine q_civ (rest := [.int x3]) X O hA 0 (c_X12_all hw) lk_X12_134 (by decide) rfl rfl rfl rfl rfl rfl ⟨Nat.le_of_ble_eq_true rfl, Nat.le_of_ble_eq_true rfl⟩ (Nat.le_of_ble_eq_true rfl) hl.1 ⟨Nat.zero_le _, Nat.zero_le _⟩ rfl dX12_blockBehind_6 (fun r6 u6 H locs hw O => ?_)
  refine lv_icmp_gt (tgt := 88) hx hb dX12_blockBehind_9 (by decide) (fun c9 => ?_) (fun c9 => ?_)
  · have hw := hw.1 c9
    refine lv_iload_n hx hb dX12_blockBehind_88 rfl (lv_at hl 2 rfl) ?_
    exact q_iret X O hw dX12_blockBehind_89
  · have hw := hw.2 c9
    refine lv_iload_n hx hb dX12_blockBehind_12 rfl (lv_at hl 3 rfl) ?_
    refine lv_iload_n hx hb dX12_blockBehind_13 rfl (lv_at hl 1 rfl) ?_
    refine lv_iand hx hb dX12_blockBehind_14 ?_
    refine lv_if_ne (tgt := 82) hx hb dX12_blockBehind_15 (by decide) (fun c15 => ?_) (fun c15 => ?_)
    · have hw := hw.1 c15
      refine lv_iinc (v := x3 + 1) (lv' := [(3, .int (x3 + 1)), (0, .ref (h 0)), (1, .int x1), (2, .int x2)]) hx hb dX12_blockBehind_82 hl (k := 3) rfl rfl (by decide) rfl (fun ls hl => ?_)
      refine lv_goto (tgt := 4) hx hb dX12_blockBehind_85 (by decide) ?_
      exact k4 _ _ _ _ _ _ _ hw O (lv_sub hl [1, 2, 3, 0] rfl)
    · have hw := hw.2 c15
      refine lv_aload_n hx hb dX12_blockBehind_18 rfl (lv_at hl 0 rfl) ?_
      refine lv_iload_n hx hb dX12_blockBehind_19 rfl (lv_at hl 3 rfl) ?_
      refine lv_iload_n hx hb dX12_blockBehind_20 rfl (lv_at hl 1 rfl) ?_
      refine q_civ (rest := []) X O hA 0 (c_X12_isBeginning hw) lk_X12_152 (by decide) rfl rfl rfl rfl rfl rfl ⟨Nat.le_of_ble_eq_true rfl, Nat.le_of_ble_eq_true rfl⟩ (Nat.le_of_ble_eq_true rfl) hl.1 ⟨Nat.zero_le _, Nat.zero_le _⟩ rfl dX12_blockBehind_21 (fun r21 u21 H locs hw O => ?_)
      refine lv_if_eq (tgt := 82) hx hb dX12_blockBehind_24 (by decide) (fun c24 => ?_) (fun c24 => ?_)
      · have hw := hw.1 c24
        refine lv_iinc (v := x3 + 1) (lv' := [(3, .int (x3 + 1)), (0, .ref (h 0)), (1, .int x1), (2, .int x2)]) hx hb dX12_blockBehind_82 hl (k := 3) rfl rfl (by decide) rfl (fun ls hl => ?_)
        refine lv_goto (tgt := 4) hx hb dX12_blockBehind_85 (by decide) ?_
        exact k4 _ _ _ _ _ _ _ hw O (lv_sub hl [1, 2, 3, 0] rfl)
      · have hw := hw.2 c24
        refine lv_iload_n hx hb dX12_blockBehind_27 rfl (lv_at hl 2 rfl) ?_
        refine lv_if_ne (tgt := 35) hx hb dX12_blockBehind_28 (by decide) (fun c28 => ?_) (fun c28 => ?_)
        · have hw := hw.1 c28
          refine lv_aload_n hx hb dX12_blockBehind_35 rfl (lv_at hl 0 rfl) ?_
          refine lv_iload_n hx hb dX12_blockBehind_36 rfl (lv_at hl 3 rfl) ?_
          refine q_civ (rest := []) X O hA 0 (c_X12_weightOf hw) lk_X12_155 (by decide) rfl rfl rfl rfl rfl rfl ⟨Nat.le_of_ble_eq_true rfl, Nat.le_of_ble_eq_true rfl⟩ (Nat.le_of_ble_eq_true rfl) hl.1 ⟨Nat.zero_le _, Nat.zero_le _⟩ rfl dX12_blockBehind_37 (fun r37 u37 H locs hw O => ?_)
          refine lv_aload_n hx hb dX12_blockBehind_40 rfl (lv_at hl 0 rfl) ?_
          refine lv_iload_n hx hb dX12_blockBehind_41 rfl (lv_at hl 2 rfl) ?_
          refine q_civ (rest := [.int r37]) X O hA 0 (c_X12_lengthOf hw) lk_X12_158 (by decide) rfl rfl rfl rfl rfl rfl ⟨Nat.le_of_ble_eq_true rfl, Nat.le_of_ble_eq_true rfl⟩ (Nat.le_of_ble_eq_true rfl) hl.1 ⟨Nat.zero_le _, Nat.zero_le _⟩ rfl dX12_blockBehind_42 (fun r42 u42 H locs hw O => ?_)
          refine lv_imul hx hb dX12_blockBehind_45 ?_
          refine lv_aload_n hx hb dX12_blockBehind_46 rfl (lv_at hl 0 rfl) ?_
          refine lv_iload_n hx hb dX12_blockBehind_47 rfl (lv_at hl 2 rfl) ?_
          refine q_civ (rest := [.int (r37 * r42)]) X O hA 0 (c_X12_weightOf hw) lk_X12_155 (by decide) rfl rfl rfl rfl rfl rfl ⟨Nat.le_of_ble_eq_true rfl, Nat.le_of_ble_eq_true rfl⟩ (Nat.le_of_ble_eq_true rfl) hl.1 ⟨Nat.zero_le _, Nat.zero_le _⟩ rfl dX12_blockBehind_48 (fun r48 u48 H locs hw O => ?_)
          refine lv_aload_n hx hb dX12_blockBehind_51 rfl (lv_at hl 0 rfl) ?_
          refine lv_iload_n hx hb dX12_blockBehind_52 rfl (lv_at hl 3 rfl) ?_
          refine q_civ (rest := [.int r48, .int (r37 * r42)]) X O hA 0 (c_X12_lengthOf hw) lk_X12_158 (by decide) rfl rfl rfl rfl rfl rfl ⟨Nat.le_of_ble_eq_true rfl, Nat.le_of_ble_eq_true rfl⟩ (Nat.le_of_ble_eq_true rfl) hl.1 ⟨Nat.zero_le _, Nat.zero_le _⟩ rfl dX12_blockBehind_53 (fun r53 u53 H locs hw O => ?_)
          refine lv_imul hx hb dX12_blockBehind_56 ?_
          refine lv_isub hx hb dX12_blockBehind_57 ?_
          exact tb_X12_blockBehind_58 X hA k4 _ _ _ _ _ _ _ _ hw O (lv_sub hl [0, 1, 2, 3] rfl)
        · have hw := hw.2 c28
          refine lv_iconst (v := 1) hx hb dX12_blockBehind_31 (by decide) ?_
          refine lv_goto (tgt := 58) hx hb dX12_blockBehind_32 (by decide) ?_
          exact tb_X12_blockBehind_58 X hA k4 _ _ _ _ _ _ _ _ hw O (lv_sub hl [0, 1, 2, 3] rfl)
def wl_X12_blockBehind_4 (Post : Int32 → St → Prop) : Nat → Int32 → Int32 → Int32 → St → Prop
  | 0 => fun _ _ _ _ => False
  | n + 1 => fun x1 x2 x3 u => wb_X12_blockBehind_4 Post (wl_X12_blockBehind_4 Post n) x1 x2 x3 u
set_option maxHeartbeats 4000000 in
set_option maxRecDepth 100000 in
theorem tl_X12_blockBehind_4 (X : Cx p s m args meth c cX12_blockBehind 5 (some .int) RX12 D (tyM b) A) (hA : ∀ q, s.heap.size ≤ q → A q) {Post : Int32 → St → Prop} : ∀ n : Nat, ∀ (x1 : Int32) (x2 : Int32) (x3 : Int32) (u : St) (H : Heap) (locs : List Loc) (ls : Array Slot), (wl_X12_blockBehind_4 Post n) x1 x2 x3 u → wO D 21 (gM b h) h u A s.heap H locs → lv_has ls 5 [(0, .ref (h 0)), (1, .int x1), (2, .int x2), (3, .int x3)] → W p l e rm_X12_blockBehind s m args below meth c H locs 0 0 (MQ below (va_Qi Post (cB D (tyM b) 21 (gM b h) h A) A) args s 0 0 A) (F0 m 4 ls []) := by
  intro n
  induction n with
  | zero => intro x1 x2 x3 u H locs ls hw; exact False.elim hw
  | succ n ih => intro x1 x2 x3 u H locs ls hw O hl; exact tb_X12_blockBehind_4 X hA ih x1 x2 x3 u H locs ls hw O hl
def wp_X12_blockBehind (a1 : Int32) (u : St) (Post : Int32 → St → Prop) : Prop := ∃ n : Nat, wl_X12_blockBehind_4 Post n a1 (0 : Int32) (1 : Int32) u
set_option maxHeartbeats 4000000 in
set_option maxRecDepth 100000 in
theorem c_X12_blockBehind {a1 : Int32} {l : Launch} {D : va_G} {b : Nat → ClassId} {h : Nat → Nat} {u : St} {Post : Int32 → St → Prop} (hw : wp_X12_blockBehind a1 u Post) : CtI l yX12_blockBehind cX12_blockBehind 5 (some .int) rm_X12_blockBehind D (tyM b) 21 (gM b h) h [.ref (h 0), .int a1] u Post := by
  refine CtI.of (plainFor_of_name (by decide)) (Nat.le_of_ble_eq_true rfl) ?_
  intro p e s m below meth c A ls X hA O hl
  have X : Cx p s m _ meth c cX12_blockBehind 5 (some .int) RX12 D (tyM b) A := X
  obtain ⟨⟨hx, hb, hml, hown, hts⟩, hK, hNs, hlocks, hr⟩ := id X
  have hl : lv_has ls 5 [(0, .ref (h 0)), (1, .int a1)] := hl
  unfold wp_X12_blockBehind at hw
  refine lv_iconst (v := 0) hx hb dX12_blockBehind_0 (by decide) ?_
  refine lv_istore_n (lv' := [(2, .int (0 : Int32)), (0, .ref (h 0)), (1, .int a1)]) hx hb dX12_blockBehind_1 rfl hl (by decide) rfl (fun ls hl => ?_)
  refine lv_iconst (v := 1) hx hb dX12_blockBehind_2 (by decide) ?_
  refine lv_istore_n (lv' := [(3, .int (1 : Int32)), (2, .int (0 : Int32)), (0, .ref (h 0)), (1, .int a1)]) hx hb dX12_blockBehind_3 rfl hl (by decide) rfl (fun ls hl => ?_)
  obtain ⟨n, hw⟩ := hw
  exact tl_X12_blockBehind_4 X hA n _ _ _ _ _ _ _ hw O (lv_sub hl [2, 3, 1, 0] rfl)
-- FellersOrderModel.findBlocks()V
abbrev rm_X12_findBlocks : Room := { frames := 3, cells := 0, slots := 0, locals := 69 }
def wb_X12_findBlocks_11 (Post : Int32 → St → Prop) (K11 : Int32 → St → Prop) (x1 : Int32) (u : St) : Prop := wp_X12_all u (fun r13 u13 => ((x1 = r13) → (Post 0 u13)) ∧ ((¬ x1 = r13) → (wp_X12_blockBehind x1 u13 (fun r29 u29 => vp_in (u13 0 25) 12 ∧ (vp_in ((su u29 20 (Int32.toNatClampNeg (u13 0 25)) r29) 0 25) 12 ∧ (K11 (x1 ||| ((su u29 20 (Int32.toNatClampNeg (u13 0 25)) r29) 20 (Int32.toNatClampNeg ((su u29 20 (Int32.toNatClampNeg (u13 0 25)) r29) 0 25)))) (su (su u29 20 (Int32.toNatClampNeg (u13 0 25)) r29) 0 25 (((su u29 20 (Int32.toNatClampNeg (u13 0 25)) r29) 0 25) + (1 : Int32)))))))))
set_option maxHeartbeats 4000000 in
set_option maxRecDepth 100000 in
theorem tb_X12_findBlocks_11 (X : Cx p s m args meth c cX12_findBlocks 2 none RX12 D (tyM b) A) (hA : ∀ q, s.heap.size ≤ q → A q) {Post : Int32 → St → Prop} {K11 : Int32 → St → Prop} (k11 : ∀ (x1 : Int32) (u : St) (H : Heap) (locs : List Loc) (ls : Array Slot), K11 x1 u → wO D 21 (gM b h) h u A s.heap H locs → lv_has ls 2 [(0, .ref (h 0)), (1, .int x1)] → W p l e rm_X12_findBlocks s m args below meth c H locs 0 0 (MQ below (va_Qv (Post 0) (cB D (tyM b) 21 (gM b h) h A) A) args s 0 0 A) (F0 m 11 ls [])) : ∀ (x1 : Int32) (u : St) (H : Heap) (locs : List Loc) (ls : Array Slot), wb_X12_findBlocks_11 Post K11 x1 u → wO D 21 (gM b h) h u A s.heap H locs → lv_has ls 2 [(0, .ref (h 0)), (1, .int x1)] → W p l e rm_X12_findBlocks s m args below meth c H locs 0 0 (MQ below (va_Qv (Post 0) (cB D (tyM b) 21 (gM b h) h A) A) args s 0 0 A) (F0 m 11 ls []) := by
  obtain ⟨⟨hx, hb, hml, hown, hts⟩, hK, hNs, hlocks, hr⟩ := id X
  intro x1 u H locs ls hw O hl
  unfold wb_X12_findBlocks_11 at hw
  refine lv_iload_n hx hb dX12_findBlocks_11 rfl (lv_at hl 1 rfl) ?_
  refine lv_aload_n hx hb dX12_findBlocks_12 rfl (lv_at hl 0 rfl) ?_
  refine q_civ (rest := [.int x1]) X O hA 0 (c_X12_all hw) lk_X12_134 (by decide) rfl rfl rfl rfl rfl rfl ⟨Nat.le_of_ble_eq_true rfl, Nat.le_of_ble_eq_true rfl⟩ (Nat.le_of_ble_eq_true rfl) hl.1 ⟨Nat.zero_le _, Nat.zero_le _⟩ rfl dX12_findBlocks_13 (fun r13 u13 H locs hw O => ?_)
  refine lv_icmp_eq (tgt := 58) hx hb dX12_findBlocks_16 (by decide) (fun c16 => ?_) (fun c16 => ?_)
  · have hw := hw.1 c16
    exact q_vret X O hw dX12_findBlocks_58
  · have hw := hw.2 c16
    refine lv_aload_n hx hb dX12_findBlocks_19 rfl (lv_at hl 0 rfl) ?_
    refine gt_X12_68 X O dX12_findBlocks_20 ?_
    refine lv_aload_n hx hb dX12_findBlocks_23 rfl (lv_at hl 0 rfl) ?_
    refine gt_X12_161 X O dX12_findBlocks_24 ?_
    refine lv_aload_n hx hb dX12_findBlocks_27 rfl (lv_at hl 0 rfl) ?_
    refine lv_iload_n hx hb dX12_findBlocks_28 rfl (lv_at hl 1 rfl) ?_
    refine q_civ (rest := [.int (u13 0 25), .ref (h 20)]) X O hA 0 (c_X12_blockBehind hw) lk_X12_164 (by decide) rfl rfl rfl rfl rfl rfl ⟨Nat.le_of_ble_eq_true rfl, Nat.le_of_ble_eq_true rfl⟩ (Nat.le_of_ble_eq_true rfl) hl.1 ⟨Nat.zero_le _, Nat.zero_le _⟩ rfl dX12_findBlocks_29 (fun r29 u29 H locs hw O => ?_)
    obtain ⟨i32, hw⟩ := hw
    refine q_ist X O 20 0 (by decide) (fun _ => rfl) rfl i32 dX12_findBlocks_32 (fun H locs O => ?_)
    refine lv_iload_n hx hb dX12_findBlocks_33 rfl (lv_at hl 1 rfl) ?_
    refine lv_aload_n hx hb dX12_findBlocks_34 rfl (lv_at hl 0 rfl) ?_
    refine gt_X12_68 X O dX12_findBlocks_35 ?_
    refine lv_aload_n hx hb dX12_findBlocks_38 rfl (lv_at hl 0 rfl) ?_
    refine gt_X12_161 X O dX12_findBlocks_39 ?_
    obtain ⟨i42, hw⟩ := hw
    refine q_ild X O 20 0 (by decide) rfl rfl i42 dX12_findBlocks_42 ?_
    refine lv_ior hx hb dX12_findBlocks_43 ?_
    refine lv_istore_n (lv' := [(1, .int (x1 ||| ((su u29 20 (Int32.toNatClampNeg (u13 0 25)) r29) 20 (Int32.toNatClampNeg ((su u29 20 (Int32.toNatClampNeg (u13 0 25)) r29) 0 25))))), (0, .ref (h 0))]) hx hb dX12_findBlocks_44 rfl hl (by decide) rfl (fun ls hl => ?_)
    refine lv_aload_n hx hb dX12_findBlocks_45 rfl (lv_at hl 1 rfl) ?_
    refine lv_dup hx hb dX12_findBlocks_46 rfl ?_
    refine gt_X12_161 X O dX12_findBlocks_47 ?_
    refine lv_iconst (v := 1) hx hb dX12_findBlocks_50 (by decide) ?_
    refine lv_iadd hx hb dX12_findBlocks_51 ?_
    refine pt_X12_161 X O dX12_findBlocks_52 (fun H locs O => ?_)
    refine lv_goto (tgt := 11) hx hb dX12_findBlocks_55 (by decide) ?_
    exact k11 _ _ _ _ _ hw O (lv_sub hl [1, 0] rfl)
def wl_X12_findBlocks_11 (Post : Int32 → St → Prop) : Nat → Int32 → St → Prop
  | 0 => fun _ _ => False
  | n + 1 => fun x1 u => wb_X12_findBlocks_11 Post (wl_X12_findBlocks_11 Post n) x1 u
set_option maxHeartbeats 4000000 in
set_option maxRecDepth 100000 in
theorem tl_X12_findBlocks_11 (X : Cx p s m args meth c cX12_findBlocks 2 none RX12 D (tyM b) A) (hA : ∀ q, s.heap.size ≤ q → A q) {Post : Int32 → St → Prop} : ∀ n : Nat, ∀ (x1 : Int32) (u : St) (H : Heap) (locs : List Loc) (ls : Array Slot), (wl_X12_findBlocks_11 Post n) x1 u → wO D 21 (gM b h) h u A s.heap H locs → lv_has ls 2 [(0, .ref (h 0)), (1, .int x1)] → W p l e rm_X12_findBlocks s m args below meth c H locs 0 0 (MQ below (va_Qv (Post 0) (cB D (tyM b) 21 (gM b h) h A) A) args s 0 0 A) (F0 m 11 ls []) := by
  intro n
  induction n with
  | zero => intro x1 u H locs ls hw; exact False.elim hw
  | succ n ih => intro x1 u H locs ls hw O hl; exact tb_X12_findBlocks_11 X hA ih x1 u H locs ls hw O hl
def wp_X12_findBlocks (u : St) (Post : Int32 → St → Prop) : Prop := wp_X12_close u (fun _ u1 => ∃ n : Nat, wl_X12_findBlocks_11 Post n (0 : Int32) (su u1 0 25 (0 : Int32)))
set_option maxHeartbeats 4000000 in
set_option maxRecDepth 100000 in
theorem c_X12_findBlocks {l : Launch} {D : va_G} {b : Nat → ClassId} {h : Nat → Nat} {u : St} {Post : Int32 → St → Prop} (hw : wp_X12_findBlocks u Post) : CtV l yX12_findBlocks cX12_findBlocks 2 none rm_X12_findBlocks D (tyM b) 21 (gM b h) h [.ref (h 0)] u Post := by
  refine CtV.of (plainFor_of_name (by decide)) (Nat.le_of_ble_eq_true rfl) ?_
  intro p e s m below meth c A ls X hA O hl
  have X : Cx p s m _ meth c cX12_findBlocks 2 none RX12 D (tyM b) A := X
  obtain ⟨⟨hx, hb, hml, hown, hts⟩, hK, hNs, hlocks, hr⟩ := id X
  have hl : lv_has ls 2 [(0, .ref (h 0))] := hl
  unfold wp_X12_findBlocks at hw
  refine lv_aload_n hx hb dX12_findBlocks_0 rfl (lv_at hl 0 rfl) ?_
  refine q_cvv (rest := []) X O hA 0 (c_X12_close hw) lk_X12_110 (by decide) rfl rfl rfl rfl rfl rfl ⟨Nat.le_of_ble_eq_true rfl, Nat.le_of_ble_eq_true rfl⟩ (Nat.le_of_ble_eq_true rfl) hl.1 ⟨Nat.zero_le _, Nat.zero_le _⟩ rfl dX12_findBlocks_1 (fun u1 H locs hw O => ?_)
  refine lv_aload_n hx hb dX12_findBlocks_4 rfl (lv_at hl 0 rfl) ?_
  refine lv_iconst (v := 0) hx hb dX12_findBlocks_5 (by decide) ?_
  refine pt_X12_161 X O dX12_findBlocks_6 (fun H locs O => ?_)
  refine lv_iconst (v := 0) hx hb dX12_findBlocks_9 (by decide) ?_
  refine lv_istore_n (lv' := [(1, .int (0 : Int32)), (0, .ref (h 0))]) hx hb dX12_findBlocks_10 rfl hl (by decide) rfl (fun ls hl => ?_)
  obtain ⟨n, hw⟩ := hw
  exact tl_X12_findBlocks_11 X hA n _ _ _ _ _ hw O (lv_sub hl [1, 0] rfl)
-- FellersOrderModel.blockWith(I)I
abbrev rm_X12_blockWith : Room := { frames := 4, cells := 0, slots := 0, locals := 90 }
def wb_X12_blockWith_6 (Post : Int32 → St → Prop) (K6 : Int32 → Int32 → St → Prop) (x1 : Int32) (x2 : Int32) (u : St) : Prop := vp_in x2 12 ∧ (wp_X12_has (u 20 (Int32.toNatClampNeg x2)) x1 u (fun r13 u13 => ((¬ r13 = 0) → (Post x2 u13)) ∧ ((r13 = 0) → (K6 x1 (x2 + 1) u13))))
set_option maxHeartbeats 4000000 in
set_option maxRecDepth 100000 in
theorem tb_X12_blockWith_6 (X : Cx p s m args meth c cX12_blockWith 3 (some .int) RX12 D (tyM b) A) (hA : ∀ q, s.heap.size ≤ q → A q) {Post : Int32 → St → Prop} {K6 : Int32 → Int32 → St → Prop} (k6 : ∀ (x1 : Int32) (x2 : Int32) (u : St) (H : Heap) (locs : List Loc) (ls : Array Slot), K6 x1 x2 u → wO D 21 (gM b h) h u A s.heap H locs → lv_has ls 3 [(0, .ref (h 0)), (1, .int x1), (2, .int x2)] → W p l e rm_X12_blockWith s m args below meth c H locs 0 0 (MQ below (va_Qi Post (cB D (tyM b) 21 (gM b h) h A) A) args s 0 0 A) (F0 m 6 ls [])) : ∀ (x1 : Int32) (x2 : Int32) (u : St) (H : Heap) (locs : List Loc) (ls : Array Slot), wb_X12_blockWith_6 Post K6 x1 x2 u → wO D 21 (gM b h) h u A s.heap H locs → lv_has ls 3 [(0, .ref (h 0)), (1, .int x1), (2, .int x2)] → W p l e rm_X12_blockWith s m args below meth c H locs 0 0 (MQ below (va_Qi Post (cB D (tyM b) 21 (gM b h) h A) A) args s 0 0 A) (F0 m 6 ls []) := by
  obtain ⟨⟨hx, hb, hml, hown, hts⟩, hK, hNs, hlocks, hr⟩ := id X
  intro x1 x2 u H locs ls hw O hl
  unfold wb_X12_blockWith_6 at hw
  refine lv_aload_n hx hb dX12_blockWith_6 rfl (lv_at hl 0 rfl) ?_
  refine gt_X12_68 X O dX12_blockWith_7 ?_
  refine lv_iload_n hx hb dX12_blockWith_10 rfl (lv_at hl 2 rfl) ?_
  obtain ⟨i11, hw⟩ := hw
  refine q_ild X O 20 0 (by decide) rfl rfl i11 dX12_blockWith_11 ?_
  refine lv_iload_n hx hb dX12_blockWith_12 rfl (lv_at hl 1 rfl) ?_
  refine q_cis (rest := []) X O hA (c_X12_has hw) lk_X12_82 rfl rfl rfl ⟨Nat.le_of_ble_eq_true rfl, Nat.le_of_ble_eq_true rfl⟩ (Nat.le_of_ble_eq_true rfl) hl.1 ⟨Nat.zero_le _, Nat.zero_le _⟩ rfl dX12_blockWith_13 (fun r13 u13 H locs hw O => ?_)
  refine lv_if_ne (tgt := 25) hx hb dX12_blockWith_16 (by decide) (fun c16 => ?_) (fun c16 => ?_)
  · have hw := hw.1 c16
    refine lv_iload_n hx hb dX12_blockWith_25 rfl (lv_at hl 2 rfl) ?_
    exact q_iret X O hw dX12_blockWith_26
  · have hw := hw.2 c16
    refine lv_iinc (v := x2 + 1) (lv' := [(2, .int (x2 + 1)), (0, .ref (h 0)), (1, .int x1)]) hx hb dX12_blockWith_19 hl (k := 2) rfl rfl (by decide) rfl (fun ls hl => ?_)
    refine lv_goto (tgt := 6) hx hb dX12_blockWith_22 (by decide) ?_
    exact k6 _ _ _ _ _ _ hw O (lv_sub hl [1, 2, 0] rfl)
def wl_X12_blockWith_6 (Post : Int32 → St → Prop) : Nat → Int32 → Int32 → St → Prop
  | 0 => fun _ _ _ => False
  | n + 1 => fun x1 x2 u => wb_X12_blockWith_6 Post (wl_X12_blockWith_6 Post n) x1 x2 u
set_option maxHeartbeats 4000000 in
set_option maxRecDepth 100000 in
theorem tl_X12_blockWith_6 (X : Cx p s m args meth c cX12_blockWith 3 (some .int) RX12 D (tyM b) A) (hA : ∀ q, s.heap.size ≤ q → A q) {Post : Int32 → St → Prop} : ∀ n : Nat, ∀ (x1 : Int32) (x2 : Int32) (u : St) (H : Heap) (locs : List Loc) (ls : Array Slot), (wl_X12_blockWith_6 Post n) x1 x2 u → wO D 21 (gM b h) h u A s.heap H locs → lv_has ls 3 [(0, .ref (h 0)), (1, .int x1), (2, .int x2)] → W p l e rm_X12_blockWith s m args below meth c H locs 0 0 (MQ below (va_Qi Post (cB D (tyM b) 21 (gM b h) h A) A) args s 0 0 A) (F0 m 6 ls []) := by
  intro n
  induction n with
  | zero => intro x1 x2 u H locs ls hw; exact False.elim hw
  | succ n ih => intro x1 x2 u H locs ls hw O hl; exact tb_X12_blockWith_6 X hA ih x1 x2 u H locs ls hw O hl
def wp_X12_blockWith (a1 : Int32) (u : St) (Post : Int32 → St → Prop) : Prop := wp_X12_findBlocks u (fun _ u1 => ∃ n : Nat, wl_X12_blockWith_6 Post n a1 (0 : Int32) u1)
set_option maxHeartbeats 4000000 in
set_option maxRecDepth 100000 in
theorem c_X12_blockWith {a1 : Int32} {l : Launch} {D : va_G} {b : Nat → ClassId} {h : Nat → Nat} {u : St} {Post : Int32 → St → Prop} (hw : wp_X12_blockWith a1 u Post) : CtI l yX12_blockWith cX12_blockWith 3 (some .int) rm_X12_blockWith D (tyM b) 21 (gM b h) h [.ref (h 0), .int a1] u Post := by
  refine CtI.of (plainFor_of_name (by decide)) (Nat.le_of_ble_eq_true rfl) ?_
  intro p e s m below meth c A ls X hA O hl
  have X : Cx p s m _ meth c cX12_blockWith 3 (some .int) RX12 D (tyM b) A := X
  obtain ⟨⟨hx, hb, hml, hown, hts⟩, hK, hNs, hlocks, hr⟩ := id X
  have hl : lv_has ls 3 [(0, .ref (h 0)), (1, .int a1)] := hl
  unfold wp_X12_blockWith at hw
  refine lv_aload_n hx hb dX12_blockWith_0 rfl (lv_at hl 0 rfl) ?_
  refine q_cvv (rest := []) X O hA 0 (c_X12_findBlocks hw) lk_X12_167 (by decide) rfl rfl rfl rfl rfl rfl ⟨Nat.le_of_ble_eq_true rfl, Nat.le_of_ble_eq_true rfl⟩ (Nat.le_of_ble_eq_true rfl) hl.1 ⟨Nat.zero_le _, Nat.zero_le _⟩ rfl dX12_blockWith_1 (fun u1 H locs hw O => ?_)
  refine lv_iconst (v := 0) hx hb dX12_blockWith_4 (by decide) ?_
  refine lv_istore_n (lv' := [(2, .int (0 : Int32)), (0, .ref (h 0)), (1, .int a1)]) hx hb dX12_blockWith_5 rfl hl (by decide) rfl (fun ls hl => ?_)
  obtain ⟨n, hw⟩ := hw
  exact tl_X12_blockWith_6 X hA n _ _ _ _ _ _ hw O (lv_sub hl [1, 2, 0] rfl)
-- FellersOrderModel.kindOf(I)I
abbrev rm_X12_kindOf : Room := { frames := 2, cells := 0, slots := 0, locals := 43 }
def wp_X12_kindOf (a1 : Int32) (u : St) (Post : Int32 → St → Prop) : Prop := wp_X12_close u (fun _ u1 => vp_in a1 12 ∧ ((((u1 3 (Int32.toNatClampNeg a1)) ≤ 0) → (vp_in a1 12 ∧ (((¬ (u1 1 (Int32.toNatClampNeg a1)) = (1 : Int32)) → (vp_in a1 12 ∧ (((¬ (u1 2 (Int32.toNatClampNeg a1)) = 0) → (Post (0 : Int32) u1)) ∧ (((u1 2 (Int32.toNatClampNeg a1)) = 0) → (Post (2 : Int32) u1))))) ∧ (((u1 1 (Int32.toNatClampNeg a1)) = (1 : Int32)) → (vp_in a1 12 ∧ (((¬ (u1 5 (Int32.toNatClampNeg a1)) = 0) → (Post (1 : Int32) u1)) ∧ (((u1 5 (Int32.toNatClampNeg a1)) = 0) → (Post (3 : Int32) u1)))))))) ∧ ((¬ (u1 3 (Int32.toNatClampNeg a1)) ≤ 0) → (Post (4 : Int32) u1))))
set_option maxHeartbeats 4000000 in
set_option maxRecDepth 100000 in
theorem c_X12_kindOf {a1 : Int32} {l : Launch} {D : va_G} {b : Nat → ClassId} {h : Nat → Nat} {u : St} {Post : Int32 → St → Prop} (hw : wp_X12_kindOf a1 u Post) : CtI l yX12_kindOf cX12_kindOf 2 (some .int) rm_X12_kindOf D (tyM b) 21 (gM b h) h [.ref (h 0), .int a1] u Post := by
  refine CtI.of (plainFor_of_name (by decide)) (Nat.le_of_ble_eq_true rfl) ?_
  intro p e s m below meth c A ls X hA O hl
  have X : Cx p s m _ meth c cX12_kindOf 2 (some .int) RX12 D (tyM b) A := X
  obtain ⟨⟨hx, hb, hml, hown, hts⟩, hK, hNs, hlocks, hr⟩ := id X
  have hl : lv_has ls 2 [(0, .ref (h 0)), (1, .int a1)] := hl
  unfold wp_X12_kindOf at hw
  refine lv_aload_n hx hb dX12_kindOf_0 rfl (lv_at hl 0 rfl) ?_
  refine q_cvv (rest := []) X O hA 0 (c_X12_close hw) lk_X12_110 (by decide) rfl rfl rfl rfl rfl rfl ⟨Nat.le_of_ble_eq_true rfl, Nat.le_of_ble_eq_true rfl⟩ (Nat.le_of_ble_eq_true rfl) hl.1 ⟨Nat.zero_le _, Nat.zero_le _⟩ rfl dX12_kindOf_1 (fun u1 H locs hw O => ?_)
  refine lv_aload_n hx hb dX12_kindOf_4 rfl (lv_at hl 0 rfl) ?_
  refine gt_X12_16 X O dX12_kindOf_5 ?_
  refine lv_iload_n hx hb dX12_kindOf_8 rfl (lv_at hl 1 rfl) ?_
  obtain ⟨i9, hw⟩ := hw
  refine q_ild X O 3 0 (by decide) rfl rfl i9 dX12_kindOf_9 ?_
  refine lv_if_le (tgt := 15) hx hb dX12_kindOf_10 (by decide) (fun c10 => ?_) (fun c10 => ?_)
  · have hw := hw.1 c10
    refine lv_aload_n hx hb dX12_kindOf_15 rfl (lv_at hl 0 rfl) ?_
    refine gt_X12_7 X O dX12_kindOf_16 ?_
    refine lv_iload_n hx hb dX12_kindOf_19 rfl (lv_at hl 1 rfl) ?_
    obtain ⟨i20, hw⟩ := hw
    refine q_ild X O 1 0 (by decide) rfl rfl i20 dX12_kindOf_20 ?_
    refine lv_iconst (v := 1) hx hb dX12_kindOf_21 (by decide) ?_
    refine lv_icmp_ne (tgt := 40) hx hb dX12_kindOf_22 (by decide) (fun c22 => ?_) (fun c22 => ?_)
    · have hw := hw.1 c22
      refine lv_aload_n hx hb dX12_kindOf_40 rfl (lv_at hl 0 rfl) ?_
      refine gt_X12_13 X O dX12_kindOf_41 ?_
      refine lv_iload_n hx hb dX12_kindOf_44 rfl (lv_at hl 1 rfl) ?_
      obtain ⟨i45, hw⟩ := hw
      refine q_ild X O 2 0 (by decide) rfl rfl i45 dX12_kindOf_45 ?_
      refine lv_if_ne (tgt := 53) hx hb dX12_kindOf_46 (by decide) (fun c46 => ?_) (fun c46 => ?_)
      · have hw := hw.1 c46
        refine lv_iconst (v := 0) hx hb dX12_kindOf_53 (by decide) ?_
        exact q_iret X O hw dX12_kindOf_54
      · have hw := hw.2 c46
        refine lv_iconst (v := 2) hx hb dX12_kindOf_49 (by decide) ?_
        refine lv_goto (tgt := 54) hx hb dX12_kindOf_50 (by decide) ?_
        exact q_iret X O hw dX12_kindOf_54
    · have hw := hw.2 c22
      refine lv_aload_n hx hb dX12_kindOf_25 rfl (lv_at hl 0 rfl) ?_
      refine gt_X12_22 X O dX12_kindOf_26 ?_
      refine lv_iload_n hx hb dX12_kindOf_29 rfl (lv_at hl 1 rfl) ?_
      obtain ⟨i30, hw⟩ := hw
      refine q_ild X O 5 0 (by decide) rfl rfl i30 dX12_kindOf_30 ?_
      refine lv_if_ne (tgt := 38) hx hb dX12_kindOf_31 (by decide) (fun c31 => ?_) (fun c31 => ?_)
      · have hw := hw.1 c31
        refine lv_iconst (v := 1) hx hb dX12_kindOf_38 (by decide) ?_
        exact q_iret X O hw dX12_kindOf_39
      · have hw := hw.2 c31
        refine lv_iconst (v := 3) hx hb dX12_kindOf_34 (by decide) ?_
        refine lv_goto (tgt := 39) hx hb dX12_kindOf_35 (by decide) ?_
        exact q_iret X O hw dX12_kindOf_39
  · have hw := hw.2 c10
    refine lv_iconst (v := 4) hx hb dX12_kindOf_13 (by decide) ?_
    exact q_iret X O hw dX12_kindOf_14
-- FellersOrderModel.told(II)I
abbrev rm_X12_told : Room := { frames := 5, cells := 0, slots := 0, locals := 112 }
def wp_X12_told (a1 : Int32) (a2 : Int32) (u : St) (Post : Int32 → St → Prop) : Prop := wp_X12_isJob a1 u (fun r2 u2 => ((¬ r2 = 0) → (wp_X12_close u2 (fun _ u11 => (a2 = 0 → (vp_in a1 12 ∧ (Post (u11 1 (Int32.toNatClampNeg a1)) u11))) ∧ (a2 = 1 → (vp_in a1 12 ∧ (Post (u11 2 (Int32.toNatClampNeg a1)) u11))) ∧ (a2 = 2 → (vp_in a1 12 ∧ (Post (u11 3 (Int32.toNatClampNeg a1)) u11))) ∧ (a2 = 3 → (wp_X12_kindOf a1 u11 (fun r83 u83 => Post r83 u83))) ∧ (a2 = 4 → (vp_in a1 12 ∧ (wp_X12_bits (u11 5 (Int32.toNatClampNeg a1)) u11 (fun r93 u93 => Post r93 u93)))) ∧ (a2 = 5 → (wp_X12_behindOf a1 u11 (fun r99 u99 => Post r99 u99))) ∧ (a2 = 6 → (wp_X12_placeOf a1 u11 (fun r105 u105 => Post r105 u105))) ∧ (a2 = 7 → (wp_X12_blockWith a1 u11 (fun r111 u111 => Post r111 u111))) ∧ (¬ a2 = 0 → ¬ a2 = 1 → ¬ a2 = 2 → ¬ a2 = 3 → ¬ a2 = 4 → ¬ a2 = 5 → ¬ a2 = 6 → ¬ a2 = 7 → (Post (-1 : Int32) u11))))) ∧ ((r2 = 0) → (Post (-1 : Int32) u2)))
set_option maxHeartbeats 4000000 in
set_option maxRecDepth 100000 in
theorem c_X12_told {a1 : Int32} {a2 : Int32} {l : Launch} {D : va_G} {b : Nat → ClassId} {h : Nat → Nat} {u : St} {Post : Int32 → St → Prop} (hw : wp_X12_told a1 a2 u Post) : CtI l yX12_told cX12_told 3 (some .int) rm_X12_told D (tyM b) 21 (gM b h) h [.ref (h 0), .int a1, .int a2] u Post := by
  refine CtI.of (plainFor_of_name (by decide)) (Nat.le_of_ble_eq_true rfl) ?_
  intro p e s m below meth c A ls X hA O hl
  have X : Cx p s m _ meth c cX12_told 3 (some .int) RX12 D (tyM b) A := X
  obtain ⟨⟨hx, hb, hml, hown, hts⟩, hK, hNs, hlocks, hr⟩ := id X
  have hl : lv_has ls 3 [(0, .ref (h 0)), (1, .int a1), (2, .int a2)] := hl
  unfold wp_X12_told at hw
  refine lv_aload_n hx hb dX12_told_0 rfl (lv_at hl 0 rfl) ?_
  refine lv_iload_n hx hb dX12_told_1 rfl (lv_at hl 1 rfl) ?_
  refine q_civ (rest := []) X O hA 0 (c_X12_isJob hw) lk_X12_106 (by decide) rfl rfl rfl rfl rfl rfl ⟨Nat.le_of_ble_eq_true rfl, Nat.le_of_ble_eq_true rfl⟩ (Nat.le_of_ble_eq_true rfl) hl.1 ⟨Nat.zero_le _, Nat.zero_le _⟩ rfl dX12_told_2 (fun r2 u2 H locs hw O => ?_)
  refine lv_if_ne (tgt := 10) hx hb dX12_told_5 (by decide) (fun c5 => ?_) (fun c5 => ?_)
  · have hw := hw.1 c5
    refine lv_aload_n hx hb dX12_told_10 rfl (lv_at hl 0 rfl) ?_
    refine q_cvv (rest := []) X O hA 0 (c_X12_close hw) lk_X12_110 (by decide) rfl rfl rfl rfl rfl rfl ⟨Nat.le_of_ble_eq_true rfl, Nat.le_of_ble_eq_true rfl⟩ (Nat.le_of_ble_eq_true rfl) hl.1 ⟨Nat.zero_le _, Nat.zero_le _⟩ rfl dX12_told_11 (fun u11 H locs hw O => ?_)
    refine lv_iload_n hx hb dX12_told_14 rfl (lv_at hl 2 rfl) ?_
    by_cases s15_0 : a2 = 0
    · have hw := hw.1 s15_0
      refine lv_tableIn (off := 45) (tgt := 60) hx hb dX12_told_15 (by rw [s15_0]; decide) (by rw [s15_0]; decide) (by rw [s15_0]; decide) (by decide) ?_
      refine lv_aload_n hx hb dX12_told_60 rfl (lv_at hl 0 rfl) ?_
      refine gt_X12_7 X O dX12_told_61 ?_
      refine lv_iload_n hx hb dX12_told_64 rfl (lv_at hl 1 rfl) ?_
      obtain ⟨i65, hw⟩ := hw
      refine q_ild X O 1 0 (by decide) rfl rfl i65 dX12_told_65 ?_
      exact q_iret X O hw dX12_told_66
    · replace hw := hw.2
      by_cases s15_1 : a2 = 1
      · have hw := hw.1 s15_1
        refine lv_tableIn (off := 52) (tgt := 67) hx hb dX12_told_15 (by rw [s15_1]; decide) (by rw [s15_1]; decide) (by rw [s15_1]; decide) (by decide) ?_
        refine lv_aload_n hx hb dX12_told_67 rfl (lv_at hl 0 rfl) ?_
        refine gt_X12_13 X O dX12_told_68 ?_
        refine lv_iload_n hx hb dX12_told_71 rfl (lv_at hl 1 rfl) ?_
        obtain ⟨i72, hw⟩ := hw
        refine q_ild X O 2 0 (by decide) rfl rfl i72 dX12_told_72 ?_
        exact q_iret X O hw dX12_told_73
      · replace hw := hw.2
        by_cases s15_2 : a2 = 2
        · have hw := hw.1 s15_2
          refine lv_tableIn (off := 59) (tgt := 74) hx hb dX12_told_15 (by rw [s15_2]; decide) (by rw [s15_2]; decide) (by rw [s15_2]; decide) (by decide) ?_
          refine lv_aload_n hx hb dX12_told_74 rfl (lv_at hl 0 rfl) ?_
          refine gt_X12_16 X O dX12_told_75 ?_
          refine lv_iload_n hx hb dX12_told_78 rfl (lv_at hl 1 rfl) ?_
          obtain ⟨i79, hw⟩ := hw
          refine q_ild X O 3 0 (by decide) rfl rfl i79 dX12_told_79 ?_
          exact q_iret X O hw dX12_told_80
        · replace hw := hw.2
          by_cases s15_3 : a2 = 3
          · have hw := hw.1 s15_3
            refine lv_tableIn (off := 66) (tgt := 81) hx hb dX12_told_15 (by rw [s15_3]; decide) (by rw [s15_3]; decide) (by rw [s15_3]; decide) (by decide) ?_
            refine lv_aload_n hx hb dX12_told_81 rfl (lv_at hl 0 rfl) ?_
            refine lv_iload_n hx hb dX12_told_82 rfl (lv_at hl 1 rfl) ?_
            refine q_civ (rest := []) X O hA 0 (c_X12_kindOf hw) lk_X12_170 (by decide) rfl rfl rfl rfl rfl rfl ⟨Nat.le_of_ble_eq_true rfl, Nat.le_of_ble_eq_true rfl⟩ (Nat.le_of_ble_eq_true rfl) hl.1 ⟨Nat.zero_le _, Nat.zero_le _⟩ rfl dX12_told_83 (fun r83 u83 H locs hw O => ?_)
            exact q_iret X O hw dX12_told_86
          · replace hw := hw.2
            by_cases s15_4 : a2 = 4
            · have hw := hw.1 s15_4
              refine lv_tableIn (off := 72) (tgt := 87) hx hb dX12_told_15 (by rw [s15_4]; decide) (by rw [s15_4]; decide) (by rw [s15_4]; decide) (by decide) ?_
              refine lv_aload_n hx hb dX12_told_87 rfl (lv_at hl 0 rfl) ?_
              refine gt_X12_22 X O dX12_told_88 ?_
              refine lv_iload_n hx hb dX12_told_91 rfl (lv_at hl 1 rfl) ?_
              obtain ⟨i92, hw⟩ := hw
              refine q_ild X O 5 0 (by decide) rfl rfl i92 dX12_told_92 ?_
              refine q_cis (rest := []) X O hA (c_X12_bits hw) lk_X12_173 rfl rfl rfl ⟨Nat.le_of_ble_eq_true rfl, Nat.le_of_ble_eq_true rfl⟩ (Nat.le_of_ble_eq_true rfl) hl.1 ⟨Nat.zero_le _, Nat.zero_le _⟩ rfl dX12_told_93 (fun r93 u93 H locs hw O => ?_)
              exact q_iret X O hw dX12_told_96
            · replace hw := hw.2
              by_cases s15_5 : a2 = 5
              · have hw := hw.1 s15_5
                refine lv_tableIn (off := 82) (tgt := 97) hx hb dX12_told_15 (by rw [s15_5]; decide) (by rw [s15_5]; decide) (by rw [s15_5]; decide) (by decide) ?_
                refine lv_aload_n hx hb dX12_told_97 rfl (lv_at hl 0 rfl) ?_
                refine lv_iload_n hx hb dX12_told_98 rfl (lv_at hl 1 rfl) ?_
                refine q_civ (rest := []) X O hA 0 (c_X12_behindOf hw) lk_X12_176 (by decide) rfl rfl rfl rfl rfl rfl ⟨Nat.le_of_ble_eq_true rfl, Nat.le_of_ble_eq_true rfl⟩ (Nat.le_of_ble_eq_true rfl) hl.1 ⟨Nat.zero_le _, Nat.zero_le _⟩ rfl dX12_told_99 (fun r99 u99 H locs hw O => ?_)
                exact q_iret X O hw dX12_told_102
              · replace hw := hw.2
                by_cases s15_6 : a2 = 6
                · have hw := hw.1 s15_6
                  refine lv_tableIn (off := 88) (tgt := 103) hx hb dX12_told_15 (by rw [s15_6]; decide) (by rw [s15_6]; decide) (by rw [s15_6]; decide) (by decide) ?_
                  refine lv_aload_n hx hb dX12_told_103 rfl (lv_at hl 0 rfl) ?_
                  refine lv_iload_n hx hb dX12_told_104 rfl (lv_at hl 1 rfl) ?_
                  refine q_civ (rest := []) X O hA 0 (c_X12_placeOf hw) lk_X12_113 (by decide) rfl rfl rfl rfl rfl rfl ⟨Nat.le_of_ble_eq_true rfl, Nat.le_of_ble_eq_true rfl⟩ (Nat.le_of_ble_eq_true rfl) hl.1 ⟨Nat.zero_le _, Nat.zero_le _⟩ rfl dX12_told_105 (fun r105 u105 H locs hw O => ?_)
                  exact q_iret X O hw dX12_told_108
                · replace hw := hw.2
                  by_cases s15_7 : a2 = 7
                  · have hw := hw.1 s15_7
                    refine lv_tableIn (off := 94) (tgt := 109) hx hb dX12_told_15 (by rw [s15_7]; decide) (by rw [s15_7]; decide) (by rw [s15_7]; decide) (by decide) ?_
                    refine lv_aload_n hx hb dX12_told_109 rfl (lv_at hl 0 rfl) ?_
                    refine lv_iload_n hx hb dX12_told_110 rfl (lv_at hl 1 rfl) ?_
                    refine q_civ (rest := []) X O hA 0 (c_X12_blockWith hw) lk_X12_179 (by decide) rfl rfl rfl rfl rfl rfl ⟨Nat.le_of_ble_eq_true rfl, Nat.le_of_ble_eq_true rfl⟩ (Nat.le_of_ble_eq_true rfl) hl.1 ⟨Nat.zero_le _, Nat.zero_le _⟩ rfl dX12_told_111 (fun r111 u111 H locs hw O => ?_)
                    exact q_iret X O hw dX12_told_114
                  · replace hw := hw.2
                    have hw := hw s15_0 s15_1 s15_2 s15_3 s15_4 s15_5 s15_6 s15_7
                    refine lv_tableOut (tgt := 115) hx hb dX12_told_15 (by have e0 := ts_ne (k := 0) (by decide) s15_0; have e1 := ts_ne (k := 1) (by decide) s15_1; have e2 := ts_ne (k := 2) (by decide) s15_2; have e3 := ts_ne (k := 3) (by decide) s15_3; have e4 := ts_ne (k := 4) (by decide) s15_4; have e5 := ts_ne (k := 5) (by decide) s15_5; have e6 := ts_ne (k := 6) (by decide) s15_6; have e7 := ts_ne (k := 7) (by decide) s15_7; omega) (by decide) ?_
                    refine lv_iconst (v := -1) hx hb dX12_told_115 (by decide) ?_
                    exact q_iret X O hw dX12_told_116
  · have hw := hw.2 c5
    refine lv_iconst (v := -1) hx hb dX12_told_8 (by decide) ?_
    exact q_iret X O hw dX12_told_9
-- FellersOrderModel.ahead(II)I
abbrev rm_X12_ahead : Room := { frames := 2, cells := 0, slots := 0, locals := 43 }
def wp_X12_ahead (a1 : Int32) (a2 : Int32) (u : St) (Post : Int32 → St → Prop) : Prop := wp_X12_isJob a1 u (fun r2 u2 => ((r2 = 0) → (Post (-1 : Int32) u2)) ∧ ((¬ r2 = 0) → (wp_X12_isJob a2 u2 (fun r10 u10 => ((¬ r10 = 0) → (wp_X12_close u10 (fun _ u19 => vp_in a2 12 ∧ (wp_X12_has (u19 4 (Int32.toNatClampNeg a2)) a1 u19 (fun r29 u29 => ((r29 = 0) → (vp_in a2 12 ∧ (wp_X12_has (u29 5 (Int32.toNatClampNeg a2)) a1 u29 (fun r46 u46 => ((r46 = 0) → (Post (0 : Int32) u46)) ∧ ((¬ r46 = 0) → (Post (1 : Int32) u46)))))) ∧ ((¬ r29 = 0) → (Post (2 : Int32) u29))))))) ∧ ((r10 = 0) → (Post (-1 : Int32) u10))))))
set_option maxHeartbeats 4000000 in
set_option maxRecDepth 100000 in
theorem c_X12_ahead {a1 : Int32} {a2 : Int32} {l : Launch} {D : va_G} {b : Nat → ClassId} {h : Nat → Nat} {u : St} {Post : Int32 → St → Prop} (hw : wp_X12_ahead a1 a2 u Post) : CtI l yX12_ahead cX12_ahead 3 (some .int) rm_X12_ahead D (tyM b) 21 (gM b h) h [.ref (h 0), .int a1, .int a2] u Post := by
  refine CtI.of (plainFor_of_name (by decide)) (Nat.le_of_ble_eq_true rfl) ?_
  intro p e s m below meth c A ls X hA O hl
  have X : Cx p s m _ meth c cX12_ahead 3 (some .int) RX12 D (tyM b) A := X
  obtain ⟨⟨hx, hb, hml, hown, hts⟩, hK, hNs, hlocks, hr⟩ := id X
  have hl : lv_has ls 3 [(0, .ref (h 0)), (1, .int a1), (2, .int a2)] := hl
  unfold wp_X12_ahead at hw
  refine lv_aload_n hx hb dX12_ahead_0 rfl (lv_at hl 0 rfl) ?_
  refine lv_iload_n hx hb dX12_ahead_1 rfl (lv_at hl 1 rfl) ?_
  refine q_civ (rest := []) X O hA 0 (c_X12_isJob hw) lk_X12_106 (by decide) rfl rfl rfl rfl rfl rfl ⟨Nat.le_of_ble_eq_true rfl, Nat.le_of_ble_eq_true rfl⟩ (Nat.le_of_ble_eq_true rfl) hl.1 ⟨Nat.zero_le _, Nat.zero_le _⟩ rfl dX12_ahead_2 (fun r2 u2 H locs hw O => ?_)
  refine lv_if_eq (tgt := 16) hx hb dX12_ahead_5 (by decide) (fun c5 => ?_) (fun c5 => ?_)
  · have hw := hw.1 c5
    refine lv_iconst (v := -1) hx hb dX12_ahead_16 (by decide) ?_
    exact q_iret X O hw dX12_ahead_17
  · have hw := hw.2 c5
    refine lv_aload_n hx hb dX12_ahead_8 rfl (lv_at hl 0 rfl) ?_
    refine lv_iload_n hx hb dX12_ahead_9 rfl (lv_at hl 2 rfl) ?_
    refine q_civ (rest := []) X O hA 0 (c_X12_isJob hw) lk_X12_106 (by decide) rfl rfl rfl rfl rfl rfl ⟨Nat.le_of_ble_eq_true rfl, Nat.le_of_ble_eq_true rfl⟩ (Nat.le_of_ble_eq_true rfl) hl.1 ⟨Nat.zero_le _, Nat.zero_le _⟩ rfl dX12_ahead_10 (fun r10 u10 H locs hw O => ?_)
    refine lv_if_ne (tgt := 18) hx hb dX12_ahead_13 (by decide) (fun c13 => ?_) (fun c13 => ?_)
    · have hw := hw.1 c13
      refine lv_aload_n hx hb dX12_ahead_18 rfl (lv_at hl 0 rfl) ?_
      refine q_cvv (rest := []) X O hA 0 (c_X12_close hw) lk_X12_110 (by decide) rfl rfl rfl rfl rfl rfl ⟨Nat.le_of_ble_eq_true rfl, Nat.le_of_ble_eq_true rfl⟩ (Nat.le_of_ble_eq_true rfl) hl.1 ⟨Nat.zero_le _, Nat.zero_le _⟩ rfl dX12_ahead_19 (fun u19 H locs hw O => ?_)
      refine lv_aload_n hx hb dX12_ahead_22 rfl (lv_at hl 0 rfl) ?_
      refine gt_X12_19 X O dX12_ahead_23 ?_
      refine lv_iload_n hx hb dX12_ahead_26 rfl (lv_at hl 2 rfl) ?_
      obtain ⟨i27, hw⟩ := hw
      refine q_ild X O 4 0 (by decide) rfl rfl i27 dX12_ahead_27 ?_
      refine lv_iload_n hx hb dX12_ahead_28 rfl (lv_at hl 1 rfl) ?_
      refine q_cis (rest := []) X O hA (c_X12_has hw) lk_X12_82 rfl rfl rfl ⟨Nat.le_of_ble_eq_true rfl, Nat.le_of_ble_eq_true rfl⟩ (Nat.le_of_ble_eq_true rfl) hl.1 ⟨Nat.zero_le _, Nat.zero_le _⟩ rfl dX12_ahead_29 (fun r29 u29 H locs hw O => ?_)
      refine lv_if_eq (tgt := 39) hx hb dX12_ahead_32 (by decide) (fun c32 => ?_) (fun c32 => ?_)
      · have hw := hw.1 c32
        refine lv_aload_n hx hb dX12_ahead_39 rfl (lv_at hl 0 rfl) ?_
        refine gt_X12_22 X O dX12_ahead_40 ?_
        refine lv_iload_n hx hb dX12_ahead_43 rfl (lv_at hl 2 rfl) ?_
        obtain ⟨i44, hw⟩ := hw
        refine q_ild X O 5 0 (by decide) rfl rfl i44 dX12_ahead_44 ?_
        refine lv_iload_n hx hb dX12_ahead_45 rfl (lv_at hl 1 rfl) ?_
        refine q_cis (rest := []) X O hA (c_X12_has hw) lk_X12_82 rfl rfl rfl ⟨Nat.le_of_ble_eq_true rfl, Nat.le_of_ble_eq_true rfl⟩ (Nat.le_of_ble_eq_true rfl) hl.1 ⟨Nat.zero_le _, Nat.zero_le _⟩ rfl dX12_ahead_46 (fun r46 u46 H locs hw O => ?_)
        refine lv_if_eq (tgt := 56) hx hb dX12_ahead_49 (by decide) (fun c49 => ?_) (fun c49 => ?_)
        · have hw := hw.1 c49
          refine lv_iconst (v := 0) hx hb dX12_ahead_56 (by decide) ?_
          exact q_iret X O hw dX12_ahead_57
        · have hw := hw.2 c49
          refine lv_iconst (v := 1) hx hb dX12_ahead_52 (by decide) ?_
          refine lv_goto (tgt := 57) hx hb dX12_ahead_53 (by decide) ?_
          exact q_iret X O hw dX12_ahead_57
      · have hw := hw.2 c32
        refine lv_iconst (v := 2) hx hb dX12_ahead_35 (by decide) ?_
        refine lv_goto (tgt := 57) hx hb dX12_ahead_36 (by decide) ?_
        exact q_iret X O hw dX12_ahead_57
    · have hw := hw.2 c13
      refine lv_iconst (v := -1) hx hb dX12_ahead_16 (by decide) ?_
      exact q_iret X O hw dX12_ahead_17
-- FellersOrderModel.beginnings()I
abbrev rm_X12_beginnings : Room := { frames := 2, cells := 0, slots := 0, locals := 45 }
def wb_X12_beginnings_8 (Post : Int32 → St → Prop) (K8 : Int32 → Int32 → St → Prop) (x1 : Int32) (x2 : Int32) (u : St) : Prop := wp_X12_all u (fun r10 u10 => ((r10 < x2) → (Post x1 u10)) ∧ ((¬ r10 < x2) → (wp_X12_isBeginning x2 (0 : Int32) u10 (fun r20 u20 => ((r20 = 0) → (K8 (x1 + (0 : Int32)) (x2 + 1) u20)) ∧ ((¬ r20 = 0) → (K8 (x1 + (1 : Int32)) (x2 + 1) u20))))))
set_option maxHeartbeats 4000000 in
set_option maxRecDepth 100000 in
theorem tb_X12_beginnings_8 (X : Cx p s m args meth c cX12_beginnings 3 (some .int) RX12 D (tyM b) A) (hA : ∀ q, s.heap.size ≤ q → A q) {Post : Int32 → St → Prop} {K8 : Int32 → Int32 → St → Prop} (k8 : ∀ (x1 : Int32) (x2 : Int32) (u : St) (H : Heap) (locs : List Loc) (ls : Array Slot), K8 x1 x2 u → wO D 21 (gM b h) h u A s.heap H locs → lv_has ls 3 [(0, .ref (h 0)), (1, .int x1), (2, .int x2)] → W p l e rm_X12_beginnings s m args below meth c H locs 0 0 (MQ below (va_Qi Post (cB D (tyM b) 21 (gM b h) h A) A) args s 0 0 A) (F0 m 8 ls [])) : ∀ (x1 : Int32) (x2 : Int32) (u : St) (H : Heap) (locs : List Loc) (ls : Array Slot), wb_X12_beginnings_8 Post K8 x1 x2 u → wO D 21 (gM b h) h u A s.heap H locs → lv_has ls 3 [(0, .ref (h 0)), (1, .int x1), (2, .int x2)] → W p l e rm_X12_beginnings s m args below meth c H locs 0 0 (MQ below (va_Qi Post (cB D (tyM b) 21 (gM b h) h A) A) args s 0 0 A) (F0 m 8 ls []) := by
  obtain ⟨⟨hx, hb, hml, hown, hts⟩, hK, hNs, hlocks, hr⟩ := id X
  intro x1 x2 u H locs ls hw O hl
  unfold wb_X12_beginnings_8 at hw
  refine lv_iload_n hx hb dX12_beginnings_8 rfl (lv_at hl 2 rfl) ?_
  refine lv_aload_n hx hb dX12_beginnings_9 rfl (lv_at hl 0 rfl) ?_
  refine q_civ (rest := [.int x2]) X O hA 0 (c_X12_all hw) lk_X12_134 (by decide) rfl rfl rfl rfl rfl rfl ⟨Nat.le_of_ble_eq_true rfl, Nat.le_of_ble_eq_true rfl⟩ (Nat.le_of_ble_eq_true rfl) hl.1 ⟨Nat.zero_le _, Nat.zero_le _⟩ rfl dX12_beginnings_10 (fun r10 u10 H locs hw O => ?_)
  refine lv_icmp_gt (tgt := 39) hx hb dX12_beginnings_13 (by decide) (fun c13 => ?_) (fun c13 => ?_)
  · have hw := hw.1 c13
    refine lv_iload_n hx hb dX12_beginnings_39 rfl (lv_at hl 1 rfl) ?_
    exact q_iret X O hw dX12_beginnings_40
  · have hw := hw.2 c13
    refine lv_iload_n hx hb dX12_beginnings_16 rfl (lv_at hl 1 rfl) ?_
    refine lv_aload_n hx hb dX12_beginnings_17 rfl (lv_at hl 0 rfl) ?_
    refine lv_iload_n hx hb dX12_beginnings_18 rfl (lv_at hl 2 rfl) ?_
    refine lv_iconst (v := 0) hx hb dX12_beginnings_19 (by decide) ?_
    refine q_civ (rest := [.int x1]) X O hA 0 (c_X12_isBeginning hw) lk_X12_152 (by decide) rfl rfl rfl rfl rfl rfl ⟨Nat.le_of_ble_eq_true rfl, Nat.le_of_ble_eq_true rfl⟩ (Nat.le_of_ble_eq_true rfl) hl.1 ⟨Nat.zero_le _, Nat.zero_le _⟩ rfl dX12_beginnings_20 (fun r20 u20 H locs hw O => ?_)
    refine lv_if_eq (tgt := 30) hx hb dX12_beginnings_23 (by decide) (fun c23 => ?_) (fun c23 => ?_)
    · have hw := hw.1 c23
      refine lv_iconst (v := 0) hx hb dX12_beginnings_30 (by decide) ?_
      refine lv_iadd hx hb dX12_beginnings_31 ?_
      refine lv_istore_n (lv' := [(1, .int (x1 + (0 : Int32))), (0, .ref (h 0)), (2, .int x2)]) hx hb dX12_beginnings_32 rfl hl (by decide) rfl (fun ls hl => ?_)
      refine lv_iinc (v := x2 + 1) (lv' := [(2, .int (x2 + 1)), (1, .int (x1 + (0 : Int32))), (0, .ref (h 0))]) hx hb dX12_beginnings_33 hl (k := 2) rfl rfl (by decide) rfl (fun ls hl => ?_)
      refine lv_goto (tgt := 8) hx hb dX12_beginnings_36 (by decide) ?_
      exact k8 _ _ _ _ _ _ hw O (lv_sub hl [2, 1, 0] rfl)
    · have hw := hw.2 c23
      refine lv_iconst (v := 1) hx hb dX12_beginnings_26 (by decide) ?_
      refine lv_goto (tgt := 31) hx hb dX12_beginnings_27 (by decide) ?_
      refine lv_iadd hx hb dX12_beginnings_31 ?_
      refine lv_istore_n (lv' := [(1, .int (x1 + (1 : Int32))), (0, .ref (h 0)), (2, .int x2)]) hx hb dX12_beginnings_32 rfl hl (by decide) rfl (fun ls hl => ?_)
      refine lv_iinc (v := x2 + 1) (lv' := [(2, .int (x2 + 1)), (1, .int (x1 + (1 : Int32))), (0, .ref (h 0))]) hx hb dX12_beginnings_33 hl (k := 2) rfl rfl (by decide) rfl (fun ls hl => ?_)
      refine lv_goto (tgt := 8) hx hb dX12_beginnings_36 (by decide) ?_
      exact k8 _ _ _ _ _ _ hw O (lv_sub hl [2, 1, 0] rfl)
def wl_X12_beginnings_8 (Post : Int32 → St → Prop) : Nat → Int32 → Int32 → St → Prop
  | 0 => fun _ _ _ => False
  | n + 1 => fun x1 x2 u => wb_X12_beginnings_8 Post (wl_X12_beginnings_8 Post n) x1 x2 u
set_option maxHeartbeats 4000000 in
set_option maxRecDepth 100000 in
theorem tl_X12_beginnings_8 (X : Cx p s m args meth c cX12_beginnings 3 (some .int) RX12 D (tyM b) A) (hA : ∀ q, s.heap.size ≤ q → A q) {Post : Int32 → St → Prop} : ∀ n : Nat, ∀ (x1 : Int32) (x2 : Int32) (u : St) (H : Heap) (locs : List Loc) (ls : Array Slot), (wl_X12_beginnings_8 Post n) x1 x2 u → wO D 21 (gM b h) h u A s.heap H locs → lv_has ls 3 [(0, .ref (h 0)), (1, .int x1), (2, .int x2)] → W p l e rm_X12_beginnings s m args below meth c H locs 0 0 (MQ below (va_Qi Post (cB D (tyM b) 21 (gM b h) h A) A) args s 0 0 A) (F0 m 8 ls []) := by
  intro n
  induction n with
  | zero => intro x1 x2 u H locs ls hw; exact False.elim hw
  | succ n ih => intro x1 x2 u H locs ls hw O hl; exact tb_X12_beginnings_8 X hA ih x1 x2 u H locs ls hw O hl
def wp_X12_beginnings (u : St) (Post : Int32 → St → Prop) : Prop := wp_X12_close u (fun _ u1 => ∃ n : Nat, wl_X12_beginnings_8 Post n (0 : Int32) (0 : Int32) u1)
set_option maxHeartbeats 4000000 in
set_option maxRecDepth 100000 in
theorem c_X12_beginnings {l : Launch} {D : va_G} {b : Nat → ClassId} {h : Nat → Nat} {u : St} {Post : Int32 → St → Prop} (hw : wp_X12_beginnings u Post) : CtI l yX12_beginnings cX12_beginnings 3 (some .int) rm_X12_beginnings D (tyM b) 21 (gM b h) h [.ref (h 0)] u Post := by
  refine CtI.of (plainFor_of_name (by decide)) (Nat.le_of_ble_eq_true rfl) ?_
  intro p e s m below meth c A ls X hA O hl
  have X : Cx p s m _ meth c cX12_beginnings 3 (some .int) RX12 D (tyM b) A := X
  obtain ⟨⟨hx, hb, hml, hown, hts⟩, hK, hNs, hlocks, hr⟩ := id X
  have hl : lv_has ls 3 [(0, .ref (h 0))] := hl
  unfold wp_X12_beginnings at hw
  refine lv_aload_n hx hb dX12_beginnings_0 rfl (lv_at hl 0 rfl) ?_
  refine q_cvv (rest := []) X O hA 0 (c_X12_close hw) lk_X12_110 (by decide) rfl rfl rfl rfl rfl rfl ⟨Nat.le_of_ble_eq_true rfl, Nat.le_of_ble_eq_true rfl⟩ (Nat.le_of_ble_eq_true rfl) hl.1 ⟨Nat.zero_le _, Nat.zero_le _⟩ rfl dX12_beginnings_1 (fun u1 H locs hw O => ?_)
  refine lv_iconst (v := 0) hx hb dX12_beginnings_4 (by decide) ?_
  refine lv_istore_n (lv' := [(1, .int (0 : Int32)), (0, .ref (h 0))]) hx hb dX12_beginnings_5 rfl hl (by decide) rfl (fun ls hl => ?_)
  refine lv_iconst (v := 0) hx hb dX12_beginnings_6 (by decide) ?_
  refine lv_istore_n (lv' := [(2, .int (0 : Int32)), (1, .int (0 : Int32)), (0, .ref (h 0))]) hx hb dX12_beginnings_7 rfl hl (by decide) rfl (fun ls hl => ?_)
  obtain ⟨n, hw⟩ := hw
  exact tl_X12_beginnings_8 X hA n _ _ _ _ _ _ hw O (lv_sub hl [2, 1, 0] rfl)
-- FellersOrderModel.pairs()I
abbrev rm_X12_pairs : Room := { frames := 1, cells := 0, slots := 0, locals := 22 }
def wb_X12_pairs_4 (Post : Int32 → St → Prop) (K4 : Int32 → Int32 → St → Prop) (x1 : Int32) (x2 : Int32) (u : St) : Prop := (((u 0 0) ≤ x2) → (Post x1 u)) ∧ ((¬ (u 0 0) ≤ x2) → (vp_in x2 12 ∧ (wp_X12_bits (u 4 (Int32.toNatClampNeg x2)) u (fun r19 u19 => K4 (x1 + r19) (x2 + 1) u19))))
set_option maxHeartbeats 4000000 in
set_option maxRecDepth 100000 in
theorem tb_X12_pairs_4 (X : Cx p s m args meth c cX12_pairs 3 (some .int) RX12 D (tyM b) A) (hA : ∀ q, s.heap.size ≤ q → A q) {Post : Int32 → St → Prop} {K4 : Int32 → Int32 → St → Prop} (k4 : ∀ (x1 : Int32) (x2 : Int32) (u : St) (H : Heap) (locs : List Loc) (ls : Array Slot), K4 x1 x2 u → wO D 21 (gM b h) h u A s.heap H locs → lv_has ls 3 [(0, .ref (h 0)), (1, .int x1), (2, .int x2)] → W p l e rm_X12_pairs s m args below meth c H locs 0 0 (MQ below (va_Qi Post (cB D (tyM b) 21 (gM b h) h A) A) args s 0 0 A) (F0 m 4 ls [])) : ∀ (x1 : Int32) (x2 : Int32) (u : St) (H : Heap) (locs : List Loc) (ls : Array Slot), wb_X12_pairs_4 Post K4 x1 x2 u → wO D 21 (gM b h) h u A s.heap H locs → lv_has ls 3 [(0, .ref (h 0)), (1, .int x1), (2, .int x2)] → W p l e rm_X12_pairs s m args below meth c H locs 0 0 (MQ below (va_Qi Post (cB D (tyM b) 21 (gM b h) h A) A) args s 0 0 A) (F0 m 4 ls []) := by
  obtain ⟨⟨hx, hb, hml, hown, hts⟩, hK, hNs, hlocks, hr⟩ := id X
  intro x1 x2 u H locs ls hw O hl
  unfold wb_X12_pairs_4 at hw
  refine lv_iload_n hx hb dX12_pairs_4 rfl (lv_at hl 2 rfl) ?_
  refine lv_aload_n hx hb dX12_pairs_5 rfl (lv_at hl 0 rfl) ?_
  refine gt_X12_75 X O dX12_pairs_6 ?_
  refine lv_icmp_ge (tgt := 30) hx hb dX12_pairs_9 (by decide) (fun c9 => ?_) (fun c9 => ?_)
  · have hw := hw.1 c9
    refine lv_iload_n hx hb dX12_pairs_30 rfl (lv_at hl 1 rfl) ?_
    exact q_iret X O hw dX12_pairs_31
  · have hw := hw.2 c9
    refine lv_iload_n hx hb dX12_pairs_12 rfl (lv_at hl 1 rfl) ?_
    refine lv_aload_n hx hb dX12_pairs_13 rfl (lv_at hl 0 rfl) ?_
    refine gt_X12_19 X O dX12_pairs_14 ?_
    refine lv_iload_n hx hb dX12_pairs_17 rfl (lv_at hl 2 rfl) ?_
    obtain ⟨i18, hw⟩ := hw
    refine q_ild X O 4 0 (by decide) rfl rfl i18 dX12_pairs_18 ?_
    refine q_cis (rest := [.int x1]) X O hA (c_X12_bits hw) lk_X12_173 rfl rfl rfl ⟨Nat.le_of_ble_eq_true rfl, Nat.le_of_ble_eq_true rfl⟩ (Nat.le_of_ble_eq_true rfl) hl.1 ⟨Nat.zero_le _, Nat.zero_le _⟩ rfl dX12_pairs_19 (fun r19 u19 H locs hw O => ?_)
    refine lv_iadd hx hb dX12_pairs_22 ?_
    refine lv_istore_n (lv' := [(1, .int (x1 + r19)), (0, .ref (h 0)), (2, .int x2)]) hx hb dX12_pairs_23 rfl hl (by decide) rfl (fun ls hl => ?_)
    refine lv_iinc (v := x2 + 1) (lv' := [(2, .int (x2 + 1)), (1, .int (x1 + r19)), (0, .ref (h 0))]) hx hb dX12_pairs_24 hl (k := 2) rfl rfl (by decide) rfl (fun ls hl => ?_)
    refine lv_goto (tgt := 4) hx hb dX12_pairs_27 (by decide) ?_
    exact k4 _ _ _ _ _ _ hw O (lv_sub hl [2, 1, 0] rfl)
def wl_X12_pairs_4 (Post : Int32 → St → Prop) : Nat → Int32 → Int32 → St → Prop
  | 0 => fun _ _ _ => False
  | n + 1 => fun x1 x2 u => wb_X12_pairs_4 Post (wl_X12_pairs_4 Post n) x1 x2 u
set_option maxHeartbeats 4000000 in
set_option maxRecDepth 100000 in
theorem tl_X12_pairs_4 (X : Cx p s m args meth c cX12_pairs 3 (some .int) RX12 D (tyM b) A) (hA : ∀ q, s.heap.size ≤ q → A q) {Post : Int32 → St → Prop} : ∀ n : Nat, ∀ (x1 : Int32) (x2 : Int32) (u : St) (H : Heap) (locs : List Loc) (ls : Array Slot), (wl_X12_pairs_4 Post n) x1 x2 u → wO D 21 (gM b h) h u A s.heap H locs → lv_has ls 3 [(0, .ref (h 0)), (1, .int x1), (2, .int x2)] → W p l e rm_X12_pairs s m args below meth c H locs 0 0 (MQ below (va_Qi Post (cB D (tyM b) 21 (gM b h) h A) A) args s 0 0 A) (F0 m 4 ls []) := by
  intro n
  induction n with
  | zero => intro x1 x2 u H locs ls hw; exact False.elim hw
  | succ n ih => intro x1 x2 u H locs ls hw O hl; exact tb_X12_pairs_4 X hA ih x1 x2 u H locs ls hw O hl
def wp_X12_pairs (u : St) (Post : Int32 → St → Prop) : Prop := ∃ n : Nat, wl_X12_pairs_4 Post n (0 : Int32) (0 : Int32) u
set_option maxHeartbeats 4000000 in
set_option maxRecDepth 100000 in
theorem c_X12_pairs {l : Launch} {D : va_G} {b : Nat → ClassId} {h : Nat → Nat} {u : St} {Post : Int32 → St → Prop} (hw : wp_X12_pairs u Post) : CtI l yX12_pairs cX12_pairs 3 (some .int) rm_X12_pairs D (tyM b) 21 (gM b h) h [.ref (h 0)] u Post := by
  refine CtI.of (plainFor_of_name (by decide)) (Nat.le_of_ble_eq_true rfl) ?_
  intro p e s m below meth c A ls X hA O hl
  have X : Cx p s m _ meth c cX12_pairs 3 (some .int) RX12 D (tyM b) A := X
  obtain ⟨⟨hx, hb, hml, hown, hts⟩, hK, hNs, hlocks, hr⟩ := id X
  have hl : lv_has ls 3 [(0, .ref (h 0))] := hl
  unfold wp_X12_pairs at hw
  refine lv_iconst (v := 0) hx hb dX12_pairs_0 (by decide) ?_
  refine lv_istore_n (lv' := [(1, .int (0 : Int32)), (0, .ref (h 0))]) hx hb dX12_pairs_1 rfl hl (by decide) rfl (fun ls hl => ?_)
  refine lv_iconst (v := 0) hx hb dX12_pairs_2 (by decide) ?_
  refine lv_istore_n (lv' := [(2, .int (0 : Int32)), (1, .int (0 : Int32)), (0, .ref (h 0))]) hx hb dX12_pairs_3 rfl hl (by decide) rfl (fun ls hl => ?_)
  obtain ⟨n, hw⟩ := hw
  exact tl_X12_pairs_4 X hA n _ _ _ _ _ _ hw O (lv_sub hl [2, 1, 0] rfl)
end PT
