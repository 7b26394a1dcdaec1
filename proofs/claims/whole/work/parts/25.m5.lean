/-! the reference, methods: sum unitTaken forge undo status -/
theorem lk_X12_227 : LkV RX12 227 yX12_sum cX12_sum 5 (some .int) 2 := ⟨wd_41_23, wd_42_0, wd_42_1, wd_1_5, wd_42_2, by decide +kernel⟩
theorem lk_X12_230 : LkV RX12 230 yX12_unitTaken cX12_unitTaken 4 (some .int) 1 := ⟨wd_42_3, wd_42_4, wd_42_5, wd_1_5, wd_42_6, by decide +kernel⟩
section PT
variable {p : Program} {l : Launch} {e : Env} {s : State} {m : MethodId} {args : Array Value} {below : List Frame} {meth : Method} {c : Code} {A : Nat → Prop} {D : va_G} {b : Nat → ClassId} {h : Nat → Nat}
-- FellersOrderModel.sum(II)I
abbrev rm_X12_sum : Room := { frames := 0, cells := 0, slots := 0, locals := 0 }
def wb_X12_sum_5 (Post : Int32 → St → Prop) (K5 : Int32 → Int32 → Int32 → Int32 → St → Prop) (x1 : Int32) (x2 : Int32) (x3 : Int32) (x4 : Int32) (u : St) : Prop := ((x2 < x4) → (Post x3 u)) ∧ ((¬ x2 < x4) → (vp_in (((20 : Int32) * x1) + x4) 120 ∧ (K5 x1 x2 (x3 + (Int64.toInt32 (Int32.toInt64 (u 11 (Int32.toNatClampNeg (((20 : Int32) * x1) + x4)))))) (x4 + 1) u)))
set_option maxHeartbeats 4000000 in
set_option maxRecDepth 100000 in
theorem tb_X12_sum_5 (X : Cx p s m args meth c cX12_sum 5 (some .int) RX12 D (tyM b) A) (hA : ∀ q, s.heap.size ≤ q → A q) {Post : Int32 → St → Prop} {K5 : Int32 → Int32 → Int32 → Int32 → St → Prop} (k5 : ∀ (x1 : Int32) (x2 : Int32) (x3 : Int32) (x4 : Int32) (u : St) (H : Heap) (locs : List Loc) (ls : Array Slot), K5 x1 x2 x3 x4 u → wO D 21 (gM b h) h u A s.heap H locs → lv_has ls 5 [(0, .ref (h 0)), (1, .int x1), (2, .int x2), (3, .int x3), (4, .int x4)] → W p l e rm_X12_sum s m args below meth c H locs 0 0 (MQ below (va_Qi Post (cB D (tyM b) 21 (gM b h) h A) A) args s 0 0 A) (F0 m 5 ls [])) : ∀ (x1 : Int32) (x2 : Int32) (x3 : Int32) (x4 : Int32) (u : St) (H : Heap) (locs : List Loc) (ls : Array Slot), wb_X12_sum_5 Post K5 x1 x2 x3 x4 u → wO D 21 (gM b h) h u A s.heap H locs → lv_has ls 5 [(0, .ref (h 0)), (1, .int x1), (2, .int x2), (3, .int x3), (4, .int x4)] → W p l e rm_X12_sum s m args below meth c H locs 0 0 (MQ below (va_Qi Post (cB D (tyM b) 21 (gM b h) h A) A) args s 0 0 A) (F0 m 5 ls []) := by
  obtain ⟨⟨hx, hb, hml, hown, hts⟩, hK, hNs, hlocks, hr⟩ := id X
  intro x1 x2 x3 x4 u H locs ls hw O hl
  unfold wb_X12_sum_5 at hw
  refine lv_iload hx hb dX12_sum_5 (lv_at hl 4 rfl) ?_
  refine lv_iload_n hx hb dX12_sum_7 rfl (lv_at hl 2 rfl) ?_
  refine lv_icmp_gt (tgt := 33) hx hb dX12_sum_8 (by decide) (fun c8 => ?_) (fun c8 => ?_)
  · have hw := hw.1 c8
    refine lv_iload_n hx hb dX12_sum_33 rfl (lv_at hl 3 rfl) ?_
    exact q_iret X O hw dX12_sum_34
  · have hw := hw.2 c8
    refine lv_iload_n hx hb dX12_sum_11 rfl (lv_at hl 3 rfl) ?_
    refine lv_aload_n hx hb dX12_sum_12 rfl (lv_at hl 0 rfl) ?_
    refine gt_X12_40 X O dX12_sum_13 ?_
    refine lv_bipush (v := 20) hx hb dX12_sum_16 (by decide) ?_
    refine lv_iload_n hx hb dX12_sum_18 rfl (lv_at hl 1 rfl) ?_
    refine lv_imul hx hb dX12_sum_19 ?_
    refine lv_iload hx hb dX12_sum_20 (lv_at hl 4 rfl) ?_
    refine lv_iadd hx hb dX12_sum_22 ?_
    obtain ⟨i23, hw⟩ := hw
    refine q_lld X O 11 1 (by decide) rfl rfl i23 dX12_sum_23 ?_
    refine lv_l2i hx hb dX12_sum_24 rfl ?_
    refine lv_iadd hx hb dX12_sum_25 ?_
    refine lv_istore_n (lv' := [(3, .int (x3 + (Int64.toInt32 (Int32.toInt64 (u 11 (Int32.toNatClampNeg (((20 : Int32) * x1) + x4))))))), (0, .ref (h 0)), (1, .int x1), (2, .int x2), (4, .int x4)]) hx hb dX12_sum_26 rfl hl (by decide) rfl (fun ls hl => ?_)
    refine lv_iinc (v := x4 + 1) (lv' := [(4, .int (x4 + 1)), (3, .int (x3 + (Int64.toInt32 (Int32.toInt64 (u 11 (Int32.toNatClampNeg (((20 : Int32) * x1) + x4))))))), (0, .ref (h 0)), (1, .int x1), (2, .int x2)]) hx hb dX12_sum_27 hl (k := 4) rfl rfl (by decide) rfl (fun ls hl => ?_)
    refine lv_goto (tgt := 5) hx hb dX12_sum_30 (by decide) ?_
    exact k5 _ _ _ _ _ _ _ _ hw O (lv_sub hl [2, 3, 4, 1, 0] rfl)
def wl_X12_sum_5 (Post : Int32 → St → Prop) : Nat → Int32 → Int32 → Int32 → Int32 → St → Prop
  | 0 => fun _ _ _ _ _ => False
  | n + 1 => fun x1 x2 x3 x4 u => wb_X12_sum_5 Post (wl_X12_sum_5 Post n) x1 x2 x3 x4 u
set_option maxHeartbeats 4000000 in
set_option maxRecDepth 100000 in
theorem tl_X12_sum_5 (X : Cx p s m args meth c cX12_sum 5 (some .int) RX12 D (tyM b) A) (hA : ∀ q, s.heap.size ≤ q → A q) {Post : Int32 → St → Prop} : ∀ n : Nat, ∀ (x1 : Int32) (x2 : Int32) (x3 : Int32) (x4 : Int32) (u : St) (H : Heap) (locs : List Loc) (ls : Array Slot), (wl_X12_sum_5 Post n) x1 x2 x3 x4 u → wO D 21 (gM b h) h u A s.heap H locs → lv_has ls 5 [(0, .ref (h 0)), (1, .int x1), (2, .int x2), (3, .int x3), (4, .int x4)] → W p l e rm_X12_sum s m args below meth c H locs 0 0 (MQ below (va_Qi Post (cB D (tyM b) 21 (gM b h) h A) A) args s 0 0 A) (F0 m 5 ls []) := by
  intro n
  induction n with
  | zero => intro x1 x2 x3 x4 u H locs ls hw; exact False.elim hw
  | succ n ih => intro x1 x2 x3 x4 u H locs ls hw O hl; exact tb_X12_sum_5 X hA ih x1 x2 x3 x4 u H locs ls hw O hl
def wp_X12_sum (a1 : Int32) (a2 : Int32) (u : St) (Post : Int32 → St → Prop) : Prop := ∃ n : Nat, wl_X12_sum_5 Post n a1 a2 (0 : Int32) (1 : Int32) u
set_option maxHeartbeats 4000000 in
set_option maxRecDepth 100000 in
theorem c_X12_sum {a1 : Int32} {a2 : Int32} {l : Launch} {D : va_G} {b : Nat → ClassId} {h : Nat → Nat} {u : St} {Post : Int32 → St → Prop} (hw : wp_X12_sum a1 a2 u Post) : CtI l yX12_sum cX12_sum 5 (some .int) rm_X12_sum D (tyM b) 21 (gM b h) h [.ref (h 0), .int a1, .int a2] u Post := by
  refine CtI.of (plainFor_of_name (by decide)) (Nat.le_of_ble_eq_true rfl) ?_
  intro p e s m below meth c A ls X hA O hl
  have X : Cx p s m _ meth c cX12_sum 5 (some .int) RX12 D (tyM b) A := X
  obtain ⟨⟨hx, hb, hml, hown, hts⟩, hK, hNs, hlocks, hr⟩ := id X
  have hl : lv_has ls 5 [(0, .ref (h 0)), (1, .int a1), (2, .int a2)] := hl
  unfold wp_X12_sum at hw
  refine lv_iconst (v := 0) hx hb dX12_sum_0 (by decide) ?_
  refine lv_istore_n (lv' := [(3, .int (0 : Int32)), (0, .ref (h 0)), (1, .int a1), (2, .int a2)]) hx hb dX12_sum_1 rfl hl (by decide) rfl (fun ls hl => ?_)
  refine lv_iconst (v := 1) hx hb dX12_sum_2 (by decide) ?_
  refine lv_istore (lv' := [(4, .int (1 : Int32)), (3, .int (0 : Int32)), (0, .ref (h 0)), (1, .int a1), (2, .int a2)]) hx hb dX12_sum_3 hl (by decide) rfl (fun ls hl => ?_)
  obtain ⟨n, hw⟩ := hw
  exact tl_X12_sum_5 X hA n _ _ _ _ _ _ _ _ hw O (lv_sub hl [2, 3, 4, 1, 0] rfl)
-- FellersOrderModel.unitTaken(I)I
abbrev rm_X12_unitTaken : Room := { frames := 3, cells := 0, slots := 0, locals := 64 }
def wp_X12_unitTaken (a1 : Int32) (u : St) (Post : Int32 → St → Prop) : Prop := wp_X12_isJob (((a1 - a1 / (12 : Int32) * (12 : Int32)) + (12 : Int32)) - ((a1 - a1 / (12 : Int32) * (12 : Int32)) + (12 : Int32)) / (12 : Int32) * (12 : Int32)) u (fun r13 u13 => ((¬ r13 = 0) → (wp_X12_kindOf (((a1 - a1 / (12 : Int32) * (12 : Int32)) + (12 : Int32)) - ((a1 - a1 / (12 : Int32) * (12 : Int32)) + (12 : Int32)) / (12 : Int32) * (12 : Int32)) u13 (fun r28 u28 => ((r28 = (1 : Int32)) → (vp_in (((a1 - a1 / (12 : Int32) * (12 : Int32)) + (12 : Int32)) - ((a1 - a1 / (12 : Int32) * (12 : Int32)) + (12 : Int32)) / (12 : Int32) * (12 : Int32)) 12 ∧ (wp_X12_done (u28 1 (Int32.toNatClampNeg (((a1 - a1 / (12 : Int32) * (12 : Int32)) + (12 : Int32)) - ((a1 - a1 / (12 : Int32) * (12 : Int32)) + (12 : Int32)) / (12 : Int32) * (12 : Int32)))) u28 (fun r49 u49 => Post r49 u49)))) ∧ ((¬ r28 = (1 : Int32)) → (((¬ r28 = (3 : Int32)) → (wp_X12_refused (11 : Int32) u28 (fun r58 u58 => Post r58 u58))) ∧ ((r28 = (3 : Int32)) → (vp_in (((a1 - a1 / (12 : Int32) * (12 : Int32)) + (12 : Int32)) - ((a1 - a1 / (12 : Int32) * (12 : Int32)) + (12 : Int32)) / (12 : Int32) * (12 : Int32)) 12 ∧ (wp_X12_done (u28 1 (Int32.toNatClampNeg (((a1 - a1 / (12 : Int32) * (12 : Int32)) + (12 : Int32)) - ((a1 - a1 / (12 : Int32) * (12 : Int32)) + (12 : Int32)) / (12 : Int32) * (12 : Int32)))) u28 (fun r49 u49 => Post r49 u49))))))))) ∧ ((r13 = 0) → (wp_X12_refused (10 : Int32) u13 (fun r22 u22 => Post r22 u22))))
set_option maxHeartbeats 4000000 in
set_option maxRecDepth 100000 in
theorem c_X12_unitTaken {a1 : Int32} {l : Launch} {D : va_G} {b : Nat → ClassId} {h : Nat → Nat} {u : St} {Post : Int32 → St → Prop} (hw : wp_X12_unitTaken a1 u Post) : CtI l yX12_unitTaken cX12_unitTaken 4 (some .int) rm_X12_unitTaken D (tyM b) 21 (gM b h) h [.ref (h 0), .int a1] u Post := by
  refine CtI.of (plainFor_of_name (by decide)) (Nat.le_of_ble_eq_true rfl) ?_
  intro p e s m below meth c A ls X hA O hl
  have X : Cx p s m _ meth c cX12_unitTaken 4 (some .int) RX12 D (tyM b) A := X
  obtain ⟨⟨hx, hb, hml, hown, hts⟩, hK, hNs, hlocks, hr⟩ := id X
  have hl : lv_has ls 4 [(0, .ref (h 0)), (1, .int a1)] := hl
  unfold wp_X12_unitTaken at hw
  refine lv_iload_n hx hb dX12_unitTaken_0 rfl (lv_at hl 1 rfl) ?_
  refine lv_bipush (v := 12) hx hb dX12_unitTaken_1 (by decide) ?_
  refine lv_irem hx hb dX12_unitTaken_3 (by decide) ?_
  refine lv_bipush (v := 12) hx hb dX12_unitTaken_4 (by decide) ?_
  refine lv_iadd hx hb dX12_unitTaken_6 ?_
  refine lv_bipush (v := 12) hx hb dX12_unitTaken_7 (by decide) ?_
  refine lv_irem hx hb dX12_unitTaken_9 (by decide) ?_
  refine lv_istore_n (lv' := [(2, .int (((a1 - a1 / (12 : Int32) * (12 : Int32)) + (12 : Int32)) - ((a1 - a1 / (12 : Int32) * (12 : Int32)) + (12 : Int32)) / (12 : Int32) * (12 : Int32))), (0, .ref (h 0)), (1, .int a1)]) hx hb dX12_unitTaken_10 rfl hl (by decide) rfl (fun ls hl => ?_)
  refine lv_aload_n hx hb dX12_unitTaken_11 rfl (lv_at hl 1 rfl) ?_
  refine lv_iload_n hx hb dX12_unitTaken_12 rfl (lv_at hl 0 rfl) ?_
  refine q_civ (rest := []) X O hA 0 (c_X12_isJob hw) lk_X12_106 (by decide) rfl rfl rfl rfl rfl rfl ⟨Nat.le_of_ble_eq_true rfl, Nat.le_of_ble_eq_true rfl⟩ (Nat.le_of_ble_eq_true rfl) hl.1 ⟨Nat.zero_le _, Nat.zero_le _⟩ rfl dX12_unitTaken_13 (fun r13 u13 H locs hw O => ?_)
  refine lv_if_ne (tgt := 26) hx hb dX12_unitTaken_16 (by decide) (fun c16 => ?_) (fun c16 => ?_)
  · have hw := hw.1 c16
    refine lv_aload_n hx hb dX12_unitTaken_26 rfl (lv_at hl 1 rfl) ?_
    refine lv_iload_n hx hb dX12_unitTaken_27 rfl (lv_at hl 0 rfl) ?_
    refine q_civ (rest := []) X O hA 0 (c_X12_kindOf hw) lk_X12_170 (by decide) rfl rfl rfl rfl rfl rfl ⟨Nat.le_of_ble_eq_true rfl, Nat.le_of_ble_eq_true rfl⟩ (Nat.le_of_ble_eq_true rfl) hl.1 ⟨Nat.zero_le _, Nat.zero_le _⟩ rfl dX12_unitTaken_28 (fun r28 u28 H locs hw O => ?_)
    refine lv_istore_n (lv' := [(3, .int r28), (2, .int (((a1 - a1 / (12 : Int32) * (12 : Int32)) + (12 : Int32)) - ((a1 - a1 / (12 : Int32) * (12 : Int32)) + (12 : Int32)) / (12 : Int32) * (12 : Int32))), (0, .ref (h 0)), (1, .int a1)]) hx hb dX12_unitTaken_31 rfl hl (by decide) rfl (fun ls hl => ?_)
    refine lv_iload_n hx hb dX12_unitTaken_32 rfl (lv_at hl 0 rfl) ?_
    refine lv_iconst (v := 1) hx hb dX12_unitTaken_33 (by decide) ?_
    refine lv_icmp_eq (tgt := 42) hx hb dX12_unitTaken_34 (by decide) (fun c34 => ?_) (fun c34 => ?_)
    · have hw := hw.1 c34
      refine lv_aload_n hx hb dX12_unitTaken_42 rfl (lv_at hl 2 rfl) ?_
      refine lv_aload_n hx hb dX12_unitTaken_43 rfl (lv_at hl 2 rfl) ?_
      refine gt_X12_7 X O dX12_unitTaken_44 ?_
      refine lv_iload_n hx hb dX12_unitTaken_47 rfl (lv_at hl 1 rfl) ?_
      obtain ⟨i48, hw⟩ := hw
      refine q_ild X O 1 0 (by decide) rfl rfl i48 dX12_unitTaken_48 ?_
      refine q_civ (rest := []) X O hA 0 (c_X12_done hw) lk_X12_96 (by decide) rfl rfl rfl rfl rfl rfl ⟨Nat.le_of_ble_eq_true rfl, Nat.le_of_ble_eq_true rfl⟩ (Nat.le_of_ble_eq_true rfl) hl.1 ⟨Nat.zero_le _, Nat.zero_le _⟩ rfl dX12_unitTaken_49 (fun r49 u49 H locs hw O => ?_)
      refine lv_goto (tgt := 61) hx hb dX12_unitTaken_52 (by decide) ?_
      exact q_iret X O hw dX12_unitTaken_61
    · have hw := hw.2 c34
      refine lv_iload_n hx hb dX12_unitTaken_37 rfl (lv_at hl 0 rfl) ?_
      refine lv_iconst (v := 3) hx hb dX12_unitTaken_38 (by decide) ?_
      refine lv_icmp_ne (tgt := 55) hx hb dX12_unitTaken_39 (by decide) (fun c39 => ?_) (fun c39 => ?_)
      · have hw := hw.1 c39
        refine lv_aload_n hx hb dX12_unitTaken_55 rfl (lv_at hl 2 rfl) ?_
        refine lv_bipush (v := 11) hx hb dX12_unitTaken_56 (by decide) ?_
        refine q_civ (rest := []) X O hA 0 (c_X12_refused hw) lk_X12_89 (by decide) rfl rfl rfl rfl rfl rfl ⟨Nat.le_of_ble_eq_true rfl, Nat.le_of_ble_eq_true rfl⟩ (Nat.le_of_ble_eq_true rfl) hl.1 ⟨Nat.zero_le _, Nat.zero_le _⟩ rfl dX12_unitTaken_58 (fun r58 u58 H locs hw O => ?_)
        exact q_iret X O hw dX12_unitTaken_61
      · have hw := hw.2 c39
        refine lv_aload_n hx hb dX12_unitTaken_42 rfl (lv_at hl 2 rfl) ?_
        refine lv_aload_n hx hb dX12_unitTaken_43 rfl (lv_at hl 2 rfl) ?_
        refine gt_X12_7 X O dX12_unitTaken_44 ?_
        refine lv_iload_n hx hb dX12_unitTaken_47 rfl (lv_at hl 1 rfl) ?_
        obtain ⟨i48, hw⟩ := hw
        refine q_ild X O 1 0 (by decide) rfl rfl i48 dX12_unitTaken_48 ?_
        refine q_civ (rest := []) X O hA 0 (c_X12_done hw) lk_X12_96 (by decide) rfl rfl rfl rfl rfl rfl ⟨Nat.le_of_ble_eq_true rfl, Nat.le_of_ble_eq_true rfl⟩ (Nat.le_of_ble_eq_true rfl) hl.1 ⟨Nat.zero_le _, Nat.zero_le _⟩ rfl dX12_unitTaken_49 (fun r49 u49 H locs hw O => ?_)
        refine lv_goto (tgt := 61) hx hb dX12_unitTaken_52 (by decide) ?_
        exact q_iret X O hw dX12_unitTaken_61
  · have hw := hw.2 c16
    refine lv_aload_n hx hb dX12_unitTaken_19 rfl (lv_at hl 1 rfl) ?_
    refine lv_bipush (v := 10) hx hb dX12_unitTaken_20 (by decide) ?_
    refine q_civ (rest := []) X O hA 0 (c_X12_refused hw) lk_X12_89 (by decide) rfl rfl rfl rfl rfl rfl ⟨Nat.le_of_ble_eq_true rfl, Nat.le_of_ble_eq_true rfl⟩ (Nat.le_of_ble_eq_true rfl) hl.1 ⟨Nat.zero_le _, Nat.zero_le _⟩ rfl dX12_unitTaken_22 (fun r22 u22 H locs hw O => ?_)
    exact q_iret X O hw dX12_unitTaken_25
-- FellersOrderModel.forge(III)I
abbrev rm_X12_forge : Room := { frames := 4, cells := 0, slots := 0, locals := 87 }
def wp_X12_forge (a1 : Int32) (a2 : Int32) (a3 : Int32) (u : St) (Post : Int32 → St → Prop) : Prop := wp_X12_in a1 (0 : Int32) (5 : Int32) u (fun r3 u3 => ((r3 = 0) → (wp_X12_refused (1 : Int32) u3 (fun r32 u32 => Post r32 u32))) ∧ ((¬ r3 = 0) → (wp_X12_in a2 (0 : Int32) (6 : Int32) u3 (fun r13 u13 => ((r13 = 0) → (wp_X12_refused (1 : Int32) u13 (fun r32 u32 => Post r32 u32))) ∧ ((¬ r13 = 0) → (wp_X12_in a3 (-100 : Int32) (100 : Int32) u13 (fun r24 u24 => ((¬ r24 = 0) → (vp_in a1 6 ∧ ((a2 = 0 → (((¬ (u24 9 (Int32.toNatClampNeg a1)) = (-1 : Int32)) → ((((u24 9 (Int32.toNatClampNeg a1)) = (((a3 - a3 / (3 : Int32) * (3 : Int32)) + (3 : Int32)) - ((a3 - a3 / (3 : Int32) * (3 : Int32)) + (3 : Int32)) / (3 : Int32) * (3 : Int32))) → (vp_in a1 6 ∧ (wp_X12_done (u24 10 (Int32.toNatClampNeg a1)) u24 (fun r127 u127 => Post r127 u127)))) ∧ ((¬ (u24 9 (Int32.toNatClampNeg a1)) = (((a3 - a3 / (3 : Int32) * (3 : Int32)) + (3 : Int32)) - ((a3 - a3 / (3 : Int32) * (3 : Int32)) + (3 : Int32)) / (3 : Int32) * (3 : Int32))) → (wp_X12_refused (11 : Int32) u24 (fun r114 u114 => Post r114 u114))))) ∧ (((u24 9 (Int32.toNatClampNeg a1)) = (-1 : Int32)) → (wp_X12_refused (10 : Int32) u24 (fun r93 u93 => Post r93 u93))))) ∧ (a2 = 1 → (((0 ≤ a3) → (wp_X12_done a3 u24 (fun r146 u146 => Post r146 u146))) ∧ ((¬ 0 ≤ a3) → (wp_X12_refused (13 : Int32) u24 (fun r138 u138 => Post r138 u138))))) ∧ (a2 = 2 → (((¬ (u24 9 (Int32.toNatClampNeg a1)) = (-1 : Int32)) → ((((u24 9 (Int32.toNatClampNeg a1)) = (1 : Int32)) → (wp_X12_in a3 (0 : Int32) (3 : Int32) u24 (fun r183 u183 => ((r183 = 0) → (wp_X12_refused (12 : Int32) u183 (fun r217 u217 => Post r217 u217))) ∧ ((¬ r183 = 0) → (vp_in a1 6 ∧ ((((u183 10 (Int32.toNatClampNeg a1)) < ((1 : Int32) + a3)) → (wp_X12_refused (12 : Int32) u183 (fun r217 u217 => Post r217 u217))) ∧ ((¬ (u183 10 (Int32.toNatClampNeg a1)) < ((1 : Int32) + a3)) → (wp_X12_sum a1 a3 u183 (fun r205 u205 => wp_X12_done r205 u205 (fun r208 u208 => Post r208 u208)))))))))) ∧ ((¬ (u24 9 (Int32.toNatClampNeg a1)) = (1 : Int32)) → (wp_X12_refused (11 : Int32) u24 (fun r174 u174 => Post r174 u174))))) ∧ (((u24 9 (Int32.toNatClampNeg a1)) = (-1 : Int32)) → (wp_X12_refused (10 : Int32) u24 (fun r159 u159 => Post r159 u159))))) ∧ (a2 = 3 → (((¬ (u24 9 (Int32.toNatClampNeg a1)) = (-1 : Int32)) → ((((u24 9 (Int32.toNatClampNeg a1)) = 0) → (vp_in a1 6 ∧ (wp_X12_done (u24 10 (Int32.toNatClampNeg a1)) u24 (fun r256 u256 => Post r256 u256)))) ∧ ((¬ (u24 9 (Int32.toNatClampNeg a1)) = 0) → (wp_X12_refused (14 : Int32) u24 (fun r243 u243 => Post r243 u243))))) ∧ (((u24 9 (Int32.toNatClampNeg a1)) = (-1 : Int32)) → (wp_X12_done (0 : Int32) u24 (fun r229 u229 => Post r229 u229))))) ∧ (a2 = 4 → (((¬ a3 = 0) → ((¬ a3 = 0) ∧ (wp_X12_done ((1000 : Int32) / a3) u24 (fun r279 u279 => Post r279 u279)))) ∧ ((a3 = 0) → (wp_X12_refused (15 : Int32) u24 (fun r267 u267 => Post r267 u267))))) ∧ (a2 = 5 → (((¬ (a3 &&& (1 : Int32)) = 0) → (wp_X12_done (1 : Int32) u24 (fun r300 u300 => Post r300 u300))) ∧ (((a3 &&& (1 : Int32)) = 0) → (wp_X12_refused (10 : Int32) u24 (fun r292 u292 => Post r292 u292))))) ∧ (¬ a2 = 0 → ¬ a2 = 1 → ¬ a2 = 2 → ¬ a2 = 3 → ¬ a2 = 4 → ¬ a2 = 5 → (wp_X12_unitTaken a3 u24 (fun r306 u306 => Post r306 u306)))))) ∧ ((r24 = 0) → (wp_X12_refused (1 : Int32) u24 (fun r32 u32 => Post r32 u32))))))))))
set_option maxHeartbeats 4000000 in
set_option maxRecDepth 100000 in
theorem c_X12_forge {a1 : Int32} {a2 : Int32} {a3 : Int32} {l : Launch} {D : va_G} {b : Nat → ClassId} {h : Nat → Nat} {u : St} {Post : Int32 → St → Prop} (hw : wp_X12_forge a1 a2 a3 u Post) : CtI l yX12_forge cX12_forge 5 (some .int) rm_X12_forge D (tyM b) 21 (gM b h) h [.ref (h 0), .int a1, .int a2, .int a3] u Post := by
  refine CtI.of (plainFor_of_name (by decide)) (Nat.le_of_ble_eq_true rfl) ?_
  intro p e s m below meth c A ls X hA O hl
  have X : Cx p s m _ meth c cX12_forge 5 (some .int) RX12 D (tyM b) A := X
  obtain ⟨⟨hx, hb, hml, hown, hts⟩, hK, hNs, hlocks, hr⟩ := id X
  have hl : lv_has ls 5 [(0, .ref (h 0)), (1, .int a1), (2, .int a2), (3, .int a3)] := hl
  unfold wp_X12_forge at hw
  refine lv_iload_n hx hb dX12_forge_0 rfl (lv_at hl 1 rfl) ?_
  refine lv_iconst (v := 0) hx hb dX12_forge_1 (by decide) ?_
  refine lv_iconst (v := 5) hx hb dX12_forge_2 (by decide) ?_
  refine q_cis (rest := []) X O hA (c_X12_in hw) lk_X12_78 rfl rfl rfl ⟨Nat.le_of_ble_eq_true rfl, Nat.le_of_ble_eq_true rfl⟩ (Nat.le_of_ble_eq_true rfl) hl.1 ⟨Nat.zero_le _, Nat.zero_le _⟩ rfl dX12_forge_3 (fun r3 u3 H locs hw O => ?_)
  refine lv_if_eq (tgt := 30) hx hb dX12_forge_6 (by decide) (fun c6 => ?_) (fun c6 => ?_)
  · have hw := hw.1 c6
    refine lv_aload_n hx hb dX12_forge_30 rfl (lv_at hl 0 rfl) ?_
    refine lv_iconst (v := 1) hx hb dX12_forge_31 (by decide) ?_
    refine q_civ (rest := []) X O hA 0 (c_X12_refused hw) lk_X12_89 (by decide) rfl rfl rfl rfl rfl rfl ⟨Nat.le_of_ble_eq_true rfl, Nat.le_of_ble_eq_true rfl⟩ (Nat.le_of_ble_eq_true rfl) hl.1 ⟨Nat.zero_le _, Nat.zero_le _⟩ rfl dX12_forge_32 (fun r32 u32 H locs hw O => ?_)
    exact q_iret X O hw dX12_forge_35
  · have hw := hw.2 c6
    refine lv_iload_n hx hb dX12_forge_9 rfl (lv_at hl 2 rfl) ?_
    refine lv_iconst (v := 0) hx hb dX12_forge_10 (by decide) ?_
    refine lv_bipush (v := 6) hx hb dX12_forge_11 (by decide) ?_
    refine q_cis (rest := []) X O hA (c_X12_in hw) lk_X12_78 rfl rfl rfl ⟨Nat.le_of_ble_eq_true rfl, Nat.le_of_ble_eq_true rfl⟩ (Nat.le_of_ble_eq_true rfl) hl.1 ⟨Nat.zero_le _, Nat.zero_le _⟩ rfl dX12_forge_13 (fun r13 u13 H locs hw O => ?_)
    refine lv_if_eq (tgt := 30) hx hb dX12_forge_16 (by decide) (fun c16 => ?_) (fun c16 => ?_)
    · have hw := hw.1 c16
      refine lv_aload_n hx hb dX12_forge_30 rfl (lv_at hl 0 rfl) ?_
      refine lv_iconst (v := 1) hx hb dX12_forge_31 (by decide) ?_
      refine q_civ (rest := []) X O hA 0 (c_X12_refused hw) lk_X12_89 (by decide) rfl rfl rfl rfl rfl rfl ⟨Nat.le_of_ble_eq_true rfl, Nat.le_of_ble_eq_true rfl⟩ (Nat.le_of_ble_eq_true rfl) hl.1 ⟨Nat.zero_le _, Nat.zero_le _⟩ rfl dX12_forge_32 (fun r32 u32 H locs hw O => ?_)
      exact q_iret X O hw dX12_forge_35
    · have hw := hw.2 c16
      refine lv_iload_n hx hb dX12_forge_19 rfl (lv_at hl 3 rfl) ?_
      refine lv_bipush (v := -100) hx hb dX12_forge_20 (by decide) ?_
      refine lv_bipush (v := 100) hx hb dX12_forge_22 (by decide) ?_
      refine q_cis (rest := []) X O hA (c_X12_in hw) lk_X12_78 rfl rfl rfl ⟨Nat.le_of_ble_eq_true rfl, Nat.le_of_ble_eq_true rfl⟩ (Nat.le_of_ble_eq_true rfl) hl.1 ⟨Nat.zero_le _, Nat.zero_le _⟩ rfl dX12_forge_24 (fun r24 u24 H locs hw O => ?_)
      refine lv_if_ne (tgt := 36) hx hb dX12_forge_27 (by decide) (fun c27 => ?_) (fun c27 => ?_)
      · have hw := hw.1 c27
        refine lv_aload_n hx hb dX12_forge_36 rfl (lv_at hl 0 rfl) ?_
        refine gt_X12_34 X O dX12_forge_37 ?_
        refine lv_iload_n hx hb dX12_forge_40 rfl (lv_at hl 1 rfl) ?_
        obtain ⟨i41, hw⟩ := hw
        refine q_ild X O 9 0 (by decide) rfl rfl i41 dX12_forge_41 ?_
        refine lv_istore (lv' := [(4, .int (u24 9 (Int32.toNatClampNeg a1))), (0, .ref (h 0)), (1, .int a1), (2, .int a2), (3, .int a3)]) hx hb dX12_forge_42 hl (by decide) rfl (fun ls hl => ?_)
        refine lv_iload_n hx hb dX12_forge_44 rfl (lv_at hl 3 rfl) ?_
        by_cases s45_0 : a2 = 0
        · have hw := hw.1 s45_0
          refine lv_tableIn (off := 39) (tgt := 84) hx hb dX12_forge_45 (by rw [s45_0]; decide) (by rw [s45_0]; decide) (by rw [s45_0]; decide) (by decide) ?_
          refine lv_iload hx hb dX12_forge_84 (lv_at hl 0 rfl) ?_
          refine lv_iconst (v := -1) hx hb dX12_forge_86 (by decide) ?_
          refine lv_icmp_ne (tgt := 99) hx hb dX12_forge_87 (by decide) (fun c87 => ?_) (fun c87 => ?_)
          · have hw := hw.1 c87
            refine lv_iload hx hb dX12_forge_99 (lv_at hl 0 rfl) ?_
            refine lv_iload_n hx hb dX12_forge_101 rfl (lv_at hl 4 rfl) ?_
            refine lv_iconst (v := 3) hx hb dX12_forge_102 (by decide) ?_
            refine lv_irem hx hb dX12_forge_103 (by decide) ?_
            refine lv_iconst (v := 3) hx hb dX12_forge_104 (by decide) ?_
            refine lv_iadd hx hb dX12_forge_105 ?_
            refine lv_iconst (v := 3) hx hb dX12_forge_106 (by decide) ?_
            refine lv_irem hx hb dX12_forge_107 (by decide) ?_
            refine lv_icmp_eq (tgt := 120) hx hb dX12_forge_108 (by decide) (fun c108 => ?_) (fun c108 => ?_)
            · have hw := hw.1 c108
              refine lv_aload_n hx hb dX12_forge_120 rfl (lv_at hl 1 rfl) ?_
              refine lv_aload_n hx hb dX12_forge_121 rfl (lv_at hl 1 rfl) ?_
              refine gt_X12_37 X O dX12_forge_122 ?_
              refine lv_iload_n hx hb dX12_forge_125 rfl (lv_at hl 2 rfl) ?_
              obtain ⟨i126, hw⟩ := hw
              refine q_ild X O 10 0 (by decide) rfl rfl i126 dX12_forge_126 ?_
              refine q_civ (rest := []) X O hA 0 (c_X12_done hw) lk_X12_96 (by decide) rfl rfl rfl rfl rfl rfl ⟨Nat.le_of_ble_eq_true rfl, Nat.le_of_ble_eq_true rfl⟩ (Nat.le_of_ble_eq_true rfl) hl.1 ⟨Nat.zero_le _, Nat.zero_le _⟩ rfl dX12_forge_127 (fun r127 u127 H locs hw O => ?_)
              exact q_iret X O hw dX12_forge_130
            · have hw := hw.2 c108
              refine lv_aload_n hx hb dX12_forge_111 rfl (lv_at hl 1 rfl) ?_
              refine lv_bipush (v := 11) hx hb dX12_forge_112 (by decide) ?_
              refine q_civ (rest := []) X O hA 0 (c_X12_refused hw) lk_X12_89 (by decide) rfl rfl rfl rfl rfl rfl ⟨Nat.le_of_ble_eq_true rfl, Nat.le_of_ble_eq_true rfl⟩ (Nat.le_of_ble_eq_true rfl) hl.1 ⟨Nat.zero_le _, Nat.zero_le _⟩ rfl dX12_forge_114 (fun r114 u114 H locs hw O => ?_)
              refine lv_goto (tgt := 130) hx hb dX12_forge_117 (by decide) ?_
              exact q_iret X O hw dX12_forge_130
          · have hw := hw.2 c87
            refine lv_aload_n hx hb dX12_forge_90 rfl (lv_at hl 1 rfl) ?_
            refine lv_bipush (v := 10) hx hb dX12_forge_91 (by decide) ?_
            refine q_civ (rest := []) X O hA 0 (c_X12_refused hw) lk_X12_89 (by decide) rfl rfl rfl rfl rfl rfl ⟨Nat.le_of_ble_eq_true rfl, Nat.le_of_ble_eq_true rfl⟩ (Nat.le_of_ble_eq_true rfl) hl.1 ⟨Nat.zero_le _, Nat.zero_le _⟩ rfl dX12_forge_93 (fun r93 u93 H locs hw O => ?_)
            refine lv_goto (tgt := 130) hx hb dX12_forge_96 (by decide) ?_
            exact q_iret X O hw dX12_forge_130
        · replace hw := hw.2
          by_cases s45_1 : a2 = 1
          · have hw := hw.1 s45_1
            refine lv_tableIn (off := 86) (tgt := 131) hx hb dX12_forge_45 (by rw [s45_1]; decide) (by rw [s45_1]; decide) (by rw [s45_1]; decide) (by decide) ?_
            refine lv_iload_n hx hb dX12_forge_131 rfl (lv_at hl 4 rfl) ?_
            refine lv_if_ge (tgt := 144) hx hb dX12_forge_132 (by decide) (fun c132 => ?_) (fun c132 => ?_)
            · have hw := hw.1 c132
              refine lv_aload_n hx hb dX12_forge_144 rfl (lv_at hl 1 rfl) ?_
              refine lv_iload_n hx hb dX12_forge_145 rfl (lv_at hl 4 rfl) ?_
              refine q_civ (rest := []) X O hA 0 (c_X12_done hw) lk_X12_96 (by decide) rfl rfl rfl rfl rfl rfl ⟨Nat.le_of_ble_eq_true rfl, Nat.le_of_ble_eq_true rfl⟩ (Nat.le_of_ble_eq_true rfl) hl.1 ⟨Nat.zero_le _, Nat.zero_le _⟩ rfl dX12_forge_146 (fun r146 u146 H locs hw O => ?_)
              exact q_iret X O hw dX12_forge_149
            · have hw := hw.2 c132
              refine lv_aload_n hx hb dX12_forge_135 rfl (lv_at hl 1 rfl) ?_
              refine lv_bipush (v := 13) hx hb dX12_forge_136 (by decide) ?_
              refine q_civ (rest := []) X O hA 0 (c_X12_refused hw) lk_X12_89 (by decide) rfl rfl rfl rfl rfl rfl ⟨Nat.le_of_ble_eq_true rfl, Nat.le_of_ble_eq_true rfl⟩ (Nat.le_of_ble_eq_true rfl) hl.1 ⟨Nat.zero_le _, Nat.zero_le _⟩ rfl dX12_forge_138 (fun r138 u138 H locs hw O => ?_)
              refine lv_goto (tgt := 149) hx hb dX12_forge_141 (by decide) ?_
              exact q_iret X O hw dX12_forge_149
          · replace hw := hw.2
            by_cases s45_2 : a2 = 2
            · have hw := hw.1 s45_2
              refine lv_tableIn (off := 105) (tgt := 150) hx hb dX12_forge_45 (by rw [s45_2]; decide) (by rw [s45_2]; decide) (by rw [s45_2]; decide) (by decide) ?_
              refine lv_iload hx hb dX12_forge_150 (lv_at hl 0 rfl) ?_
              refine lv_iconst (v := -1) hx hb dX12_forge_152 (by decide) ?_
              refine lv_icmp_ne (tgt := 165) hx hb dX12_forge_153 (by decide) (fun c153 => ?_) (fun c153 => ?_)
              · have hw := hw.1 c153
                refine lv_iload hx hb dX12_forge_165 (lv_at hl 0 rfl) ?_
                refine lv_iconst (v := 1) hx hb dX12_forge_167 (by decide) ?_
                refine lv_icmp_eq (tgt := 180) hx hb dX12_forge_168 (by decide) (fun c168 => ?_) (fun c168 => ?_)
                · have hw := hw.1 c168
                  refine lv_iload_n hx hb dX12_forge_180 rfl (lv_at hl 4 rfl) ?_
                  refine lv_iconst (v := 0) hx hb dX12_forge_181 (by decide) ?_
                  refine lv_iconst (v := 3) hx hb dX12_forge_182 (by decide) ?_
                  refine q_cis (rest := []) X O hA (c_X12_in hw) lk_X12_78 rfl rfl rfl ⟨Nat.le_of_ble_eq_true rfl, Nat.le_of_ble_eq_true rfl⟩ (Nat.le_of_ble_eq_true rfl) hl.1 ⟨Nat.zero_le _, Nat.zero_le _⟩ rfl dX12_forge_183 (fun r183 u183 H locs hw O => ?_)
                  refine lv_if_eq (tgt := 214) hx hb dX12_forge_186 (by decide) (fun c186 => ?_) (fun c186 => ?_)
                  · have hw := hw.1 c186
                    refine lv_aload_n hx hb dX12_forge_214 rfl (lv_at hl 1 rfl) ?_
                    refine lv_bipush (v := 12) hx hb dX12_forge_215 (by decide) ?_
                    refine q_civ (rest := []) X O hA 0 (c_X12_refused hw) lk_X12_89 (by decide) rfl rfl rfl rfl rfl rfl ⟨Nat.le_of_ble_eq_true rfl, Nat.le_of_ble_eq_true rfl⟩ (Nat.le_of_ble_eq_true rfl) hl.1 ⟨Nat.zero_le _, Nat.zero_le _⟩ rfl dX12_forge_217 (fun r217 u217 H locs hw O => ?_)
                    exact q_iret X O hw dX12_forge_220
                  · have hw := hw.2 c186
                    refine lv_iconst (v := 1) hx hb dX12_forge_189 (by decide) ?_
                    refine lv_iload_n hx hb dX12_forge_190 rfl (lv_at hl 4 rfl) ?_
                    refine lv_iadd hx hb dX12_forge_191 ?_
                    refine lv_aload_n hx hb dX12_forge_192 rfl (lv_at hl 1 rfl) ?_
                    refine gt_X12_37 X O dX12_forge_193 ?_
                    refine lv_iload_n hx hb dX12_forge_196 rfl (lv_at hl 2 rfl) ?_
                    obtain ⟨i197, hw⟩ := hw
                    refine q_ild X O 10 0 (by decide) rfl rfl i197 dX12_forge_197 ?_
                    refine lv_icmp_gt (tgt := 214) hx hb dX12_forge_198 (by decide) (fun c198 => ?_) (fun c198 => ?_)
                    · have hw := hw.1 c198
                      refine lv_aload_n hx hb dX12_forge_214 rfl (lv_at hl 1 rfl) ?_
                      refine lv_bipush (v := 12) hx hb dX12_forge_215 (by decide) ?_
                      refine q_civ (rest := []) X O hA 0 (c_X12_refused hw) lk_X12_89 (by decide) rfl rfl rfl rfl rfl rfl ⟨Nat.le_of_ble_eq_true rfl, Nat.le_of_ble_eq_true rfl⟩ (Nat.le_of_ble_eq_true rfl) hl.1 ⟨Nat.zero_le _, Nat.zero_le _⟩ rfl dX12_forge_217 (fun r217 u217 H locs hw O => ?_)
                      exact q_iret X O hw dX12_forge_220
                    · have hw := hw.2 c198
                      refine lv_aload_n hx hb dX12_forge_201 rfl (lv_at hl 1 rfl) ?_
                      refine lv_aload_n hx hb dX12_forge_202 rfl (lv_at hl 1 rfl) ?_
                      refine lv_iload_n hx hb dX12_forge_203 rfl (lv_at hl 2 rfl) ?_
                      refine lv_iload_n hx hb dX12_forge_204 rfl (lv_at hl 4 rfl) ?_
                      refine q_civ (rest := [.ref (h 0)]) X O hA 0 (c_X12_sum hw) lk_X12_227 (by decide) rfl rfl rfl rfl rfl rfl ⟨Nat.le_of_ble_eq_true rfl, Nat.le_of_ble_eq_true rfl⟩ (Nat.le_of_ble_eq_true rfl) hl.1 ⟨Nat.zero_le _, Nat.zero_le _⟩ rfl dX12_forge_205 (fun r205 u205 H locs hw O => ?_)
                      refine q_civ (rest := []) X O hA 0 (c_X12_done hw) lk_X12_96 (by decide) rfl rfl rfl rfl rfl rfl ⟨Nat.le_of_ble_eq_true rfl, Nat.le_of_ble_eq_true rfl⟩ (Nat.le_of_ble_eq_true rfl) hl.1 ⟨Nat.zero_le _, Nat.zero_le _⟩ rfl dX12_forge_208 (fun r208 u208 H locs hw O => ?_)
                      refine lv_goto (tgt := 220) hx hb dX12_forge_211 (by decide) ?_
                      exact q_iret X O hw dX12_forge_220
                · have hw := hw.2 c168
                  refine lv_aload_n hx hb dX12_forge_171 rfl (lv_at hl 1 rfl) ?_
                  refine lv_bipush (v := 11) hx hb dX12_forge_172 (by decide) ?_
                  refine q_civ (rest := []) X O hA 0 (c_X12_refused hw) lk_X12_89 (by decide) rfl rfl rfl rfl rfl rfl ⟨Nat.le_of_ble_eq_true rfl, Nat.le_of_ble_eq_true rfl⟩ (Nat.le_of_ble_eq_true rfl) hl.1 ⟨Nat.zero_le _, Nat.zero_le _⟩ rfl dX12_forge_174 (fun r174 u174 H locs hw O => ?_)
                  refine lv_goto (tgt := 220) hx hb dX12_forge_177 (by decide) ?_
                  exact q_iret X O hw dX12_forge_220
              · have hw := hw.2 c153
                refine lv_aload_n hx hb dX12_forge_156 rfl (lv_at hl 1 rfl) ?_
                refine lv_bipush (v := 10) hx hb dX12_forge_157 (by decide) ?_
                refine q_civ (rest := []) X O hA 0 (c_X12_refused hw) lk_X12_89 (by decide) rfl rfl rfl rfl rfl rfl ⟨Nat.le_of_ble_eq_true rfl, Nat.le_of_ble_eq_true rfl⟩ (Nat.le_of_ble_eq_true rfl) hl.1 ⟨Nat.zero_le _, Nat.zero_le _⟩ rfl dX12_forge_159 (fun r159 u159 H locs hw O => ?_)
                refine lv_goto (tgt := 220) hx hb dX12_forge_162 (by decide) ?_
                exact q_iret X O hw dX12_forge_220
            · replace hw := hw.2
              by_cases s45_3 : a2 = 3
              · have hw := hw.1 s45_3
                refine lv_tableIn (off := 176) (tgt := 221) hx hb dX12_forge_45 (by rw [s45_3]; decide) (by rw [s45_3]; decide) (by rw [s45_3]; decide) (by decide) ?_
                refine lv_iload hx hb dX12_forge_221 (lv_at hl 0 rfl) ?_
                refine lv_iconst (v := -1) hx hb dX12_forge_223 (by decide) ?_
                refine lv_icmp_ne (tgt := 235) hx hb dX12_forge_224 (by decide) (fun c224 => ?_) (fun c224 => ?_)
                · have hw := hw.1 c224
                  refine lv_iload hx hb dX12_forge_235 (lv_at hl 0 rfl) ?_
                  refine lv_if_eq (tgt := 249) hx hb dX12_forge_237 (by decide) (fun c237 => ?_) (fun c237 => ?_)
                  · have hw := hw.1 c237
                    refine lv_aload_n hx hb dX12_forge_249 rfl (lv_at hl 1 rfl) ?_
                    refine lv_aload_n hx hb dX12_forge_250 rfl (lv_at hl 1 rfl) ?_
                    refine gt_X12_37 X O dX12_forge_251 ?_
                    refine lv_iload_n hx hb dX12_forge_254 rfl (lv_at hl 2 rfl) ?_
                    obtain ⟨i255, hw⟩ := hw
                    refine q_ild X O 10 0 (by decide) rfl rfl i255 dX12_forge_255 ?_
                    refine q_civ (rest := []) X O hA 0 (c_X12_done hw) lk_X12_96 (by decide) rfl rfl rfl rfl rfl rfl ⟨Nat.le_of_ble_eq_true rfl, Nat.le_of_ble_eq_true rfl⟩ (Nat.le_of_ble_eq_true rfl) hl.1 ⟨Nat.zero_le _, Nat.zero_le _⟩ rfl dX12_forge_256 (fun r256 u256 H locs hw O => ?_)
                    exact q_iret X O hw dX12_forge_259
                  · have hw := hw.2 c237
                    refine lv_aload_n hx hb dX12_forge_240 rfl (lv_at hl 1 rfl) ?_
                    refine lv_bipush (v := 14) hx hb dX12_forge_241 (by decide) ?_
                    refine q_civ (rest := []) X O hA 0 (c_X12_refused hw) lk_X12_89 (by decide) rfl rfl rfl rfl rfl rfl ⟨Nat.le_of_ble_eq_true rfl, Nat.le_of_ble_eq_true rfl⟩ (Nat.le_of_ble_eq_true rfl) hl.1 ⟨Nat.zero_le _, Nat.zero_le _⟩ rfl dX12_forge_243 (fun r243 u243 H locs hw O => ?_)
                    refine lv_goto (tgt := 259) hx hb dX12_forge_246 (by decide) ?_
                    exact q_iret X O hw dX12_forge_259
                · have hw := hw.2 c224
                  refine lv_aload_n hx hb dX12_forge_227 rfl (lv_at hl 1 rfl) ?_
                  refine lv_iconst (v := 0) hx hb dX12_forge_228 (by decide) ?_
                  refine q_civ (rest := []) X O hA 0 (c_X12_done hw) lk_X12_96 (by decide) rfl rfl rfl rfl rfl rfl ⟨Nat.le_of_ble_eq_true rfl, Nat.le_of_ble_eq_true rfl⟩ (Nat.le_of_ble_eq_true rfl) hl.1 ⟨Nat.zero_le _, Nat.zero_le _⟩ rfl dX12_forge_229 (fun r229 u229 H locs hw O => ?_)
                  refine lv_goto (tgt := 259) hx hb dX12_forge_232 (by decide) ?_
                  exact q_iret X O hw dX12_forge_259
              · replace hw := hw.2
                by_cases s45_4 : a2 = 4
                · have hw := hw.1 s45_4
                  refine lv_tableIn (off := 215) (tgt := 260) hx hb dX12_forge_45 (by rw [s45_4]; decide) (by rw [s45_4]; decide) (by rw [s45_4]; decide) (by decide) ?_
                  refine lv_iload_n hx hb dX12_forge_260 rfl (lv_at hl 4 rfl) ?_
                  refine lv_if_ne (tgt := 273) hx hb dX12_forge_261 (by decide) (fun c261 => ?_) (fun c261 => ?_)
                  · have hw := hw.1 c261
                    refine lv_aload_n hx hb dX12_forge_273 rfl (lv_at hl 1 rfl) ?_
                    refine lv_sipush (v := 1000) hx hb dX12_forge_274 (by decide) ?_
                    refine lv_iload_n hx hb dX12_forge_277 rfl (lv_at hl 4 rfl) ?_
                    obtain ⟨z278, hw⟩ := hw
                    refine lv_idiv hx hb dX12_forge_278 z278 ?_
                    refine q_civ (rest := []) X O hA 0 (c_X12_done hw) lk_X12_96 (by decide) rfl rfl rfl rfl rfl rfl ⟨Nat.le_of_ble_eq_true rfl, Nat.le_of_ble_eq_true rfl⟩ (Nat.le_of_ble_eq_true rfl) hl.1 ⟨Nat.zero_le _, Nat.zero_le _⟩ rfl dX12_forge_279 (fun r279 u279 H locs hw O => ?_)
                    exact q_iret X O hw dX12_forge_282
                  · have hw := hw.2 c261
                    refine lv_aload_n hx hb dX12_forge_264 rfl (lv_at hl 1 rfl) ?_
                    refine lv_bipush (v := 15) hx hb dX12_forge_265 (by decide) ?_
                    refine q_civ (rest := []) X O hA 0 (c_X12_refused hw) lk_X12_89 (by decide) rfl rfl rfl rfl rfl rfl ⟨Nat.le_of_ble_eq_true rfl, Nat.le_of_ble_eq_true rfl⟩ (Nat.le_of_ble_eq_true rfl) hl.1 ⟨Nat.zero_le _, Nat.zero_le _⟩ rfl dX12_forge_267 (fun r267 u267 H locs hw O => ?_)
                    refine lv_goto (tgt := 282) hx hb dX12_forge_270 (by decide) ?_
                    exact q_iret X O hw dX12_forge_282
                · replace hw := hw.2
                  by_cases s45_5 : a2 = 5
                  · have hw := hw.1 s45_5
                    refine lv_tableIn (off := 238) (tgt := 283) hx hb dX12_forge_45 (by rw [s45_5]; decide) (by rw [s45_5]; decide) (by rw [s45_5]; decide) (by decide) ?_
                    refine lv_iload_n hx hb dX12_forge_283 rfl (lv_at hl 4 rfl) ?_
                    refine lv_iconst (v := 1) hx hb dX12_forge_284 (by decide) ?_
                    refine lv_iand hx hb dX12_forge_285 ?_
                    refine lv_if_ne (tgt := 298) hx hb dX12_forge_286 (by decide) (fun c286 => ?_) (fun c286 => ?_)
                    · have hw := hw.1 c286
                      refine lv_aload_n hx hb dX12_forge_298 rfl (lv_at hl 1 rfl) ?_
                      refine lv_iconst (v := 1) hx hb dX12_forge_299 (by decide) ?_
                      refine q_civ (rest := []) X O hA 0 (c_X12_done hw) lk_X12_96 (by decide) rfl rfl rfl rfl rfl rfl ⟨Nat.le_of_ble_eq_true rfl, Nat.le_of_ble_eq_true rfl⟩ (Nat.le_of_ble_eq_true rfl) hl.1 ⟨Nat.zero_le _, Nat.zero_le _⟩ rfl dX12_forge_300 (fun r300 u300 H locs hw O => ?_)
                      exact q_iret X O hw dX12_forge_303
                    · have hw := hw.2 c286
                      refine lv_aload_n hx hb dX12_forge_289 rfl (lv_at hl 1 rfl) ?_
                      refine lv_bipush (v := 10) hx hb dX12_forge_290 (by decide) ?_
                      refine q_civ (rest := []) X O hA 0 (c_X12_refused hw) lk_X12_89 (by decide) rfl rfl rfl rfl rfl rfl ⟨Nat.le_of_ble_eq_true rfl, Nat.le_of_ble_eq_true rfl⟩ (Nat.le_of_ble_eq_true rfl) hl.1 ⟨Nat.zero_le _, Nat.zero_le _⟩ rfl dX12_forge_292 (fun r292 u292 H locs hw O => ?_)
                      refine lv_goto (tgt := 303) hx hb dX12_forge_295 (by decide) ?_
                      exact q_iret X O hw dX12_forge_303
                  · replace hw := hw.2
                    have hw := hw s45_0 s45_1 s45_2 s45_3 s45_4 s45_5
                    refine lv_tableOut (tgt := 304) hx hb dX12_forge_45 (by have e0 := ts_ne (k := 0) (by decide) s45_0; have e1 := ts_ne (k := 1) (by decide) s45_1; have e2 := ts_ne (k := 2) (by decide) s45_2; have e3 := ts_ne (k := 3) (by decide) s45_3; have e4 := ts_ne (k := 4) (by decide) s45_4; have e5 := ts_ne (k := 5) (by decide) s45_5; omega) (by decide) ?_
                    refine lv_aload_n hx hb dX12_forge_304 rfl (lv_at hl 1 rfl) ?_
                    refine lv_iload_n hx hb dX12_forge_305 rfl (lv_at hl 4 rfl) ?_
                    refine q_civ (rest := []) X O hA 0 (c_X12_unitTaken hw) lk_X12_230 (by decide) rfl rfl rfl rfl rfl rfl ⟨Nat.le_of_ble_eq_true rfl, Nat.le_of_ble_eq_true rfl⟩ (Nat.le_of_ble_eq_true rfl) hl.1 ⟨Nat.zero_le _, Nat.zero_le _⟩ rfl dX12_forge_306 (fun r306 u306 H locs hw O => ?_)
                    exact q_iret X O hw dX12_forge_309
      · have hw := hw.2 c27
        refine lv_aload_n hx hb dX12_forge_30 rfl (lv_at hl 0 rfl) ?_
        refine lv_iconst (v := 1) hx hb dX12_forge_31 (by decide) ?_
        refine q_civ (rest := []) X O hA 0 (c_X12_refused hw) lk_X12_89 (by decide) rfl rfl rfl rfl rfl rfl ⟨Nat.le_of_ble_eq_true rfl, Nat.le_of_ble_eq_true rfl⟩ (Nat.le_of_ble_eq_true rfl) hl.1 ⟨Nat.zero_le _, Nat.zero_le _⟩ rfl dX12_forge_32 (fun r32 u32 H locs hw O => ?_)
        exact q_iret X O hw dX12_forge_35
-- FellersOrderModel.undo()I
abbrev rm_X12_undo : Room := { frames := 1, cells := 0, slots := 0, locals := 21 }
def wb_X12_undo_38 (Post : Int32 → St → Prop) (K38 : Int32 → St → Prop) (x1 : Int32) (u : St) : Prop := (((12 : Int32) ≤ x1) → (wp_X12_done (1 : Int32) (su u 0 7 (0 : Int32)) (fun r123 u123 => Post r123 u123))) ∧ ((¬ (12 : Int32) ≤ x1) → (vp_in (((48 : Int32) * (u 0 8)) + ((4 : Int32) * x1)) 576 ∧ (vp_in x1 12 ∧ (vp_in ((((48 : Int32) * (u 0 8)) + ((4 : Int32) * x1)) + (1 : Int32)) 576 ∧ (vp_in x1 12 ∧ (vp_in ((((48 : Int32) * (u 0 8)) + ((4 : Int32) * x1)) + (2 : Int32)) 576 ∧ (vp_in x1 12 ∧ (vp_in ((((48 : Int32) * (u 0 8)) + ((4 : Int32) * x1)) + (3 : Int32)) 576 ∧ (vp_in x1 12 ∧ (K38 (x1 + 1) (su (su (su (su u 1 (Int32.toNatClampNeg x1) (u 8 (Int32.toNatClampNeg (((48 : Int32) * (u 0 8)) + ((4 : Int32) * x1))))) 2 (Int32.toNatClampNeg x1) ((su u 1 (Int32.toNatClampNeg x1) (u 8 (Int32.toNatClampNeg (((48 : Int32) * (u 0 8)) + ((4 : Int32) * x1))))) 8 (Int32.toNatClampNeg ((((48 : Int32) * (u 0 8)) + ((4 : Int32) * x1)) + (1 : Int32))))) 3 (Int32.toNatClampNeg x1) ((su (su u 1 (Int32.toNatClampNeg x1) (u 8 (Int32.toNatClampNeg (((48 : Int32) * (u 0 8)) + ((4 : Int32) * x1))))) 2 (Int32.toNatClampNeg x1) ((su u 1 (Int32.toNatClampNeg x1) (u 8 (Int32.toNatClampNeg (((48 : Int32) * (u 0 8)) + ((4 : Int32) * x1))))) 8 (Int32.toNatClampNeg ((((48 : Int32) * (u 0 8)) + ((4 : Int32) * x1)) + (1 : Int32))))) 8 (Int32.toNatClampNeg ((((48 : Int32) * (u 0 8)) + ((4 : Int32) * x1)) + (2 : Int32))))) 4 (Int32.toNatClampNeg x1) ((su (su (su u 1 (Int32.toNatClampNeg x1) (u 8 (Int32.toNatClampNeg (((48 : Int32) * (u 0 8)) + ((4 : Int32) * x1))))) 2 (Int32.toNatClampNeg x1) ((su u 1 (Int32.toNatClampNeg x1) (u 8 (Int32.toNatClampNeg (((48 : Int32) * (u 0 8)) + ((4 : Int32) * x1))))) 8 (Int32.toNatClampNeg ((((48 : Int32) * (u 0 8)) + ((4 : Int32) * x1)) + (1 : Int32))))) 3 (Int32.toNatClampNeg x1) ((su (su u 1 (Int32.toNatClampNeg x1) (u 8 (Int32.toNatClampNeg (((48 : Int32) * (u 0 8)) + ((4 : Int32) * x1))))) 2 (Int32.toNatClampNeg x1) ((su u 1 (Int32.toNatClampNeg x1) (u 8 (Int32.toNatClampNeg (((48 : Int32) * (u 0 8)) + ((4 : Int32) * x1))))) 8 (Int32.toNatClampNeg ((((48 : Int32) * (u 0 8)) + ((4 : Int32) * x1)) + (1 : Int32))))) 8 (Int32.toNatClampNeg ((((48 : Int32) * (u 0 8)) + ((4 : Int32) * x1)) + (2 : Int32))))) 8 (Int32.toNatClampNeg ((((48 : Int32) * (u 0 8)) + ((4 : Int32) * x1)) + (3 : Int32)))))))))))))))
set_option maxHeartbeats 4000000 in
set_option maxRecDepth 100000 in
theorem tb_X12_undo_38 (X : Cx p s m args meth c cX12_undo 3 (some .int) RX12 D (tyM b) A) (hA : ∀ q, s.heap.size ≤ q → A q) {Post : Int32 → St → Prop} {K38 : Int32 → St → Prop} (k38 : ∀ (x1 : Int32) (u : St) (H : Heap) (locs : List Loc) (ls : Array Slot), K38 x1 u → wO D 21 (gM b h) h u A s.heap H locs → lv_has ls 3 [(0, .ref (h 0)), (1, .int x1)] → W p l e rm_X12_undo s m args below meth c H locs 0 0 (MQ below (va_Qi Post (cB D (tyM b) 21 (gM b h) h A) A) args s 0 0 A) (F0 m 38 ls [])) : ∀ (x1 : Int32) (u : St) (H : Heap) (locs : List Loc) (ls : Array Slot), wb_X12_undo_38 Post K38 x1 u → wO D 21 (gM b h) h u A s.heap H locs → lv_has ls 3 [(0, .ref (h 0)), (1, .int x1)] → W p l e rm_X12_undo s m args below meth c H locs 0 0 (MQ below (va_Qi Post (cB D (tyM b) 21 (gM b h) h A) A) args s 0 0 A) (F0 m 38 ls []) := by
  obtain ⟨⟨hx, hb, hml, hown, hts⟩, hK, hNs, hlocks, hr⟩ := id X
  intro x1 u H locs ls hw O hl
  unfold wb_X12_undo_38 at hw
  refine lv_iload_n hx hb dX12_undo_38 rfl (lv_at hl 1 rfl) ?_
  refine lv_bipush (v := 12) hx hb dX12_undo_39 (by decide) ?_
  refine lv_icmp_ge (tgt := 116) hx hb dX12_undo_41 (by decide) (fun c41 => ?_) (fun c41 => ?_)
  · have hw := hw.1 c41
    refine lv_aload_n hx hb dX12_undo_116 rfl (lv_at hl 0 rfl) ?_
    refine lv_iconst (v := 0) hx hb dX12_undo_117 (by decide) ?_
    refine pt_X12_93 X O dX12_undo_118 (fun H locs O => ?_)
    refine lv_aload_n hx hb dX12_undo_121 rfl (lv_at hl 0 rfl) ?_
    refine lv_iconst (v := 1) hx hb dX12_undo_122 (by decide) ?_
    refine q_civ (rest := []) X O hA 0 (c_X12_done hw) lk_X12_96 (by decide) rfl rfl rfl rfl rfl rfl ⟨Nat.le_of_ble_eq_true rfl, Nat.le_of_ble_eq_true rfl⟩ (Nat.le_of_ble_eq_true rfl) hl.1 ⟨Nat.zero_le _, Nat.zero_le _⟩ rfl dX12_undo_123 (fun r123 u123 H locs hw O => ?_)
    exact q_iret X O hw dX12_undo_126
  · have hw := hw.2 c41
    refine lv_bipush (v := 48) hx hb dX12_undo_44 (by decide) ?_
    refine lv_aload_n hx hb dX12_undo_46 rfl (lv_at hl 0 rfl) ?_
    refine gt_X12_86 X O dX12_undo_47 ?_
    refine lv_imul hx hb dX12_undo_50 ?_
    refine lv_iconst (v := 4) hx hb dX12_undo_51 (by decide) ?_
    refine lv_iload_n hx hb dX12_undo_52 rfl (lv_at hl 1 rfl) ?_
    refine lv_imul hx hb dX12_undo_53 ?_
    refine lv_iadd hx hb dX12_undo_54 ?_
    refine lv_istore_n (lv' := [(2, .int (((48 : Int32) * (u 0 8)) + ((4 : Int32) * x1))), (0, .ref (h 0)), (1, .int x1)]) hx hb dX12_undo_55 rfl hl (by decide) rfl (fun ls hl => ?_)
    refine lv_aload_n hx hb dX12_undo_56 rfl (lv_at hl 1 rfl) ?_
    refine gt_X12_7 X O dX12_undo_57 ?_
    refine lv_iload_n hx hb dX12_undo_60 rfl (lv_at hl 2 rfl) ?_
    refine lv_aload_n hx hb dX12_undo_61 rfl (lv_at hl 1 rfl) ?_
    refine gt_X12_31 X O dX12_undo_62 ?_
    refine lv_iload_n hx hb dX12_undo_65 rfl (lv_at hl 0 rfl) ?_
    obtain ⟨i66, hw⟩ := hw
    refine q_ild X O 8 0 (by decide) rfl rfl i66 dX12_undo_66 ?_
    obtain ⟨i67, hw⟩ := hw
    refine q_ist X O 1 0 (by decide) (fun _ => rfl) rfl i67 dX12_undo_67 (fun H locs O => ?_)
    refine lv_aload_n hx hb dX12_undo_68 rfl (lv_at hl 1 rfl) ?_
    refine gt_X12_13 X O dX12_undo_69 ?_
    refine lv_iload_n hx hb dX12_undo_72 rfl (lv_at hl 2 rfl) ?_
    refine lv_aload_n hx hb dX12_undo_73 rfl (lv_at hl 1 rfl) ?_
    refine gt_X12_31 X O dX12_undo_74 ?_
    refine lv_iload_n hx hb dX12_undo_77 rfl (lv_at hl 0 rfl) ?_
    refine lv_iconst (v := 1) hx hb dX12_undo_78 (by decide) ?_
    refine lv_iadd hx hb dX12_undo_79 ?_
    obtain ⟨i80, hw⟩ := hw
    refine q_ild X O 8 0 (by decide) rfl rfl i80 dX12_undo_80 ?_
    obtain ⟨i81, hw⟩ := hw
    refine q_ist X O 2 0 (by decide) (fun _ => rfl) rfl i81 dX12_undo_81 (fun H locs O => ?_)
    refine lv_aload_n hx hb dX12_undo_82 rfl (lv_at hl 1 rfl) ?_
    refine gt_X12_16 X O dX12_undo_83 ?_
    refine lv_iload_n hx hb dX12_undo_86 rfl (lv_at hl 2 rfl) ?_
    refine lv_aload_n hx hb dX12_undo_87 rfl (lv_at hl 1 rfl) ?_
    refine gt_X12_31 X O dX12_undo_88 ?_
    refine lv_iload_n hx hb dX12_undo_91 rfl (lv_at hl 0 rfl) ?_
    refine lv_iconst (v := 2) hx hb dX12_undo_92 (by decide) ?_
    refine lv_iadd hx hb dX12_undo_93 ?_
    obtain ⟨i94, hw⟩ := hw
    refine q_ild X O 8 0 (by decide) rfl rfl i94 dX12_undo_94 ?_
    obtain ⟨i95, hw⟩ := hw
    refine q_ist X O 3 0 (by decide) (fun _ => rfl) rfl i95 dX12_undo_95 (fun H locs O => ?_)
    refine lv_aload_n hx hb dX12_undo_96 rfl (lv_at hl 1 rfl) ?_
    refine gt_X12_19 X O dX12_undo_97 ?_
    refine lv_iload_n hx hb dX12_undo_100 rfl (lv_at hl 2 rfl) ?_
    refine lv_aload_n hx hb dX12_undo_101 rfl (lv_at hl 1 rfl) ?_
    refine gt_X12_31 X O dX12_undo_102 ?_
    refine lv_iload_n hx hb dX12_undo_105 rfl (lv_at hl 0 rfl) ?_
    refine lv_iconst (v := 3) hx hb dX12_undo_106 (by decide) ?_
    refine lv_iadd hx hb dX12_undo_107 ?_
    obtain ⟨i108, hw⟩ := hw
    refine q_ild X O 8 0 (by decide) rfl rfl i108 dX12_undo_108 ?_
    obtain ⟨i109, hw⟩ := hw
    refine q_ist X O 4 0 (by decide) (fun _ => rfl) rfl i109 dX12_undo_109 (fun H locs O => ?_)
    refine lv_iinc (v := x1 + 1) (lv' := [(1, .int (x1 + 1)), (2, .int (((48 : Int32) * (u 0 8)) + ((4 : Int32) * x1))), (0, .ref (h 0))]) hx hb dX12_undo_110 hl (k := 2) rfl rfl (by decide) rfl (fun ls hl => ?_)
    refine lv_goto (tgt := 38) hx hb dX12_undo_113 (by decide) ?_
    exact k38 _ _ _ _ _ hw O (lv_sub hl [2, 0] rfl)
def wl_X12_undo_38 (Post : Int32 → St → Prop) : Nat → Int32 → St → Prop
  | 0 => fun _ _ => False
  | n + 1 => fun x1 u => wb_X12_undo_38 Post (wl_X12_undo_38 Post n) x1 u
set_option maxHeartbeats 4000000 in
set_option maxRecDepth 100000 in
theorem tl_X12_undo_38 (X : Cx p s m args meth c cX12_undo 3 (some .int) RX12 D (tyM b) A) (hA : ∀ q, s.heap.size ≤ q → A q) {Post : Int32 → St → Prop} : ∀ n : Nat, ∀ (x1 : Int32) (u : St) (H : Heap) (locs : List Loc) (ls : Array Slot), (wl_X12_undo_38 Post n) x1 u → wO D 21 (gM b h) h u A s.heap H locs → lv_has ls 3 [(0, .ref (h 0)), (1, .int x1)] → W p l e rm_X12_undo s m args below meth c H locs 0 0 (MQ below (va_Qi Post (cB D (tyM b) 21 (gM b h) h A) A) args s 0 0 A) (F0 m 38 ls []) := by
  intro n
  induction n with
  | zero => intro x1 u H locs ls hw; exact False.elim hw
  | succ n ih => intro x1 u H locs ls hw O hl; exact tb_X12_undo_38 X hA ih x1 u H locs ls hw O hl
def wp_X12_undo (u : St) (Post : Int32 → St → Prop) : Prop := ((¬ (u 0 8) = 0) → (vp_in ((su u 0 8 ((u 0 8) - (1 : Int32))) 0 8) 12 ∧ (∃ n : Nat, wl_X12_undo_38 Post n (0 : Int32) (su (su u 0 8 ((u 0 8) - (1 : Int32))) 0 0 ((su u 0 8 ((u 0 8) - (1 : Int32))) 7 (Int32.toNatClampNeg ((su u 0 8 ((u 0 8) - (1 : Int32))) 0 8))))))) ∧ (((u 0 8) = 0) → (wp_X12_refused (3 : Int32) u (fun r9 u9 => Post r9 u9)))
set_option maxHeartbeats 4000000 in
set_option maxRecDepth 100000 in
theorem c_X12_undo {l : Launch} {D : va_G} {b : Nat → ClassId} {h : Nat → Nat} {u : St} {Post : Int32 → St → Prop} (hw : wp_X12_undo u Post) : CtI l yX12_undo cX12_undo 3 (some .int) rm_X12_undo D (tyM b) 21 (gM b h) h [.ref (h 0)] u Post := by
  refine CtI.of (plainFor_of_name (by decide)) (Nat.le_of_ble_eq_true rfl) ?_
  intro p e s m below meth c A ls X hA O hl
  have X : Cx p s m _ meth c cX12_undo 3 (some .int) RX12 D (tyM b) A := X
  obtain ⟨⟨hx, hb, hml, hown, hts⟩, hK, hNs, hlocks, hr⟩ := id X
  have hl : lv_has ls 3 [(0, .ref (h 0))] := hl
  unfold wp_X12_undo at hw
  refine lv_aload_n hx hb dX12_undo_0 rfl (lv_at hl 0 rfl) ?_
  refine gt_X12_86 X O dX12_undo_1 ?_
  refine lv_if_ne (tgt := 13) hx hb dX12_undo_4 (by decide) (fun c4 => ?_) (fun c4 => ?_)
  · have hw := hw.1 c4
    refine lv_aload_n hx hb dX12_undo_13 rfl (lv_at hl 0 rfl) ?_
    refine lv_dup hx hb dX12_undo_14 rfl ?_
    refine gt_X12_86 X O dX12_undo_15 ?_
    refine lv_iconst (v := 1) hx hb dX12_undo_18 (by decide) ?_
    refine lv_isub hx hb dX12_undo_19 ?_
    refine pt_X12_86 X O dX12_undo_20 (fun H locs O => ?_)
    refine lv_aload_n hx hb dX12_undo_23 rfl (lv_at hl 0 rfl) ?_
    refine lv_aload_n hx hb dX12_undo_24 rfl (lv_at hl 0 rfl) ?_
    refine gt_X12_28 X O dX12_undo_25 ?_
    refine lv_aload_n hx hb dX12_undo_28 rfl (lv_at hl 0 rfl) ?_
    refine gt_X12_86 X O dX12_undo_29 ?_
    obtain ⟨i32, hw⟩ := hw
    refine q_ild X O 7 0 (by decide) rfl rfl i32 dX12_undo_32 ?_
    refine pt_X12_75 X O dX12_undo_33 (fun H locs O => ?_)
    refine lv_iconst (v := 0) hx hb dX12_undo_36 (by decide) ?_
    refine lv_istore_n (lv' := [(1, .int (0 : Int32)), (0, .ref (h 0))]) hx hb dX12_undo_37 rfl hl (by decide) rfl (fun ls hl => ?_)
    obtain ⟨n, hw⟩ := hw
    exact tl_X12_undo_38 X hA n _ _ _ _ _ hw O (lv_sub hl [1, 0] rfl)
  · have hw := hw.2 c4
    refine lv_aload_n hx hb dX12_undo_7 rfl (lv_at hl 0 rfl) ?_
    refine lv_iconst (v := 3) hx hb dX12_undo_8 (by decide) ?_
    refine q_civ (rest := []) X O hA 0 (c_X12_refused hw) lk_X12_89 (by decide) rfl rfl rfl rfl rfl rfl ⟨Nat.le_of_ble_eq_true rfl, Nat.le_of_ble_eq_true rfl⟩ (Nat.le_of_ble_eq_true rfl) hl.1 ⟨Nat.zero_le _, Nat.zero_le _⟩ rfl dX12_undo_9 (fun r9 u9 H locs hw O => ?_)
    exact q_iret X O hw dX12_undo_12
-- FellersOrderModel.status()I
abbrev rm_X12_status : Room := { frames := 0, cells := 0, slots := 0, locals := 0 }
def wp_X12_status (u : St) (Post : Int32 → St → Prop) : Prop := Post (u 0 14) u
set_option maxHeartbeats 4000000 in
set_option maxRecDepth 100000 in
theorem c_X12_status {l : Launch} {D : va_G} {b : Nat → ClassId} {h : Nat → Nat} {u : St} {Post : Int32 → St → Prop} (hw : wp_X12_status u Post) : CtI l yX12_status cX12_status 1 (some .int) rm_X12_status D (tyM b) 21 (gM b h) h [.ref (h 0)] u Post := by
  refine CtI.of (plainFor_of_name (by decide)) (Nat.le_of_ble_eq_true rfl) ?_
  intro p e s m below meth c A ls X hA O hl
  have X : Cx p s m _ meth c cX12_status 1 (some .int) RX12 D (tyM b) A := X
  obtain ⟨⟨hx, hb, hml, hown, hts⟩, hK, hNs, hlocks, hr⟩ := id X
  have hl : lv_has ls 1 [(0, .ref (h 0))] := hl
  unfold wp_X12_status at hw
  refine lv_aload_n hx hb dX12_status_0 rfl (lv_at hl 0 rfl) ?_
  refine gt_X12_71 X O dX12_status_1 ?_
  exact q_iret X O hw dX12_status_4
end PT
