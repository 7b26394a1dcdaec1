/-! the reference, methods: count lacking keeps lowest why cost change swap block goes layAll -/
theorem lk_X12_182 : LkV RX12 182 yX12_pairs cX12_pairs 3 (some .int) 0 := ⟨wd_20_18, wd_20_19, wd_20_20, wd_1_5, wd_20_21, by decide +kernel⟩
theorem lk_X12_185 : LkV RX12 185 yX12_beginnings cX12_beginnings 3 (some .int) 0 := ⟨wd_20_22, wd_20_23, wd_21_0, wd_1_5, wd_21_1, by decide +kernel⟩
theorem lk_X12_119 : LkV RX12 119 yX12_lacking cX12_lacking 4 (some .int) 0 := ⟨wd_22_5, wd_22_6, wd_22_7, wd_1_5, wd_22_8, by decide +kernel⟩
theorem lk_X12_123 : LkS RX12 123 yX12_lowest cX12_lowest 2 (some .int) 1 := ⟨wd_23_2, wd_23_3, wd_1_5, wd_23_4, by decide +kernel⟩
theorem lk_X12_127 : LkV RX12 127 yX12_cost cX12_cost 5 (some .int) 0 := ⟨wd_24_9, wd_23_16, wd_23_17, wd_1_5, wd_23_18, by decide +kernel⟩
theorem lk_X12_130 : LkV RX12 130 yX12_change cX12_change 3 none 1 := ⟨wd_24_10, wd_24_11, wd_24_12, wd_1_5, wd_24_13, by decide +kernel⟩
theorem lk_X12_138 : LkV RX12 138 yX12_goes cX12_goes 4 none 3 := ⟨wd_27_11, wd_27_12, wd_27_13, wd_1_5, wd_27_14, by decide +kernel⟩
section PT
variable {p : Program} {l : Launch} {e : Env} {s : State} {m : MethodId} {args : Array Value} {below : List Frame} {meth : Method} {c : Code} {A : Nat → Prop} {D : va_G} {b : Nat → ClassId} {h : Nat → Nat}
-- FellersOrderModel.count(I)I
abbrev rm_X12_count : Room := { frames := 4, cells := 0, slots := 0, locals := 90 }
def wp_X12_count (a1 : Int32) (u : St) (Post : Int32 → St → Prop) : Prop := (a1 = 0 → (Post (u 0 0) u)) ∧ (a1 = 1 → (wp_X12_pairs u (fun r50 u50 => Post r50 u50))) ∧ (a1 = 2 → (Post (u 0 7) u)) ∧ (a1 = 3 → (wp_X12_findBlocks u (fun _ u60 => Post (u60 0 25) u60))) ∧ (a1 = 4 → (wp_X12_beginnings u (fun r69 u69 => Post r69 u69))) ∧ (a1 = 5 → (Post (u 0 16) u)) ∧ (a1 = 6 → (Post (u 0 8) u)) ∧ (¬ a1 = 0 → ¬ a1 = 1 → ¬ a1 = 2 → ¬ a1 = 3 → ¬ a1 = 4 → ¬ a1 = 5 → ¬ a1 = 6 → (Post (-1 : Int32) u))
set_option maxHeartbeats 4000000 in
set_option maxRecDepth 100000 in
theorem c_X12_count {a1 : Int32} {l : Launch} {D : va_G} {b : Nat → ClassId} {h : Nat → Nat} {u : St} {Post : Int32 → St → Prop} (hw : wp_X12_count a1 u Post) : CtI l yX12_count cX12_count 2 (some .int) rm_X12_count D (tyM b) 21 (gM b h) h [.ref (h 0), .int a1] u Post := by
  refine CtI.of (plainFor_of_name (by decide)) (Nat.le_of_ble_eq_true rfl) ?_
  intro p e s m below meth c A ls X hA O hl
  have X : Cx p s m _ meth c cX12_count 2 (some .int) RX12 D (tyM b) A := X
  obtain ⟨⟨hx, hb, hml, hown, hts⟩, hK, hNs, hlocks, hr⟩ := id X
  have hl : lv_has ls 2 [(0, .ref (h 0)), (1, .int a1)] := hl
  unfold wp_X12_count at hw
  refine lv_iload_n hx hb dX12_count_0 rfl (lv_at hl 1 rfl) ?_
  by_cases s1_0 : a1 = 0
  · have hw := hw.1 s1_0
    refine lv_tableIn (off := 43) (tgt := 44) hx hb dX12_count_1 (by rw [s1_0]; decide) (by rw [s1_0]; decide) (by rw [s1_0]; decide) (by decide) ?_
    refine lv_aload_n hx hb dX12_count_44 rfl (lv_at hl 0 rfl) ?_
    refine gt_X12_75 X O dX12_count_45 ?_
    exact q_iret X O hw dX12_count_48
  · replace hw := hw.2
    by_cases s1_1 : a1 = 1
    · have hw := hw.1 s1_1
      refine lv_tableIn (off := 48) (tgt := 49) hx hb dX12_count_1 (by rw [s1_1]; decide) (by rw [s1_1]; decide) (by rw [s1_1]; decide) (by decide) ?_
      refine lv_aload_n hx hb dX12_count_49 rfl (lv_at hl 0 rfl) ?_
      refine q_civ (rest := []) X O hA 0 (c_X12_pairs hw) lk_X12_182 (by decide) rfl rfl rfl rfl rfl rfl ⟨Nat.le_of_ble_eq_true rfl, Nat.le_of_ble_eq_true rfl⟩ (Nat.le_of_ble_eq_true rfl) hl.1 ⟨Nat.zero_le _, Nat.zero_le _⟩ rfl dX12_count_50 (fun r50 u50 H locs hw O => ?_)
      exact q_iret X O hw dX12_count_53
    · replace hw := hw.2
      by_cases s1_2 : a1 = 2
      · have hw := hw.1 s1_2
        refine lv_tableIn (off := 53) (tgt := 54) hx hb dX12_count_1 (by rw [s1_2]; decide) (by rw [s1_2]; decide) (by rw [s1_2]; decide) (by decide) ?_
        refine lv_aload_n hx hb dX12_count_54 rfl (lv_at hl 0 rfl) ?_
        refine gt_X12_93 X O dX12_count_55 ?_
        exact q_iret X O hw dX12_count_58
      · replace hw := hw.2
        by_cases s1_3 : a1 = 3
        · have hw := hw.1 s1_3
          refine lv_tableIn (off := 58) (tgt := 59) hx hb dX12_count_1 (by rw [s1_3]; decide) (by rw [s1_3]; decide) (by rw [s1_3]; decide) (by decide) ?_
          refine lv_aload_n hx hb dX12_count_59 rfl (lv_at hl 0 rfl) ?_
          refine q_cvv (rest := []) X O hA 0 (c_X12_findBlocks hw) lk_X12_167 (by decide) rfl rfl rfl rfl rfl rfl ⟨Nat.le_of_ble_eq_true rfl, Nat.le_of_ble_eq_true rfl⟩ (Nat.le_of_ble_eq_true rfl) hl.1 ⟨Nat.zero_le _, Nat.zero_le _⟩ rfl dX12_count_60 (fun u60 H locs hw O => ?_)
          refine lv_aload_n hx hb dX12_count_63 rfl (lv_at hl 0 rfl) ?_
          refine gt_X12_161 X O dX12_count_64 ?_
          exact q_iret X O hw dX12_count_67
        · replace hw := hw.2
          by_cases s1_4 : a1 = 4
          · have hw := hw.1 s1_4
            refine lv_tableIn (off := 67) (tgt := 68) hx hb dX12_count_1 (by rw [s1_4]; decide) (by rw [s1_4]; decide) (by rw [s1_4]; decide) (by decide) ?_
            refine lv_aload_n hx hb dX12_count_68 rfl (lv_at hl 0 rfl) ?_
            refine q_civ (rest := []) X O hA 0 (c_X12_beginnings hw) lk_X12_185 (by decide) rfl rfl rfl rfl rfl rfl ⟨Nat.le_of_ble_eq_true rfl, Nat.le_of_ble_eq_true rfl⟩ (Nat.le_of_ble_eq_true rfl) hl.1 ⟨Nat.zero_le _, Nat.zero_le _⟩ rfl dX12_count_69 (fun r69 u69 H locs hw O => ?_)
            exact q_iret X O hw dX12_count_72
          · replace hw := hw.2
            by_cases s1_5 : a1 = 5
            · have hw := hw.1 s1_5
              refine lv_tableIn (off := 72) (tgt := 73) hx hb dX12_count_1 (by rw [s1_5]; decide) (by rw [s1_5]; decide) (by rw [s1_5]; decide) (by decide) ?_
              refine lv_aload_n hx hb dX12_count_73 rfl (lv_at hl 0 rfl) ?_
              refine gt_X12_188 X O dX12_count_74 ?_
              exact q_iret X O hw dX12_count_77
            · replace hw := hw.2
              by_cases s1_6 : a1 = 6
              · have hw := hw.1 s1_6
                refine lv_tableIn (off := 77) (tgt := 78) hx hb dX12_count_1 (by rw [s1_6]; decide) (by rw [s1_6]; decide) (by rw [s1_6]; decide) (by decide) ?_
                refine lv_aload_n hx hb dX12_count_78 rfl (lv_at hl 0 rfl) ?_
                refine gt_X12_86 X O dX12_count_79 ?_
                exact q_iret X O hw dX12_count_82
              · replace hw := hw.2
                have hw := hw s1_0 s1_1 s1_2 s1_3 s1_4 s1_5 s1_6
                refine lv_tableOut (tgt := 83) hx hb dX12_count_1 (by have e0 := ts_ne (k := 0) (by decide) s1_0; have e1 := ts_ne (k := 1) (by decide) s1_1; have e2 := ts_ne (k := 2) (by decide) s1_2; have e3 := ts_ne (k := 3) (by decide) s1_3; have e4 := ts_ne (k := 4) (by decide) s1_4; have e5 := ts_ne (k := 5) (by decide) s1_5; have e6 := ts_ne (k := 6) (by decide) s1_6; omega) (by decide) ?_
                refine lv_iconst (v := -1) hx hb dX12_count_83 (by decide) ?_
                exact q_iret X O hw dX12_count_84
-- FellersOrderModel.lacking()I
abbrev rm_X12_lacking : Room := { frames := 2, cells := 0, slots := 0, locals := 43 }
def wb_X12_lacking_8 (Post : Int32 → St → Prop) (K8 : Int32 → Int32 → St → Prop) (x1 : Int32) (x2 : Int32) (u : St) : Prop := (((u 0 7) ≤ x2) → (Post (-1 : Int32) (su u 0 17 ((((1 : Int32) <<< ((u 0 0) &&& 31)) - (1 : Int32)) &&& (x1 ^^^ (-1 : Int32)))))) ∧ ((¬ (u 0 7) ≤ x2) → (vp_in x2 12 ∧ (vp_in (u 6 (Int32.toNatClampNeg x2)) 12 ∧ (((((u 5 (Int32.toNatClampNeg (u 6 (Int32.toNatClampNeg x2)))) &&& (x1 ^^^ (-1 : Int32))) = 0) → (vp_in x2 12 ∧ (K8 (x1 ||| ((1 : Int32) <<< ((u 6 (Int32.toNatClampNeg x2)) &&& 31))) (x2 + 1) u))) ∧ ((¬ ((u 5 (Int32.toNatClampNeg (u 6 (Int32.toNatClampNeg x2)))) &&& (x1 ^^^ (-1 : Int32))) = 0) → (Post x2 (su u 0 17 ((u 5 (Int32.toNatClampNeg (u 6 (Int32.toNatClampNeg x2)))) &&& (x1 ^^^ (-1 : Int32))))))))))
set_option maxHeartbeats 4000000 in
set_option maxRecDepth 100000 in
theorem tb_X12_lacking_8 (X : Cx p s m args meth c cX12_lacking 4 (some .int) RX12 D (tyM b) A) (hA : ∀ q, s.heap.size ≤ q → A q) {Post : Int32 → St → Prop} {K8 : Int32 → Int32 → St → Prop} (k8 : ∀ (x1 : Int32) (x2 : Int32) (u : St) (H : Heap) (locs : List Loc) (ls : Array Slot), K8 x1 x2 u → wO D 21 (gM b h) h u A s.heap H locs → lv_has ls 4 [(0, .ref (h 0)), (1, .int x1), (2, .int x2)] → W p l e rm_X12_lacking s m args below meth c H locs 0 0 (MQ below (va_Qi Post (cB D (tyM b) 21 (gM b h) h A) A) args s 0 0 A) (F0 m 8 ls [])) : ∀ (x1 : Int32) (x2 : Int32) (u : St) (H : Heap) (locs : List Loc) (ls : Array Slot), wb_X12_lacking_8 Post K8 x1 x2 u → wO D 21 (gM b h) h u A s.heap H locs → lv_has ls 4 [(0, .ref (h 0)), (1, .int x1), (2, .int x2)] → W p l e rm_X12_lacking s m args below meth c H locs 0 0 (MQ below (va_Qi Post (cB D (tyM b) 21 (gM b h) h A) A) args s 0 0 A) (F0 m 8 ls []) := by
  obtain ⟨⟨hx, hb, hml, hown, hts⟩, hK, hNs, hlocks, hr⟩ := id X
  intro x1 x2 u H locs ls hw O hl
  unfold wb_X12_lacking_8 at hw
  refine lv_iload_n hx hb dX12_lacking_8 rfl (lv_at hl 2 rfl) ?_
  refine lv_aload_n hx hb dX12_lacking_9 rfl (lv_at hl 0 rfl) ?_
  refine gt_X12_93 X O dX12_lacking_10 ?_
  refine lv_icmp_ge (tgt := 60) hx hb dX12_lacking_13 (by decide) (fun c13 => ?_) (fun c13 => ?_)
  · have hw := hw.1 c13
    refine lv_aload_n hx hb dX12_lacking_60 rfl (lv_at hl 0 rfl) ?_
    refine lv_iconst (v := 1) hx hb dX12_lacking_61 (by decide) ?_
    refine lv_aload_n hx hb dX12_lacking_62 rfl (lv_at hl 0 rfl) ?_
    refine gt_X12_75 X O dX12_lacking_63 ?_
    refine lv_ishl hx hb dX12_lacking_66 ?_
    refine lv_iconst (v := 1) hx hb dX12_lacking_67 (by decide) ?_
    refine lv_isub hx hb dX12_lacking_68 ?_
    refine lv_iload_n hx hb dX12_lacking_69 rfl (lv_at hl 1 rfl) ?_
    refine lv_iconst (v := -1) hx hb dX12_lacking_70 (by decide) ?_
    refine lv_ixor hx hb dX12_lacking_71 ?_
    refine lv_iand hx hb dX12_lacking_72 ?_
    refine pt_X12_116 X O dX12_lacking_73 (fun H locs O => ?_)
    refine lv_iconst (v := -1) hx hb dX12_lacking_76 (by decide) ?_
    exact q_iret X O hw dX12_lacking_77
  · have hw := hw.2 c13
    refine lv_aload_n hx hb dX12_lacking_16 rfl (lv_at hl 0 rfl) ?_
    refine gt_X12_22 X O dX12_lacking_17 ?_
    refine lv_aload_n hx hb dX12_lacking_20 rfl (lv_at hl 0 rfl) ?_
    refine gt_X12_25 X O dX12_lacking_21 ?_
    refine lv_iload_n hx hb dX12_lacking_24 rfl (lv_at hl 2 rfl) ?_
    obtain ⟨i25, hw⟩ := hw
    refine q_ild X O 6 0 (by decide) rfl rfl i25 dX12_lacking_25 ?_
    obtain ⟨i26, hw⟩ := hw
    refine q_ild X O 5 0 (by decide) rfl rfl i26 dX12_lacking_26 ?_
    refine lv_iload_n hx hb dX12_lacking_27 rfl (lv_at hl 1 rfl) ?_
    refine lv_iconst (v := -1) hx hb dX12_lacking_28 (by decide) ?_
    refine lv_ixor hx hb dX12_lacking_29 ?_
    refine lv_iand hx hb dX12_lacking_30 ?_
    refine lv_istore_n (lv' := [(3, .int ((u 5 (Int32.toNatClampNeg (u 6 (Int32.toNatClampNeg x2)))) &&& (x1 ^^^ (-1 : Int32)))), (0, .ref (h 0)), (1, .int x1), (2, .int x2)]) hx hb dX12_lacking_31 rfl hl (by decide) rfl (fun ls hl => ?_)
    refine lv_iload_n hx hb dX12_lacking_32 rfl (lv_at hl 0 rfl) ?_
    refine lv_if_eq (tgt := 43) hx hb dX12_lacking_33 (by decide) (fun c33 => ?_) (fun c33 => ?_)
    · have hw := hw.1 c33
      refine lv_iload_n hx hb dX12_lacking_43 rfl (lv_at hl 2 rfl) ?_
      refine lv_iconst (v := 1) hx hb dX12_lacking_44 (by decide) ?_
      refine lv_aload_n hx hb dX12_lacking_45 rfl (lv_at hl 1 rfl) ?_
      refine gt_X12_25 X O dX12_lacking_46 ?_
      refine lv_iload_n hx hb dX12_lacking_49 rfl (lv_at hl 3 rfl) ?_
      obtain ⟨i50, hw⟩ := hw
      refine q_ild X O 6 0 (by decide) rfl rfl i50 dX12_lacking_50 ?_
      refine lv_ishl hx hb dX12_lacking_51 ?_
      refine lv_ior hx hb dX12_lacking_52 ?_
      refine lv_istore_n (lv' := [(1, .int (x1 ||| ((1 : Int32) <<< ((u 6 (Int32.toNatClampNeg x2)) &&& 31)))), (3, .int ((u 5 (Int32.toNatClampNeg (u 6 (Int32.toNatClampNeg x2)))) &&& (x1 ^^^ (-1 : Int32)))), (0, .ref (h 0)), (2, .int x2)]) hx hb dX12_lacking_53 rfl hl (by decide) rfl (fun ls hl => ?_)
      refine lv_iinc (v := x2 + 1) (lv' := [(2, .int (x2 + 1)), (1, .int (x1 ||| ((1 : Int32) <<< ((u 6 (Int32.toNatClampNeg x2)) &&& 31)))), (3, .int ((u 5 (Int32.toNatClampNeg (u 6 (Int32.toNatClampNeg x2)))) &&& (x1 ^^^ (-1 : Int32)))), (0, .ref (h 0))]) hx hb dX12_lacking_54 hl (k := 3) rfl rfl (by decide) rfl (fun ls hl => ?_)
      refine lv_goto (tgt := 8) hx hb dX12_lacking_57 (by decide) ?_
      exact k8 _ _ _ _ _ _ hw O (lv_sub hl [3, 1, 0] rfl)
    · have hw := hw.2 c33
      refine lv_aload_n hx hb dX12_lacking_36 rfl (lv_at hl 1 rfl) ?_
      refine lv_iload_n hx hb dX12_lacking_37 rfl (lv_at hl 0 rfl) ?_
      refine pt_X12_116 X O dX12_lacking_38 (fun H locs O => ?_)
      refine lv_iload_n hx hb dX12_lacking_41 rfl (lv_at hl 3 rfl) ?_
      exact q_iret X O hw dX12_lacking_42
def wl_X12_lacking_8 (Post : Int32 → St → Prop) : Nat → Int32 → Int32 → St → Prop
  | 0 => fun _ _ _ => False
  | n + 1 => fun x1 x2 u => wb_X12_lacking_8 Post (wl_X12_lacking_8 Post n) x1 x2 u
set_option maxHeartbeats 4000000 in
set_option maxRecDepth 100000 in
theorem tl_X12_lacking_8 (X : Cx p s m args meth c cX12_lacking 4 (some .int) RX12 D (tyM b) A) (hA : ∀ q, s.heap.size ≤ q → A q) {Post : Int32 → St → Prop} : ∀ n : Nat, ∀ (x1 : Int32) (x2 : Int32) (u : St) (H : Heap) (locs : List Loc) (ls : Array Slot), (wl_X12_lacking_8 Post n) x1 x2 u → wO D 21 (gM b h) h u A s.heap H locs → lv_has ls 4 [(0, .ref (h 0)), (1, .int x1), (2, .int x2)] → W p l e rm_X12_lacking s m args below meth c H locs 0 0 (MQ below (va_Qi Post (cB D (tyM b) 21 (gM b h) h A) A) args s 0 0 A) (F0 m 8 ls []) := by
  intro n
  induction n with
  | zero => intro x1 x2 u H locs ls hw; exact False.elim hw
  | succ n ih => intro x1 x2 u H locs ls hw O hl; exact tb_X12_lacking_8 X hA ih x1 x2 u H locs ls hw O hl
def wp_X12_lacking (u : St) (Post : Int32 → St → Prop) : Prop := wp_X12_close u (fun _ u1 => ∃ n : Nat, wl_X12_lacking_8 Post n (0 : Int32) (0 : Int32) u1)
set_option maxHeartbeats 4000000 in
set_option maxRecDepth 100000 in
theorem c_X12_lacking {l : Launch} {D : va_G} {b : Nat → ClassId} {h : Nat → Nat} {u : St} {Post : Int32 → St → Prop} (hw : wp_X12_lacking u Post) : CtI l yX12_lacking cX12_lacking 4 (some .int) rm_X12_lacking D (tyM b) 21 (gM b h) h [.ref (h 0)] u Post := by
  refine CtI.of (plainFor_of_name (by decide)) (Nat.le_of_ble_eq_true rfl) ?_
  intro p e s m below meth c A ls X hA O hl
  have X : Cx p s m _ meth c cX12_lacking 4 (some .int) RX12 D (tyM b) A := X
  obtain ⟨⟨hx, hb, hml, hown, hts⟩, hK, hNs, hlocks, hr⟩ := id X
  have hl : lv_has ls 4 [(0, .ref (h 0))] := hl
  unfold wp_X12_lacking at hw
  refine lv_aload_n hx hb dX12_lacking_0 rfl (lv_at hl 0 rfl) ?_
  refine q_cvv (rest := []) X O hA 0 (c_X12_close hw) lk_X12_110 (by decide) rfl rfl rfl rfl rfl rfl ⟨Nat.le_of_ble_eq_true rfl, Nat.le_of_ble_eq_true rfl⟩ (Nat.le_of_ble_eq_true rfl) hl.1 ⟨Nat.zero_le _, Nat.zero_le _⟩ rfl dX12_lacking_1 (fun u1 H locs hw O => ?_)
  refine lv_iconst (v := 0) hx hb dX12_lacking_4 (by decide) ?_
  refine lv_istore_n (lv' := [(1, .int (0 : Int32)), (0, .ref (h 0))]) hx hb dX12_lacking_5 rfl hl (by decide) rfl (fun ls hl => ?_)
  refine lv_iconst (v := 0) hx hb dX12_lacking_6 (by decide) ?_
  refine lv_istore_n (lv' := [(2, .int (0 : Int32)), (1, .int (0 : Int32)), (0, .ref (h 0))]) hx hb dX12_lacking_7 rfl hl (by decide) rfl (fun ls hl => ?_)
  obtain ⟨n, hw⟩ := hw
  exact tl_X12_lacking_8 X hA n _ _ _ _ _ _ hw O (lv_sub hl [2, 1, 0] rfl)
-- FellersOrderModel.keeps()I
abbrev rm_X12_keeps : Room := { frames := 3, cells := 0, slots := 0, locals := 66 }
def wp_X12_keeps (u : St) (Post : Int32 → St → Prop) : Prop := wp_X12_lacking u (fun r1 u1 => ((¬ r1 = (-1 : Int32)) → (Post (0 : Int32) u1)) ∧ ((r1 = (-1 : Int32)) → (((¬ (u1 0 17) = 0) → (Post (0 : Int32) u1)) ∧ (((u1 0 17) = 0) → (Post (1 : Int32) u1)))))
set_option maxHeartbeats 4000000 in
set_option maxRecDepth 100000 in
theorem c_X12_keeps {l : Launch} {D : va_G} {b : Nat → ClassId} {h : Nat → Nat} {u : St} {Post : Int32 → St → Prop} (hw : wp_X12_keeps u Post) : CtI l yX12_keeps cX12_keeps 1 (some .int) rm_X12_keeps D (tyM b) 21 (gM b h) h [.ref (h 0)] u Post := by
  refine CtI.of (plainFor_of_name (by decide)) (Nat.le_of_ble_eq_true rfl) ?_
  intro p e s m below meth c A ls X hA O hl
  have X : Cx p s m _ meth c cX12_keeps 1 (some .int) RX12 D (tyM b) A := X
  obtain ⟨⟨hx, hb, hml, hown, hts⟩, hK, hNs, hlocks, hr⟩ := id X
  have hl : lv_has ls 1 [(0, .ref (h 0))] := hl
  unfold wp_X12_keeps at hw
  refine lv_aload_n hx hb dX12_keeps_0 rfl (lv_at hl 0 rfl) ?_
  refine q_civ (rest := []) X O hA 0 (c_X12_lacking hw) lk_X12_119 (by decide) rfl rfl rfl rfl rfl rfl ⟨Nat.le_of_ble_eq_true rfl, Nat.le_of_ble_eq_true rfl⟩ (Nat.le_of_ble_eq_true rfl) hl.1 ⟨Nat.zero_le _, Nat.zero_le _⟩ rfl dX12_keeps_1 (fun r1 u1 H locs hw O => ?_)
  refine lv_iconst (v := -1) hx hb dX12_keeps_4 (by decide) ?_
  refine lv_icmp_ne (tgt := 19) hx hb dX12_keeps_5 (by decide) (fun c5 => ?_) (fun c5 => ?_)
  · have hw := hw.1 c5
    refine lv_iconst (v := 0) hx hb dX12_keeps_19 (by decide) ?_
    exact q_iret X O hw dX12_keeps_20
  · have hw := hw.2 c5
    refine lv_aload_n hx hb dX12_keeps_8 rfl (lv_at hl 0 rfl) ?_
    refine gt_X12_116 X O dX12_keeps_9 ?_
    refine lv_if_ne (tgt := 19) hx hb dX12_keeps_12 (by decide) (fun c12 => ?_) (fun c12 => ?_)
    · have hw := hw.1 c12
      refine lv_iconst (v := 0) hx hb dX12_keeps_19 (by decide) ?_
      exact q_iret X O hw dX12_keeps_20
    · have hw := hw.2 c12
      refine lv_iconst (v := 1) hx hb dX12_keeps_15 (by decide) ?_
      refine lv_goto (tgt := 20) hx hb dX12_keeps_16 (by decide) ?_
      exact q_iret X O hw dX12_keeps_20
-- FellersOrderModel.lowest(I)I
abbrev rm_X12_lowest : Room := { frames := 1, cells := 0, slots := 0, locals := 21 }
def wb_X12_lowest_2 (Post : Int32 → St → Prop) (K2 : Int32 → Int32 → St → Prop) (x0 : Int32) (x1 : Int32) (u : St) : Prop := wp_X12_has x0 x1 u (fun r4 u4 => ((¬ r4 = 0) → (Post x1 u4)) ∧ ((r4 = 0) → (K2 x0 (x1 + 1) u4)))
set_option maxHeartbeats 4000000 in
set_option maxRecDepth 100000 in
theorem tb_X12_lowest_2 (X : Cx p s m args meth c cX12_lowest 2 (some .int) RX12 D (tyM b) A) (hA : ∀ q, s.heap.size ≤ q → A q) {Post : Int32 → St → Prop} {K2 : Int32 → Int32 → St → Prop} (k2 : ∀ (x0 : Int32) (x1 : Int32) (u : St) (H : Heap) (locs : List Loc) (ls : Array Slot), K2 x0 x1 u → wO D 21 (gM b h) h u A s.heap H locs → lv_has ls 2 [(0, .int x0), (1, .int x1)] → W p l e rm_X12_lowest s m args below meth c H locs 0 0 (MQ below (va_Qi Post (cB D (tyM b) 21 (gM b h) h A) A) args s 0 0 A) (F0 m 2 ls [])) : ∀ (x0 : Int32) (x1 : Int32) (u : St) (H : Heap) (locs : List Loc) (ls : Array Slot), wb_X12_lowest_2 Post K2 x0 x1 u → wO D 21 (gM b h) h u A s.heap H locs → lv_has ls 2 [(0, .int x0), (1, .int x1)] → W p l e rm_X12_lowest s m args below meth c H locs 0 0 (MQ below (va_Qi Post (cB D (tyM b) 21 (gM b h) h A) A) args s 0 0 A) (F0 m 2 ls []) := by
  obtain ⟨⟨hx, hb, hml, hown, hts⟩, hK, hNs, hlocks, hr⟩ := id X
  intro x0 x1 u H locs ls hw O hl
  unfold wb_X12_lowest_2 at hw
  refine lv_iload_n hx hb dX12_lowest_2 rfl (lv_at hl 0 rfl) ?_
  refine lv_iload_n hx hb dX12_lowest_3 rfl (lv_at hl 1 rfl) ?_
  refine q_cis (rest := []) X O hA (c_X12_has hw) lk_X12_82 rfl rfl rfl ⟨Nat.le_of_ble_eq_true rfl, Nat.le_of_ble_eq_true rfl⟩ (Nat.le_of_ble_eq_true rfl) hl.1 ⟨Nat.zero_le _, Nat.zero_le _⟩ rfl dX12_lowest_4 (fun r4 u4 H locs hw O => ?_)
  refine lv_if_ne (tgt := 16) hx hb dX12_lowest_7 (by decide) (fun c7 => ?_) (fun c7 => ?_)
  · have hw := hw.1 c7
    refine lv_iload_n hx hb dX12_lowest_16 rfl (lv_at hl 1 rfl) ?_
    exact q_iret X O hw dX12_lowest_17
  · have hw := hw.2 c7
    refine lv_iinc (v := x1 + 1) (lv' := [(1, .int (x1 + 1)), (0, .int x0)]) hx hb dX12_lowest_10 hl (k := 1) rfl rfl (by decide) rfl (fun ls hl => ?_)
    refine lv_goto (tgt := 2) hx hb dX12_lowest_13 (by decide) ?_
    exact k2 _ _ _ _ _ _ hw O (lv_sub hl [1, 0] rfl)
def wl_X12_lowest_2 (Post : Int32 → St → Prop) : Nat → Int32 → Int32 → St → Prop
  | 0 => fun _ _ _ => False
  | n + 1 => fun x0 x1 u => wb_X12_lowest_2 Post (wl_X12_lowest_2 Post n) x0 x1 u
set_option maxHeartbeats 4000000 in
set_option maxRecDepth 100000 in
theorem tl_X12_lowest_2 (X : Cx p s m args meth c cX12_lowest 2 (some .int) RX12 D (tyM b) A) (hA : ∀ q, s.heap.size ≤ q → A q) {Post : Int32 → St → Prop} : ∀ n : Nat, ∀ (x0 : Int32) (x1 : Int32) (u : St) (H : Heap) (locs : List Loc) (ls : Array Slot), (wl_X12_lowest_2 Post n) x0 x1 u → wO D 21 (gM b h) h u A s.heap H locs → lv_has ls 2 [(0, .int x0), (1, .int x1)] → W p l e rm_X12_lowest s m args below meth c H locs 0 0 (MQ below (va_Qi Post (cB D (tyM b) 21 (gM b h) h A) A) args s 0 0 A) (F0 m 2 ls []) := by
  intro n
  induction n with
  | zero => intro x0 x1 u H locs ls hw; exact False.elim hw
  | succ n ih => intro x0 x1 u H locs ls hw O hl; exact tb_X12_lowest_2 X hA ih x0 x1 u H locs ls hw O hl
def wp_X12_lowest (a0 : Int32) (u : St) (Post : Int32 → St → Prop) : Prop := ∃ n : Nat, wl_X12_lowest_2 Post n a0 (0 : Int32) u
set_option maxHeartbeats 4000000 in
set_option maxRecDepth 100000 in
theorem c_X12_lowest {a0 : Int32} {l : Launch} {D : va_G} {b : Nat → ClassId} {h : Nat → Nat} {u : St} {Post : Int32 → St → Prop} (hw : wp_X12_lowest a0 u Post) : CtI l yX12_lowest cX12_lowest 2 (some .int) rm_X12_lowest D (tyM b) 21 (gM b h) h [.int a0] u Post := by
  refine CtI.of (plainFor_of_name (by decide)) (Nat.le_of_ble_eq_true rfl) ?_
  intro p e s m below meth c A ls X hA O hl
  have X : Cx p s m _ meth c cX12_lowest 2 (some .int) RX12 D (tyM b) A := X
  obtain ⟨⟨hx, hb, hml, hown, hts⟩, hK, hNs, hlocks, hr⟩ := id X
  have hl : lv_has ls 2 [(0, .int a0)] := hl
  unfold wp_X12_lowest at hw
  refine lv_iconst (v := 0) hx hb dX12_lowest_0 (by decide) ?_
  refine lv_istore_n (lv' := [(1, .int (0 : Int32)), (0, .int a0)]) hx hb dX12_lowest_1 rfl hl (by decide) rfl (fun ls hl => ?_)
  obtain ⟨n, hw⟩ := hw
  exact tl_X12_lowest_2 X hA n _ _ _ _ _ _ hw O (lv_sub hl [1, 0] rfl)
-- FellersOrderModel.why(I)I
abbrev rm_X12_why : Room := { frames := 3, cells := 0, slots := 0, locals := 66 }
def wb_X12_why_28 (Post : Int32 → St → Prop) (x1 : Int32) (x2 : Int32) (u : St) : Prop := ((¬ x1 = (1 : Int32)) → (((¬ x2 = (-1 : Int32)) → (vp_in x2 12 ∧ (Post (u 6 (Int32.toNatClampNeg x2)) u))) ∧ ((x2 = (-1 : Int32)) → (Post (-2 : Int32) u)))) ∧ ((x1 = (1 : Int32)) → (wp_X12_lowest (u 0 17) u (fun r37 u37 => Post r37 u37)))
set_option maxHeartbeats 4000000 in
set_option maxRecDepth 100000 in
theorem tb_X12_why_28 (X : Cx p s m args meth c cX12_why 3 (some .int) RX12 D (tyM b) A) (hA : ∀ q, s.heap.size ≤ q → A q) {Post : Int32 → St → Prop} : ∀ (x1 : Int32) (x2 : Int32) (u : St) (H : Heap) (locs : List Loc) (ls : Array Slot), wb_X12_why_28 Post x1 x2 u → wO D 21 (gM b h) h u A s.heap H locs → lv_has ls 3 [(0, .ref (h 0)), (1, .int x1), (2, .int x2)] → W p l e rm_X12_why s m args below meth c H locs 0 0 (MQ below (va_Qi Post (cB D (tyM b) 21 (gM b h) h A) A) args s 0 0 A) (F0 m 28 ls []) := by
  obtain ⟨⟨hx, hb, hml, hown, hts⟩, hK, hNs, hlocks, hr⟩ := id X
  intro x1 x2 u H locs ls hw O hl
  unfold wb_X12_why_28 at hw
  refine lv_iload_n hx hb dX12_why_28 rfl (lv_at hl 1 rfl) ?_
  refine lv_iconst (v := 1) hx hb dX12_why_29 (by decide) ?_
  refine lv_icmp_ne (tgt := 43) hx hb dX12_why_30 (by decide) (fun c30 => ?_) (fun c30 => ?_)
  · have hw := hw.1 c30
    refine lv_iload_n hx hb dX12_why_43 rfl (lv_at hl 2 rfl) ?_
    refine lv_iconst (v := -1) hx hb dX12_why_44 (by decide) ?_
    refine lv_icmp_ne (tgt := 53) hx hb dX12_why_45 (by decide) (fun c45 => ?_) (fun c45 => ?_)
    · have hw := hw.1 c45
      refine lv_aload_n hx hb dX12_why_53 rfl (lv_at hl 0 rfl) ?_
      refine gt_X12_25 X O dX12_why_54 ?_
      refine lv_iload_n hx hb dX12_why_57 rfl (lv_at hl 2 rfl) ?_
      obtain ⟨i58, hw⟩ := hw
      refine q_ild X O 6 0 (by decide) rfl rfl i58 dX12_why_58 ?_
      exact q_iret X O hw dX12_why_59
    · have hw := hw.2 c45
      refine lv_bipush (v := -2) hx hb dX12_why_48 (by decide) ?_
      refine lv_goto (tgt := 59) hx hb dX12_why_50 (by decide) ?_
      exact q_iret X O hw dX12_why_59
  · have hw := hw.2 c30
    refine lv_aload_n hx hb dX12_why_33 rfl (lv_at hl 0 rfl) ?_
    refine gt_X12_116 X O dX12_why_34 ?_
    refine q_cis (rest := []) X O hA (c_X12_lowest hw) lk_X12_123 rfl rfl rfl ⟨Nat.le_of_ble_eq_true rfl, Nat.le_of_ble_eq_true rfl⟩ (Nat.le_of_ble_eq_true rfl) hl.1 ⟨Nat.zero_le _, Nat.zero_le _⟩ rfl dX12_why_37 (fun r37 u37 H locs hw O => ?_)
    refine lv_goto (tgt := 59) hx hb dX12_why_40 (by decide) ?_
    exact q_iret X O hw dX12_why_59
def wp_X12_why (a1 : Int32) (u : St) (Post : Int32 → St → Prop) : Prop := wp_X12_lacking u (fun r1 u1 => wp_X12_in a1 (0 : Int32) (1 : Int32) u1 (fun r8 u8 => ((r8 = 0) → (Post (-1 : Int32) u8)) ∧ ((¬ r8 = 0) → (((¬ r1 = (-1 : Int32)) → (wb_X12_why_28 Post a1 r1 u8)) ∧ ((r1 = (-1 : Int32)) → (((¬ (u8 0 17) = 0) → (wb_X12_why_28 Post a1 r1 u8)) ∧ (((u8 0 17) = 0) → (Post (-1 : Int32) u8))))))))
set_option maxHeartbeats 4000000 in
set_option maxRecDepth 100000 in
theorem c_X12_why {a1 : Int32} {l : Launch} {D : va_G} {b : Nat → ClassId} {h : Nat → Nat} {u : St} {Post : Int32 → St → Prop} (hw : wp_X12_why a1 u Post) : CtI l yX12_why cX12_why 3 (some .int) rm_X12_why D (tyM b) 21 (gM b h) h [.ref (h 0), .int a1] u Post := by
  refine CtI.of (plainFor_of_name (by decide)) (Nat.le_of_ble_eq_true rfl) ?_
  intro p e s m below meth c A ls X hA O hl
  have X : Cx p s m _ meth c cX12_why 3 (some .int) RX12 D (tyM b) A := X
  obtain ⟨⟨hx, hb, hml, hown, hts⟩, hK, hNs, hlocks, hr⟩ := id X
  have hl : lv_has ls 3 [(0, .ref (h 0)), (1, .int a1)] := hl
  unfold wp_X12_why at hw
  refine lv_aload_n hx hb dX12_why_0 rfl (lv_at hl 0 rfl) ?_
  refine q_civ (rest := []) X O hA 0 (c_X12_lacking hw) lk_X12_119 (by decide) rfl rfl rfl rfl rfl rfl ⟨Nat.le_of_ble_eq_true rfl, Nat.le_of_ble_eq_true rfl⟩ (Nat.le_of_ble_eq_true rfl) hl.1 ⟨Nat.zero_le _, Nat.zero_le _⟩ rfl dX12_why_1 (fun r1 u1 H locs hw O => ?_)
  refine lv_istore_n (lv' := [(2, .int r1), (0, .ref (h 0)), (1, .int a1)]) hx hb dX12_why_4 rfl hl (by decide) rfl (fun ls hl => ?_)
  refine lv_iload_n hx hb dX12_why_5 rfl (lv_at hl 2 rfl) ?_
  refine lv_iconst (v := 0) hx hb dX12_why_6 (by decide) ?_
  refine lv_iconst (v := 1) hx hb dX12_why_7 (by decide) ?_
  refine q_cis (rest := []) X O hA (c_X12_in hw) lk_X12_78 rfl rfl rfl ⟨Nat.le_of_ble_eq_true rfl, Nat.le_of_ble_eq_true rfl⟩ (Nat.le_of_ble_eq_true rfl) hl.1 ⟨Nat.zero_le _, Nat.zero_le _⟩ rfl dX12_why_8 (fun r8 u8 H locs hw O => ?_)
  refine lv_if_eq (tgt := 26) hx hb dX12_why_11 (by decide) (fun c11 => ?_) (fun c11 => ?_)
  · have hw := hw.1 c11
    refine lv_iconst (v := -1) hx hb dX12_why_26 (by decide) ?_
    exact q_iret X O hw dX12_why_27
  · have hw := hw.2 c11
    refine lv_iload_n hx hb dX12_why_14 rfl (lv_at hl 0 rfl) ?_
    refine lv_iconst (v := -1) hx hb dX12_why_15 (by decide) ?_
    refine lv_icmp_ne (tgt := 28) hx hb dX12_why_16 (by decide) (fun c16 => ?_) (fun c16 => ?_)
    · have hw := hw.1 c16
      exact tb_X12_why_28 X hA _ _ _ _ _ _ hw O (lv_sub hl [1, 2, 0] rfl)
    · have hw := hw.2 c16
      refine lv_aload_n hx hb dX12_why_19 rfl (lv_at hl 1 rfl) ?_
      refine gt_X12_116 X O dX12_why_20 ?_
      refine lv_if_ne (tgt := 28) hx hb dX12_why_23 (by decide) (fun c23 => ?_) (fun c23 => ?_)
      · have hw := hw.1 c23
        exact tb_X12_why_28 X hA _ _ _ _ _ _ hw O (lv_sub hl [1, 2, 0] rfl)
      · have hw := hw.2 c23
        refine lv_iconst (v := -1) hx hb dX12_why_26 (by decide) ?_
        exact q_iret X O hw dX12_why_27
-- FellersOrderModel.cost()I
abbrev rm_X12_cost : Room := { frames := 0, cells := 0, slots := 0, locals := 0 }
def wb_X12_cost_44 (Post : Int32 → St → Prop) (K6 : Int32 → Int32 → Int32 → St → Prop) (x2 : Int32) (x3 : Int32) (x4 : Int32) (t0 : Int32) (u : St) : Prop := vp_in x4 12 ∧ (vp_in x4 12 ∧ (K6 (t0 + (u 1 (Int32.toNatClampNeg x4))) (x2 + ((u 2 (Int32.toNatClampNeg x4)) * (t0 + (u 1 (Int32.toNatClampNeg x4))))) (x3 + 1) u))
set_option maxHeartbeats 4000000 in
set_option maxRecDepth 100000 in
theorem tb_X12_cost_44 (X : Cx p s m args meth c cX12_cost 5 (some .int) RX12 D (tyM b) A) (hA : ∀ q, s.heap.size ≤ q → A q) {Post : Int32 → St → Prop} {K6 : Int32 → Int32 → Int32 → St → Prop} (k6 : ∀ (x1 : Int32) (x2 : Int32) (x3 : Int32) (u : St) (H : Heap) (locs : List Loc) (ls : Array Slot), K6 x1 x2 x3 u → wO D 21 (gM b h) h u A s.heap H locs → lv_has ls 5 [(0, .ref (h 0)), (1, .int x1), (2, .int x2), (3, .int x3)] → W p l e rm_X12_cost s m args below meth c H locs 0 0 (MQ below (va_Qi Post (cB D (tyM b) 21 (gM b h) h A) A) args s 0 0 A) (F0 m 6 ls [])) : ∀ (x2 : Int32) (x3 : Int32) (x4 : Int32) (t0 : Int32) (u : St) (H : Heap) (locs : List Loc) (ls : Array Slot), wb_X12_cost_44 Post K6 x2 x3 x4 t0 u → wO D 21 (gM b h) h u A s.heap H locs → lv_has ls 5 [(0, .ref (h 0)), (2, .int x2), (3, .int x3), (4, .int x4)] → W p l e rm_X12_cost s m args below meth c H locs 0 0 (MQ below (va_Qi Post (cB D (tyM b) 21 (gM b h) h A) A) args s 0 0 A) (F0 m 44 ls [.int t0]) := by
  obtain ⟨⟨hx, hb, hml, hown, hts⟩, hK, hNs, hlocks, hr⟩ := id X
  intro x2 x3 x4 t0 u H locs ls hw O hl
  unfold wb_X12_cost_44 at hw
  refine lv_aload_n hx hb dX12_cost_44 rfl (lv_at hl 0 rfl) ?_
  refine gt_X12_7 X O dX12_cost_45 ?_
  refine lv_iload hx hb dX12_cost_48 (lv_at hl 3 rfl) ?_
  obtain ⟨i50, hw⟩ := hw
  refine q_ild X O 1 0 (by decide) rfl rfl i50 dX12_cost_50 ?_
  refine lv_iadd hx hb dX12_cost_51 ?_
  refine lv_istore_n (lv' := [(1, .int (t0 + (u 1 (Int32.toNatClampNeg x4)))), (0, .ref (h 0)), (2, .int x2), (3, .int x3), (4, .int x4)]) hx hb dX12_cost_52 rfl hl (by decide) rfl (fun ls hl => ?_)
  refine lv_iload_n hx hb dX12_cost_53 rfl (lv_at hl 2 rfl) ?_
  refine lv_aload_n hx hb dX12_cost_54 rfl (lv_at hl 1 rfl) ?_
  refine gt_X12_13 X O dX12_cost_55 ?_
  refine lv_iload hx hb dX12_cost_58 (lv_at hl 4 rfl) ?_
  obtain ⟨i60, hw⟩ := hw
  refine q_ild X O 2 0 (by decide) rfl rfl i60 dX12_cost_60 ?_
  refine lv_iload_n hx hb dX12_cost_61 rfl (lv_at hl 0 rfl) ?_
  refine lv_imul hx hb dX12_cost_62 ?_
  refine lv_iadd hx hb dX12_cost_63 ?_
  refine lv_istore_n (lv' := [(2, .int (x2 + ((u 2 (Int32.toNatClampNeg x4)) * (t0 + (u 1 (Int32.toNatClampNeg x4)))))), (1, .int (t0 + (u 1 (Int32.toNatClampNeg x4)))), (0, .ref (h 0)), (3, .int x3), (4, .int x4)]) hx hb dX12_cost_64 rfl hl (by decide) rfl (fun ls hl => ?_)
  refine lv_iinc (v := x3 + 1) (lv' := [(3, .int (x3 + 1)), (2, .int (x2 + ((u 2 (Int32.toNatClampNeg x4)) * (t0 + (u 1 (Int32.toNatClampNeg x4)))))), (1, .int (t0 + (u 1 (Int32.toNatClampNeg x4)))), (0, .ref (h 0)), (4, .int x4)]) hx hb dX12_cost_65 hl (k := 3) rfl rfl (by decide) rfl (fun ls hl => ?_)
  refine lv_goto (tgt := 6) hx hb dX12_cost_68 (by decide) ?_
  exact k6 _ _ _ _ _ _ _ hw O (lv_sub hl [3, 2, 1, 0] rfl)
def wb_X12_cost_6 (Post : Int32 → St → Prop) (K6 : Int32 → Int32 → Int32 → St → Prop) (x1 : Int32) (x2 : Int32) (x3 : Int32) (u : St) : Prop := (((u 0 7) ≤ x3) → (Post x2 u)) ∧ ((¬ (u 0 7) ≤ x3) → (vp_in x3 12 ∧ (vp_in (u 6 (Int32.toNatClampNeg x3)) 12 ∧ (((x1 ≤ (u 3 (Int32.toNatClampNeg (u 6 (Int32.toNatClampNeg x3))))) → (vp_in (u 6 (Int32.toNatClampNeg x3)) 12 ∧ (wb_X12_cost_44 Post K6 x2 x3 (u 6 (Int32.toNatClampNeg x3)) (u 3 (Int32.toNatClampNeg (u 6 (Int32.toNatClampNeg x3)))) u))) ∧ ((¬ x1 ≤ (u 3 (Int32.toNatClampNeg (u 6 (Int32.toNatClampNeg x3))))) → (wb_X12_cost_44 Post K6 x2 x3 (u 6 (Int32.toNatClampNeg x3)) x1 u))))))
set_option maxHeartbeats 4000000 in
set_option maxRecDepth 100000 in
theorem tb_X12_cost_6 (X : Cx p s m args meth c cX12_cost 5 (some .int) RX12 D (tyM b) A) (hA : ∀ q, s.heap.size ≤ q → A q) {Post : Int32 → St → Prop} {K6 : Int32 → Int32 → Int32 → St → Prop} (k6 : ∀ (x1 : Int32) (x2 : Int32) (x3 : Int32) (u : St) (H : Heap) (locs : List Loc) (ls : Array Slot), K6 x1 x2 x3 u → wO D 21 (gM b h) h u A s.heap H locs → lv_has ls 5 [(0, .ref (h 0)), (1, .int x1), (2, .int x2), (3, .int x3)] → W p l e rm_X12_cost s m args below meth c H locs 0 0 (MQ below (va_Qi Post (cB D (tyM b) 21 (gM b h) h A) A) args s 0 0 A) (F0 m 6 ls [])) : ∀ (x1 : Int32) (x2 : Int32) (x3 : Int32) (u : St) (H : Heap) (locs : List Loc) (ls : Array Slot), wb_X12_cost_6 Post K6 x1 x2 x3 u → wO D 21 (gM b h) h u A s.heap H locs → lv_has ls 5 [(0, .ref (h 0)), (1, .int x1), (2, .int x2), (3, .int x3)] → W p l e rm_X12_cost s m args below meth c H locs 0 0 (MQ below (va_Qi Post (cB D (tyM b) 21 (gM b h) h A) A) args s 0 0 A) (F0 m 6 ls []) := by
  obtain ⟨⟨hx, hb, hml, hown, hts⟩, hK, hNs, hlocks, hr⟩ := id X
  intro x1 x2 x3 u H locs ls hw O hl
  unfold wb_X12_cost_6 at hw
  refine lv_iload_n hx hb dX12_cost_6 rfl (lv_at hl 3 rfl) ?_
  refine lv_aload_n hx hb dX12_cost_7 rfl (lv_at hl 0 rfl) ?_
  refine gt_X12_93 X O dX12_cost_8 ?_
  refine lv_icmp_ge (tgt := 71) hx hb dX12_cost_11 (by decide) (fun c11 => ?_) (fun c11 => ?_)
  · have hw := hw.1 c11
    refine lv_iload_n hx hb dX12_cost_71 rfl (lv_at hl 2 rfl) ?_
    exact q_iret X O hw dX12_cost_72
  · have hw := hw.2 c11
    refine lv_aload_n hx hb dX12_cost_14 rfl (lv_at hl 0 rfl) ?_
    refine gt_X12_25 X O dX12_cost_15 ?_
    refine lv_iload_n hx hb dX12_cost_18 rfl (lv_at hl 3 rfl) ?_
    obtain ⟨i19, hw⟩ := hw
    refine q_ild X O 6 0 (by decide) rfl rfl i19 dX12_cost_19 ?_
    refine lv_istore (lv' := [(4, .int (u 6 (Int32.toNatClampNeg x3))), (0, .ref (h 0)), (1, .int x1), (2, .int x2), (3, .int x3)]) hx hb dX12_cost_20 hl (by decide) rfl (fun ls hl => ?_)
    refine lv_iload_n hx hb dX12_cost_22 rfl (lv_at hl 2 rfl) ?_
    refine lv_aload_n hx hb dX12_cost_23 rfl (lv_at hl 1 rfl) ?_
    refine gt_X12_16 X O dX12_cost_24 ?_
    refine lv_iload hx hb dX12_cost_27 (lv_at hl 0 rfl) ?_
    obtain ⟨i29, hw⟩ := hw
    refine q_ild X O 3 0 (by decide) rfl rfl i29 dX12_cost_29 ?_
    refine lv_icmp_le (tgt := 37) hx hb dX12_cost_30 (by decide) (fun c30 => ?_) (fun c30 => ?_)
    · have hw := hw.1 c30
      refine lv_aload_n hx hb dX12_cost_37 rfl (lv_at hl 1 rfl) ?_
      refine gt_X12_16 X O dX12_cost_38 ?_
      refine lv_iload hx hb dX12_cost_41 (lv_at hl 0 rfl) ?_
      obtain ⟨i43, hw⟩ := hw
      refine q_ild X O 3 0 (by decide) rfl rfl i43 dX12_cost_43 ?_
      exact tb_X12_cost_44 X hA k6 _ _ _ _ _ _ _ _ hw O (lv_sub hl [1, 3, 4, 0] rfl)
    · have hw := hw.2 c30
      refine lv_iload_n hx hb dX12_cost_33 rfl (lv_at hl 2 rfl) ?_
      refine lv_goto (tgt := 44) hx hb dX12_cost_34 (by decide) ?_
      exact tb_X12_cost_44 X hA k6 _ _ _ _ _ _ _ _ hw O (lv_sub hl [1, 3, 4, 0] rfl)
def wl_X12_cost_6 (Post : Int32 → St → Prop) : Nat → Int32 → Int32 → Int32 → St → Prop
  | 0 => fun _ _ _ _ => False
  | n + 1 => fun x1 x2 x3 u => wb_X12_cost_6 Post (wl_X12_cost_6 Post n) x1 x2 x3 u
set_option maxHeartbeats 4000000 in
set_option maxRecDepth 100000 in
theorem tl_X12_cost_6 (X : Cx p s m args meth c cX12_cost 5 (some .int) RX12 D (tyM b) A) (hA : ∀ q, s.heap.size ≤ q → A q) {Post : Int32 → St → Prop} : ∀ n : Nat, ∀ (x1 : Int32) (x2 : Int32) (x3 : Int32) (u : St) (H : Heap) (locs : List Loc) (ls : Array Slot), (wl_X12_cost_6 Post n) x1 x2 x3 u → wO D 21 (gM b h) h u A s.heap H locs → lv_has ls 5 [(0, .ref (h 0)), (1, .int x1), (2, .int x2), (3, .int x3)] → W p l e rm_X12_cost s m args below meth c H locs 0 0 (MQ below (va_Qi Post (cB D (tyM b) 21 (gM b h) h A) A) args s 0 0 A) (F0 m 6 ls []) := by
  intro n
  induction n with
  | zero => intro x1 x2 x3 u H locs ls hw; exact False.elim hw
  | succ n ih => intro x1 x2 x3 u H locs ls hw O hl; exact tb_X12_cost_6 X hA ih x1 x2 x3 u H locs ls hw O hl
def wp_X12_cost (u : St) (Post : Int32 → St → Prop) : Prop := ∃ n : Nat, wl_X12_cost_6 Post n (0 : Int32) (0 : Int32) (0 : Int32) u
set_option maxHeartbeats 4000000 in
set_option maxRecDepth 100000 in
theorem c_X12_cost {l : Launch} {D : va_G} {b : Nat → ClassId} {h : Nat → Nat} {u : St} {Post : Int32 → St → Prop} (hw : wp_X12_cost u Post) : CtI l yX12_cost cX12_cost 5 (some .int) rm_X12_cost D (tyM b) 21 (gM b h) h [.ref (h 0)] u Post := by
  refine CtI.of (plainFor_of_name (by decide)) (Nat.le_of_ble_eq_true rfl) ?_
  intro p e s m below meth c A ls X hA O hl
  have X : Cx p s m _ meth c cX12_cost 5 (some .int) RX12 D (tyM b) A := X
  obtain ⟨⟨hx, hb, hml, hown, hts⟩, hK, hNs, hlocks, hr⟩ := id X
  have hl : lv_has ls 5 [(0, .ref (h 0))] := hl
  unfold wp_X12_cost at hw
  refine lv_iconst (v := 0) hx hb dX12_cost_0 (by decide) ?_
  refine lv_istore_n (lv' := [(1, .int (0 : Int32)), (0, .ref (h 0))]) hx hb dX12_cost_1 rfl hl (by decide) rfl (fun ls hl => ?_)
  refine lv_iconst (v := 0) hx hb dX12_cost_2 (by decide) ?_
  refine lv_istore_n (lv' := [(2, .int (0 : Int32)), (1, .int (0 : Int32)), (0, .ref (h 0))]) hx hb dX12_cost_3 rfl hl (by decide) rfl (fun ls hl => ?_)
  refine lv_iconst (v := 0) hx hb dX12_cost_4 (by decide) ?_
  refine lv_istore_n (lv' := [(3, .int (0 : Int32)), (2, .int (0 : Int32)), (1, .int (0 : Int32)), (0, .ref (h 0))]) hx hb dX12_cost_5 rfl hl (by decide) rfl (fun ls hl => ?_)
  obtain ⟨n, hw⟩ := hw
  exact tl_X12_cost_6 X hA n _ _ _ _ _ _ _ hw O (lv_sub hl [3, 2, 1, 0] rfl)
-- FellersOrderModel.change(I)V
abbrev rm_X12_change : Room := { frames := 0, cells := 0, slots := 0, locals := 0 }
def wp_X12_change (a1 : Int32) (u : St) (Post : Int32 → St → Prop) : Prop := vp_in a1 12 ∧ (vp_in (a1 + (1 : Int32)) 12 ∧ (vp_in a1 12 ∧ (vp_in (a1 + (1 : Int32)) 12 ∧ (Post 0 (su (su u 6 (Int32.toNatClampNeg a1) (u 6 (Int32.toNatClampNeg (a1 + (1 : Int32))))) 6 (Int32.toNatClampNeg (a1 + (1 : Int32))) (u 6 (Int32.toNatClampNeg a1)))))))
set_option maxHeartbeats 4000000 in
set_option maxRecDepth 100000 in
theorem c_X12_change {a1 : Int32} {l : Launch} {D : va_G} {b : Nat → ClassId} {h : Nat → Nat} {u : St} {Post : Int32 → St → Prop} (hw : wp_X12_change a1 u Post) : CtV l yX12_change cX12_change 3 none rm_X12_change D (tyM b) 21 (gM b h) h [.ref (h 0), .int a1] u Post := by
  refine CtV.of (plainFor_of_name (by decide)) (Nat.le_of_ble_eq_true rfl) ?_
  intro p e s m below meth c A ls X hA O hl
  have X : Cx p s m _ meth c cX12_change 3 none RX12 D (tyM b) A := X
  obtain ⟨⟨hx, hb, hml, hown, hts⟩, hK, hNs, hlocks, hr⟩ := id X
  have hl : lv_has ls 3 [(0, .ref (h 0)), (1, .int a1)] := hl
  unfold wp_X12_change at hw
  refine lv_aload_n hx hb dX12_change_0 rfl (lv_at hl 0 rfl) ?_
  refine gt_X12_25 X O dX12_change_1 ?_
  refine lv_iload_n hx hb dX12_change_4 rfl (lv_at hl 1 rfl) ?_
  obtain ⟨i5, hw⟩ := hw
  refine q_ild X O 6 0 (by decide) rfl rfl i5 dX12_change_5 ?_
  refine lv_istore_n (lv' := [(2, .int (u 6 (Int32.toNatClampNeg a1))), (0, .ref (h 0)), (1, .int a1)]) hx hb dX12_change_6 rfl hl (by decide) rfl (fun ls hl => ?_)
  refine lv_aload_n hx hb dX12_change_7 rfl (lv_at hl 1 rfl) ?_
  refine gt_X12_25 X O dX12_change_8 ?_
  refine lv_iload_n hx hb dX12_change_11 rfl (lv_at hl 2 rfl) ?_
  refine lv_aload_n hx hb dX12_change_12 rfl (lv_at hl 1 rfl) ?_
  refine gt_X12_25 X O dX12_change_13 ?_
  refine lv_iload_n hx hb dX12_change_16 rfl (lv_at hl 2 rfl) ?_
  refine lv_iconst (v := 1) hx hb dX12_change_17 (by decide) ?_
  refine lv_iadd hx hb dX12_change_18 ?_
  obtain ⟨i19, hw⟩ := hw
  refine q_ild X O 6 0 (by decide) rfl rfl i19 dX12_change_19 ?_
  obtain ⟨i20, hw⟩ := hw
  refine q_ist X O 6 0 (by decide) (fun _ => rfl) rfl i20 dX12_change_20 (fun H locs O => ?_)
  refine lv_aload_n hx hb dX12_change_21 rfl (lv_at hl 1 rfl) ?_
  refine gt_X12_25 X O dX12_change_22 ?_
  refine lv_iload_n hx hb dX12_change_25 rfl (lv_at hl 2 rfl) ?_
  refine lv_iconst (v := 1) hx hb dX12_change_26 (by decide) ?_
  refine lv_iadd hx hb dX12_change_27 ?_
  refine lv_iload_n hx hb dX12_change_28 rfl (lv_at hl 0 rfl) ?_
  obtain ⟨i29, hw⟩ := hw
  refine q_ist X O 6 0 (by decide) (fun _ => rfl) rfl i29 dX12_change_29 (fun H locs O => ?_)
  exact q_vret X O hw dX12_change_30
-- FellersOrderModel.swap(I)I
abbrev rm_X12_swap : Room := { frames := 1, cells := 0, slots := 0, locals := 24 }
def wp_X12_swap (a1 : Int32) (u : St) (Post : Int32 → St → Prop) : Prop := wp_X12_in a1 (0 : Int32) ((u 0 7) - (2 : Int32)) u (fun r8 u8 => ((¬ r8 = 0) → (wp_X12_cost u8 (fun r18 u18 => wp_X12_change a1 u18 (fun _ u24 => wp_X12_cost u24 (fun r28 u28 => wp_X12_change a1 u28 (fun _ u34 => Post (r28 - r18) u34)))))) ∧ ((r8 = 0) → (Post (-1000000000 : Int32) u8)))
set_option maxHeartbeats 4000000 in
set_option maxRecDepth 100000 in
theorem c_X12_swap {a1 : Int32} {l : Launch} {D : va_G} {b : Nat → ClassId} {h : Nat → Nat} {u : St} {Post : Int32 → St → Prop} (hw : wp_X12_swap a1 u Post) : CtI l yX12_swap cX12_swap 4 (some .int) rm_X12_swap D (tyM b) 21 (gM b h) h [.ref (h 0), .int a1] u Post := by
  refine CtI.of (plainFor_of_name (by decide)) (Nat.le_of_ble_eq_true rfl) ?_
  intro p e s m below meth c A ls X hA O hl
  have X : Cx p s m _ meth c cX12_swap 4 (some .int) RX12 D (tyM b) A := X
  obtain ⟨⟨hx, hb, hml, hown, hts⟩, hK, hNs, hlocks, hr⟩ := id X
  have hl : lv_has ls 4 [(0, .ref (h 0)), (1, .int a1)] := hl
  unfold wp_X12_swap at hw
  refine lv_iload_n hx hb dX12_swap_0 rfl (lv_at hl 1 rfl) ?_
  refine lv_iconst (v := 0) hx hb dX12_swap_1 (by decide) ?_
  refine lv_aload_n hx hb dX12_swap_2 rfl (lv_at hl 0 rfl) ?_
  refine gt_X12_93 X O dX12_swap_3 ?_
  refine lv_iconst (v := 2) hx hb dX12_swap_6 (by decide) ?_
  refine lv_isub hx hb dX12_swap_7 ?_
  refine q_cis (rest := []) X O hA (c_X12_in hw) lk_X12_78 rfl rfl rfl ⟨Nat.le_of_ble_eq_true rfl, Nat.le_of_ble_eq_true rfl⟩ (Nat.le_of_ble_eq_true rfl) hl.1 ⟨Nat.zero_le _, Nat.zero_le _⟩ rfl dX12_swap_8 (fun r8 u8 H locs hw O => ?_)
  refine lv_if_ne (tgt := 17) hx hb dX12_swap_11 (by decide) (fun c11 => ?_) (fun c11 => ?_)
  · have hw := hw.1 c11
    refine lv_aload_n hx hb dX12_swap_17 rfl (lv_at hl 0 rfl) ?_
    refine q_civ (rest := []) X O hA 0 (c_X12_cost hw) lk_X12_127 (by decide) rfl rfl rfl rfl rfl rfl ⟨Nat.le_of_ble_eq_true rfl, Nat.le_of_ble_eq_true rfl⟩ (Nat.le_of_ble_eq_true rfl) hl.1 ⟨Nat.zero_le _, Nat.zero_le _⟩ rfl dX12_swap_18 (fun r18 u18 H locs hw O => ?_)
    refine lv_istore_n (lv' := [(2, .int r18), (0, .ref (h 0)), (1, .int a1)]) hx hb dX12_swap_21 rfl hl (by decide) rfl (fun ls hl => ?_)
    refine lv_aload_n hx hb dX12_swap_22 rfl (lv_at hl 1 rfl) ?_
    refine lv_iload_n hx hb dX12_swap_23 rfl (lv_at hl 2 rfl) ?_
    refine q_cvv (rest := []) X O hA 0 (c_X12_change hw) lk_X12_130 (by decide) rfl rfl rfl rfl rfl rfl ⟨Nat.le_of_ble_eq_true rfl, Nat.le_of_ble_eq_true rfl⟩ (Nat.le_of_ble_eq_true rfl) hl.1 ⟨Nat.zero_le _, Nat.zero_le _⟩ rfl dX12_swap_24 (fun u24 H locs hw O => ?_)
    refine lv_aload_n hx hb dX12_swap_27 rfl (lv_at hl 1 rfl) ?_
    refine q_civ (rest := []) X O hA 0 (c_X12_cost hw) lk_X12_127 (by decide) rfl rfl rfl rfl rfl rfl ⟨Nat.le_of_ble_eq_true rfl, Nat.le_of_ble_eq_true rfl⟩ (Nat.le_of_ble_eq_true rfl) hl.1 ⟨Nat.zero_le _, Nat.zero_le _⟩ rfl dX12_swap_28 (fun r28 u28 H locs hw O => ?_)
    refine lv_istore_n (lv' := [(3, .int r28), (2, .int r18), (0, .ref (h 0)), (1, .int a1)]) hx hb dX12_swap_31 rfl hl (by decide) rfl (fun ls hl => ?_)
    refine lv_aload_n hx hb dX12_swap_32 rfl (lv_at hl 2 rfl) ?_
    refine lv_iload_n hx hb dX12_swap_33 rfl (lv_at hl 3 rfl) ?_
    refine q_cvv (rest := []) X O hA 0 (c_X12_change hw) lk_X12_130 (by decide) rfl rfl rfl rfl rfl rfl ⟨Nat.le_of_ble_eq_true rfl, Nat.le_of_ble_eq_true rfl⟩ (Nat.le_of_ble_eq_true rfl) hl.1 ⟨Nat.zero_le _, Nat.zero_le _⟩ rfl dX12_swap_34 (fun u34 H locs hw O => ?_)
    refine lv_iload_n hx hb dX12_swap_37 rfl (lv_at hl 0 rfl) ?_
    refine lv_iload_n hx hb dX12_swap_38 rfl (lv_at hl 1 rfl) ?_
    refine lv_isub hx hb dX12_swap_39 ?_
    exact q_iret X O hw dX12_swap_40
  · have hw := hw.2 c11
    refine lv_ldc (v := -1000000000) hx hb hown (hts _ wd_24_8) dX12_swap_14 ?_
    exact q_iret X O hw dX12_swap_16
-- FellersOrderModel.block(II)I
abbrev rm_X12_block : Room := { frames := 4, cells := 0, slots := 0, locals := 90 }
def wp_X12_block (a1 : Int32) (a2 : Int32) (u : St) (Post : Int32 → St → Prop) : Prop := wp_X12_findBlocks u (fun _ u1 => wp_X12_in a1 (0 : Int32) ((u1 0 25) - (1 : Int32)) u1 (fun r12 u12 => ((r12 = 0) → (Post (-1 : Int32) u12)) ∧ ((¬ r12 = 0) → (wp_X12_in a2 (0 : Int32) (2 : Int32) u12 (fun r21 u21 => ((¬ r21 = 0) → (((¬ a2 = 0) → (((¬ a2 = (1 : Int32)) → (vp_in a1 12 ∧ (wp_X12_lengthOf (u21 20 (Int32.toNatClampNeg a1)) u21 (fun r67 u67 => Post r67 u67)))) ∧ ((a2 = (1 : Int32)) → (vp_in a1 12 ∧ (wp_X12_weightOf (u21 20 (Int32.toNatClampNeg a1)) u21 (fun r54 u54 => Post r54 u54)))))) ∧ ((a2 = 0) → (vp_in a1 12 ∧ (Post (u21 20 (Int32.toNatClampNeg a1)) u21))))) ∧ ((r21 = 0) → (Post (-1 : Int32) u21)))))))
set_option maxHeartbeats 4000000 in
set_option maxRecDepth 100000 in
theorem c_X12_block {a1 : Int32} {a2 : Int32} {l : Launch} {D : va_G} {b : Nat → ClassId} {h : Nat → Nat} {u : St} {Post : Int32 → St → Prop} (hw : wp_X12_block a1 a2 u Post) : CtI l yX12_block cX12_block 3 (some .int) rm_X12_block D (tyM b) 21 (gM b h) h [.ref (h 0), .int a1, .int a2] u Post := by
  refine CtI.of (plainFor_of_name (by decide)) (Nat.le_of_ble_eq_true rfl) ?_
  intro p e s m below meth c A ls X hA O hl
  have X : Cx p s m _ meth c cX12_block 3 (some .int) RX12 D (tyM b) A := X
  obtain ⟨⟨hx, hb, hml, hown, hts⟩, hK, hNs, hlocks, hr⟩ := id X
  have hl : lv_has ls 3 [(0, .ref (h 0)), (1, .int a1), (2, .int a2)] := hl
  unfold wp_X12_block at hw
  refine lv_aload_n hx hb dX12_block_0 rfl (lv_at hl 0 rfl) ?_
  refine q_cvv (rest := []) X O hA 0 (c_X12_findBlocks hw) lk_X12_167 (by decide) rfl rfl rfl rfl rfl rfl ⟨Nat.le_of_ble_eq_true rfl, Nat.le_of_ble_eq_true rfl⟩ (Nat.le_of_ble_eq_true rfl) hl.1 ⟨Nat.zero_le _, Nat.zero_le _⟩ rfl dX12_block_1 (fun u1 H locs hw O => ?_)
  refine lv_iload_n hx hb dX12_block_4 rfl (lv_at hl 1 rfl) ?_
  refine lv_iconst (v := 0) hx hb dX12_block_5 (by decide) ?_
  refine lv_aload_n hx hb dX12_block_6 rfl (lv_at hl 0 rfl) ?_
  refine gt_X12_161 X O dX12_block_7 ?_
  refine lv_iconst (v := 1) hx hb dX12_block_10 (by decide) ?_
  refine lv_isub hx hb dX12_block_11 ?_
  refine q_cis (rest := []) X O hA (c_X12_in hw) lk_X12_78 rfl rfl rfl ⟨Nat.le_of_ble_eq_true rfl, Nat.le_of_ble_eq_true rfl⟩ (Nat.le_of_ble_eq_true rfl) hl.1 ⟨Nat.zero_le _, Nat.zero_le _⟩ rfl dX12_block_12 (fun r12 u12 H locs hw O => ?_)
  refine lv_if_eq (tgt := 27) hx hb dX12_block_15 (by decide) (fun c15 => ?_) (fun c15 => ?_)
  · have hw := hw.1 c15
    refine lv_iconst (v := -1) hx hb dX12_block_27 (by decide) ?_
    exact q_iret X O hw dX12_block_28
  · have hw := hw.2 c15
    refine lv_iload_n hx hb dX12_block_18 rfl (lv_at hl 2 rfl) ?_
    refine lv_iconst (v := 0) hx hb dX12_block_19 (by decide) ?_
    refine lv_iconst (v := 2) hx hb dX12_block_20 (by decide) ?_
    refine q_cis (rest := []) X O hA (c_X12_in hw) lk_X12_78 rfl rfl rfl ⟨Nat.le_of_ble_eq_true rfl, Nat.le_of_ble_eq_true rfl⟩ (Nat.le_of_ble_eq_true rfl) hl.1 ⟨Nat.zero_le _, Nat.zero_le _⟩ rfl dX12_block_21 (fun r21 u21 H locs hw O => ?_)
    refine lv_if_ne (tgt := 29) hx hb dX12_block_24 (by decide) (fun c24 => ?_) (fun c24 => ?_)
    · have hw := hw.1 c24
      refine lv_iload_n hx hb dX12_block_29 rfl (lv_at hl 2 rfl) ?_
      refine lv_if_ne (tgt := 42) hx hb dX12_block_30 (by decide) (fun c30 => ?_) (fun c30 => ?_)
      · have hw := hw.1 c30
        refine lv_iload_n hx hb dX12_block_42 rfl (lv_at hl 2 rfl) ?_
        refine lv_iconst (v := 1) hx hb dX12_block_43 (by decide) ?_
        refine lv_icmp_ne (tgt := 60) hx hb dX12_block_44 (by decide) (fun c44 => ?_) (fun c44 => ?_)
        · have hw := hw.1 c44
          refine lv_aload_n hx hb dX12_block_60 rfl (lv_at hl 0 rfl) ?_
          refine lv_aload_n hx hb dX12_block_61 rfl (lv_at hl 0 rfl) ?_
          refine gt_X12_68 X O dX12_block_62 ?_
          refine lv_iload_n hx hb dX12_block_65 rfl (lv_at hl 1 rfl) ?_
          obtain ⟨i66, hw⟩ := hw
          refine q_ild X O 20 0 (by decide) rfl rfl i66 dX12_block_66 ?_
          refine q_civ (rest := []) X O hA 0 (c_X12_lengthOf hw) lk_X12_158 (by decide) rfl rfl rfl rfl rfl rfl ⟨Nat.le_of_ble_eq_true rfl, Nat.le_of_ble_eq_true rfl⟩ (Nat.le_of_ble_eq_true rfl) hl.1 ⟨Nat.zero_le _, Nat.zero_le _⟩ rfl dX12_block_67 (fun r67 u67 H locs hw O => ?_)
          exact q_iret X O hw dX12_block_70
        · have hw := hw.2 c44
          refine lv_aload_n hx hb dX12_block_47 rfl (lv_at hl 0 rfl) ?_
          refine lv_aload_n hx hb dX12_block_48 rfl (lv_at hl 0 rfl) ?_
          refine gt_X12_68 X O dX12_block_49 ?_
          refine lv_iload_n hx hb dX12_block_52 rfl (lv_at hl 1 rfl) ?_
          obtain ⟨i53, hw⟩ := hw
          refine q_ild X O 20 0 (by decide) rfl rfl i53 dX12_block_53 ?_
          refine q_civ (rest := []) X O hA 0 (c_X12_weightOf hw) lk_X12_155 (by decide) rfl rfl rfl rfl rfl rfl ⟨Nat.le_of_ble_eq_true rfl, Nat.le_of_ble_eq_true rfl⟩ (Nat.le_of_ble_eq_true rfl) hl.1 ⟨Nat.zero_le _, Nat.zero_le _⟩ rfl dX12_block_54 (fun r54 u54 H locs hw O => ?_)
          refine lv_goto (tgt := 70) hx hb dX12_block_57 (by decide) ?_
          exact q_iret X O hw dX12_block_70
      · have hw := hw.2 c30
        refine lv_aload_n hx hb dX12_block_33 rfl (lv_at hl 0 rfl) ?_
        refine gt_X12_68 X O dX12_block_34 ?_
        refine lv_iload_n hx hb dX12_block_37 rfl (lv_at hl 1 rfl) ?_
        obtain ⟨i38, hw⟩ := hw
        refine q_ild X O 20 0 (by decide) rfl rfl i38 dX12_block_38 ?_
        refine lv_goto (tgt := 70) hx hb dX12_block_39 (by decide) ?_
        exact q_iret X O hw dX12_block_70
    · have hw := hw.2 c24
      refine lv_iconst (v := -1) hx hb dX12_block_27 (by decide) ?_
      exact q_iret X O hw dX12_block_28
-- FellersOrderModel.goes(III)V
abbrev rm_X12_goes : Room := { frames := 0, cells := 0, slots := 0, locals := 0 }
def wp_X12_goes (a1 : Int32) (a2 : Int32) (a3 : Int32) (u : St) (Post : Int32 → St → Prop) : Prop := vp_in a2 4096 ∧ ((((u 14 (Int32.toNatClampNeg a2)) ≤ a3) → (vp_in a2 4096 ∧ (((¬ a3 = (u 14 (Int32.toNatClampNeg a2))) → (Post 0 u)) ∧ ((a3 = (u 14 (Int32.toNatClampNeg a2))) → (vp_in a2 4096 ∧ (vp_in a1 4096 ∧ (vp_in a2 4096 ∧ (Post 0 (su u 15 (Int32.toNatClampNeg a2) ((u 15 (Int32.toNatClampNeg a2)) + (u 15 (Int32.toNatClampNeg a1)))))))))))) ∧ ((¬ (u 14 (Int32.toNatClampNeg a2)) ≤ a3) → (vp_in a2 4096 ∧ (vp_in a1 4096 ∧ (vp_in a2 4096 ∧ (Post 0 (su (su u 14 (Int32.toNatClampNeg a2) a3) 15 (Int32.toNatClampNeg a2) ((su u 14 (Int32.toNatClampNeg a2) a3) 15 (Int32.toNatClampNeg a1)))))))))
set_option maxHeartbeats 4000000 in
set_option maxRecDepth 100000 in
theorem c_X12_goes {a1 : Int32} {a2 : Int32} {a3 : Int32} {l : Launch} {D : va_G} {b : Nat → ClassId} {h : Nat → Nat} {u : St} {Post : Int32 → St → Prop} (hw : wp_X12_goes a1 a2 a3 u Post) : CtV l yX12_goes cX12_goes 4 none rm_X12_goes D (tyM b) 21 (gM b h) h [.ref (h 0), .int a1, .int a2, .int a3] u Post := by
  refine CtV.of (plainFor_of_name (by decide)) (Nat.le_of_ble_eq_true rfl) ?_
  intro p e s m below meth c A ls X hA O hl
  have X : Cx p s m _ meth c cX12_goes 4 none RX12 D (tyM b) A := X
  obtain ⟨⟨hx, hb, hml, hown, hts⟩, hK, hNs, hlocks, hr⟩ := id X
  have hl : lv_has ls 4 [(0, .ref (h 0)), (1, .int a1), (2, .int a2), (3, .int a3)] := hl
  unfold wp_X12_goes at hw
  refine lv_iload_n hx hb dX12_goes_0 rfl (lv_at hl 3 rfl) ?_
  refine lv_aload_n hx hb dX12_goes_1 rfl (lv_at hl 0 rfl) ?_
  refine gt_X12_50 X O dX12_goes_2 ?_
  refine lv_iload_n hx hb dX12_goes_5 rfl (lv_at hl 2 rfl) ?_
  obtain ⟨i6, hw⟩ := hw
  refine q_ild X O 14 0 (by decide) rfl rfl i6 dX12_goes_6 ?_
  refine lv_icmp_ge (tgt := 32) hx hb dX12_goes_7 (by decide) (fun c7 => ?_) (fun c7 => ?_)
  · have hw := hw.1 c7
    refine lv_iload_n hx hb dX12_goes_32 rfl (lv_at hl 3 rfl) ?_
    refine lv_aload_n hx hb dX12_goes_33 rfl (lv_at hl 0 rfl) ?_
    refine gt_X12_50 X O dX12_goes_34 ?_
    refine lv_iload_n hx hb dX12_goes_37 rfl (lv_at hl 2 rfl) ?_
    obtain ⟨i38, hw⟩ := hw
    refine q_ild X O 14 0 (by decide) rfl rfl i38 dX12_goes_38 ?_
    refine lv_icmp_ne (tgt := 57) hx hb dX12_goes_39 (by decide) (fun c39 => ?_) (fun c39 => ?_)
    · have hw := hw.1 c39
      exact q_vret X O hw dX12_goes_57
    · have hw := hw.2 c39
      refine lv_aload_n hx hb dX12_goes_42 rfl (lv_at hl 0 rfl) ?_
      refine gt_X12_53 X O dX12_goes_43 ?_
      refine lv_iload_n hx hb dX12_goes_46 rfl (lv_at hl 2 rfl) ?_
      refine lv_dup2_11 hx hb dX12_goes_47 rfl rfl ?_
      obtain ⟨i48, hw⟩ := hw
      refine q_ild X O 15 0 (by decide) rfl rfl i48 dX12_goes_48 ?_
      refine lv_aload_n hx hb dX12_goes_49 rfl (lv_at hl 0 rfl) ?_
      refine gt_X12_53 X O dX12_goes_50 ?_
      refine lv_iload_n hx hb dX12_goes_53 rfl (lv_at hl 1 rfl) ?_
      obtain ⟨i54, hw⟩ := hw
      refine q_ild X O 15 0 (by decide) rfl rfl i54 dX12_goes_54 ?_
      refine lv_iadd hx hb dX12_goes_55 ?_
      obtain ⟨i56, hw⟩ := hw
      refine q_ist X O 15 0 (by decide) (fun _ => rfl) rfl i56 dX12_goes_56 (fun H locs O => ?_)
      exact q_vret X O hw dX12_goes_57
  · have hw := hw.2 c7
    refine lv_aload_n hx hb dX12_goes_10 rfl (lv_at hl 0 rfl) ?_
    refine gt_X12_50 X O dX12_goes_11 ?_
    refine lv_iload_n hx hb dX12_goes_14 rfl (lv_at hl 2 rfl) ?_
    refine lv_iload_n hx hb dX12_goes_15 rfl (lv_at hl 3 rfl) ?_
    obtain ⟨i16, hw⟩ := hw
    refine q_ist X O 14 0 (by decide) (fun _ => rfl) rfl i16 dX12_goes_16 (fun H locs O => ?_)
    refine lv_aload_n hx hb dX12_goes_17 rfl (lv_at hl 0 rfl) ?_
    refine gt_X12_53 X O dX12_goes_18 ?_
    refine lv_iload_n hx hb dX12_goes_21 rfl (lv_at hl 2 rfl) ?_
    refine lv_aload_n hx hb dX12_goes_22 rfl (lv_at hl 0 rfl) ?_
    refine gt_X12_53 X O dX12_goes_23 ?_
    refine lv_iload_n hx hb dX12_goes_26 rfl (lv_at hl 1 rfl) ?_
    obtain ⟨i27, hw⟩ := hw
    refine q_ild X O 15 0 (by decide) rfl rfl i27 dX12_goes_27 ?_
    obtain ⟨i28, hw⟩ := hw
    refine q_ist X O 15 0 (by decide) (fun _ => rfl) rfl i28 dX12_goes_28 (fun H locs O => ?_)
    refine lv_goto (tgt := 57) hx hb dX12_goes_29 (by decide) ?_
    exact q_vret X O hw dX12_goes_57
-- FellersOrderModel.layAll()V
abbrev rm_X12_layAll : Room := { frames := 1, cells := 0, slots := 0, locals := 23 }
def wb_X12_layAll_302 (Post : Int32 → St → Prop) (K203 : Int32 → St → Prop) (K229 : Int32 → Int32 → St → Prop) (x1 : Int32) (x2 : Int32) (t0 : Int32) (u : St) : Prop := vp_in x1 4096 ∧ ((((u 16 (Int32.toNatClampNeg x1)) ≤ t0) → (vp_in x1 4096 ∧ (vp_in x1 4096 ∧ (K229 x1 (x2 + 1) (su u 16 (Int32.toNatClampNeg x1) (u 16 (Int32.toNatClampNeg x1))))))) ∧ ((¬ (u 16 (Int32.toNatClampNeg x1)) ≤ t0) → (vp_in x1 4096 ∧ (K229 x1 (x2 + 1) (su u 16 (Int32.toNatClampNeg x1) t0)))))
set_option maxHeartbeats 4000000 in
set_option maxRecDepth 100000 in
theorem tb_X12_layAll_302 (X : Cx p s m args meth c cX12_layAll 5 none RX12 D (tyM b) A) (hA : ∀ q, s.heap.size ≤ q → A q) {Post : Int32 → St → Prop} {K203 : Int32 → St → Prop} (k203 : ∀ (x1 : Int32) (u : St) (H : Heap) (locs : List Loc) (ls : Array Slot), K203 x1 u → wO D 21 (gM b h) h u A s.heap H locs → lv_has ls 5 [(0, .ref (h 0)), (1, .int x1)] → W p l e rm_X12_layAll s m args below meth c H locs 0 0 (MQ below (va_Qv (Post 0) (cB D (tyM b) 21 (gM b h) h A) A) args s 0 0 A) (F0 m 203 ls [])) {K229 : Int32 → Int32 → St → Prop} (k229 : ∀ (x1 : Int32) (x2 : Int32) (u : St) (H : Heap) (locs : List Loc) (ls : Array Slot), K229 x1 x2 u → wO D 21 (gM b h) h u A s.heap H locs → lv_has ls 5 [(0, .ref (h 0)), (1, .int x1), (2, .int x2)] → W p l e rm_X12_layAll s m args below meth c H locs 0 0 (MQ below (va_Qv (Post 0) (cB D (tyM b) 21 (gM b h) h A) A) args s 0 0 A) (F0 m 229 ls [])) : ∀ (x1 : Int32) (x2 : Int32) (t0 : Int32) (u : St) (H : Heap) (locs : List Loc) (ls : Array Slot), wb_X12_layAll_302 Post K203 K229 x1 x2 t0 u → wO D 21 (gM b h) h u A s.heap H locs → lv_has ls 5 [(0, .ref (h 0)), (1, .int x1), (2, .int x2)] → W p l e rm_X12_layAll s m args below meth c H locs 0 0 (MQ below (va_Qv (Post 0) (cB D (tyM b) 21 (gM b h) h A) A) args s 0 0 A) (F0 m 302 ls [.int t0]) := by
  obtain ⟨⟨hx, hb, hml, hown, hts⟩, hK, hNs, hlocks, hr⟩ := id X
  intro x1 x2 t0 u H locs ls hw O hl
  unfold wb_X12_layAll_302 at hw
  refine lv_istore (lv' := [(4, .int t0), (0, .ref (h 0)), (1, .int x1), (2, .int x2)]) hx hb dX12_layAll_302 hl (by decide) rfl (fun ls hl => ?_)
  refine lv_aload_n hx hb dX12_layAll_304 rfl (lv_at hl 1 rfl) ?_
  refine gt_X12_56 X O dX12_layAll_305 ?_
  refine lv_iload_n hx hb dX12_layAll_308 rfl (lv_at hl 2 rfl) ?_
  refine lv_iload hx hb dX12_layAll_309 (lv_at hl 0 rfl) ?_
  refine lv_aload_n hx hb dX12_layAll_311 rfl (lv_at hl 1 rfl) ?_
  refine gt_X12_56 X O dX12_layAll_312 ?_
  refine lv_iload_n hx hb dX12_layAll_315 rfl (lv_at hl 2 rfl) ?_
  obtain ⟨i316, hw⟩ := hw
  refine q_ild X O 16 0 (by decide) rfl rfl i316 dX12_layAll_316 ?_
  refine lv_icmp_ge (tgt := 325) hx hb dX12_layAll_317 (by decide) (fun c317 => ?_) (fun c317 => ?_)
  · have hw := hw.1 c317
    refine lv_aload_n hx hb dX12_layAll_325 rfl (lv_at hl 1 rfl) ?_
    refine gt_X12_56 X O dX12_layAll_326 ?_
    refine lv_iload_n hx hb dX12_layAll_329 rfl (lv_at hl 2 rfl) ?_
    obtain ⟨i330, hw⟩ := hw
    refine q_ild X O 16 0 (by decide) rfl rfl i330 dX12_layAll_330 ?_
    obtain ⟨i331, hw⟩ := hw
    refine q_ist X O 16 0 (by decide) (fun _ => rfl) rfl i331 dX12_layAll_331 (fun H locs O => ?_)
    refine lv_iinc (v := x2 + 1) (lv' := [(2, .int (x2 + 1)), (4, .int t0), (0, .ref (h 0)), (1, .int x1)]) hx hb dX12_layAll_332 hl (k := 3) rfl rfl (by decide) rfl (fun ls hl => ?_)
    refine lv_goto (tgt := 229) hx hb dX12_layAll_335 (by decide) ?_
    exact k229 _ _ _ _ _ _ hw O (lv_sub hl [2, 3, 0] rfl)
  · have hw := hw.2 c317
    refine lv_iload hx hb dX12_layAll_320 (lv_at hl 0 rfl) ?_
    refine lv_goto (tgt := 331) hx hb dX12_layAll_322 (by decide) ?_
    obtain ⟨i331, hw⟩ := hw
    refine q_ist X O 16 0 (by decide) (fun _ => rfl) rfl i331 dX12_layAll_331 (fun H locs O => ?_)
    refine lv_iinc (v := x2 + 1) (lv' := [(2, .int (x2 + 1)), (4, .int t0), (0, .ref (h 0)), (1, .int x1)]) hx hb dX12_layAll_332 hl (k := 3) rfl rfl (by decide) rfl (fun ls hl => ?_)
    refine lv_goto (tgt := 229) hx hb dX12_layAll_335 (by decide) ?_
    exact k229 _ _ _ _ _ _ hw O (lv_sub hl [2, 3, 0] rfl)
def wb_X12_layAll_229 (Post : Int32 → St → Prop) (K203 : Int32 → St → Prop) (K229 : Int32 → Int32 → St → Prop) (x1 : Int32) (x2 : Int32) (u : St) : Prop := (((u 0 0) ≤ x2) → (K203 (x1 + (-1)) u)) ∧ ((¬ (u 0 0) ≤ x2) → (wp_X12_has x1 x2 u (fun r239 u239 => ((¬ r239 = 0) → (K229 x1 (x2 + 1) u239)) ∧ ((r239 = 0) → (vp_in x2 12 ∧ (((¬ ((u239 19 (Int32.toNatClampNeg x2)) &&& (x1 ^^^ (-1 : Int32))) = 0) → (K229 x1 (x2 + 1) u239)) ∧ ((((u239 19 (Int32.toNatClampNeg x2)) &&& (x1 ^^^ (-1 : Int32))) = 0) → (vp_in (x1 ||| ((1 : Int32) <<< (x2 &&& 31))) 4096 ∧ (((¬ (u239 16 (Int32.toNatClampNeg (x1 ||| ((1 : Int32) <<< (x2 &&& 31))))) = (2000000000 : Int32)) → (vp_in x2 12 ∧ (vp_in x1 4096 ∧ (vp_in x2 12 ∧ (wb_X12_layAll_302 Post K203 K229 x1 x2 (((u239 18 (Int32.toNatClampNeg x2)) * ((u239 13 (Int32.toNatClampNeg x1)) + (u239 17 (Int32.toNatClampNeg x2)))) + (u239 16 (Int32.toNatClampNeg (x1 ||| ((1 : Int32) <<< (x2 &&& 31)))))) u239))))) ∧ (((u239 16 (Int32.toNatClampNeg (x1 ||| ((1 : Int32) <<< (x2 &&& 31))))) = (2000000000 : Int32)) → (wb_X12_layAll_302 Post K203 K229 x1 x2 (2000000000 : Int32) u239)))))))))))
set_option maxHeartbeats 4000000 in
set_option maxRecDepth 100000 in
theorem tb_X12_layAll_229 (X : Cx p s m args meth c cX12_layAll 5 none RX12 D (tyM b) A) (hA : ∀ q, s.heap.size ≤ q → A q) {Post : Int32 → St → Prop} {K203 : Int32 → St → Prop} (k203 : ∀ (x1 : Int32) (u : St) (H : Heap) (locs : List Loc) (ls : Array Slot), K203 x1 u → wO D 21 (gM b h) h u A s.heap H locs → lv_has ls 5 [(0, .ref (h 0)), (1, .int x1)] → W p l e rm_X12_layAll s m args below meth c H locs 0 0 (MQ below (va_Qv (Post 0) (cB D (tyM b) 21 (gM b h) h A) A) args s 0 0 A) (F0 m 203 ls [])) {K229 : Int32 → Int32 → St → Prop} (k229 : ∀ (x1 : Int32) (x2 : Int32) (u : St) (H : Heap) (locs : List Loc) (ls : Array Slot), K229 x1 x2 u → wO D 21 (gM b h) h u A s.heap H locs → lv_has ls 5 [(0, .ref (h 0)), (1, .int x1), (2, .int x2)] → W p l e rm_X12_layAll s m args below meth c H locs 0 0 (MQ below (va_Qv (Post 0) (cB D (tyM b) 21 (gM b h) h A) A) args s 0 0 A) (F0 m 229 ls [])) : ∀ (x1 : Int32) (x2 : Int32) (u : St) (H : Heap) (locs : List Loc) (ls : Array Slot), wb_X12_layAll_229 Post K203 K229 x1 x2 u → wO D 21 (gM b h) h u A s.heap H locs → lv_has ls 5 [(0, .ref (h 0)), (1, .int x1), (2, .int x2)] → W p l e rm_X12_layAll s m args below meth c H locs 0 0 (MQ below (va_Qv (Post 0) (cB D (tyM b) 21 (gM b h) h A) A) args s 0 0 A) (F0 m 229 ls []) := by
  obtain ⟨⟨hx, hb, hml, hown, hts⟩, hK, hNs, hlocks, hr⟩ := id X
  intro x1 x2 u H locs ls hw O hl
  unfold wb_X12_layAll_229 at hw
  refine lv_iload_n hx hb dX12_layAll_229 rfl (lv_at hl 2 rfl) ?_
  refine lv_aload_n hx hb dX12_layAll_230 rfl (lv_at hl 0 rfl) ?_
  refine gt_X12_75 X O dX12_layAll_231 ?_
  refine lv_icmp_ge (tgt := 338) hx hb dX12_layAll_234 (by decide) (fun c234 => ?_) (fun c234 => ?_)
  · have hw := hw.1 c234
    refine lv_iinc (v := x1 + (-1)) (lv' := [(1, .int (x1 + (-1))), (0, .ref (h 0)), (2, .int x2)]) hx hb dX12_layAll_338 hl (k := 1) rfl rfl (by decide) rfl (fun ls hl => ?_)
    refine lv_goto (tgt := 203) hx hb dX12_layAll_341 (by decide) ?_
    exact k203 _ _ _ _ _ hw O (lv_sub hl [1, 0] rfl)
  · have hw := hw.2 c234
    refine lv_iload_n hx hb dX12_layAll_237 rfl (lv_at hl 1 rfl) ?_
    refine lv_iload_n hx hb dX12_layAll_238 rfl (lv_at hl 2 rfl) ?_
    refine q_cis (rest := []) X O hA (c_X12_has hw) lk_X12_82 rfl rfl rfl ⟨Nat.le_of_ble_eq_true rfl, Nat.le_of_ble_eq_true rfl⟩ (Nat.le_of_ble_eq_true rfl) hl.1 ⟨Nat.zero_le _, Nat.zero_le _⟩ rfl dX12_layAll_239 (fun r239 u239 H locs hw O => ?_)
    refine lv_if_ne (tgt := 332) hx hb dX12_layAll_242 (by decide) (fun c242 => ?_) (fun c242 => ?_)
    · have hw := hw.1 c242
      refine lv_iinc (v := x2 + 1) (lv' := [(2, .int (x2 + 1)), (0, .ref (h 0)), (1, .int x1)]) hx hb dX12_layAll_332 hl (k := 2) rfl rfl (by decide) rfl (fun ls hl => ?_)
      refine lv_goto (tgt := 229) hx hb dX12_layAll_335 (by decide) ?_
      exact k229 _ _ _ _ _ _ hw O (lv_sub hl [1, 2, 0] rfl)
    · have hw := hw.2 c242
      refine lv_aload_n hx hb dX12_layAll_245 rfl (lv_at hl 0 rfl) ?_
      refine gt_X12_65 X O dX12_layAll_246 ?_
      refine lv_iload_n hx hb dX12_layAll_249 rfl (lv_at hl 2 rfl) ?_
      obtain ⟨i250, hw⟩ := hw
      refine q_ild X O 19 0 (by decide) rfl rfl i250 dX12_layAll_250 ?_
      refine lv_iload_n hx hb dX12_layAll_251 rfl (lv_at hl 1 rfl) ?_
      refine lv_iconst (v := -1) hx hb dX12_layAll_252 (by decide) ?_
      refine lv_ixor hx hb dX12_layAll_253 ?_
      refine lv_iand hx hb dX12_layAll_254 ?_
      refine lv_if_ne (tgt := 332) hx hb dX12_layAll_255 (by decide) (fun c255 => ?_) (fun c255 => ?_)
      · have hw := hw.1 c255
        refine lv_iinc (v := x2 + 1) (lv' := [(2, .int (x2 + 1)), (0, .ref (h 0)), (1, .int x1)]) hx hb dX12_layAll_332 hl (k := 2) rfl rfl (by decide) rfl (fun ls hl => ?_)
        refine lv_goto (tgt := 229) hx hb dX12_layAll_335 (by decide) ?_
        exact k229 _ _ _ _ _ _ hw O (lv_sub hl [1, 2, 0] rfl)
      · have hw := hw.2 c255
        refine lv_aload_n hx hb dX12_layAll_258 rfl (lv_at hl 0 rfl) ?_
        refine gt_X12_56 X O dX12_layAll_259 ?_
        refine lv_iload_n hx hb dX12_layAll_262 rfl (lv_at hl 1 rfl) ?_
        refine lv_iconst (v := 1) hx hb dX12_layAll_263 (by decide) ?_
        refine lv_iload_n hx hb dX12_layAll_264 rfl (lv_at hl 2 rfl) ?_
        refine lv_ishl hx hb dX12_layAll_265 ?_
        refine lv_ior hx hb dX12_layAll_266 ?_
        obtain ⟨i267, hw⟩ := hw
        refine q_ild X O 16 0 (by decide) rfl rfl i267 dX12_layAll_267 ?_
        refine lv_istore_n (lv' := [(3, .int (u239 16 (Int32.toNatClampNeg (x1 ||| ((1 : Int32) <<< (x2 &&& 31)))))), (0, .ref (h 0)), (1, .int x1), (2, .int x2)]) hx hb dX12_layAll_268 rfl hl (by decide) rfl (fun ls hl => ?_)
        refine lv_iload_n hx hb dX12_layAll_269 rfl (lv_at hl 0 rfl) ?_
        refine lv_ldc (v := 2000000000) hx hb hown (hts _ wd_27_10) dX12_layAll_270 ?_
        refine lv_icmp_ne (tgt := 280) hx hb dX12_layAll_272 (by decide) (fun c272 => ?_) (fun c272 => ?_)
        · have hw := hw.1 c272
          refine lv_aload_n hx hb dX12_layAll_280 rfl (lv_at hl 1 rfl) ?_
          refine gt_X12_62 X O dX12_layAll_281 ?_
          refine lv_iload_n hx hb dX12_layAll_284 rfl (lv_at hl 3 rfl) ?_
          obtain ⟨i285, hw⟩ := hw
          refine q_ild X O 18 0 (by decide) rfl rfl i285 dX12_layAll_285 ?_
          refine lv_aload_n hx hb dX12_layAll_286 rfl (lv_at hl 1 rfl) ?_
          refine gt_X12_47 X O dX12_layAll_287 ?_
          refine lv_iload_n hx hb dX12_layAll_290 rfl (lv_at hl 2 rfl) ?_
          obtain ⟨i291, hw⟩ := hw
          refine q_ild X O 13 0 (by decide) rfl rfl i291 dX12_layAll_291 ?_
          refine lv_aload_n hx hb dX12_layAll_292 rfl (lv_at hl 1 rfl) ?_
          refine gt_X12_59 X O dX12_layAll_293 ?_
          refine lv_iload_n hx hb dX12_layAll_296 rfl (lv_at hl 3 rfl) ?_
          obtain ⟨i297, hw⟩ := hw
          refine q_ild X O 17 0 (by decide) rfl rfl i297 dX12_layAll_297 ?_
          refine lv_iadd hx hb dX12_layAll_298 ?_
          refine lv_imul hx hb dX12_layAll_299 ?_
          refine lv_iload_n hx hb dX12_layAll_300 rfl (lv_at hl 0 rfl) ?_
          refine lv_iadd hx hb dX12_layAll_301 ?_
          exact tb_X12_layAll_302 X hA k203 k229 _ _ _ _ _ _ _ hw O (lv_sub hl [1, 2, 3] rfl)
        · have hw := hw.2 c272
          refine lv_ldc (v := 2000000000) hx hb hown (hts _ wd_27_10) dX12_layAll_275 ?_
          refine lv_goto (tgt := 302) hx hb dX12_layAll_277 (by decide) ?_
          exact tb_X12_layAll_302 X hA k203 k229 _ _ _ _ _ _ _ hw O (lv_sub hl [1, 2, 3] rfl)
def wl_X12_layAll_229 (Post : Int32 → St → Prop) (K203 : Int32 → St → Prop) : Nat → Int32 → Int32 → St → Prop
  | 0 => fun _ _ _ => False
  | n + 1 => fun x1 x2 u => wb_X12_layAll_229 Post K203 (wl_X12_layAll_229 Post K203 n) x1 x2 u
set_option maxHeartbeats 4000000 in
set_option maxRecDepth 100000 in
theorem tl_X12_layAll_229 (X : Cx p s m args meth c cX12_layAll 5 none RX12 D (tyM b) A) (hA : ∀ q, s.heap.size ≤ q → A q) {Post : Int32 → St → Prop} {K203 : Int32 → St → Prop} (k203 : ∀ (x1 : Int32) (u : St) (H : Heap) (locs : List Loc) (ls : Array Slot), K203 x1 u → wO D 21 (gM b h) h u A s.heap H locs → lv_has ls 5 [(0, .ref (h 0)), (1, .int x1)] → W p l e rm_X12_layAll s m args below meth c H locs 0 0 (MQ below (va_Qv (Post 0) (cB D (tyM b) 21 (gM b h) h A) A) args s 0 0 A) (F0 m 203 ls [])) : ∀ n : Nat, ∀ (x1 : Int32) (x2 : Int32) (u : St) (H : Heap) (locs : List Loc) (ls : Array Slot), (wl_X12_layAll_229 Post K203 n) x1 x2 u → wO D 21 (gM b h) h u A s.heap H locs → lv_has ls 5 [(0, .ref (h 0)), (1, .int x1), (2, .int x2)] → W p l e rm_X12_layAll s m args below meth c H locs 0 0 (MQ below (va_Qv (Post 0) (cB D (tyM b) 21 (gM b h) h A) A) args s 0 0 A) (F0 m 229 ls []) := by
  intro n
  induction n with
  | zero => intro x1 x2 u H locs ls hw; exact False.elim hw
  | succ n ih => intro x1 x2 u H locs ls hw O hl; exact tb_X12_layAll_229 X hA k203 ih x1 x2 u H locs ls hw O hl
def wb_X12_layAll_203 (Post : Int32 → St → Prop) (K203 : Int32 → St → Prop) (x1 : Int32) (u : St) : Prop := ((x1 < 0) → (Post 0 u)) ∧ ((¬ x1 < 0) → (wp_X12_all u (fun r214 u214 => ((¬ x1 = r214) → (vp_in x1 4096 ∧ (∃ n : Nat, wl_X12_layAll_229 Post K203 n x1 (0 : Int32) (su u214 16 (Int32.toNatClampNeg x1) (2000000000 : Int32))))) ∧ ((x1 = r214) → (vp_in x1 4096 ∧ (∃ n : Nat, wl_X12_layAll_229 Post K203 n x1 (0 : Int32) (su u214 16 (Int32.toNatClampNeg x1) (0 : Int32))))))))
set_option maxHeartbeats 4000000 in
set_option maxRecDepth 100000 in
theorem tb_X12_layAll_203 (X : Cx p s m args meth c cX12_layAll 5 none RX12 D (tyM b) A) (hA : ∀ q, s.heap.size ≤ q → A q) {Post : Int32 → St → Prop} {K203 : Int32 → St → Prop} (k203 : ∀ (x1 : Int32) (u : St) (H : Heap) (locs : List Loc) (ls : Array Slot), K203 x1 u → wO D 21 (gM b h) h u A s.heap H locs → lv_has ls 5 [(0, .ref (h 0)), (1, .int x1)] → W p l e rm_X12_layAll s m args below meth c H locs 0 0 (MQ below (va_Qv (Post 0) (cB D (tyM b) 21 (gM b h) h A) A) args s 0 0 A) (F0 m 203 ls [])) : ∀ (x1 : Int32) (u : St) (H : Heap) (locs : List Loc) (ls : Array Slot), wb_X12_layAll_203 Post K203 x1 u → wO D 21 (gM b h) h u A s.heap H locs → lv_has ls 5 [(0, .ref (h 0)), (1, .int x1)] → W p l e rm_X12_layAll s m args below meth c H locs 0 0 (MQ below (va_Qv (Post 0) (cB D (tyM b) 21 (gM b h) h A) A) args s 0 0 A) (F0 m 203 ls []) := by
  obtain ⟨⟨hx, hb, hml, hown, hts⟩, hK, hNs, hlocks, hr⟩ := id X
  intro x1 u H locs ls hw O hl
  unfold wb_X12_layAll_203 at hw
  refine lv_iload_n hx hb dX12_layAll_203 rfl (lv_at hl 1 rfl) ?_
  refine lv_if_lt (tgt := 344) hx hb dX12_layAll_204 (by decide) (fun c204 => ?_) (fun c204 => ?_)
  · have hw := hw.1 c204
    exact q_vret X O hw dX12_layAll_344
  · have hw := hw.2 c204
    refine lv_aload_n hx hb dX12_layAll_207 rfl (lv_at hl 0 rfl) ?_
    refine gt_X12_56 X O dX12_layAll_208 ?_
    refine lv_iload_n hx hb dX12_layAll_211 rfl (lv_at hl 1 rfl) ?_
    refine lv_iload_n hx hb dX12_layAll_212 rfl (lv_at hl 1 rfl) ?_
    refine lv_aload_n hx hb dX12_layAll_213 rfl (lv_at hl 0 rfl) ?_
    refine q_civ (rest := [.int x1, .int x1, .ref (h 16)]) X O hA 0 (c_X12_all hw) lk_X12_134 (by decide) rfl rfl rfl rfl rfl rfl ⟨Nat.le_of_ble_eq_true rfl, Nat.le_of_ble_eq_true rfl⟩ (Nat.le_of_ble_eq_true rfl) hl.1 ⟨Nat.zero_le _, Nat.zero_le _⟩ rfl dX12_layAll_214 (fun r214 u214 H locs hw O => ?_)
    refine lv_icmp_ne (tgt := 224) hx hb dX12_layAll_217 (by decide) (fun c217 => ?_) (fun c217 => ?_)
    · have hw := hw.1 c217
      refine lv_ldc (v := 2000000000) hx hb hown (hts _ wd_27_10) dX12_layAll_224 ?_
      obtain ⟨i226, hw⟩ := hw
      refine q_ist X O 16 0 (by decide) (fun _ => rfl) rfl i226 dX12_layAll_226 (fun H locs O => ?_)
      refine lv_iconst (v := 0) hx hb dX12_layAll_227 (by decide) ?_
      refine lv_istore_n (lv' := [(2, .int (0 : Int32)), (0, .ref (h 0)), (1, .int x1)]) hx hb dX12_layAll_228 rfl hl (by decide) rfl (fun ls hl => ?_)
      obtain ⟨n, hw⟩ := hw
      exact tl_X12_layAll_229 X hA k203 n _ _ _ _ _ _ hw O (lv_sub hl [1, 2, 0] rfl)
    · have hw := hw.2 c217
      refine lv_iconst (v := 0) hx hb dX12_layAll_220 (by decide) ?_
      refine lv_goto (tgt := 226) hx hb dX12_layAll_221 (by decide) ?_
      obtain ⟨i226, hw⟩ := hw
      refine q_ist X O 16 0 (by decide) (fun _ => rfl) rfl i226 dX12_layAll_226 (fun H locs O => ?_)
      refine lv_iconst (v := 0) hx hb dX12_layAll_227 (by decide) ?_
      refine lv_istore_n (lv' := [(2, .int (0 : Int32)), (0, .ref (h 0)), (1, .int x1)]) hx hb dX12_layAll_228 rfl hl (by decide) rfl (fun ls hl => ?_)
      obtain ⟨n, hw⟩ := hw
      exact tl_X12_layAll_229 X hA k203 n _ _ _ _ _ _ hw O (lv_sub hl [1, 2, 0] rfl)
def wl_X12_layAll_203 (Post : Int32 → St → Prop) : Nat → Int32 → St → Prop
  | 0 => fun _ _ => False
  | n + 1 => fun x1 u => wb_X12_layAll_203 Post (wl_X12_layAll_203 Post n) x1 u
set_option maxHeartbeats 4000000 in
set_option maxRecDepth 100000 in
theorem tl_X12_layAll_203 (X : Cx p s m args meth c cX12_layAll 5 none RX12 D (tyM b) A) (hA : ∀ q, s.heap.size ≤ q → A q) {Post : Int32 → St → Prop} : ∀ n : Nat, ∀ (x1 : Int32) (u : St) (H : Heap) (locs : List Loc) (ls : Array Slot), (wl_X12_layAll_203 Post n) x1 u → wO D 21 (gM b h) h u A s.heap H locs → lv_has ls 5 [(0, .ref (h 0)), (1, .int x1)] → W p l e rm_X12_layAll s m args below meth c H locs 0 0 (MQ below (va_Qv (Post 0) (cB D (tyM b) 21 (gM b h) h A) A) args s 0 0 A) (F0 m 203 ls []) := by
  intro n
  induction n with
  | zero => intro x1 u H locs ls hw; exact False.elim hw
  | succ n ih => intro x1 u H locs ls hw O hl; exact tb_X12_layAll_203 X hA ih x1 u H locs ls hw O hl
def wb_X12_layAll_109 (Post : Int32 → St → Prop) (K99 : Int32 → St → Prop) (K109 : Int32 → Int32 → St → Prop) (x1 : Int32) (x2 : Int32) (u : St) : Prop := (((u 0 0) ≤ x2) → (K99 (x1 + 1) u)) ∧ ((¬ (u 0 0) ≤ x2) → (vp_in x1 4096 ∧ ((((2000000000 : Int32) ≤ (u 14 (Int32.toNatClampNeg x1))) → (K99 (x1 + 1) u)) ∧ ((¬ (2000000000 : Int32) ≤ (u 14 (Int32.toNatClampNeg x1))) → (wp_X12_has x1 x2 u (fun r130 u130 => ((¬ r130 = 0) → (K109 x1 (x2 + 1) u130)) ∧ ((r130 = 0) → (vp_in x2 12 ∧ (((¬ ((u130 19 (Int32.toNatClampNeg x2)) &&& (x1 ^^^ (-1 : Int32))) = 0) → (K109 x1 (x2 + 1) u130)) ∧ ((((u130 19 (Int32.toNatClampNeg x2)) &&& (x1 ^^^ (-1 : Int32))) = 0) → (vp_in x1 4096 ∧ (vp_in x2 12 ∧ (vp_in x1 4096 ∧ (vp_in x2 12 ∧ (wp_X12_goes x1 (x1 ||| ((1 : Int32) <<< (x2 &&& 31))) ((u130 14 (Int32.toNatClampNeg x1)) + ((u130 18 (Int32.toNatClampNeg x2)) * ((u130 13 (Int32.toNatClampNeg x1)) + (u130 17 (Int32.toNatClampNeg x2))))) u130 (fun _ u183 => K109 x1 (x2 + 1) u183))))))))))))))))
set_option maxHeartbeats 4000000 in
set_option maxRecDepth 100000 in
theorem tb_X12_layAll_109 (X : Cx p s m args meth c cX12_layAll 5 none RX12 D (tyM b) A) (hA : ∀ q, s.heap.size ≤ q → A q) {Post : Int32 → St → Prop} {K99 : Int32 → St → Prop} (k99 : ∀ (x1 : Int32) (u : St) (H : Heap) (locs : List Loc) (ls : Array Slot), K99 x1 u → wO D 21 (gM b h) h u A s.heap H locs → lv_has ls 5 [(0, .ref (h 0)), (1, .int x1)] → W p l e rm_X12_layAll s m args below meth c H locs 0 0 (MQ below (va_Qv (Post 0) (cB D (tyM b) 21 (gM b h) h A) A) args s 0 0 A) (F0 m 99 ls [])) {K109 : Int32 → Int32 → St → Prop} (k109 : ∀ (x1 : Int32) (x2 : Int32) (u : St) (H : Heap) (locs : List Loc) (ls : Array Slot), K109 x1 x2 u → wO D 21 (gM b h) h u A s.heap H locs → lv_has ls 5 [(0, .ref (h 0)), (1, .int x1), (2, .int x2)] → W p l e rm_X12_layAll s m args below meth c H locs 0 0 (MQ below (va_Qv (Post 0) (cB D (tyM b) 21 (gM b h) h A) A) args s 0 0 A) (F0 m 109 ls [])) : ∀ (x1 : Int32) (x2 : Int32) (u : St) (H : Heap) (locs : List Loc) (ls : Array Slot), wb_X12_layAll_109 Post K99 K109 x1 x2 u → wO D 21 (gM b h) h u A s.heap H locs → lv_has ls 5 [(0, .ref (h 0)), (1, .int x1), (2, .int x2)] → W p l e rm_X12_layAll s m args below meth c H locs 0 0 (MQ below (va_Qv (Post 0) (cB D (tyM b) 21 (gM b h) h A) A) args s 0 0 A) (F0 m 109 ls []) := by
  obtain ⟨⟨hx, hb, hml, hown, hts⟩, hK, hNs, hlocks, hr⟩ := id X
  intro x1 x2 u H locs ls hw O hl
  unfold wb_X12_layAll_109 at hw
  refine lv_iload_n hx hb dX12_layAll_109 rfl (lv_at hl 2 rfl) ?_
  refine lv_aload_n hx hb dX12_layAll_110 rfl (lv_at hl 0 rfl) ?_
  refine gt_X12_75 X O dX12_layAll_111 ?_
  refine lv_icmp_ge (tgt := 192) hx hb dX12_layAll_114 (by decide) (fun c114 => ?_) (fun c114 => ?_)
  · have hw := hw.1 c114
    refine lv_iinc (v := x1 + 1) (lv' := [(1, .int (x1 + 1)), (0, .ref (h 0)), (2, .int x2)]) hx hb dX12_layAll_192 hl (k := 1) rfl rfl (by decide) rfl (fun ls hl => ?_)
    refine lv_goto (tgt := 99) hx hb dX12_layAll_195 (by decide) ?_
    exact k99 _ _ _ _ _ hw O (lv_sub hl [1, 0] rfl)
  · have hw := hw.2 c114
    refine lv_aload_n hx hb dX12_layAll_117 rfl (lv_at hl 0 rfl) ?_
    refine gt_X12_50 X O dX12_layAll_118 ?_
    refine lv_iload_n hx hb dX12_layAll_121 rfl (lv_at hl 1 rfl) ?_
    obtain ⟨i122, hw⟩ := hw
    refine q_ild X O 14 0 (by decide) rfl rfl i122 dX12_layAll_122 ?_
    refine lv_ldc (v := 2000000000) hx hb hown (hts _ wd_27_10) dX12_layAll_123 ?_
    refine lv_icmp_ge (tgt := 192) hx hb dX12_layAll_125 (by decide) (fun c125 => ?_) (fun c125 => ?_)
    · have hw := hw.1 c125
      refine lv_iinc (v := x1 + 1) (lv' := [(1, .int (x1 + 1)), (0, .ref (h 0)), (2, .int x2)]) hx hb dX12_layAll_192 hl (k := 1) rfl rfl (by decide) rfl (fun ls hl => ?_)
      refine lv_goto (tgt := 99) hx hb dX12_layAll_195 (by decide) ?_
      exact k99 _ _ _ _ _ hw O (lv_sub hl [1, 0] rfl)
    · have hw := hw.2 c125
      refine lv_iload_n hx hb dX12_layAll_128 rfl (lv_at hl 1 rfl) ?_
      refine lv_iload_n hx hb dX12_layAll_129 rfl (lv_at hl 2 rfl) ?_
      refine q_cis (rest := []) X O hA (c_X12_has hw) lk_X12_82 rfl rfl rfl ⟨Nat.le_of_ble_eq_true rfl, Nat.le_of_ble_eq_true rfl⟩ (Nat.le_of_ble_eq_true rfl) hl.1 ⟨Nat.zero_le _, Nat.zero_le _⟩ rfl dX12_layAll_130 (fun r130 u130 H locs hw O => ?_)
      refine lv_if_ne (tgt := 186) hx hb dX12_layAll_133 (by decide) (fun c133 => ?_) (fun c133 => ?_)
      · have hw := hw.1 c133
        refine lv_iinc (v := x2 + 1) (lv' := [(2, .int (x2 + 1)), (0, .ref (h 0)), (1, .int x1)]) hx hb dX12_layAll_186 hl (k := 2) rfl rfl (by decide) rfl (fun ls hl => ?_)
        refine lv_goto (tgt := 109) hx hb dX12_layAll_189 (by decide) ?_
        exact k109 _ _ _ _ _ _ hw O (lv_sub hl [1, 2, 0] rfl)
      · have hw := hw.2 c133
        refine lv_aload_n hx hb dX12_layAll_136 rfl (lv_at hl 0 rfl) ?_
        refine gt_X12_65 X O dX12_layAll_137 ?_
        refine lv_iload_n hx hb dX12_layAll_140 rfl (lv_at hl 2 rfl) ?_
        obtain ⟨i141, hw⟩ := hw
        refine q_ild X O 19 0 (by decide) rfl rfl i141 dX12_layAll_141 ?_
        refine lv_iload_n hx hb dX12_layAll_142 rfl (lv_at hl 1 rfl) ?_
        refine lv_iconst (v := -1) hx hb dX12_layAll_143 (by decide) ?_
        refine lv_ixor hx hb dX12_layAll_144 ?_
        refine lv_iand hx hb dX12_layAll_145 ?_
        refine lv_if_ne (tgt := 186) hx hb dX12_layAll_146 (by decide) (fun c146 => ?_) (fun c146 => ?_)
        · have hw := hw.1 c146
          refine lv_iinc (v := x2 + 1) (lv' := [(2, .int (x2 + 1)), (0, .ref (h 0)), (1, .int x1)]) hx hb dX12_layAll_186 hl (k := 2) rfl rfl (by decide) rfl (fun ls hl => ?_)
          refine lv_goto (tgt := 109) hx hb dX12_layAll_189 (by decide) ?_
          exact k109 _ _ _ _ _ _ hw O (lv_sub hl [1, 2, 0] rfl)
        · have hw := hw.2 c146
          refine lv_aload_n hx hb dX12_layAll_149 rfl (lv_at hl 0 rfl) ?_
          refine lv_iload_n hx hb dX12_layAll_150 rfl (lv_at hl 1 rfl) ?_
          refine lv_iload_n hx hb dX12_layAll_151 rfl (lv_at hl 1 rfl) ?_
          refine lv_iconst (v := 1) hx hb dX12_layAll_152 (by decide) ?_
          refine lv_iload_n hx hb dX12_layAll_153 rfl (lv_at hl 2 rfl) ?_
          refine lv_ishl hx hb dX12_layAll_154 ?_
          refine lv_ior hx hb dX12_layAll_155 ?_
          refine lv_aload_n hx hb dX12_layAll_156 rfl (lv_at hl 0 rfl) ?_
          refine gt_X12_50 X O dX12_layAll_157 ?_
          refine lv_iload_n hx hb dX12_layAll_160 rfl (lv_at hl 1 rfl) ?_
          obtain ⟨i161, hw⟩ := hw
          refine q_ild X O 14 0 (by decide) rfl rfl i161 dX12_layAll_161 ?_
          refine lv_aload_n hx hb dX12_layAll_162 rfl (lv_at hl 0 rfl) ?_
          refine gt_X12_62 X O dX12_layAll_163 ?_
          refine lv_iload_n hx hb dX12_layAll_166 rfl (lv_at hl 2 rfl) ?_
          obtain ⟨i167, hw⟩ := hw
          refine q_ild X O 18 0 (by decide) rfl rfl i167 dX12_layAll_167 ?_
          refine lv_aload_n hx hb dX12_layAll_168 rfl (lv_at hl 0 rfl) ?_
          refine gt_X12_47 X O dX12_layAll_169 ?_
          refine lv_iload_n hx hb dX12_layAll_172 rfl (lv_at hl 1 rfl) ?_
          obtain ⟨i173, hw⟩ := hw
          refine q_ild X O 13 0 (by decide) rfl rfl i173 dX12_layAll_173 ?_
          refine lv_aload_n hx hb dX12_layAll_174 rfl (lv_at hl 0 rfl) ?_
          refine gt_X12_59 X O dX12_layAll_175 ?_
          refine lv_iload_n hx hb dX12_layAll_178 rfl (lv_at hl 2 rfl) ?_
          obtain ⟨i179, hw⟩ := hw
          refine q_ild X O 17 0 (by decide) rfl rfl i179 dX12_layAll_179 ?_
          refine lv_iadd hx hb dX12_layAll_180 ?_
          refine lv_imul hx hb dX12_layAll_181 ?_
          refine lv_iadd hx hb dX12_layAll_182 ?_
          refine q_cvv (rest := []) X O hA 0 (c_X12_goes hw) lk_X12_138 (by decide) rfl rfl rfl rfl rfl rfl ⟨Nat.le_of_ble_eq_true rfl, Nat.le_of_ble_eq_true rfl⟩ (Nat.le_of_ble_eq_true rfl) hl.1 ⟨Nat.zero_le _, Nat.zero_le _⟩ rfl dX12_layAll_183 (fun u183 H locs hw O => ?_)
          refine lv_iinc (v := x2 + 1) (lv' := [(2, .int (x2 + 1)), (0, .ref (h 0)), (1, .int x1)]) hx hb dX12_layAll_186 hl (k := 2) rfl rfl (by decide) rfl (fun ls hl => ?_)
          refine lv_goto (tgt := 109) hx hb dX12_layAll_189 (by decide) ?_
          exact k109 _ _ _ _ _ _ hw O (lv_sub hl [1, 2, 0] rfl)
def wl_X12_layAll_109 (Post : Int32 → St → Prop) (K99 : Int32 → St → Prop) : Nat → Int32 → Int32 → St → Prop
  | 0 => fun _ _ _ => False
  | n + 1 => fun x1 x2 u => wb_X12_layAll_109 Post K99 (wl_X12_layAll_109 Post K99 n) x1 x2 u
set_option maxHeartbeats 4000000 in
set_option maxRecDepth 100000 in
theorem tl_X12_layAll_109 (X : Cx p s m args meth c cX12_layAll 5 none RX12 D (tyM b) A) (hA : ∀ q, s.heap.size ≤ q → A q) {Post : Int32 → St → Prop} {K99 : Int32 → St → Prop} (k99 : ∀ (x1 : Int32) (u : St) (H : Heap) (locs : List Loc) (ls : Array Slot), K99 x1 u → wO D 21 (gM b h) h u A s.heap H locs → lv_has ls 5 [(0, .ref (h 0)), (1, .int x1)] → W p l e rm_X12_layAll s m args below meth c H locs 0 0 (MQ below (va_Qv (Post 0) (cB D (tyM b) 21 (gM b h) h A) A) args s 0 0 A) (F0 m 99 ls [])) : ∀ n : Nat, ∀ (x1 : Int32) (x2 : Int32) (u : St) (H : Heap) (locs : List Loc) (ls : Array Slot), (wl_X12_layAll_109 Post K99 n) x1 x2 u → wO D 21 (gM b h) h u A s.heap H locs → lv_has ls 5 [(0, .ref (h 0)), (1, .int x1), (2, .int x2)] → W p l e rm_X12_layAll s m args below meth c H locs 0 0 (MQ below (va_Qv (Post 0) (cB D (tyM b) 21 (gM b h) h A) A) args s 0 0 A) (F0 m 109 ls []) := by
  intro n
  induction n with
  | zero => intro x1 x2 u H locs ls hw; exact False.elim hw
  | succ n ih => intro x1 x2 u H locs ls hw O hl; exact tb_X12_layAll_109 X hA k99 ih x1 x2 u H locs ls hw O hl
def wb_X12_layAll_99 (Post : Int32 → St → Prop) (K99 : Int32 → St → Prop) (x1 : Int32) (u : St) : Prop := wp_X12_all u (fun r101 u101 => ((r101 < x1) → (wp_X12_all u101 (fun r199 u199 => ∃ n : Nat, wl_X12_layAll_203 Post n r199 u199))) ∧ ((¬ r101 < x1) → (∃ n : Nat, wl_X12_layAll_109 Post K99 n x1 (0 : Int32) u101)))
set_option maxHeartbeats 4000000 in
set_option maxRecDepth 100000 in
theorem tb_X12_layAll_99 (X : Cx p s m args meth c cX12_layAll 5 none RX12 D (tyM b) A) (hA : ∀ q, s.heap.size ≤ q → A q) {Post : Int32 → St → Prop} {K99 : Int32 → St → Prop} (k99 : ∀ (x1 : Int32) (u : St) (H : Heap) (locs : List Loc) (ls : Array Slot), K99 x1 u → wO D 21 (gM b h) h u A s.heap H locs → lv_has ls 5 [(0, .ref (h 0)), (1, .int x1)] → W p l e rm_X12_layAll s m args below meth c H locs 0 0 (MQ below (va_Qv (Post 0) (cB D (tyM b) 21 (gM b h) h A) A) args s 0 0 A) (F0 m 99 ls [])) : ∀ (x1 : Int32) (u : St) (H : Heap) (locs : List Loc) (ls : Array Slot), wb_X12_layAll_99 Post K99 x1 u → wO D 21 (gM b h) h u A s.heap H locs → lv_has ls 5 [(0, .ref (h 0)), (1, .int x1)] → W p l e rm_X12_layAll s m args below meth c H locs 0 0 (MQ below (va_Qv (Post 0) (cB D (tyM b) 21 (gM b h) h A) A) args s 0 0 A) (F0 m 99 ls []) := by
  obtain ⟨⟨hx, hb, hml, hown, hts⟩, hK, hNs, hlocks, hr⟩ := id X
  intro x1 u H locs ls hw O hl
  unfold wb_X12_layAll_99 at hw
  refine lv_iload_n hx hb dX12_layAll_99 rfl (lv_at hl 1 rfl) ?_
  refine lv_aload_n hx hb dX12_layAll_100 rfl (lv_at hl 0 rfl) ?_
  refine q_civ (rest := [.int x1]) X O hA 0 (c_X12_all hw) lk_X12_134 (by decide) rfl rfl rfl rfl rfl rfl ⟨Nat.le_of_ble_eq_true rfl, Nat.le_of_ble_eq_true rfl⟩ (Nat.le_of_ble_eq_true rfl) hl.1 ⟨Nat.zero_le _, Nat.zero_le _⟩ rfl dX12_layAll_101 (fun r101 u101 H locs hw O => ?_)
  refine lv_icmp_gt (tgt := 198) hx hb dX12_layAll_104 (by decide) (fun c104 => ?_) (fun c104 => ?_)
  · have hw := hw.1 c104
    refine lv_aload_n hx hb dX12_layAll_198 rfl (lv_at hl 0 rfl) ?_
    refine q_civ (rest := []) X O hA 0 (c_X12_all hw) lk_X12_134 (by decide) rfl rfl rfl rfl rfl rfl ⟨Nat.le_of_ble_eq_true rfl, Nat.le_of_ble_eq_true rfl⟩ (Nat.le_of_ble_eq_true rfl) hl.1 ⟨Nat.zero_le _, Nat.zero_le _⟩ rfl dX12_layAll_199 (fun r199 u199 H locs hw O => ?_)
    refine lv_istore_n (lv' := [(1, .int r199), (0, .ref (h 0))]) hx hb dX12_layAll_202 rfl hl (by decide) rfl (fun ls hl => ?_)
    obtain ⟨n, hw⟩ := hw
    exact tl_X12_layAll_203 X hA n _ _ _ _ _ hw O (lv_sub hl [1, 0] rfl)
  · have hw := hw.2 c104
    refine lv_iconst (v := 0) hx hb dX12_layAll_107 (by decide) ?_
    refine lv_istore_n (lv' := [(2, .int (0 : Int32)), (0, .ref (h 0)), (1, .int x1)]) hx hb dX12_layAll_108 rfl hl (by decide) rfl (fun ls hl => ?_)
    obtain ⟨n, hw⟩ := hw
    exact tl_X12_layAll_109 X hA k99 n _ _ _ _ _ _ hw O (lv_sub hl [1, 2, 0] rfl)
def wl_X12_layAll_99 (Post : Int32 → St → Prop) : Nat → Int32 → St → Prop
  | 0 => fun _ _ => False
  | n + 1 => fun x1 u => wb_X12_layAll_99 Post (wl_X12_layAll_99 Post n) x1 u
set_option maxHeartbeats 4000000 in
set_option maxRecDepth 100000 in
theorem tl_X12_layAll_99 (X : Cx p s m args meth c cX12_layAll 5 none RX12 D (tyM b) A) (hA : ∀ q, s.heap.size ≤ q → A q) {Post : Int32 → St → Prop} : ∀ n : Nat, ∀ (x1 : Int32) (u : St) (H : Heap) (locs : List Loc) (ls : Array Slot), (wl_X12_layAll_99 Post n) x1 u → wO D 21 (gM b h) h u A s.heap H locs → lv_has ls 5 [(0, .ref (h 0)), (1, .int x1)] → W p l e rm_X12_layAll s m args below meth c H locs 0 0 (MQ below (va_Qv (Post 0) (cB D (tyM b) 21 (gM b h) h A) A) args s 0 0 A) (F0 m 99 ls []) := by
  intro n
  induction n with
  | zero => intro x1 u H locs ls hw; exact False.elim hw
  | succ n ih => intro x1 u H locs ls hw O hl; exact tb_X12_layAll_99 X hA ih x1 u H locs ls hw O hl
def wb_X12_layAll_50 (Post : Int32 → St → Prop) (K2 : Int32 → St → Prop) (K50 : Int32 → Int32 → St → Prop) (x1 : Int32) (x2 : Int32) (u : St) : Prop := (((u 0 0) ≤ x2) → (K2 (x1 + 1) u)) ∧ ((¬ (u 0 0) ≤ x2) → (vp_in x1 4096 ∧ (wp_X12_has x1 x2 u (fun r67 u67 => ((r67 = 0) → (vp_in x1 4096 ∧ (K50 x1 (x2 + 1) (su u67 13 (Int32.toNatClampNeg x1) ((u 13 (Int32.toNatClampNeg x1)) + (0 : Int32)))))) ∧ ((¬ r67 = 0) → (vp_in x2 12 ∧ (vp_in x1 4096 ∧ (K50 x1 (x2 + 1) (su u67 13 (Int32.toNatClampNeg x1) ((u 13 (Int32.toNatClampNeg x1)) + (u67 17 (Int32.toNatClampNeg x2))))))))))))
set_option maxHeartbeats 4000000 in
set_option maxRecDepth 100000 in
theorem tb_X12_layAll_50 (X : Cx p s m args meth c cX12_layAll 5 none RX12 D (tyM b) A) (hA : ∀ q, s.heap.size ≤ q → A q) {Post : Int32 → St → Prop} {K2 : Int32 → St → Prop} (k2 : ∀ (x1 : Int32) (u : St) (H : Heap) (locs : List Loc) (ls : Array Slot), K2 x1 u → wO D 21 (gM b h) h u A s.heap H locs → lv_has ls 5 [(0, .ref (h 0)), (1, .int x1)] → W p l e rm_X12_layAll s m args below meth c H locs 0 0 (MQ below (va_Qv (Post 0) (cB D (tyM b) 21 (gM b h) h A) A) args s 0 0 A) (F0 m 2 ls [])) {K50 : Int32 → Int32 → St → Prop} (k50 : ∀ (x1 : Int32) (x2 : Int32) (u : St) (H : Heap) (locs : List Loc) (ls : Array Slot), K50 x1 x2 u → wO D 21 (gM b h) h u A s.heap H locs → lv_has ls 5 [(0, .ref (h 0)), (1, .int x1), (2, .int x2)] → W p l e rm_X12_layAll s m args below meth c H locs 0 0 (MQ below (va_Qv (Post 0) (cB D (tyM b) 21 (gM b h) h A) A) args s 0 0 A) (F0 m 50 ls [])) : ∀ (x1 : Int32) (x2 : Int32) (u : St) (H : Heap) (locs : List Loc) (ls : Array Slot), wb_X12_layAll_50 Post K2 K50 x1 x2 u → wO D 21 (gM b h) h u A s.heap H locs → lv_has ls 5 [(0, .ref (h 0)), (1, .int x1), (2, .int x2)] → W p l e rm_X12_layAll s m args below meth c H locs 0 0 (MQ below (va_Qv (Post 0) (cB D (tyM b) 21 (gM b h) h A) A) args s 0 0 A) (F0 m 50 ls []) := by
  obtain ⟨⟨hx, hb, hml, hown, hts⟩, hK, hNs, hlocks, hr⟩ := id X
  intro x1 x2 u H locs ls hw O hl
  unfold wb_X12_layAll_50 at hw
  refine lv_iload_n hx hb dX12_layAll_50 rfl (lv_at hl 2 rfl) ?_
  refine lv_aload_n hx hb dX12_layAll_51 rfl (lv_at hl 0 rfl) ?_
  refine gt_X12_75 X O dX12_layAll_52 ?_
  refine lv_icmp_ge (tgt := 91) hx hb dX12_layAll_55 (by decide) (fun c55 => ?_) (fun c55 => ?_)
  · have hw := hw.1 c55
    refine lv_iinc (v := x1 + 1) (lv' := [(1, .int (x1 + 1)), (0, .ref (h 0)), (2, .int x2)]) hx hb dX12_layAll_91 hl (k := 1) rfl rfl (by decide) rfl (fun ls hl => ?_)
    refine lv_goto (tgt := 2) hx hb dX12_layAll_94 (by decide) ?_
    exact k2 _ _ _ _ _ hw O (lv_sub hl [1, 0] rfl)
  · have hw := hw.2 c55
    refine lv_aload_n hx hb dX12_layAll_58 rfl (lv_at hl 0 rfl) ?_
    refine gt_X12_47 X O dX12_layAll_59 ?_
    refine lv_iload_n hx hb dX12_layAll_62 rfl (lv_at hl 1 rfl) ?_
    refine lv_dup2_11 hx hb dX12_layAll_63 rfl rfl ?_
    obtain ⟨i64, hw⟩ := hw
    refine q_ild X O 13 0 (by decide) rfl rfl i64 dX12_layAll_64 ?_
    refine lv_iload_n hx hb dX12_layAll_65 rfl (lv_at hl 1 rfl) ?_
    refine lv_iload_n hx hb dX12_layAll_66 rfl (lv_at hl 2 rfl) ?_
    refine q_cis (rest := [.int (u 13 (Int32.toNatClampNeg x1)), .int x1, .ref (h 13)]) X O hA (c_X12_has hw) lk_X12_82 rfl rfl rfl ⟨Nat.le_of_ble_eq_true rfl, Nat.le_of_ble_eq_true rfl⟩ (Nat.le_of_ble_eq_true rfl) hl.1 ⟨Nat.zero_le _, Nat.zero_le _⟩ rfl dX12_layAll_67 (fun r67 u67 H locs hw O => ?_)
    refine lv_if_eq (tgt := 82) hx hb dX12_layAll_70 (by decide) (fun c70 => ?_) (fun c70 => ?_)
    · have hw := hw.1 c70
      refine lv_iconst (v := 0) hx hb dX12_layAll_82 (by decide) ?_
      refine lv_iadd hx hb dX12_layAll_83 ?_
      obtain ⟨i84, hw⟩ := hw
      refine q_ist X O 13 0 (by decide) (fun _ => rfl) rfl i84 dX12_layAll_84 (fun H locs O => ?_)
      refine lv_iinc (v := x2 + 1) (lv' := [(2, .int (x2 + 1)), (0, .ref (h 0)), (1, .int x1)]) hx hb dX12_layAll_85 hl (k := 2) rfl rfl (by decide) rfl (fun ls hl => ?_)
      refine lv_goto (tgt := 50) hx hb dX12_layAll_88 (by decide) ?_
      exact k50 _ _ _ _ _ _ hw O (lv_sub hl [1, 2, 0] rfl)
    · have hw := hw.2 c70
      refine lv_aload_n hx hb dX12_layAll_73 rfl (lv_at hl 0 rfl) ?_
      refine gt_X12_59 X O dX12_layAll_74 ?_
      refine lv_iload_n hx hb dX12_layAll_77 rfl (lv_at hl 2 rfl) ?_
      obtain ⟨i78, hw⟩ := hw
      refine q_ild X O 17 0 (by decide) rfl rfl i78 dX12_layAll_78 ?_
      refine lv_goto (tgt := 83) hx hb dX12_layAll_79 (by decide) ?_
      refine lv_iadd hx hb dX12_layAll_83 ?_
      obtain ⟨i84, hw⟩ := hw
      refine q_ist X O 13 0 (by decide) (fun _ => rfl) rfl i84 dX12_layAll_84 (fun H locs O => ?_)
      refine lv_iinc (v := x2 + 1) (lv' := [(2, .int (x2 + 1)), (0, .ref (h 0)), (1, .int x1)]) hx hb dX12_layAll_85 hl (k := 2) rfl rfl (by decide) rfl (fun ls hl => ?_)
      refine lv_goto (tgt := 50) hx hb dX12_layAll_88 (by decide) ?_
      exact k50 _ _ _ _ _ _ hw O (lv_sub hl [1, 2, 0] rfl)
def wl_X12_layAll_50 (Post : Int32 → St → Prop) (K2 : Int32 → St → Prop) : Nat → Int32 → Int32 → St → Prop
  | 0 => fun _ _ _ => False
  | n + 1 => fun x1 x2 u => wb_X12_layAll_50 Post K2 (wl_X12_layAll_50 Post K2 n) x1 x2 u
set_option maxHeartbeats 4000000 in
set_option maxRecDepth 100000 in
theorem tl_X12_layAll_50 (X : Cx p s m args meth c cX12_layAll 5 none RX12 D (tyM b) A) (hA : ∀ q, s.heap.size ≤ q → A q) {Post : Int32 → St → Prop} {K2 : Int32 → St → Prop} (k2 : ∀ (x1 : Int32) (u : St) (H : Heap) (locs : List Loc) (ls : Array Slot), K2 x1 u → wO D 21 (gM b h) h u A s.heap H locs → lv_has ls 5 [(0, .ref (h 0)), (1, .int x1)] → W p l e rm_X12_layAll s m args below meth c H locs 0 0 (MQ below (va_Qv (Post 0) (cB D (tyM b) 21 (gM b h) h A) A) args s 0 0 A) (F0 m 2 ls [])) : ∀ n : Nat, ∀ (x1 : Int32) (x2 : Int32) (u : St) (H : Heap) (locs : List Loc) (ls : Array Slot), (wl_X12_layAll_50 Post K2 n) x1 x2 u → wO D 21 (gM b h) h u A s.heap H locs → lv_has ls 5 [(0, .ref (h 0)), (1, .int x1), (2, .int x2)] → W p l e rm_X12_layAll s m args below meth c H locs 0 0 (MQ below (va_Qv (Post 0) (cB D (tyM b) 21 (gM b h) h A) A) args s 0 0 A) (F0 m 50 ls []) := by
  intro n
  induction n with
  | zero => intro x1 x2 u H locs ls hw; exact False.elim hw
  | succ n ih => intro x1 x2 u H locs ls hw O hl; exact tb_X12_layAll_50 X hA k2 ih x1 x2 u H locs ls hw O hl
def wb_X12_layAll_25 (Post : Int32 → St → Prop) (K2 : Int32 → St → Prop) (x1 : Int32) (t0 : Int32) (t1 : Int32) (u : St) : Prop := vp_in t1 4096 ∧ (((¬ x1 = 0) → (vp_in x1 4096 ∧ (vp_in x1 4096 ∧ (∃ n : Nat, wl_X12_layAll_50 Post K2 n x1 (0 : Int32) (su (su (su u 14 (Int32.toNatClampNeg t1) t0) 15 (Int32.toNatClampNeg x1) (0 : Int32)) 13 (Int32.toNatClampNeg x1) (0 : Int32)))))) ∧ ((x1 = 0) → (vp_in x1 4096 ∧ (vp_in x1 4096 ∧ (∃ n : Nat, wl_X12_layAll_50 Post K2 n x1 (0 : Int32) (su (su (su u 14 (Int32.toNatClampNeg t1) t0) 15 (Int32.toNatClampNeg x1) (1 : Int32)) 13 (Int32.toNatClampNeg x1) (0 : Int32)))))))
set_option maxHeartbeats 4000000 in
set_option maxRecDepth 100000 in
theorem tb_X12_layAll_25 (X : Cx p s m args meth c cX12_layAll 5 none RX12 D (tyM b) A) (hA : ∀ q, s.heap.size ≤ q → A q) {Post : Int32 → St → Prop} {K2 : Int32 → St → Prop} (k2 : ∀ (x1 : Int32) (u : St) (H : Heap) (locs : List Loc) (ls : Array Slot), K2 x1 u → wO D 21 (gM b h) h u A s.heap H locs → lv_has ls 5 [(0, .ref (h 0)), (1, .int x1)] → W p l e rm_X12_layAll s m args below meth c H locs 0 0 (MQ below (va_Qv (Post 0) (cB D (tyM b) 21 (gM b h) h A) A) args s 0 0 A) (F0 m 2 ls [])) : ∀ (x1 : Int32) (t0 : Int32) (t1 : Int32) (u : St) (H : Heap) (locs : List Loc) (ls : Array Slot), wb_X12_layAll_25 Post K2 x1 t0 t1 u → wO D 21 (gM b h) h u A s.heap H locs → lv_has ls 5 [(0, .ref (h 0)), (1, .int x1)] → W p l e rm_X12_layAll s m args below meth c H locs 0 0 (MQ below (va_Qv (Post 0) (cB D (tyM b) 21 (gM b h) h A) A) args s 0 0 A) (F0 m 25 ls [.int t0, .int t1, .ref (h 14)]) := by
  obtain ⟨⟨hx, hb, hml, hown, hts⟩, hK, hNs, hlocks, hr⟩ := id X
  intro x1 t0 t1 u H locs ls hw O hl
  unfold wb_X12_layAll_25 at hw
  obtain ⟨i25, hw⟩ := hw
  refine q_ist X O 14 0 (by decide) (fun _ => rfl) rfl i25 dX12_layAll_25 (fun H locs O => ?_)
  refine lv_aload_n hx hb dX12_layAll_26 rfl (lv_at hl 0 rfl) ?_
  refine gt_X12_53 X O dX12_layAll_27 ?_
  refine lv_iload_n hx hb dX12_layAll_30 rfl (lv_at hl 1 rfl) ?_
  refine lv_iload_n hx hb dX12_layAll_31 rfl (lv_at hl 1 rfl) ?_
  refine lv_if_ne (tgt := 39) hx hb dX12_layAll_32 (by decide) (fun c32 => ?_) (fun c32 => ?_)
  · have hw := hw.1 c32
    refine lv_iconst (v := 0) hx hb dX12_layAll_39 (by decide) ?_
    obtain ⟨i40, hw⟩ := hw
    refine q_ist X O 15 0 (by decide) (fun _ => rfl) rfl i40 dX12_layAll_40 (fun H locs O => ?_)
    refine lv_aload_n hx hb dX12_layAll_41 rfl (lv_at hl 0 rfl) ?_
    refine gt_X12_47 X O dX12_layAll_42 ?_
    refine lv_iload_n hx hb dX12_layAll_45 rfl (lv_at hl 1 rfl) ?_
    refine lv_iconst (v := 0) hx hb dX12_layAll_46 (by decide) ?_
    obtain ⟨i47, hw⟩ := hw
    refine q_ist X O 13 0 (by decide) (fun _ => rfl) rfl i47 dX12_layAll_47 (fun H locs O => ?_)
    refine lv_iconst (v := 0) hx hb dX12_layAll_48 (by decide) ?_
    refine lv_istore_n (lv' := [(2, .int (0 : Int32)), (0, .ref (h 0)), (1, .int x1)]) hx hb dX12_layAll_49 rfl hl (by decide) rfl (fun ls hl => ?_)
    obtain ⟨n, hw⟩ := hw
    exact tl_X12_layAll_50 X hA k2 n _ _ _ _ _ _ hw O (lv_sub hl [1, 2, 0] rfl)
  · have hw := hw.2 c32
    refine lv_iconst (v := 1) hx hb dX12_layAll_35 (by decide) ?_
    refine lv_goto (tgt := 40) hx hb dX12_layAll_36 (by decide) ?_
    obtain ⟨i40, hw⟩ := hw
    refine q_ist X O 15 0 (by decide) (fun _ => rfl) rfl i40 dX12_layAll_40 (fun H locs O => ?_)
    refine lv_aload_n hx hb dX12_layAll_41 rfl (lv_at hl 0 rfl) ?_
    refine gt_X12_47 X O dX12_layAll_42 ?_
    refine lv_iload_n hx hb dX12_layAll_45 rfl (lv_at hl 1 rfl) ?_
    refine lv_iconst (v := 0) hx hb dX12_layAll_46 (by decide) ?_
    obtain ⟨i47, hw⟩ := hw
    refine q_ist X O 13 0 (by decide) (fun _ => rfl) rfl i47 dX12_layAll_47 (fun H locs O => ?_)
    refine lv_iconst (v := 0) hx hb dX12_layAll_48 (by decide) ?_
    refine lv_istore_n (lv' := [(2, .int (0 : Int32)), (0, .ref (h 0)), (1, .int x1)]) hx hb dX12_layAll_49 rfl hl (by decide) rfl (fun ls hl => ?_)
    obtain ⟨n, hw⟩ := hw
    exact tl_X12_layAll_50 X hA k2 n _ _ _ _ _ _ hw O (lv_sub hl [1, 2, 0] rfl)
def wb_X12_layAll_2 (Post : Int32 → St → Prop) (K2 : Int32 → St → Prop) (x1 : Int32) (u : St) : Prop := wp_X12_all u (fun r4 u4 => ((r4 < x1) → (∃ n : Nat, wl_X12_layAll_99 Post n (0 : Int32) u4)) ∧ ((¬ r4 < x1) → (((¬ x1 = 0) → (wb_X12_layAll_25 Post K2 x1 (2000000000 : Int32) x1 u4)) ∧ ((x1 = 0) → (wb_X12_layAll_25 Post K2 x1 (0 : Int32) x1 u4)))))
set_option maxHeartbeats 4000000 in
set_option maxRecDepth 100000 in
theorem tb_X12_layAll_2 (X : Cx p s m args meth c cX12_layAll 5 none RX12 D (tyM b) A) (hA : ∀ q, s.heap.size ≤ q → A q) {Post : Int32 → St → Prop} {K2 : Int32 → St → Prop} (k2 : ∀ (x1 : Int32) (u : St) (H : Heap) (locs : List Loc) (ls : Array Slot), K2 x1 u → wO D 21 (gM b h) h u A s.heap H locs → lv_has ls 5 [(0, .ref (h 0)), (1, .int x1)] → W p l e rm_X12_layAll s m args below meth c H locs 0 0 (MQ below (va_Qv (Post 0) (cB D (tyM b) 21 (gM b h) h A) A) args s 0 0 A) (F0 m 2 ls [])) : ∀ (x1 : Int32) (u : St) (H : Heap) (locs : List Loc) (ls : Array Slot), wb_X12_layAll_2 Post K2 x1 u → wO D 21 (gM b h) h u A s.heap H locs → lv_has ls 5 [(0, .ref (h 0)), (1, .int x1)] → W p l e rm_X12_layAll s m args below meth c H locs 0 0 (MQ below (va_Qv (Post 0) (cB D (tyM b) 21 (gM b h) h A) A) args s 0 0 A) (F0 m 2 ls []) := by
  obtain ⟨⟨hx, hb, hml, hown, hts⟩, hK, hNs, hlocks, hr⟩ := id X
  intro x1 u H locs ls hw O hl
  unfold wb_X12_layAll_2 at hw
  refine lv_iload_n hx hb dX12_layAll_2 rfl (lv_at hl 1 rfl) ?_
  refine lv_aload_n hx hb dX12_layAll_3 rfl (lv_at hl 0 rfl) ?_
  refine q_civ (rest := [.int x1]) X O hA 0 (c_X12_all hw) lk_X12_134 (by decide) rfl rfl rfl rfl rfl rfl ⟨Nat.le_of_ble_eq_true rfl, Nat.le_of_ble_eq_true rfl⟩ (Nat.le_of_ble_eq_true rfl) hl.1 ⟨Nat.zero_le _, Nat.zero_le _⟩ rfl dX12_layAll_4 (fun r4 u4 H locs hw O => ?_)
  refine lv_icmp_gt (tgt := 97) hx hb dX12_layAll_7 (by decide) (fun c7 => ?_) (fun c7 => ?_)
  · have hw := hw.1 c7
    refine lv_iconst (v := 0) hx hb dX12_layAll_97 (by decide) ?_
    refine lv_istore_n (lv' := [(1, .int (0 : Int32)), (0, .ref (h 0))]) hx hb dX12_layAll_98 rfl hl (by decide) rfl (fun ls hl => ?_)
    obtain ⟨n, hw⟩ := hw
    exact tl_X12_layAll_99 X hA n _ _ _ _ _ hw O (lv_sub hl [1, 0] rfl)
  · have hw := hw.2 c7
    refine lv_aload_n hx hb dX12_layAll_10 rfl (lv_at hl 0 rfl) ?_
    refine gt_X12_50 X O dX12_layAll_11 ?_
    refine lv_iload_n hx hb dX12_layAll_14 rfl (lv_at hl 1 rfl) ?_
    refine lv_iload_n hx hb dX12_layAll_15 rfl (lv_at hl 1 rfl) ?_
    refine lv_if_ne (tgt := 23) hx hb dX12_layAll_16 (by decide) (fun c16 => ?_) (fun c16 => ?_)
    · have hw := hw.1 c16
      refine lv_ldc (v := 2000000000) hx hb hown (hts _ wd_27_10) dX12_layAll_23 ?_
      exact tb_X12_layAll_25 X hA k2 _ _ _ _ _ _ _ hw O (lv_sub hl [0, 1] rfl)
    · have hw := hw.2 c16
      refine lv_iconst (v := 0) hx hb dX12_layAll_19 (by decide) ?_
      refine lv_goto (tgt := 25) hx hb dX12_layAll_20 (by decide) ?_
      exact tb_X12_layAll_25 X hA k2 _ _ _ _ _ _ _ hw O (lv_sub hl [0, 1] rfl)
def wl_X12_layAll_2 (Post : Int32 → St → Prop) : Nat → Int32 → St → Prop
  | 0 => fun _ _ => False
  | n + 1 => fun x1 u => wb_X12_layAll_2 Post (wl_X12_layAll_2 Post n) x1 u
set_option maxHeartbeats 4000000 in
set_option maxRecDepth 100000 in
theorem tl_X12_layAll_2 (X : Cx p s m args meth c cX12_layAll 5 none RX12 D (tyM b) A) (hA : ∀ q, s.heap.size ≤ q → A q) {Post : Int32 → St → Prop} : ∀ n : Nat, ∀ (x1 : Int32) (u : St) (H : Heap) (locs : List Loc) (ls : Array Slot), (wl_X12_layAll_2 Post n) x1 u → wO D 21 (gM b h) h u A s.heap H locs → lv_has ls 5 [(0, .ref (h 0)), (1, .int x1)] → W p l e rm_X12_layAll s m args below meth c H locs 0 0 (MQ below (va_Qv (Post 0) (cB D (tyM b) 21 (gM b h) h A) A) args s 0 0 A) (F0 m 2 ls []) := by
  intro n
  induction n with
  | zero => intro x1 u H locs ls hw; exact False.elim hw
  | succ n ih => intro x1 u H locs ls hw O hl; exact tb_X12_layAll_2 X hA ih x1 u H locs ls hw O hl
def wp_X12_layAll (u : St) (Post : Int32 → St → Prop) : Prop := ∃ n : Nat, wl_X12_layAll_2 Post n (0 : Int32) u
set_option maxHeartbeats 4000000 in
set_option maxRecDepth 100000 in
theorem c_X12_layAll {l : Launch} {D : va_G} {b : Nat → ClassId} {h : Nat → Nat} {u : St} {Post : Int32 → St → Prop} (hw : wp_X12_layAll u Post) : CtV l yX12_layAll cX12_layAll 5 none rm_X12_layAll D (tyM b) 21 (gM b h) h [.ref (h 0)] u Post := by
  refine CtV.of (plainFor_of_name (by decide)) (Nat.le_of_ble_eq_true rfl) ?_
  intro p e s m below meth c A ls X hA O hl
  have X : Cx p s m _ meth c cX12_layAll 5 none RX12 D (tyM b) A := X
  obtain ⟨⟨hx, hb, hml, hown, hts⟩, hK, hNs, hlocks, hr⟩ := id X
  have hl : lv_has ls 5 [(0, .ref (h 0))] := hl
  unfold wp_X12_layAll at hw
  refine lv_iconst (v := 0) hx hb dX12_layAll_0 (by decide) ?_
  refine lv_istore_n (lv' := [(1, .int (0 : Int32)), (0, .ref (h 0))]) hx hb dX12_layAll_1 rfl hl (by decide) rfl (fun ls hl => ?_)
  obtain ⟨n, hw⟩ := hw
  exact tl_X12_layAll_2 X hA n _ _ _ _ _ hw O (lv_sub hl [1, 0] rfl)
end PT
