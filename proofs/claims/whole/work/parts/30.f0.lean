/-! the class, methods: X10_allows X10_isFull X11_hasBit X10_followLaid J6_numberOfTrailingZeros_0f7a4 X10_sumHalf X10_turnBehind X10_renew X10_add X2_keep X11_bringJob X11_done X11_refused X11_job X10_has -/
theorem lk_X10_51 : LkSN RX10 51 yX11_hasBit cX11_hasBit 2 (some .boolean) 2 := ⟨⟨"FellersOrder", by decide +kernel⟩, wd_7_23, wd_1_2, wd_8_0, by decide +kernel⟩
theorem lk_X10_73 : LkS RX10 73 yJ6_numberOfTrailingZeros_0f7a4 cJ6_numberOfTrailingZeros_0f7a4 2 (some .int) 1 := ⟨wd_8_16, wd_8_17, wd_8_18, wd_8_19, by decide +kernel⟩
theorem lk_X10_78 : LkV RX10 78 yX10_followLaid cX10_followLaid 3 none 0 := ⟨wd_7_19, wd_7_20, wd_7_21, wd_1_14, wd_7_22, by decide +kernel⟩
theorem lk_X10_81 : LkV RX10 81 yX10_turnBehind cX10_turnBehind 4 none 0 := ⟨wd_8_1, wd_8_2, wd_8_3, wd_1_14, wd_8_4, by decide +kernel⟩
theorem lk_X10_84 : LkV RX10 84 yX10_sumHalf cX10_sumHalf 7 none 2 := ⟨wd_8_5, wd_8_6, wd_8_7, wd_1_14, wd_8_8, by decide +kernel⟩
theorem lk_X10_55 : LkV RX10 55 yX10_renew cX10_renew 1 none 0 := ⟨wd_7_14, wd_7_15, wd_7_16, wd_1_14, wd_7_17, by decide +kernel⟩
theorem lk_X11_296 : LkV RX11 296 yX10_add cX10_add 4 (some .int) 2 := ⟨wd_7_10, wd_7_11, wd_7_12, wd_1_14, wd_7_13, by decide +kernel⟩
theorem lk_X11_104 : LkV RX11 104 yX2_keep cX2_keep 5 none 4 := ⟨wd_8_21, wd_8_22, wd_8_23, wd_2_2, wd_9_0, by decide +kernel⟩
theorem lk_X11_74 : LkS RX11 74 yX10_allows cX10_allows 2 (some .boolean) 2 := ⟨wd_6_16, wd_6_17, wd_1_14, wd_6_18, by decide +kernel⟩
theorem lk_X11_78 : LkV RX11 78 yX11_refused cX11_refused 2 (some .int) 1 := ⟨wd_6_21, wd_6_22, wd_6_23, wd_1_2, wd_7_0, by decide +kernel⟩
theorem lk_X11_82 : LkV RX11 82 yX10_isFull cX10_isFull 1 (some .boolean) 0 := ⟨wd_7_1, wd_7_2, wd_7_3, wd_1_14, wd_7_4, by decide +kernel⟩
theorem lk_X11_86 : LkV RX11 86 yX11_bringJob cX11_bringJob 4 (some .int) 2 := ⟨wd_7_6, wd_7_7, wd_7_8, wd_1_2, wd_7_9, by decide +kernel⟩
theorem lk_X11_90 : LkV RX11 90 yX11_done cX11_done 2 (some .int) 1 := ⟨wd_9_4, wd_9_5, wd_9_6, wd_1_2, wd_9_7, by decide +kernel⟩
section PT
variable {p : Program} {l : Launch} {e : Env} {s : State} {m : MethodId} {args : Array Value} {below : List Frame} {meth : Method} {c : Code} {A : Nat → Prop} {D : va_G} {b : Nat → ClassId} {h : Nat → Nat}
-- FellersOrder$Yard.allows(II)Z
abbrev rm_X10_allows : Room := { frames := 0, cells := 0, slots := 0, locals := 0 }
def wp_X10_allows (a0 : Int32) (a1 : Int32) (u : St) (Post : Int32 → St → Prop) : Prop := ((a0 < 0) → (Post (0 : Int32) u)) ∧ ((¬ a0 < 0) → ((((2 : Int32) < a0) → (Post (0 : Int32) u)) ∧ ((¬ (2 : Int32) < a0) → (vp_in a0 3 ∧ (((a1 < (loT (Int32.toNatClampNeg a0))) → (Post (0 : Int32) u)) ∧ ((¬ a1 < (loT (Int32.toNatClampNeg a0))) → (vp_in a0 3 ∧ ((((hiT (Int32.toNatClampNeg a0)) < a1) → (Post (0 : Int32) u)) ∧ ((¬ (hiT (Int32.toNatClampNeg a0)) < a1) → (Post (1 : Int32) u))))))))))
set_option maxHeartbeats 4000000 in
set_option maxRecDepth 100000 in
theorem c_X10_allows {a0 : Int32} {a1 : Int32} {l : Launch} {D : va_G} {b : Nat → ClassId} {h : Nat → Nat} {u : St} {Post : Int32 → St → Prop} (hw : wp_X10_allows a0 a1 u Post) : CtI l yX10_allows cX10_allows 2 (some .boolean) rm_X10_allows D (tyF b) 46 (gF b h) h [.int a0, .int a1] u Post := by
  refine CtI.of (plainFor_of_name (by decide)) (Nat.le_of_ble_eq_true rfl) ?_
  intro p e s m below meth c A ls X hA O hl
  have X : Cx p s m _ meth c cX10_allows 2 (some .boolean) RX10 D (tyF b) A := X
  obtain ⟨⟨hx, hb, hml, hown, hts⟩, hK, hNs, hlocks, hr⟩ := id X
  obtain ⟨t0, t1, z0, y0, z1, y1⟩ := hNs.2
  have hl : lv_has ls 2 [(0, .int a0), (1, .int a1)] := hl
  unfold wp_X10_allows at hw
  refine lv_iload_n hx hb dX10_allows_0 rfl (lv_at hl 0 rfl) ?_
  refine lv_if_lt (tgt := 31) hx hb dX10_allows_1 (by decide) (fun c1 => ?_) (fun c1 => ?_)
  · have hw := hw.1 c1
    refine lv_iconst (v := 0) hx hb dX10_allows_31 (by decide) ?_
    exact q_zret X O rfl hw dX10_allows_32
  · have hw := hw.2 c1
    refine lv_iload_n hx hb dX10_allows_4 rfl (lv_at hl 0 rfl) ?_
    refine lv_iconst (v := 2) hx hb dX10_allows_5 (by decide) ?_
    refine lv_icmp_gt (tgt := 31) hx hb dX10_allows_6 (by decide) (fun c6 => ?_) (fun c6 => ?_)
    · have hw := hw.1 c6
      refine lv_iconst (v := 0) hx hb dX10_allows_31 (by decide) ?_
      exact q_zret X O rfl hw dX10_allows_32
    · have hw := hw.2 c6
      refine lv_iload_n hx hb dX10_allows_9 rfl (lv_at hl 1 rfl) ?_
      refine va_gets hx hb z0 O.2.2 hown (hts _ wd_6_19) (fun _ q => q) dX10_allows_10 ?_
      refine lv_iload_n hx hb dX10_allows_13 rfl (lv_at hl 0 rfl) ?_
      obtain ⟨i14, hw⟩ := hw
      refine va_ti hx hb y0 O.2.2 i14 rfl dX10_allows_14 ?_
      refine lv_icmp_lt (tgt := 31) hx hb dX10_allows_15 (by decide) (fun c15 => ?_) (fun c15 => ?_)
      · have hw := hw.1 c15
        refine lv_iconst (v := 0) hx hb dX10_allows_31 (by decide) ?_
        exact q_zret X O rfl hw dX10_allows_32
      · have hw := hw.2 c15
        refine lv_iload_n hx hb dX10_allows_18 rfl (lv_at hl 1 rfl) ?_
        refine va_gets hx hb z1 O.2.2 hown (hts _ wd_6_20) (fun _ q => q) dX10_allows_19 ?_
        refine lv_iload_n hx hb dX10_allows_22 rfl (lv_at hl 0 rfl) ?_
        obtain ⟨i23, hw⟩ := hw
        refine va_ti hx hb y1 O.2.2 i23 rfl dX10_allows_23 ?_
        refine lv_icmp_gt (tgt := 31) hx hb dX10_allows_24 (by decide) (fun c24 => ?_) (fun c24 => ?_)
        · have hw := hw.1 c24
          refine lv_iconst (v := 0) hx hb dX10_allows_31 (by decide) ?_
          exact q_zret X O rfl hw dX10_allows_32
        · have hw := hw.2 c24
          refine lv_iconst (v := 1) hx hb dX10_allows_27 (by decide) ?_
          refine lv_goto (tgt := 32) hx hb dX10_allows_28 (by decide) ?_
          exact q_zret X O rfl hw dX10_allows_32
-- FellersOrder$Yard.isFull()Z
abbrev rm_X10_isFull : Room := { frames := 0, cells := 0, slots := 0, locals := 0 }
def wp_X10_isFull (u : St) (Post : Int32 → St → Prop) : Prop := (((u 1 7) < (12 : Int32)) → (Post (0 : Int32) u)) ∧ ((¬ (u 1 7) < (12 : Int32)) → (Post (1 : Int32) u))
set_option maxHeartbeats 4000000 in
set_option maxRecDepth 100000 in
theorem c_X10_isFull {l : Launch} {D : va_G} {b : Nat → ClassId} {h : Nat → Nat} {u : St} {Post : Int32 → St → Prop} (hw : wp_X10_isFull u Post) : CtI l yX10_isFull cX10_isFull 1 (some .boolean) rm_X10_isFull D (tyF b) 46 (gF b h) h [.ref (h 1)] u Post := by
  refine CtI.of (plainFor_of_name (by decide)) (Nat.le_of_ble_eq_true rfl) ?_
  intro p e s m below meth c A ls X hA O hl
  have X : Cx p s m _ meth c cX10_isFull 1 (some .boolean) RX10 D (tyF b) A := X
  obtain ⟨⟨hx, hb, hml, hown, hts⟩, hK, hNs, hlocks, hr⟩ := id X
  have hl : lv_has ls 1 [(0, .ref (h 1))] := hl
  unfold wp_X10_isFull at hw
  refine lv_aload_n hx hb dX10_isFull_0 rfl (lv_at hl 0 rfl) ?_
  refine gt_X10_41 X O dX10_isFull_1 ?_
  refine lv_bipush (v := 12) hx hb dX10_isFull_4 (by decide) ?_
  refine lv_icmp_lt (tgt := 13) hx hb dX10_isFull_6 (by decide) (fun c6 => ?_) (fun c6 => ?_)
  · have hw := hw.1 c6
    refine lv_iconst (v := 0) hx hb dX10_isFull_13 (by decide) ?_
    exact q_zret X O rfl hw dX10_isFull_14
  · have hw := hw.2 c6
    refine lv_iconst (v := 1) hx hb dX10_isFull_9 (by decide) ?_
    refine lv_goto (tgt := 14) hx hb dX10_isFull_10 (by decide) ?_
    exact q_zret X O rfl hw dX10_isFull_14
-- FellersOrder.hasBit(II)Z
abbrev rm_X11_hasBit : Room := { frames := 0, cells := 0, slots := 0, locals := 0 }
def wp_X11_hasBit (a0 : Int32) (a1 : Int32) (u : St) (Post : Int32 → St → Prop) : Prop := ((¬ ((a0 >>> (a1 &&& 31)) &&& (1 : Int32)) = (1 : Int32)) → (Post (0 : Int32) u)) ∧ ((((a0 >>> (a1 &&& 31)) &&& (1 : Int32)) = (1 : Int32)) → (Post (1 : Int32) u))
set_option maxHeartbeats 4000000 in
set_option maxRecDepth 100000 in
theorem c_X11_hasBit {a0 : Int32} {a1 : Int32} {l : Launch} {D : va_G} {b : Nat → ClassId} {h : Nat → Nat} {u : St} {Post : Int32 → St → Prop} (hw : wp_X11_hasBit a0 a1 u Post) : CtI l yX11_hasBit cX11_hasBit 2 (some .boolean) rm_X11_hasBit D (tyF b) 46 (gF b h) h [.int a0, .int a1] u Post := by
  refine CtI.of (plainFor_of_name (by decide)) (Nat.le_of_ble_eq_true rfl) ?_
  intro p e s m below meth c A ls X hA O hl
  have X : Cx p s m _ meth c cX11_hasBit 2 (some .boolean) RX11 D (tyF b) A := X
  obtain ⟨⟨hx, hb, hml, hown, hts⟩, hK, hNs, hlocks, hr⟩ := id X
  have hl : lv_has ls 2 [(0, .int a0), (1, .int a1)] := hl
  unfold wp_X11_hasBit at hw
  refine lv_iload_n hx hb dX11_hasBit_0 rfl (lv_at hl 0 rfl) ?_
  refine lv_iload_n hx hb dX11_hasBit_1 rfl (lv_at hl 1 rfl) ?_
  refine lv_ishr hx hb dX11_hasBit_2 ?_
  refine lv_iconst (v := 1) hx hb dX11_hasBit_3 (by decide) ?_
  refine lv_iand hx hb dX11_hasBit_4 ?_
  refine lv_iconst (v := 1) hx hb dX11_hasBit_5 (by decide) ?_
  refine lv_icmp_ne (tgt := 13) hx hb dX11_hasBit_6 (by decide) (fun c6 => ?_) (fun c6 => ?_)
  · have hw := hw.1 c6
    refine lv_iconst (v := 0) hx hb dX11_hasBit_13 (by decide) ?_
    exact q_zret X O rfl hw dX11_hasBit_14
  · have hw := hw.2 c6
    refine lv_iconst (v := 1) hx hb dX11_hasBit_9 (by decide) ?_
    refine lv_goto (tgt := 14) hx hb dX11_hasBit_10 (by decide) ?_
    exact q_zret X O rfl hw dX11_hasBit_14
-- FellersOrder$Yard.followLaid()V
abbrev rm_X10_followLaid : Room := { frames := 1, cells := 0, slots := 0, locals := 21 }
def wb_X10_followLaid_40 (Post : Int32 → St → Prop) (K30 : Int32 → St → Prop) (K40 : Int32 → Int32 → St → Prop) (x1 : Int32) (x2 : Int32) (u : St) : Prop := (((u 1 7) ≤ x2) → (K30 (x1 + 1) u)) ∧ ((¬ (u 1 7) ≤ x2) → (vp_in x2 12 ∧ (wp_X11_hasBit (u 8 (Int32.toNatClampNeg x2)) x1 u (fun r55 u55 => ((r55 = 0) → (K40 x1 (x2 + 1) u55)) ∧ ((¬ r55 = 0) → (vp_in x2 12 ∧ (vp_in x1 12 ∧ (vp_in x2 12 ∧ (K40 x1 (x2 + 1) (su u55 8 (Int32.toNatClampNeg x2) ((u55 8 (Int32.toNatClampNeg x2)) ||| (u55 8 (Int32.toNatClampNeg x1)))))))))))))
set_option maxHeartbeats 4000000 in
set_option maxRecDepth 100000 in
theorem tb_X10_followLaid_40 (X : Cx p s m args meth c cX10_followLaid 3 none RX10 D (tyF b) A) (hA : ∀ q, s.heap.size ≤ q → A q) {Post : Int32 → St → Prop} {K30 : Int32 → St → Prop} (k30 : ∀ (x1 : Int32) (u : St) (H : Heap) (locs : List Loc) (ls : Array Slot), K30 x1 u → wO D 46 (gF b h) h u A s.heap H locs → lv_has ls 3 [(0, .ref (h 1)), (1, .int x1)] → W p l e rm_X10_followLaid s m args below meth c H locs 0 0 (MQ below (va_Qv (Post 0) (cB D (tyF b) 46 (gF b h) h A) A) args s 0 0 A) (F0 m 30 ls [])) {K40 : Int32 → Int32 → St → Prop} (k40 : ∀ (x1 : Int32) (x2 : Int32) (u : St) (H : Heap) (locs : List Loc) (ls : Array Slot), K40 x1 x2 u → wO D 46 (gF b h) h u A s.heap H locs → lv_has ls 3 [(0, .ref (h 1)), (1, .int x1), (2, .int x2)] → W p l e rm_X10_followLaid s m args below meth c H locs 0 0 (MQ below (va_Qv (Post 0) (cB D (tyF b) 46 (gF b h) h A) A) args s 0 0 A) (F0 m 40 ls [])) : ∀ (x1 : Int32) (x2 : Int32) (u : St) (H : Heap) (locs : List Loc) (ls : Array Slot), wb_X10_followLaid_40 Post K30 K40 x1 x2 u → wO D 46 (gF b h) h u A s.heap H locs → lv_has ls 3 [(0, .ref (h 1)), (1, .int x1), (2, .int x2)] → W p l e rm_X10_followLaid s m args below meth c H locs 0 0 (MQ below (va_Qv (Post 0) (cB D (tyF b) 46 (gF b h) h A) A) args s 0 0 A) (F0 m 40 ls []) := by
  obtain ⟨⟨hx, hb, hml, hown, hts⟩, hK, hNs, hlocks, hr⟩ := id X
  intro x1 x2 u H locs ls hw O hl
  unfold wb_X10_followLaid_40 at hw
  refine lv_iload_n hx hb dX10_followLaid_40 rfl (lv_at hl 2 rfl) ?_
  refine lv_aload_n hx hb dX10_followLaid_41 rfl (lv_at hl 0 rfl) ?_
  refine gt_X10_41 X O dX10_followLaid_42 ?_
  refine lv_icmp_ge (tgt := 82) hx hb dX10_followLaid_45 (by decide) (fun c45 => ?_) (fun c45 => ?_)
  · have hw := hw.1 c45
    refine lv_iinc (v := x1 + 1) (lv' := [(1, .int (x1 + 1)), (0, .ref (h 1)), (2, .int x2)]) hx hb dX10_followLaid_82 hl (k := 1) rfl rfl (by decide) rfl (fun ls hl => ?_)
    refine lv_goto (tgt := 30) hx hb dX10_followLaid_85 (by decide) ?_
    exact k30 _ _ _ _ _ hw O (lv_sub hl [1, 0] rfl)
  · have hw := hw.2 c45
    refine lv_aload_n hx hb dX10_followLaid_48 rfl (lv_at hl 0 rfl) ?_
    refine gt_X10_23 X O dX10_followLaid_49 ?_
    refine lv_iload_n hx hb dX10_followLaid_52 rfl (lv_at hl 2 rfl) ?_
    obtain ⟨i53, hw⟩ := hw
    refine q_ild X O 8 0 (by decide) rfl rfl i53 dX10_followLaid_53 ?_
    refine lv_iload_n hx hb dX10_followLaid_54 rfl (lv_at hl 1 rfl) ?_
    refine q_cisN (rest := []) X O hA (c_X11_hasBit hw) lk_X10_51 rfl rfl rfl ⟨Nat.le_of_ble_eq_true rfl, Nat.le_of_ble_eq_true rfl⟩ (Nat.le_of_ble_eq_true rfl) hl.1 ⟨Nat.zero_le _, Nat.zero_le _⟩ rfl dX10_followLaid_55 (fun r55 u55 H locs hw O => ?_)
    refine lv_if_eq (tgt := 76) hx hb dX10_followLaid_58 (by decide) (fun c58 => ?_) (fun c58 => ?_)
    · have hw := hw.1 c58
      refine lv_iinc (v := x2 + 1) (lv' := [(2, .int (x2 + 1)), (0, .ref (h 1)), (1, .int x1)]) hx hb dX10_followLaid_76 hl (k := 2) rfl rfl (by decide) rfl (fun ls hl => ?_)
      refine lv_goto (tgt := 40) hx hb dX10_followLaid_79 (by decide) ?_
      exact k40 _ _ _ _ _ _ hw O (lv_sub hl [1, 2, 0] rfl)
    · have hw := hw.2 c58
      refine lv_aload_n hx hb dX10_followLaid_61 rfl (lv_at hl 0 rfl) ?_
      refine gt_X10_23 X O dX10_followLaid_62 ?_
      refine lv_iload_n hx hb dX10_followLaid_65 rfl (lv_at hl 2 rfl) ?_
      refine lv_dup2_11 hx hb dX10_followLaid_66 rfl rfl ?_
      obtain ⟨i67, hw⟩ := hw
      refine q_ild X O 8 0 (by decide) rfl rfl i67 dX10_followLaid_67 ?_
      refine lv_aload_n hx hb dX10_followLaid_68 rfl (lv_at hl 0 rfl) ?_
      refine gt_X10_23 X O dX10_followLaid_69 ?_
      refine lv_iload_n hx hb dX10_followLaid_72 rfl (lv_at hl 1 rfl) ?_
      obtain ⟨i73, hw⟩ := hw
      refine q_ild X O 8 0 (by decide) rfl rfl i73 dX10_followLaid_73 ?_
      refine lv_ior hx hb dX10_followLaid_74 ?_
      obtain ⟨i75, hw⟩ := hw
      refine q_ist X O 8 0 (by decide) (fun _ => rfl) rfl i75 dX10_followLaid_75 (fun H locs O => ?_)
      refine lv_iinc (v := x2 + 1) (lv' := [(2, .int (x2 + 1)), (0, .ref (h 1)), (1, .int x1)]) hx hb dX10_followLaid_76 hl (k := 2) rfl rfl (by decide) rfl (fun ls hl => ?_)
      refine lv_goto (tgt := 40) hx hb dX10_followLaid_79 (by decide) ?_
      exact k40 _ _ _ _ _ _ hw O (lv_sub hl [1, 2, 0] rfl)
def wl_X10_followLaid_40 (Post : Int32 → St → Prop) (K30 : Int32 → St → Prop) : Nat → Int32 → Int32 → St → Prop
  | 0 => fun _ _ _ => False
  | n + 1 => fun x1 x2 u => wb_X10_followLaid_40 Post K30 (wl_X10_followLaid_40 Post K30 n) x1 x2 u
set_option maxHeartbeats 4000000 in
set_option maxRecDepth 100000 in
theorem tl_X10_followLaid_40 (X : Cx p s m args meth c cX10_followLaid 3 none RX10 D (tyF b) A) (hA : ∀ q, s.heap.size ≤ q → A q) {Post : Int32 → St → Prop} {K30 : Int32 → St → Prop} (k30 : ∀ (x1 : Int32) (u : St) (H : Heap) (locs : List Loc) (ls : Array Slot), K30 x1 u → wO D 46 (gF b h) h u A s.heap H locs → lv_has ls 3 [(0, .ref (h 1)), (1, .int x1)] → W p l e rm_X10_followLaid s m args below meth c H locs 0 0 (MQ below (va_Qv (Post 0) (cB D (tyF b) 46 (gF b h) h A) A) args s 0 0 A) (F0 m 30 ls [])) : ∀ n : Nat, ∀ (x1 : Int32) (x2 : Int32) (u : St) (H : Heap) (locs : List Loc) (ls : Array Slot), (wl_X10_followLaid_40 Post K30 n) x1 x2 u → wO D 46 (gF b h) h u A s.heap H locs → lv_has ls 3 [(0, .ref (h 1)), (1, .int x1), (2, .int x2)] → W p l e rm_X10_followLaid s m args below meth c H locs 0 0 (MQ below (va_Qv (Post 0) (cB D (tyF b) 46 (gF b h) h A) A) args s 0 0 A) (F0 m 40 ls []) := by
  intro n
  induction n with
  | zero => intro x1 x2 u H locs ls hw; exact False.elim hw
  | succ n ih => intro x1 x2 u H locs ls hw O hl; exact tb_X10_followLaid_40 X hA k30 ih x1 x2 u H locs ls hw O hl
def wb_X10_followLaid_30 (Post : Int32 → St → Prop) (K30 : Int32 → St → Prop) (x1 : Int32) (u : St) : Prop := (((u 1 7) ≤ x1) → (Post 0 u)) ∧ ((¬ (u 1 7) ≤ x1) → (∃ n : Nat, wl_X10_followLaid_40 Post K30 n x1 (0 : Int32) u))
set_option maxHeartbeats 4000000 in
set_option maxRecDepth 100000 in
theorem tb_X10_followLaid_30 (X : Cx p s m args meth c cX10_followLaid 3 none RX10 D (tyF b) A) (hA : ∀ q, s.heap.size ≤ q → A q) {Post : Int32 → St → Prop} {K30 : Int32 → St → Prop} (k30 : ∀ (x1 : Int32) (u : St) (H : Heap) (locs : List Loc) (ls : Array Slot), K30 x1 u → wO D 46 (gF b h) h u A s.heap H locs → lv_has ls 3 [(0, .ref (h 1)), (1, .int x1)] → W p l e rm_X10_followLaid s m args below meth c H locs 0 0 (MQ below (va_Qv (Post 0) (cB D (tyF b) 46 (gF b h) h A) A) args s 0 0 A) (F0 m 30 ls [])) : ∀ (x1 : Int32) (u : St) (H : Heap) (locs : List Loc) (ls : Array Slot), wb_X10_followLaid_30 Post K30 x1 u → wO D 46 (gF b h) h u A s.heap H locs → lv_has ls 3 [(0, .ref (h 1)), (1, .int x1)] → W p l e rm_X10_followLaid s m args below meth c H locs 0 0 (MQ below (va_Qv (Post 0) (cB D (tyF b) 46 (gF b h) h A) A) args s 0 0 A) (F0 m 30 ls []) := by
  obtain ⟨⟨hx, hb, hml, hown, hts⟩, hK, hNs, hlocks, hr⟩ := id X
  intro x1 u H locs ls hw O hl
  unfold wb_X10_followLaid_30 at hw
  refine lv_iload_n hx hb dX10_followLaid_30 rfl (lv_at hl 1 rfl) ?_
  refine lv_aload_n hx hb dX10_followLaid_31 rfl (lv_at hl 0 rfl) ?_
  refine gt_X10_41 X O dX10_followLaid_32 ?_
  refine lv_icmp_ge (tgt := 88) hx hb dX10_followLaid_35 (by decide) (fun c35 => ?_) (fun c35 => ?_)
  · have hw := hw.1 c35
    exact q_vret X O hw dX10_followLaid_88
  · have hw := hw.2 c35
    refine lv_iconst (v := 0) hx hb dX10_followLaid_38 (by decide) ?_
    refine lv_istore_n (lv' := [(2, .int (0 : Int32)), (0, .ref (h 1)), (1, .int x1)]) hx hb dX10_followLaid_39 rfl hl (by decide) rfl (fun ls hl => ?_)
    obtain ⟨n, hw⟩ := hw
    exact tl_X10_followLaid_40 X hA k30 n _ _ _ _ _ _ hw O (lv_sub hl [1, 2, 0] rfl)
def wl_X10_followLaid_30 (Post : Int32 → St → Prop) : Nat → Int32 → St → Prop
  | 0 => fun _ _ => False
  | n + 1 => fun x1 u => wb_X10_followLaid_30 Post (wl_X10_followLaid_30 Post n) x1 u
set_option maxHeartbeats 4000000 in
set_option maxRecDepth 100000 in
theorem tl_X10_followLaid_30 (X : Cx p s m args meth c cX10_followLaid 3 none RX10 D (tyF b) A) (hA : ∀ q, s.heap.size ≤ q → A q) {Post : Int32 → St → Prop} : ∀ n : Nat, ∀ (x1 : Int32) (u : St) (H : Heap) (locs : List Loc) (ls : Array Slot), (wl_X10_followLaid_30 Post n) x1 u → wO D 46 (gF b h) h u A s.heap H locs → lv_has ls 3 [(0, .ref (h 1)), (1, .int x1)] → W p l e rm_X10_followLaid s m args below meth c H locs 0 0 (MQ below (va_Qv (Post 0) (cB D (tyF b) 46 (gF b h) h A) A) args s 0 0 A) (F0 m 30 ls []) := by
  intro n
  induction n with
  | zero => intro x1 u H locs ls hw; exact False.elim hw
  | succ n ih => intro x1 u H locs ls hw O hl; exact tb_X10_followLaid_30 X hA ih x1 u H locs ls hw O hl
def wb_X10_followLaid_2 (Post : Int32 → St → Prop) (K2 : Int32 → St → Prop) (x1 : Int32) (u : St) : Prop := (((u 1 7) ≤ x1) → (∃ n : Nat, wl_X10_followLaid_30 Post n (0 : Int32) u)) ∧ ((¬ (u 1 7) ≤ x1) → (vp_in x1 12 ∧ (vp_in x1 12 ∧ (K2 (x1 + 1) (su u 8 (Int32.toNatClampNeg x1) (u 6 (Int32.toNatClampNeg x1)))))))
set_option maxHeartbeats 4000000 in
set_option maxRecDepth 100000 in
theorem tb_X10_followLaid_2 (X : Cx p s m args meth c cX10_followLaid 3 none RX10 D (tyF b) A) (hA : ∀ q, s.heap.size ≤ q → A q) {Post : Int32 → St → Prop} {K2 : Int32 → St → Prop} (k2 : ∀ (x1 : Int32) (u : St) (H : Heap) (locs : List Loc) (ls : Array Slot), K2 x1 u → wO D 46 (gF b h) h u A s.heap H locs → lv_has ls 3 [(0, .ref (h 1)), (1, .int x1)] → W p l e rm_X10_followLaid s m args below meth c H locs 0 0 (MQ below (va_Qv (Post 0) (cB D (tyF b) 46 (gF b h) h A) A) args s 0 0 A) (F0 m 2 ls [])) : ∀ (x1 : Int32) (u : St) (H : Heap) (locs : List Loc) (ls : Array Slot), wb_X10_followLaid_2 Post K2 x1 u → wO D 46 (gF b h) h u A s.heap H locs → lv_has ls 3 [(0, .ref (h 1)), (1, .int x1)] → W p l e rm_X10_followLaid s m args below meth c H locs 0 0 (MQ below (va_Qv (Post 0) (cB D (tyF b) 46 (gF b h) h A) A) args s 0 0 A) (F0 m 2 ls []) := by
  obtain ⟨⟨hx, hb, hml, hown, hts⟩, hK, hNs, hlocks, hr⟩ := id X
  intro x1 u H locs ls hw O hl
  unfold wb_X10_followLaid_2 at hw
  refine lv_iload_n hx hb dX10_followLaid_2 rfl (lv_at hl 1 rfl) ?_
  refine lv_aload_n hx hb dX10_followLaid_3 rfl (lv_at hl 0 rfl) ?_
  refine gt_X10_41 X O dX10_followLaid_4 ?_
  refine lv_icmp_ge (tgt := 28) hx hb dX10_followLaid_7 (by decide) (fun c7 => ?_) (fun c7 => ?_)
  · have hw := hw.1 c7
    refine lv_iconst (v := 0) hx hb dX10_followLaid_28 (by decide) ?_
    refine lv_istore_n (lv' := [(1, .int (0 : Int32)), (0, .ref (h 1))]) hx hb dX10_followLaid_29 rfl hl (by decide) rfl (fun ls hl => ?_)
    obtain ⟨n, hw⟩ := hw
    exact tl_X10_followLaid_30 X hA n _ _ _ _ _ hw O (lv_sub hl [1, 0] rfl)
  · have hw := hw.2 c7
    refine lv_aload_n hx hb dX10_followLaid_10 rfl (lv_at hl 0 rfl) ?_
    refine gt_X10_23 X O dX10_followLaid_11 ?_
    refine lv_iload_n hx hb dX10_followLaid_14 rfl (lv_at hl 1 rfl) ?_
    refine lv_aload_n hx hb dX10_followLaid_15 rfl (lv_at hl 0 rfl) ?_
    refine gt_X10_16 X O dX10_followLaid_16 ?_
    refine lv_iload_n hx hb dX10_followLaid_19 rfl (lv_at hl 1 rfl) ?_
    obtain ⟨i20, hw⟩ := hw
    refine q_ild X O 6 0 (by decide) rfl rfl i20 dX10_followLaid_20 ?_
    obtain ⟨i21, hw⟩ := hw
    refine q_ist X O 8 0 (by decide) (fun _ => rfl) rfl i21 dX10_followLaid_21 (fun H locs O => ?_)
    refine lv_iinc (v := x1 + 1) (lv' := [(1, .int (x1 + 1)), (0, .ref (h 1))]) hx hb dX10_followLaid_22 hl (k := 1) rfl rfl (by decide) rfl (fun ls hl => ?_)
    refine lv_goto (tgt := 2) hx hb dX10_followLaid_25 (by decide) ?_
    exact k2 _ _ _ _ _ hw O (lv_sub hl [1, 0] rfl)
def wl_X10_followLaid_2 (Post : Int32 → St → Prop) : Nat → Int32 → St → Prop
  | 0 => fun _ _ => False
  | n + 1 => fun x1 u => wb_X10_followLaid_2 Post (wl_X10_followLaid_2 Post n) x1 u
set_option maxHeartbeats 4000000 in
set_option maxRecDepth 100000 in
theorem tl_X10_followLaid_2 (X : Cx p s m args meth c cX10_followLaid 3 none RX10 D (tyF b) A) (hA : ∀ q, s.heap.size ≤ q → A q) {Post : Int32 → St → Prop} : ∀ n : Nat, ∀ (x1 : Int32) (u : St) (H : Heap) (locs : List Loc) (ls : Array Slot), (wl_X10_followLaid_2 Post n) x1 u → wO D 46 (gF b h) h u A s.heap H locs → lv_has ls 3 [(0, .ref (h 1)), (1, .int x1)] → W p l e rm_X10_followLaid s m args below meth c H locs 0 0 (MQ below (va_Qv (Post 0) (cB D (tyF b) 46 (gF b h) h A) A) args s 0 0 A) (F0 m 2 ls []) := by
  intro n
  induction n with
  | zero => intro x1 u H locs ls hw; exact False.elim hw
  | succ n ih => intro x1 u H locs ls hw O hl; exact tb_X10_followLaid_2 X hA ih x1 u H locs ls hw O hl
def wp_X10_followLaid (u : St) (Post : Int32 → St → Prop) : Prop := ∃ n : Nat, wl_X10_followLaid_2 Post n (0 : Int32) u
set_option maxHeartbeats 4000000 in
set_option maxRecDepth 100000 in
theorem c_X10_followLaid {l : Launch} {D : va_G} {b : Nat → ClassId} {h : Nat → Nat} {u : St} {Post : Int32 → St → Prop} (hw : wp_X10_followLaid u Post) : CtV l yX10_followLaid cX10_followLaid 3 none rm_X10_followLaid D (tyF b) 46 (gF b h) h [.ref (h 1)] u Post := by
  refine CtV.of (plainFor_of_name (by decide)) (Nat.le_of_ble_eq_true rfl) ?_
  intro p e s m below meth c A ls X hA O hl
  have X : Cx p s m _ meth c cX10_followLaid 3 none RX10 D (tyF b) A := X
  obtain ⟨⟨hx, hb, hml, hown, hts⟩, hK, hNs, hlocks, hr⟩ := id X
  have hl : lv_has ls 3 [(0, .ref (h 1))] := hl
  unfold wp_X10_followLaid at hw
  refine lv_iconst (v := 0) hx hb dX10_followLaid_0 (by decide) ?_
  refine lv_istore_n (lv' := [(1, .int (0 : Int32)), (0, .ref (h 1))]) hx hb dX10_followLaid_1 rfl hl (by decide) rfl (fun ls hl => ?_)
  obtain ⟨n, hw⟩ := hw
  exact tl_X10_followLaid_2 X hA n _ _ _ _ _ hw O (lv_sub hl [1, 0] rfl)
-- java/lang/Integer.numberOfTrailingZeros(I)I
abbrev rm_J6_numberOfTrailingZeros_0f7a4 : Room := { frames := 0, cells := 0, slots := 0, locals := 0 }
def wb_J6_numberOfTrailingZeros_0f7a4_62 (Post : Int32 → St → Prop) (x0 : Int32) (x1 : Int32) (u : St) : Prop := ((x0 ≤ (4 : Int32)) → (Post (x1 + ((Int32.toUInt32 x0 >>> (Int32.toUInt32 (1 : Int32) &&& Int32.toUInt32 31)).toInt32)) u)) ∧ ((¬ x0 ≤ (4 : Int32)) → (Post ((x1 + 2) + ((Int32.toUInt32 ((Int32.toUInt32 x0 >>> (Int32.toUInt32 (2 : Int32) &&& Int32.toUInt32 31)).toInt32) >>> (Int32.toUInt32 (1 : Int32) &&& Int32.toUInt32 31)).toInt32)) u))
set_option maxHeartbeats 4000000 in
set_option maxRecDepth 100000 in
theorem tb_J6_numberOfTrailingZeros_0f7a4_62 (X : Cx p s m args meth c cJ6_numberOfTrailingZeros_0f7a4 2 (some .int) RJ6 D (tyF b) A) (hA : ∀ q, s.heap.size ≤ q → A q) {Post : Int32 → St → Prop} : ∀ (x0 : Int32) (x1 : Int32) (u : St) (H : Heap) (locs : List Loc) (ls : Array Slot), wb_J6_numberOfTrailingZeros_0f7a4_62 Post x0 x1 u → wO D 46 (gF b h) h u A s.heap H locs → lv_has ls 2 [(0, .int x0), (1, .int x1)] → W p l e rm_J6_numberOfTrailingZeros_0f7a4 s m args below meth c H locs 0 0 (MQ below (va_Qi Post (cB D (tyF b) 46 (gF b h) h A) A) args s 0 0 A) (F0 m 62 ls []) := by
  obtain ⟨⟨hx, hb, hml, hown, hts⟩, hK, hNs, hlocks, hr⟩ := id X
  intro x0 x1 u H locs ls hw O hl
  unfold wb_J6_numberOfTrailingZeros_0f7a4_62 at hw
  refine lv_iload_n hx hb dJ6_numberOfTrailingZeros_0f7a4_62 rfl (lv_at hl 0 rfl) ?_
  refine lv_iconst (v := 4) hx hb dJ6_numberOfTrailingZeros_0f7a4_63 (by decide) ?_
  refine lv_icmp_le (tgt := 74) hx hb dJ6_numberOfTrailingZeros_0f7a4_64 (by decide) (fun c64 => ?_) (fun c64 => ?_)
  · have hw := hw.1 c64
    refine lv_iload_n hx hb dJ6_numberOfTrailingZeros_0f7a4_74 rfl (lv_at hl 1 rfl) ?_
    refine lv_iload_n hx hb dJ6_numberOfTrailingZeros_0f7a4_75 rfl (lv_at hl 0 rfl) ?_
    refine lv_iconst (v := 1) hx hb dJ6_numberOfTrailingZeros_0f7a4_76 (by decide) ?_
    refine lv_iushr hx hb dJ6_numberOfTrailingZeros_0f7a4_77 rfl ?_
    refine lv_iadd hx hb dJ6_numberOfTrailingZeros_0f7a4_78 ?_
    exact q_iret X O hw dJ6_numberOfTrailingZeros_0f7a4_79
  · have hw := hw.2 c64
    refine lv_iinc (v := x1 + 2) (lv' := [(1, .int (x1 + 2)), (0, .int x0)]) hx hb dJ6_numberOfTrailingZeros_0f7a4_67 hl (k := 1) rfl rfl (by decide) rfl (fun ls hl => ?_)
    refine lv_iload_n hx hb dJ6_numberOfTrailingZeros_0f7a4_70 rfl (lv_at hl 1 rfl) ?_
    refine lv_iconst (v := 2) hx hb dJ6_numberOfTrailingZeros_0f7a4_71 (by decide) ?_
    refine lv_iushr hx hb dJ6_numberOfTrailingZeros_0f7a4_72 rfl ?_
    refine lv_istore_n (lv' := [(0, .int ((Int32.toUInt32 x0 >>> (Int32.toUInt32 (2 : Int32) &&& Int32.toUInt32 31)).toInt32)), (1, .int (x1 + 2))]) hx hb dJ6_numberOfTrailingZeros_0f7a4_73 rfl hl (by decide) rfl (fun ls hl => ?_)
    refine lv_iload_n hx hb dJ6_numberOfTrailingZeros_0f7a4_74 rfl (lv_at hl 1 rfl) ?_
    refine lv_iload_n hx hb dJ6_numberOfTrailingZeros_0f7a4_75 rfl (lv_at hl 0 rfl) ?_
    refine lv_iconst (v := 1) hx hb dJ6_numberOfTrailingZeros_0f7a4_76 (by decide) ?_
    refine lv_iushr hx hb dJ6_numberOfTrailingZeros_0f7a4_77 rfl ?_
    refine lv_iadd hx hb dJ6_numberOfTrailingZeros_0f7a4_78 ?_
    exact q_iret X O hw dJ6_numberOfTrailingZeros_0f7a4_79
def wb_J6_numberOfTrailingZeros_0f7a4_49 (Post : Int32 → St → Prop) (x0 : Int32) (x1 : Int32) (u : St) : Prop := ((x0 ≤ (16 : Int32)) → (wb_J6_numberOfTrailingZeros_0f7a4_62 Post x0 x1 u)) ∧ ((¬ x0 ≤ (16 : Int32)) → (wb_J6_numberOfTrailingZeros_0f7a4_62 Post ((Int32.toUInt32 x0 >>> (Int32.toUInt32 (4 : Int32) &&& Int32.toUInt32 31)).toInt32) (x1 + 4) u))
set_option maxHeartbeats 4000000 in
set_option maxRecDepth 100000 in
theorem tb_J6_numberOfTrailingZeros_0f7a4_49 (X : Cx p s m args meth c cJ6_numberOfTrailingZeros_0f7a4 2 (some .int) RJ6 D (tyF b) A) (hA : ∀ q, s.heap.size ≤ q → A q) {Post : Int32 → St → Prop} : ∀ (x0 : Int32) (x1 : Int32) (u : St) (H : Heap) (locs : List Loc) (ls : Array Slot), wb_J6_numberOfTrailingZeros_0f7a4_49 Post x0 x1 u → wO D 46 (gF b h) h u A s.heap H locs → lv_has ls 2 [(0, .int x0), (1, .int x1)] → W p l e rm_J6_numberOfTrailingZeros_0f7a4 s m args below meth c H locs 0 0 (MQ below (va_Qi Post (cB D (tyF b) 46 (gF b h) h A) A) args s 0 0 A) (F0 m 49 ls []) := by
  obtain ⟨⟨hx, hb, hml, hown, hts⟩, hK, hNs, hlocks, hr⟩ := id X
  intro x0 x1 u H locs ls hw O hl
  unfold wb_J6_numberOfTrailingZeros_0f7a4_49 at hw
  refine lv_iload_n hx hb dJ6_numberOfTrailingZeros_0f7a4_49 rfl (lv_at hl 0 rfl) ?_
  refine lv_bipush (v := 16) hx hb dJ6_numberOfTrailingZeros_0f7a4_50 (by decide) ?_
  refine lv_icmp_le (tgt := 62) hx hb dJ6_numberOfTrailingZeros_0f7a4_52 (by decide) (fun c52 => ?_) (fun c52 => ?_)
  · have hw := hw.1 c52
    exact tb_J6_numberOfTrailingZeros_0f7a4_62 X hA _ _ _ _ _ _ hw O (lv_sub hl [0, 1] rfl)
  · have hw := hw.2 c52
    refine lv_iinc (v := x1 + 4) (lv' := [(1, .int (x1 + 4)), (0, .int x0)]) hx hb dJ6_numberOfTrailingZeros_0f7a4_55 hl (k := 1) rfl rfl (by decide) rfl (fun ls hl => ?_)
    refine lv_iload_n hx hb dJ6_numberOfTrailingZeros_0f7a4_58 rfl (lv_at hl 1 rfl) ?_
    refine lv_iconst (v := 4) hx hb dJ6_numberOfTrailingZeros_0f7a4_59 (by decide) ?_
    refine lv_iushr hx hb dJ6_numberOfTrailingZeros_0f7a4_60 rfl ?_
    refine lv_istore_n (lv' := [(0, .int ((Int32.toUInt32 x0 >>> (Int32.toUInt32 (4 : Int32) &&& Int32.toUInt32 31)).toInt32)), (1, .int (x1 + 4))]) hx hb dJ6_numberOfTrailingZeros_0f7a4_61 rfl hl (by decide) rfl (fun ls hl => ?_)
    exact tb_J6_numberOfTrailingZeros_0f7a4_62 X hA _ _ _ _ _ _ hw O (lv_sub hl [0, 1] rfl)
def wb_J6_numberOfTrailingZeros_0f7a4_34 (Post : Int32 → St → Prop) (x0 : Int32) (x1 : Int32) (u : St) : Prop := ((x0 ≤ (256 : Int32)) → (wb_J6_numberOfTrailingZeros_0f7a4_49 Post x0 x1 u)) ∧ ((¬ x0 ≤ (256 : Int32)) → (wb_J6_numberOfTrailingZeros_0f7a4_49 Post ((Int32.toUInt32 x0 >>> (Int32.toUInt32 (8 : Int32) &&& Int32.toUInt32 31)).toInt32) (x1 + 8) u))
set_option maxHeartbeats 4000000 in
set_option maxRecDepth 100000 in
theorem tb_J6_numberOfTrailingZeros_0f7a4_34 (X : Cx p s m args meth c cJ6_numberOfTrailingZeros_0f7a4 2 (some .int) RJ6 D (tyF b) A) (hA : ∀ q, s.heap.size ≤ q → A q) {Post : Int32 → St → Prop} : ∀ (x0 : Int32) (x1 : Int32) (u : St) (H : Heap) (locs : List Loc) (ls : Array Slot), wb_J6_numberOfTrailingZeros_0f7a4_34 Post x0 x1 u → wO D 46 (gF b h) h u A s.heap H locs → lv_has ls 2 [(0, .int x0), (1, .int x1)] → W p l e rm_J6_numberOfTrailingZeros_0f7a4 s m args below meth c H locs 0 0 (MQ below (va_Qi Post (cB D (tyF b) 46 (gF b h) h A) A) args s 0 0 A) (F0 m 34 ls []) := by
  obtain ⟨⟨hx, hb, hml, hown, hts⟩, hK, hNs, hlocks, hr⟩ := id X
  intro x0 x1 u H locs ls hw O hl
  unfold wb_J6_numberOfTrailingZeros_0f7a4_34 at hw
  refine lv_iload_n hx hb dJ6_numberOfTrailingZeros_0f7a4_34 rfl (lv_at hl 0 rfl) ?_
  refine lv_sipush (v := 256) hx hb dJ6_numberOfTrailingZeros_0f7a4_35 (by decide) ?_
  refine lv_icmp_le (tgt := 49) hx hb dJ6_numberOfTrailingZeros_0f7a4_38 (by decide) (fun c38 => ?_) (fun c38 => ?_)
  · have hw := hw.1 c38
    exact tb_J6_numberOfTrailingZeros_0f7a4_49 X hA _ _ _ _ _ _ hw O (lv_sub hl [0, 1] rfl)
  · have hw := hw.2 c38
    refine lv_iinc (v := x1 + 8) (lv' := [(1, .int (x1 + 8)), (0, .int x0)]) hx hb dJ6_numberOfTrailingZeros_0f7a4_41 hl (k := 1) rfl rfl (by decide) rfl (fun ls hl => ?_)
    refine lv_iload_n hx hb dJ6_numberOfTrailingZeros_0f7a4_44 rfl (lv_at hl 1 rfl) ?_
    refine lv_bipush (v := 8) hx hb dJ6_numberOfTrailingZeros_0f7a4_45 (by decide) ?_
    refine lv_iushr hx hb dJ6_numberOfTrailingZeros_0f7a4_47 rfl ?_
    refine lv_istore_n (lv' := [(0, .int ((Int32.toUInt32 x0 >>> (Int32.toUInt32 (8 : Int32) &&& Int32.toUInt32 31)).toInt32)), (1, .int (x1 + 8))]) hx hb dJ6_numberOfTrailingZeros_0f7a4_48 rfl hl (by decide) rfl (fun ls hl => ?_)
    exact tb_J6_numberOfTrailingZeros_0f7a4_49 X hA _ _ _ _ _ _ hw O (lv_sub hl [0, 1] rfl)
def wp_J6_numberOfTrailingZeros_0f7a4 (a0 : Int32) (u : St) (Post : Int32 → St → Prop) : Prop := ((0 < ((a0 ^^^ (-1 : Int32)) &&& (a0 - (1 : Int32)))) → (((((a0 ^^^ (-1 : Int32)) &&& (a0 - (1 : Int32))) ≤ (65536 : Int32)) → (wb_J6_numberOfTrailingZeros_0f7a4_34 Post ((a0 ^^^ (-1 : Int32)) &&& (a0 - (1 : Int32))) (1 : Int32) u)) ∧ ((¬ ((a0 ^^^ (-1 : Int32)) &&& (a0 - (1 : Int32))) ≤ (65536 : Int32)) → (wb_J6_numberOfTrailingZeros_0f7a4_34 Post ((Int32.toUInt32 ((a0 ^^^ (-1 : Int32)) &&& (a0 - (1 : Int32))) >>> (Int32.toUInt32 (16 : Int32) &&& Int32.toUInt32 31)).toInt32) ((1 : Int32) + 16) u)))) ∧ ((¬ 0 < ((a0 ^^^ (-1 : Int32)) &&& (a0 - (1 : Int32)))) → (Post (((a0 ^^^ (-1 : Int32)) &&& (a0 - (1 : Int32))) &&& (32 : Int32)) u))
set_option maxHeartbeats 4000000 in
set_option maxRecDepth 100000 in
theorem c_J6_numberOfTrailingZeros_0f7a4 {a0 : Int32} {l : Launch} {D : va_G} {b : Nat → ClassId} {h : Nat → Nat} {u : St} {Post : Int32 → St → Prop} (hw : wp_J6_numberOfTrailingZeros_0f7a4 a0 u Post) : CtI l yJ6_numberOfTrailingZeros_0f7a4 cJ6_numberOfTrailingZeros_0f7a4 2 (some .int) rm_J6_numberOfTrailingZeros_0f7a4 D (tyF b) 46 (gF b h) h [.int a0] u Post := by
  refine CtI.of (by decide +kernel) (Nat.le_of_ble_eq_true rfl) ?_
  intro p e s m below meth c A ls X hA O hl
  have X : Cx p s m _ meth c cJ6_numberOfTrailingZeros_0f7a4 2 (some .int) RJ6 D (tyF b) A := X
  obtain ⟨⟨hx, hb, hml, hown, hts⟩, hK, hNs, hlocks, hr⟩ := id X
  have hl : lv_has ls 2 [(0, .int a0)] := hl
  unfold wp_J6_numberOfTrailingZeros_0f7a4 at hw
  refine lv_iload_n hx hb dJ6_numberOfTrailingZeros_0f7a4_0 rfl (lv_at hl 0 rfl) ?_
  refine lv_iconst (v := -1) hx hb dJ6_numberOfTrailingZeros_0f7a4_1 (by decide) ?_
  refine lv_ixor hx hb dJ6_numberOfTrailingZeros_0f7a4_2 ?_
  refine lv_iload_n hx hb dJ6_numberOfTrailingZeros_0f7a4_3 rfl (lv_at hl 0 rfl) ?_
  refine lv_iconst (v := 1) hx hb dJ6_numberOfTrailingZeros_0f7a4_4 (by decide) ?_
  refine lv_isub hx hb dJ6_numberOfTrailingZeros_0f7a4_5 ?_
  refine lv_iand hx hb dJ6_numberOfTrailingZeros_0f7a4_6 ?_
  refine lv_istore_n (lv' := [(0, .int ((a0 ^^^ (-1 : Int32)) &&& (a0 - (1 : Int32))))]) hx hb dJ6_numberOfTrailingZeros_0f7a4_7 rfl hl (by decide) rfl (fun ls hl => ?_)
  refine lv_iload_n hx hb dJ6_numberOfTrailingZeros_0f7a4_8 rfl (lv_at hl 0 rfl) ?_
  refine lv_if_gt (tgt := 17) hx hb dJ6_numberOfTrailingZeros_0f7a4_9 (by decide) (fun c9 => ?_) (fun c9 => ?_)
  · have hw := hw.1 c9
    refine lv_iconst (v := 1) hx hb dJ6_numberOfTrailingZeros_0f7a4_17 (by decide) ?_
    refine lv_istore_n (lv' := [(1, .int (1 : Int32)), (0, .int ((a0 ^^^ (-1 : Int32)) &&& (a0 - (1 : Int32))))]) hx hb dJ6_numberOfTrailingZeros_0f7a4_18 rfl hl (by decide) rfl (fun ls hl => ?_)
    refine lv_iload_n hx hb dJ6_numberOfTrailingZeros_0f7a4_19 rfl (lv_at hl 1 rfl) ?_
    refine lv_ldcw (v := 65536) hx hb hown (hts _ wd_8_20) dJ6_numberOfTrailingZeros_0f7a4_20 ?_
    refine lv_icmp_le (tgt := 34) hx hb dJ6_numberOfTrailingZeros_0f7a4_23 (by decide) (fun c23 => ?_) (fun c23 => ?_)
    · have hw := hw.1 c23
      exact tb_J6_numberOfTrailingZeros_0f7a4_34 X hA _ _ _ _ _ _ hw O (lv_sub hl [1, 0] rfl)
    · have hw := hw.2 c23
      refine lv_iinc (v := (1 : Int32) + 16) (lv' := [(1, .int ((1 : Int32) + 16)), (0, .int ((a0 ^^^ (-1 : Int32)) &&& (a0 - (1 : Int32))))]) hx hb dJ6_numberOfTrailingZeros_0f7a4_26 hl (k := 0) rfl rfl (by decide) rfl (fun ls hl => ?_)
      refine lv_iload_n hx hb dJ6_numberOfTrailingZeros_0f7a4_29 rfl (lv_at hl 1 rfl) ?_
      refine lv_bipush (v := 16) hx hb dJ6_numberOfTrailingZeros_0f7a4_30 (by decide) ?_
      refine lv_iushr hx hb dJ6_numberOfTrailingZeros_0f7a4_32 rfl ?_
      refine lv_istore_n (lv' := [(0, .int ((Int32.toUInt32 ((a0 ^^^ (-1 : Int32)) &&& (a0 - (1 : Int32))) >>> (Int32.toUInt32 (16 : Int32) &&& Int32.toUInt32 31)).toInt32)), (1, .int ((1 : Int32) + 16))]) hx hb dJ6_numberOfTrailingZeros_0f7a4_33 rfl hl (by decide) rfl (fun ls hl => ?_)
      exact tb_J6_numberOfTrailingZeros_0f7a4_34 X hA _ _ _ _ _ _ hw O (lv_sub hl [0, 1] rfl)
  · have hw := hw.2 c9
    refine lv_iload_n hx hb dJ6_numberOfTrailingZeros_0f7a4_12 rfl (lv_at hl 0 rfl) ?_
    refine lv_bipush (v := 32) hx hb dJ6_numberOfTrailingZeros_0f7a4_13 (by decide) ?_
    refine lv_iand hx hb dJ6_numberOfTrailingZeros_0f7a4_15 ?_
    exact q_iret X O hw dJ6_numberOfTrailingZeros_0f7a4_16
-- FellersOrder$Yard.sumHalf(II)V
abbrev rm_X10_sumHalf : Room := { frames := 1, cells := 0, slots := 0, locals := 21 }
def wb_X10_sumHalf_19 (Post : Int32 → St → Prop) (K19 : Int32 → Int32 → Int32 → Int32 → St → Prop) (x1 : Int32) (x2 : Int32) (x3 : Int32) (x4 : Int32) (u : St) : Prop := ((((1 : Int32) <<< (x3 &&& 31)) ≤ x4) → (Post 0 u)) ∧ ((¬ ((1 : Int32) <<< (x3 &&& 31)) ≤ x4) → (wp_J6_numberOfTrailingZeros_0f7a4 x4 u (fun r41 u41 => vp_in (x1 + (x4 &&& (x4 - (1 : Int32)))) 128 ∧ (vp_in (x2 + r41) 12 ∧ (vp_in (x1 + x4) 128 ∧ (vp_in (x1 + (x4 &&& (x4 - (1 : Int32)))) 128 ∧ (vp_in (x2 + r41) 12 ∧ (vp_in (x1 + x4) 128 ∧ (vp_in (x1 + (x4 &&& (x4 - (1 : Int32)))) 128 ∧ (vp_in (x2 + r41) 12 ∧ (vp_in (x1 + x4) 128 ∧ (K19 x1 x2 x3 (x4 + 1) (su (su (su u41 9 (Int32.toNatClampNeg (x1 + x4)) ((u41 9 (Int32.toNatClampNeg (x1 + (x4 &&& (x4 - (1 : Int32)))))) + (u41 3 (Int32.toNatClampNeg (x2 + r41))))) 10 (Int32.toNatClampNeg (x1 + x4)) (((su u41 9 (Int32.toNatClampNeg (x1 + x4)) ((u41 9 (Int32.toNatClampNeg (x1 + (x4 &&& (x4 - (1 : Int32)))))) + (u41 3 (Int32.toNatClampNeg (x2 + r41))))) 10 (Int32.toNatClampNeg (x1 + (x4 &&& (x4 - (1 : Int32)))))) + ((su u41 9 (Int32.toNatClampNeg (x1 + x4)) ((u41 9 (Int32.toNatClampNeg (x1 + (x4 &&& (x4 - (1 : Int32)))))) + (u41 3 (Int32.toNatClampNeg (x2 + r41))))) 4 (Int32.toNatClampNeg (x2 + r41))))) 11 (Int32.toNatClampNeg (x1 + x4)) (((su (su u41 9 (Int32.toNatClampNeg (x1 + x4)) ((u41 9 (Int32.toNatClampNeg (x1 + (x4 &&& (x4 - (1 : Int32)))))) + (u41 3 (Int32.toNatClampNeg (x2 + r41))))) 10 (Int32.toNatClampNeg (x1 + x4)) (((su u41 9 (Int32.toNatClampNeg (x1 + x4)) ((u41 9 (Int32.toNatClampNeg (x1 + (x4 &&& (x4 - (1 : Int32)))))) + (u41 3 (Int32.toNatClampNeg (x2 + r41))))) 10 (Int32.toNatClampNeg (x1 + (x4 &&& (x4 - (1 : Int32)))))) + ((su u41 9 (Int32.toNatClampNeg (x1 + x4)) ((u41 9 (Int32.toNatClampNeg (x1 + (x4 &&& (x4 - (1 : Int32)))))) + (u41 3 (Int32.toNatClampNeg (x2 + r41))))) 4 (Int32.toNatClampNeg (x2 + r41))))) 11 (Int32.toNatClampNeg (x1 + (x4 &&& (x4 - (1 : Int32)))))) ||| ((su (su u41 9 (Int32.toNatClampNeg (x1 + x4)) ((u41 9 (Int32.toNatClampNeg (x1 + (x4 &&& (x4 - (1 : Int32)))))) + (u41 3 (Int32.toNatClampNeg (x2 + r41))))) 10 (Int32.toNatClampNeg (x1 + x4)) (((su u41 9 (Int32.toNatClampNeg (x1 + x4)) ((u41 9 (Int32.toNatClampNeg (x1 + (x4 &&& (x4 - (1 : Int32)))))) + (u41 3 (Int32.toNatClampNeg (x2 + r41))))) 10 (Int32.toNatClampNeg (x1 + (x4 &&& (x4 - (1 : Int32)))))) + ((su u41 9 (Int32.toNatClampNeg (x1 + x4)) ((u41 9 (Int32.toNatClampNeg (x1 + (x4 &&& (x4 - (1 : Int32)))))) + (u41 3 (Int32.toNatClampNeg (x2 + r41))))) 4 (Int32.toNatClampNeg (x2 + r41))))) 7 (Int32.toNatClampNeg (x2 + r41)))))))))))))))))
set_option maxHeartbeats 4000000 in
set_option maxRecDepth 100000 in
theorem tb_X10_sumHalf_19 (X : Cx p s m args meth c cX10_sumHalf 7 none RX10 D (tyF b) A) (hA : ∀ q, s.heap.size ≤ q → A q) {Post : Int32 → St → Prop} {K19 : Int32 → Int32 → Int32 → Int32 → St → Prop} (k19 : ∀ (x1 : Int32) (x2 : Int32) (x3 : Int32) (x4 : Int32) (u : St) (H : Heap) (locs : List Loc) (ls : Array Slot), K19 x1 x2 x3 x4 u → wO D 46 (gF b h) h u A s.heap H locs → lv_has ls 7 [(0, .ref (h 1)), (1, .int x1), (2, .int x2), (3, .int x3), (4, .int x4)] → W p l e rm_X10_sumHalf s m args below meth c H locs 0 0 (MQ below (va_Qv (Post 0) (cB D (tyF b) 46 (gF b h) h A) A) args s 0 0 A) (F0 m 19 ls [])) : ∀ (x1 : Int32) (x2 : Int32) (x3 : Int32) (x4 : Int32) (u : St) (H : Heap) (locs : List Loc) (ls : Array Slot), wb_X10_sumHalf_19 Post K19 x1 x2 x3 x4 u → wO D 46 (gF b h) h u A s.heap H locs → lv_has ls 7 [(0, .ref (h 1)), (1, .int x1), (2, .int x2), (3, .int x3), (4, .int x4)] → W p l e rm_X10_sumHalf s m args below meth c H locs 0 0 (MQ below (va_Qv (Post 0) (cB D (tyF b) 46 (gF b h) h A) A) args s 0 0 A) (F0 m 19 ls []) := by
  obtain ⟨⟨hx, hb, hml, hown, hts⟩, hK, hNs, hlocks, hr⟩ := id X
  intro x1 x2 x3 x4 u H locs ls hw O hl
  unfold wb_X10_sumHalf_19 at hw
  refine lv_iload hx hb dX10_sumHalf_19 (lv_at hl 4 rfl) ?_
  refine lv_iconst (v := 1) hx hb dX10_sumHalf_21 (by decide) ?_
  refine lv_iload_n hx hb dX10_sumHalf_22 rfl (lv_at hl 3 rfl) ?_
  refine lv_ishl hx hb dX10_sumHalf_23 ?_
  refine lv_icmp_ge (tgt := 129) hx hb dX10_sumHalf_24 (by decide) (fun c24 => ?_) (fun c24 => ?_)
  · have hw := hw.1 c24
    exact q_vret X O hw dX10_sumHalf_129
  · have hw := hw.2 c24
    refine lv_iload_n hx hb dX10_sumHalf_27 rfl (lv_at hl 1 rfl) ?_
    refine lv_iload hx hb dX10_sumHalf_28 (lv_at hl 4 rfl) ?_
    refine lv_iload hx hb dX10_sumHalf_30 (lv_at hl 4 rfl) ?_
    refine lv_iconst (v := 1) hx hb dX10_sumHalf_32 (by decide) ?_
    refine lv_isub hx hb dX10_sumHalf_33 ?_
    refine lv_iand hx hb dX10_sumHalf_34 ?_
    refine lv_iadd hx hb dX10_sumHalf_35 ?_
    refine lv_istore (lv' := [(5, .int (x1 + (x4 &&& (x4 - (1 : Int32))))), (0, .ref (h 1)), (1, .int x1), (2, .int x2), (3, .int x3), (4, .int x4)]) hx hb dX10_sumHalf_36 hl (by decide) rfl (fun ls hl => ?_)
    refine lv_iload_n hx hb dX10_sumHalf_38 rfl (lv_at hl 3 rfl) ?_
    refine lv_iload hx hb dX10_sumHalf_39 (lv_at hl 5 rfl) ?_
    refine q_cis (rest := [.int x2]) X O hA (c_J6_numberOfTrailingZeros_0f7a4 hw) lk_X10_73 rfl rfl rfl ⟨Nat.le_of_ble_eq_true rfl, Nat.le_of_ble_eq_true rfl⟩ (Nat.le_of_ble_eq_true rfl) hl.1 ⟨Nat.zero_le _, Nat.zero_le _⟩ rfl dX10_sumHalf_41 (fun r41 u41 H locs hw O => ?_)
    refine lv_iadd hx hb dX10_sumHalf_44 ?_
    refine lv_istore (lv' := [(6, .int (x2 + r41)), (5, .int (x1 + (x4 &&& (x4 - (1 : Int32))))), (0, .ref (h 1)), (1, .int x1), (2, .int x2), (3, .int x3), (4, .int x4)]) hx hb dX10_sumHalf_45 hl (by decide) rfl (fun ls hl => ?_)
    refine lv_aload_n hx hb dX10_sumHalf_47 rfl (lv_at hl 2 rfl) ?_
    refine gt_X10_26 X O dX10_sumHalf_48 ?_
    refine lv_iload_n hx hb dX10_sumHalf_51 rfl (lv_at hl 3 rfl) ?_
    refine lv_iload hx hb dX10_sumHalf_52 (lv_at hl 6 rfl) ?_
    refine lv_iadd hx hb dX10_sumHalf_54 ?_
    refine lv_aload_n hx hb dX10_sumHalf_55 rfl (lv_at hl 2 rfl) ?_
    refine gt_X10_26 X O dX10_sumHalf_56 ?_
    refine lv_iload hx hb dX10_sumHalf_59 (lv_at hl 1 rfl) ?_
    obtain ⟨i61, hw⟩ := hw
    refine q_ild X O 9 0 (by decide) rfl rfl i61 dX10_sumHalf_61 ?_
    refine lv_aload_n hx hb dX10_sumHalf_62 rfl (lv_at hl 2 rfl) ?_
    refine gt_X10_13 X O dX10_sumHalf_63 ?_
    refine lv_iconst (v := 0) hx hb dX10_sumHalf_66 (by decide) ?_
    refine q_alA X O 2 1 (by decide) rfl rfl (by unfold vp_in; decide) (me_f 0 3 (by decide) (by decide) rfl) dX10_sumHalf_67 ?_
    refine lv_iload hx hb dX10_sumHalf_68 (lv_at hl 0 rfl) ?_
    obtain ⟨i70, hw⟩ := hw
    refine q_ild X O 3 0 (by decide) rfl rfl i70 dX10_sumHalf_70 ?_
    refine lv_iadd hx hb dX10_sumHalf_71 ?_
    obtain ⟨i72, hw⟩ := hw
    refine q_ist X O 9 0 (by decide) (fun _ => rfl) rfl i72 dX10_sumHalf_72 (fun H locs O => ?_)
    refine lv_aload_n hx hb dX10_sumHalf_73 rfl (lv_at hl 2 rfl) ?_
    refine gt_X10_29 X O dX10_sumHalf_74 ?_
    refine lv_iload_n hx hb dX10_sumHalf_77 rfl (lv_at hl 3 rfl) ?_
    refine lv_iload hx hb dX10_sumHalf_78 (lv_at hl 6 rfl) ?_
    refine lv_iadd hx hb dX10_sumHalf_80 ?_
    refine lv_aload_n hx hb dX10_sumHalf_81 rfl (lv_at hl 2 rfl) ?_
    refine gt_X10_29 X O dX10_sumHalf_82 ?_
    refine lv_iload hx hb dX10_sumHalf_85 (lv_at hl 1 rfl) ?_
    obtain ⟨i87, hw⟩ := hw
    refine q_ild X O 10 0 (by decide) rfl rfl i87 dX10_sumHalf_87 ?_
    refine lv_aload_n hx hb dX10_sumHalf_88 rfl (lv_at hl 2 rfl) ?_
    refine gt_X10_13 X O dX10_sumHalf_89 ?_
    refine lv_iconst (v := 1) hx hb dX10_sumHalf_92 (by decide) ?_
    refine q_alA X O 2 1 (by decide) rfl rfl (by unfold vp_in; decide) (me_f 1 4 (by decide) (by decide) rfl) dX10_sumHalf_93 ?_
    refine lv_iload hx hb dX10_sumHalf_94 (lv_at hl 0 rfl) ?_
    obtain ⟨i96, hw⟩ := hw
    refine q_ild X O 4 0 (by decide) rfl rfl i96 dX10_sumHalf_96 ?_
    refine lv_iadd hx hb dX10_sumHalf_97 ?_
    obtain ⟨i98, hw⟩ := hw
    refine q_ist X O 10 0 (by decide) (fun _ => rfl) rfl i98 dX10_sumHalf_98 (fun H locs O => ?_)
    refine lv_aload_n hx hb dX10_sumHalf_99 rfl (lv_at hl 2 rfl) ?_
    refine gt_X10_32 X O dX10_sumHalf_100 ?_
    refine lv_iload_n hx hb dX10_sumHalf_103 rfl (lv_at hl 3 rfl) ?_
    refine lv_iload hx hb dX10_sumHalf_104 (lv_at hl 6 rfl) ?_
    refine lv_iadd hx hb dX10_sumHalf_106 ?_
    refine lv_aload_n hx hb dX10_sumHalf_107 rfl (lv_at hl 2 rfl) ?_
    refine gt_X10_32 X O dX10_sumHalf_108 ?_
    refine lv_iload hx hb dX10_sumHalf_111 (lv_at hl 1 rfl) ?_
    obtain ⟨i113, hw⟩ := hw
    refine q_ild X O 11 0 (by decide) rfl rfl i113 dX10_sumHalf_113 ?_
    refine lv_aload_n hx hb dX10_sumHalf_114 rfl (lv_at hl 2 rfl) ?_
    refine gt_X10_20 X O dX10_sumHalf_115 ?_
    refine lv_iload hx hb dX10_sumHalf_118 (lv_at hl 0 rfl) ?_
    obtain ⟨i120, hw⟩ := hw
    refine q_ild X O 7 0 (by decide) rfl rfl i120 dX10_sumHalf_120 ?_
    refine lv_ior hx hb dX10_sumHalf_121 ?_
    obtain ⟨i122, hw⟩ := hw
    refine q_ist X O 11 0 (by decide) (fun _ => rfl) rfl i122 dX10_sumHalf_122 (fun H locs O => ?_)
    refine lv_iinc (v := x4 + 1) (lv' := [(4, .int (x4 + 1)), (6, .int (x2 + r41)), (5, .int (x1 + (x4 &&& (x4 - (1 : Int32))))), (0, .ref (h 1)), (1, .int x1), (2, .int x2), (3, .int x3)]) hx hb dX10_sumHalf_123 hl (k := 6) rfl rfl (by decide) rfl (fun ls hl => ?_)
    refine lv_goto (tgt := 19) hx hb dX10_sumHalf_126 (by decide) ?_
    exact k19 _ _ _ _ _ _ _ _ hw O (lv_sub hl [3, 4, 5, 6, 0] rfl)
def wl_X10_sumHalf_19 (Post : Int32 → St → Prop) : Nat → Int32 → Int32 → Int32 → Int32 → St → Prop
  | 0 => fun _ _ _ _ _ => False
  | n + 1 => fun x1 x2 x3 x4 u => wb_X10_sumHalf_19 Post (wl_X10_sumHalf_19 Post n) x1 x2 x3 x4 u
set_option maxHeartbeats 4000000 in
set_option maxRecDepth 100000 in
theorem tl_X10_sumHalf_19 (X : Cx p s m args meth c cX10_sumHalf 7 none RX10 D (tyF b) A) (hA : ∀ q, s.heap.size ≤ q → A q) {Post : Int32 → St → Prop} : ∀ n : Nat, ∀ (x1 : Int32) (x2 : Int32) (x3 : Int32) (x4 : Int32) (u : St) (H : Heap) (locs : List Loc) (ls : Array Slot), (wl_X10_sumHalf_19 Post n) x1 x2 x3 x4 u → wO D 46 (gF b h) h u A s.heap H locs → lv_has ls 7 [(0, .ref (h 1)), (1, .int x1), (2, .int x2), (3, .int x3), (4, .int x4)] → W p l e rm_X10_sumHalf s m args below meth c H locs 0 0 (MQ below (va_Qv (Post 0) (cB D (tyF b) 46 (gF b h) h A) A) args s 0 0 A) (F0 m 19 ls []) := by
  intro n
  induction n with
  | zero => intro x1 x2 x3 x4 u H locs ls hw; exact False.elim hw
  | succ n ih => intro x1 x2 x3 x4 u H locs ls hw O hl; exact tb_X10_sumHalf_19 X hA ih x1 x2 x3 x4 u H locs ls hw O hl
def wp_X10_sumHalf (a1 : Int32) (a2 : Int32) (u : St) (Post : Int32 → St → Prop) : Prop := ∃ n : Nat, wl_X10_sumHalf_19 Post n a1 a2 (if (6 : Int32) < (if ((u 1 7) - a2) < (0 : Int32) then (0 : Int32) else ((u 1 7) - a2)) then (6 : Int32) else (if ((u 1 7) - a2) < (0 : Int32) then (0 : Int32) else ((u 1 7) - a2))) (1 : Int32) u
set_option maxHeartbeats 4000000 in
set_option maxRecDepth 100000 in
theorem c_X10_sumHalf {a1 : Int32} {a2 : Int32} {l : Launch} {D : va_G} {b : Nat → ClassId} {h : Nat → Nat} {u : St} {Post : Int32 → St → Prop} (hw : wp_X10_sumHalf a1 a2 u Post) : CtV l yX10_sumHalf cX10_sumHalf 7 none rm_X10_sumHalf D (tyF b) 46 (gF b h) h [.ref (h 1), .int a1, .int a2] u Post := by
  refine CtV.of (plainFor_of_name (by decide)) (Nat.le_of_ble_eq_true rfl) ?_
  intro p e s m below meth c A ls X hA O hl
  have X : Cx p s m _ meth c cX10_sumHalf 7 none RX10 D (tyF b) A := X
  obtain ⟨⟨hx, hb, hml, hown, hts⟩, hK, hNs, hlocks, hr⟩ := id X
  have hl : lv_has ls 7 [(0, .ref (h 1)), (1, .int a1), (2, .int a2)] := hl
  unfold wp_X10_sumHalf at hw
  refine lv_aload_n hx hb dX10_sumHalf_0 rfl (lv_at hl 0 rfl) ?_
  refine gt_X10_41 X O dX10_sumHalf_1 ?_
  refine lv_iload_n hx hb dX10_sumHalf_4 rfl (lv_at hl 2 rfl) ?_
  refine lv_isub hx hb dX10_sumHalf_5 ?_
  refine lv_iconst (v := 0) hx hb dX10_sumHalf_6 (by decide) ?_
  refine q_max X hl.1 wd_8_9 wd_8_10 wd_8_11 wd_8_12 ⟨Nat.le_of_ble_eq_true rfl, Nat.le_of_ble_eq_true rfl⟩ (Nat.le_of_ble_eq_true rfl) ⟨Nat.zero_le _, Nat.zero_le _⟩ dX10_sumHalf_7 ?_
  refine lv_bipush (v := 6) hx hb dX10_sumHalf_10 (by decide) ?_
  refine q_min X hl.1 wd_8_13 wd_8_14 wd_8_11 wd_8_15 ⟨Nat.le_of_ble_eq_true rfl, Nat.le_of_ble_eq_true rfl⟩ (Nat.le_of_ble_eq_true rfl) ⟨Nat.zero_le _, Nat.zero_le _⟩ dX10_sumHalf_12 ?_
  refine lv_istore_n (lv' := [(3, .int (if (6 : Int32) < (if ((u 1 7) - a2) < (0 : Int32) then (0 : Int32) else ((u 1 7) - a2)) then (6 : Int32) else (if ((u 1 7) - a2) < (0 : Int32) then (0 : Int32) else ((u 1 7) - a2)))), (0, .ref (h 1)), (1, .int a1), (2, .int a2)]) hx hb dX10_sumHalf_15 rfl hl (by decide) rfl (fun ls hl => ?_)
  refine lv_iconst (v := 1) hx hb dX10_sumHalf_16 (by decide) ?_
  refine lv_istore (lv' := [(4, .int (1 : Int32)), (3, .int (if (6 : Int32) < (if ((u 1 7) - a2) < (0 : Int32) then (0 : Int32) else ((u 1 7) - a2)) then (6 : Int32) else (if ((u 1 7) - a2) < (0 : Int32) then (0 : Int32) else ((u 1 7) - a2)))), (0, .ref (h 1)), (1, .int a1), (2, .int a2)]) hx hb dX10_sumHalf_17 hl (by decide) rfl (fun ls hl => ?_)
  obtain ⟨n, hw⟩ := hw
  exact tl_X10_sumHalf_19 X hA n _ _ _ _ _ _ _ _ hw O (lv_sub hl [2, 3, 4, 1, 0] rfl)
-- FellersOrder$Yard.turnBehind()V
abbrev rm_X10_turnBehind : Room := { frames := 1, cells := 0, slots := 0, locals := 21 }
def wb_X10_turnBehind_14 (Post : Int32 → St → Prop) (K2 : Int32 → St → Prop) (K14 : Int32 → Int32 → Int32 → St → Prop) (x1 : Int32) (x2 : Int32) (x3 : Int32) (u : St) : Prop := (((u 1 7) ≤ x3) → (vp_in x1 12 ∧ (K2 (x1 + 1) (su u 7 (Int32.toNatClampNeg x1) x2)))) ∧ ((¬ (u 1 7) ≤ x3) → (vp_in x3 12 ∧ (wp_X11_hasBit (u 8 (Int32.toNatClampNeg x3)) x1 u (fun r29 u29 => ((r29 = 0) → (K14 x1 x2 (x3 + 1) u29)) ∧ ((¬ r29 = 0) → (K14 x1 (x2 ||| ((1 : Int32) <<< (x3 &&& 31))) (x3 + 1) u29))))))
set_option maxHeartbeats 4000000 in
set_option maxRecDepth 100000 in
theorem tb_X10_turnBehind_14 (X : Cx p s m args meth c cX10_turnBehind 4 none RX10 D (tyF b) A) (hA : ∀ q, s.heap.size ≤ q → A q) {Post : Int32 → St → Prop} {K2 : Int32 → St → Prop} (k2 : ∀ (x1 : Int32) (u : St) (H : Heap) (locs : List Loc) (ls : Array Slot), K2 x1 u → wO D 46 (gF b h) h u A s.heap H locs → lv_has ls 4 [(0, .ref (h 1)), (1, .int x1)] → W p l e rm_X10_turnBehind s m args below meth c H locs 0 0 (MQ below (va_Qv (Post 0) (cB D (tyF b) 46 (gF b h) h A) A) args s 0 0 A) (F0 m 2 ls [])) {K14 : Int32 → Int32 → Int32 → St → Prop} (k14 : ∀ (x1 : Int32) (x2 : Int32) (x3 : Int32) (u : St) (H : Heap) (locs : List Loc) (ls : Array Slot), K14 x1 x2 x3 u → wO D 46 (gF b h) h u A s.heap H locs → lv_has ls 4 [(0, .ref (h 1)), (1, .int x1), (2, .int x2), (3, .int x3)] → W p l e rm_X10_turnBehind s m args below meth c H locs 0 0 (MQ below (va_Qv (Post 0) (cB D (tyF b) 46 (gF b h) h A) A) args s 0 0 A) (F0 m 14 ls [])) : ∀ (x1 : Int32) (x2 : Int32) (x3 : Int32) (u : St) (H : Heap) (locs : List Loc) (ls : Array Slot), wb_X10_turnBehind_14 Post K2 K14 x1 x2 x3 u → wO D 46 (gF b h) h u A s.heap H locs → lv_has ls 4 [(0, .ref (h 1)), (1, .int x1), (2, .int x2), (3, .int x3)] → W p l e rm_X10_turnBehind s m args below meth c H locs 0 0 (MQ below (va_Qv (Post 0) (cB D (tyF b) 46 (gF b h) h A) A) args s 0 0 A) (F0 m 14 ls []) := by
  obtain ⟨⟨hx, hb, hml, hown, hts⟩, hK, hNs, hlocks, hr⟩ := id X
  intro x1 x2 x3 u H locs ls hw O hl
  unfold wb_X10_turnBehind_14 at hw
  refine lv_iload_n hx hb dX10_turnBehind_14 rfl (lv_at hl 3 rfl) ?_
  refine lv_aload_n hx hb dX10_turnBehind_15 rfl (lv_at hl 0 rfl) ?_
  refine gt_X10_41 X O dX10_turnBehind_16 ?_
  refine lv_icmp_ge (tgt := 47) hx hb dX10_turnBehind_19 (by decide) (fun c19 => ?_) (fun c19 => ?_)
  · have hw := hw.1 c19
    refine lv_aload_n hx hb dX10_turnBehind_47 rfl (lv_at hl 0 rfl) ?_
    refine gt_X10_20 X O dX10_turnBehind_48 ?_
    refine lv_iload_n hx hb dX10_turnBehind_51 rfl (lv_at hl 1 rfl) ?_
    refine lv_iload_n hx hb dX10_turnBehind_52 rfl (lv_at hl 2 rfl) ?_
    obtain ⟨i53, hw⟩ := hw
    refine q_ist X O 7 0 (by decide) (fun _ => rfl) rfl i53 dX10_turnBehind_53 (fun H locs O => ?_)
    refine lv_iinc (v := x1 + 1) (lv' := [(1, .int (x1 + 1)), (0, .ref (h 1)), (2, .int x2), (3, .int x3)]) hx hb dX10_turnBehind_54 hl (k := 1) rfl rfl (by decide) rfl (fun ls hl => ?_)
    refine lv_goto (tgt := 2) hx hb dX10_turnBehind_57 (by decide) ?_
    exact k2 _ _ _ _ _ hw O (lv_sub hl [1, 0] rfl)
  · have hw := hw.2 c19
    refine lv_aload_n hx hb dX10_turnBehind_22 rfl (lv_at hl 0 rfl) ?_
    refine gt_X10_23 X O dX10_turnBehind_23 ?_
    refine lv_iload_n hx hb dX10_turnBehind_26 rfl (lv_at hl 3 rfl) ?_
    obtain ⟨i27, hw⟩ := hw
    refine q_ild X O 8 0 (by decide) rfl rfl i27 dX10_turnBehind_27 ?_
    refine lv_iload_n hx hb dX10_turnBehind_28 rfl (lv_at hl 1 rfl) ?_
    refine q_cisN (rest := []) X O hA (c_X11_hasBit hw) lk_X10_51 rfl rfl rfl ⟨Nat.le_of_ble_eq_true rfl, Nat.le_of_ble_eq_true rfl⟩ (Nat.le_of_ble_eq_true rfl) hl.1 ⟨Nat.zero_le _, Nat.zero_le _⟩ rfl dX10_turnBehind_29 (fun r29 u29 H locs hw O => ?_)
    refine lv_if_eq (tgt := 41) hx hb dX10_turnBehind_32 (by decide) (fun c32 => ?_) (fun c32 => ?_)
    · have hw := hw.1 c32
      refine lv_iinc (v := x3 + 1) (lv' := [(3, .int (x3 + 1)), (0, .ref (h 1)), (1, .int x1), (2, .int x2)]) hx hb dX10_turnBehind_41 hl (k := 3) rfl rfl (by decide) rfl (fun ls hl => ?_)
      refine lv_goto (tgt := 14) hx hb dX10_turnBehind_44 (by decide) ?_
      exact k14 _ _ _ _ _ _ _ hw O (lv_sub hl [1, 2, 3, 0] rfl)
    · have hw := hw.2 c32
      refine lv_iload_n hx hb dX10_turnBehind_35 rfl (lv_at hl 2 rfl) ?_
      refine lv_iconst (v := 1) hx hb dX10_turnBehind_36 (by decide) ?_
      refine lv_iload_n hx hb dX10_turnBehind_37 rfl (lv_at hl 3 rfl) ?_
      refine lv_ishl hx hb dX10_turnBehind_38 ?_
      refine lv_ior hx hb dX10_turnBehind_39 ?_
      refine lv_istore_n (lv' := [(2, .int (x2 ||| ((1 : Int32) <<< (x3 &&& 31)))), (0, .ref (h 1)), (1, .int x1), (3, .int x3)]) hx hb dX10_turnBehind_40 rfl hl (by decide) rfl (fun ls hl => ?_)
      refine lv_iinc (v := x3 + 1) (lv' := [(3, .int (x3 + 1)), (2, .int (x2 ||| ((1 : Int32) <<< (x3 &&& 31)))), (0, .ref (h 1)), (1, .int x1)]) hx hb dX10_turnBehind_41 hl (k := 3) rfl rfl (by decide) rfl (fun ls hl => ?_)
      refine lv_goto (tgt := 14) hx hb dX10_turnBehind_44 (by decide) ?_
      exact k14 _ _ _ _ _ _ _ hw O (lv_sub hl [2, 3, 1, 0] rfl)
def wl_X10_turnBehind_14 (Post : Int32 → St → Prop) (K2 : Int32 → St → Prop) : Nat → Int32 → Int32 → Int32 → St → Prop
  | 0 => fun _ _ _ _ => False
  | n + 1 => fun x1 x2 x3 u => wb_X10_turnBehind_14 Post K2 (wl_X10_turnBehind_14 Post K2 n) x1 x2 x3 u
set_option maxHeartbeats 4000000 in
set_option maxRecDepth 100000 in
theorem tl_X10_turnBehind_14 (X : Cx p s m args meth c cX10_turnBehind 4 none RX10 D (tyF b) A) (hA : ∀ q, s.heap.size ≤ q → A q) {Post : Int32 → St → Prop} {K2 : Int32 → St → Prop} (k2 : ∀ (x1 : Int32) (u : St) (H : Heap) (locs : List Loc) (ls : Array Slot), K2 x1 u → wO D 46 (gF b h) h u A s.heap H locs → lv_has ls 4 [(0, .ref (h 1)), (1, .int x1)] → W p l e rm_X10_turnBehind s m args below meth c H locs 0 0 (MQ below (va_Qv (Post 0) (cB D (tyF b) 46 (gF b h) h A) A) args s 0 0 A) (F0 m 2 ls [])) : ∀ n : Nat, ∀ (x1 : Int32) (x2 : Int32) (x3 : Int32) (u : St) (H : Heap) (locs : List Loc) (ls : Array Slot), (wl_X10_turnBehind_14 Post K2 n) x1 x2 x3 u → wO D 46 (gF b h) h u A s.heap H locs → lv_has ls 4 [(0, .ref (h 1)), (1, .int x1), (2, .int x2), (3, .int x3)] → W p l e rm_X10_turnBehind s m args below meth c H locs 0 0 (MQ below (va_Qv (Post 0) (cB D (tyF b) 46 (gF b h) h A) A) args s 0 0 A) (F0 m 14 ls []) := by
  intro n
  induction n with
  | zero => intro x1 x2 x3 u H locs ls hw; exact False.elim hw
  | succ n ih => intro x1 x2 x3 u H locs ls hw O hl; exact tb_X10_turnBehind_14 X hA k2 ih x1 x2 x3 u H locs ls hw O hl
def wb_X10_turnBehind_2 (Post : Int32 → St → Prop) (K2 : Int32 → St → Prop) (x1 : Int32) (u : St) : Prop := (((u 1 7) ≤ x1) → (Post 0 u)) ∧ ((¬ (u 1 7) ≤ x1) → (∃ n : Nat, wl_X10_turnBehind_14 Post K2 n x1 (0 : Int32) (0 : Int32) u))
set_option maxHeartbeats 4000000 in
set_option maxRecDepth 100000 in
theorem tb_X10_turnBehind_2 (X : Cx p s m args meth c cX10_turnBehind 4 none RX10 D (tyF b) A) (hA : ∀ q, s.heap.size ≤ q → A q) {Post : Int32 → St → Prop} {K2 : Int32 → St → Prop} (k2 : ∀ (x1 : Int32) (u : St) (H : Heap) (locs : List Loc) (ls : Array Slot), K2 x1 u → wO D 46 (gF b h) h u A s.heap H locs → lv_has ls 4 [(0, .ref (h 1)), (1, .int x1)] → W p l e rm_X10_turnBehind s m args below meth c H locs 0 0 (MQ below (va_Qv (Post 0) (cB D (tyF b) 46 (gF b h) h A) A) args s 0 0 A) (F0 m 2 ls [])) : ∀ (x1 : Int32) (u : St) (H : Heap) (locs : List Loc) (ls : Array Slot), wb_X10_turnBehind_2 Post K2 x1 u → wO D 46 (gF b h) h u A s.heap H locs → lv_has ls 4 [(0, .ref (h 1)), (1, .int x1)] → W p l e rm_X10_turnBehind s m args below meth c H locs 0 0 (MQ below (va_Qv (Post 0) (cB D (tyF b) 46 (gF b h) h A) A) args s 0 0 A) (F0 m 2 ls []) := by
  obtain ⟨⟨hx, hb, hml, hown, hts⟩, hK, hNs, hlocks, hr⟩ := id X
  intro x1 u H locs ls hw O hl
  unfold wb_X10_turnBehind_2 at hw
  refine lv_iload_n hx hb dX10_turnBehind_2 rfl (lv_at hl 1 rfl) ?_
  refine lv_aload_n hx hb dX10_turnBehind_3 rfl (lv_at hl 0 rfl) ?_
  refine gt_X10_41 X O dX10_turnBehind_4 ?_
  refine lv_icmp_ge (tgt := 60) hx hb dX10_turnBehind_7 (by decide) (fun c7 => ?_) (fun c7 => ?_)
  · have hw := hw.1 c7
    exact q_vret X O hw dX10_turnBehind_60
  · have hw := hw.2 c7
    refine lv_iconst (v := 0) hx hb dX10_turnBehind_10 (by decide) ?_
    refine lv_istore_n (lv' := [(2, .int (0 : Int32)), (0, .ref (h 1)), (1, .int x1)]) hx hb dX10_turnBehind_11 rfl hl (by decide) rfl (fun ls hl => ?_)
    refine lv_iconst (v := 0) hx hb dX10_turnBehind_12 (by decide) ?_
    refine lv_istore_n (lv' := [(3, .int (0 : Int32)), (2, .int (0 : Int32)), (0, .ref (h 1)), (1, .int x1)]) hx hb dX10_turnBehind_13 rfl hl (by decide) rfl (fun ls hl => ?_)
    obtain ⟨n, hw⟩ := hw
    exact tl_X10_turnBehind_14 X hA k2 n _ _ _ _ _ _ _ hw O (lv_sub hl [2, 3, 1, 0] rfl)
def wl_X10_turnBehind_2 (Post : Int32 → St → Prop) : Nat → Int32 → St → Prop
  | 0 => fun _ _ => False
  | n + 1 => fun x1 u => wb_X10_turnBehind_2 Post (wl_X10_turnBehind_2 Post n) x1 u
set_option maxHeartbeats 4000000 in
set_option maxRecDepth 100000 in
theorem tl_X10_turnBehind_2 (X : Cx p s m args meth c cX10_turnBehind 4 none RX10 D (tyF b) A) (hA : ∀ q, s.heap.size ≤ q → A q) {Post : Int32 → St → Prop} : ∀ n : Nat, ∀ (x1 : Int32) (u : St) (H : Heap) (locs : List Loc) (ls : Array Slot), (wl_X10_turnBehind_2 Post n) x1 u → wO D 46 (gF b h) h u A s.heap H locs → lv_has ls 4 [(0, .ref (h 1)), (1, .int x1)] → W p l e rm_X10_turnBehind s m args below meth c H locs 0 0 (MQ below (va_Qv (Post 0) (cB D (tyF b) 46 (gF b h) h A) A) args s 0 0 A) (F0 m 2 ls []) := by
  intro n
  induction n with
  | zero => intro x1 u H locs ls hw; exact False.elim hw
  | succ n ih => intro x1 u H locs ls hw O hl; exact tb_X10_turnBehind_2 X hA ih x1 u H locs ls hw O hl
def wp_X10_turnBehind (u : St) (Post : Int32 → St → Prop) : Prop := ∃ n : Nat, wl_X10_turnBehind_2 Post n (0 : Int32) u
set_option maxHeartbeats 4000000 in
set_option maxRecDepth 100000 in
theorem c_X10_turnBehind {l : Launch} {D : va_G} {b : Nat → ClassId} {h : Nat → Nat} {u : St} {Post : Int32 → St → Prop} (hw : wp_X10_turnBehind u Post) : CtV l yX10_turnBehind cX10_turnBehind 4 none rm_X10_turnBehind D (tyF b) 46 (gF b h) h [.ref (h 1)] u Post := by
  refine CtV.of (plainFor_of_name (by decide)) (Nat.le_of_ble_eq_true rfl) ?_
  intro p e s m below meth c A ls X hA O hl
  have X : Cx p s m _ meth c cX10_turnBehind 4 none RX10 D (tyF b) A := X
  obtain ⟨⟨hx, hb, hml, hown, hts⟩, hK, hNs, hlocks, hr⟩ := id X
  have hl : lv_has ls 4 [(0, .ref (h 1))] := hl
  unfold wp_X10_turnBehind at hw
  refine lv_iconst (v := 0) hx hb dX10_turnBehind_0 (by decide) ?_
  refine lv_istore_n (lv' := [(1, .int (0 : Int32)), (0, .ref (h 1))]) hx hb dX10_turnBehind_1 rfl hl (by decide) rfl (fun ls hl => ?_)
  obtain ⟨n, hw⟩ := hw
  exact tl_X10_turnBehind_2 X hA n _ _ _ _ _ hw O (lv_sub hl [1, 0] rfl)
-- FellersOrder$Yard.renew()V
abbrev rm_X10_renew : Room := { frames := 2, cells := 0, slots := 0, locals := 47 }
def wp_X10_renew (u : St) (Post : Int32 → St → Prop) : Prop := wp_X10_followLaid (su u 1 9 ((u 1 9) + (1 : Int32))) (fun _ u11 => wp_X10_turnBehind u11 (fun _ u15 => wp_X10_sumHalf (0 : Int32) (0 : Int32) u15 (fun _ u21 => wp_X10_sumHalf (64 : Int32) (6 : Int32) u21 (fun _ u29 => Post 0 u29))))
set_option maxHeartbeats 4000000 in
set_option maxRecDepth 100000 in
theorem c_X10_renew {l : Launch} {D : va_G} {b : Nat → ClassId} {h : Nat → Nat} {u : St} {Post : Int32 → St → Prop} (hw : wp_X10_renew u Post) : CtV l yX10_renew cX10_renew 1 none rm_X10_renew D (tyF b) 46 (gF b h) h [.ref (h 1)] u Post := by
  refine CtV.of (plainFor_of_name (by decide)) (Nat.le_of_ble_eq_true rfl) ?_
  intro p e s m below meth c A ls X hA O hl
  have X : Cx p s m _ meth c cX10_renew 1 none RX10 D (tyF b) A := X
  obtain ⟨⟨hx, hb, hml, hown, hts⟩, hK, hNs, hlocks, hr⟩ := id X
  have hl : lv_has ls 1 [(0, .ref (h 1))] := hl
  unfold wp_X10_renew at hw
  refine lv_aload_n hx hb dX10_renew_0 rfl (lv_at hl 0 rfl) ?_
  refine lv_dup hx hb dX10_renew_1 rfl ?_
  refine gt_X10_48 X O dX10_renew_2 ?_
  refine lv_iconst (v := 1) hx hb dX10_renew_5 (by decide) ?_
  refine lv_iadd hx hb dX10_renew_6 ?_
  refine pt_X10_48 X O dX10_renew_7 (fun H locs O => ?_)
  refine lv_aload_n hx hb dX10_renew_10 rfl (lv_at hl 0 rfl) ?_
  refine q_cvv (rest := []) X O hA 1 (c_X10_followLaid hw) lk_X10_78 (by decide) rfl rfl rfl rfl rfl rfl ⟨Nat.le_of_ble_eq_true rfl, Nat.le_of_ble_eq_true rfl⟩ (Nat.le_of_ble_eq_true rfl) hl.1 ⟨Nat.zero_le _, Nat.zero_le _⟩ rfl dX10_renew_11 (fun u11 H locs hw O => ?_)
  refine lv_aload_n hx hb dX10_renew_14 rfl (lv_at hl 0 rfl) ?_
  refine q_cvv (rest := []) X O hA 1 (c_X10_turnBehind hw) lk_X10_81 (by decide) rfl rfl rfl rfl rfl rfl ⟨Nat.le_of_ble_eq_true rfl, Nat.le_of_ble_eq_true rfl⟩ (Nat.le_of_ble_eq_true rfl) hl.1 ⟨Nat.zero_le _, Nat.zero_le _⟩ rfl dX10_renew_15 (fun u15 H locs hw O => ?_)
  refine lv_aload_n hx hb dX10_renew_18 rfl (lv_at hl 0 rfl) ?_
  refine lv_iconst (v := 0) hx hb dX10_renew_19 (by decide) ?_
  refine lv_iconst (v := 0) hx hb dX10_renew_20 (by decide) ?_
  refine q_cvv (rest := []) X O hA 1 (c_X10_sumHalf hw) lk_X10_84 (by decide) rfl rfl rfl rfl rfl rfl ⟨Nat.le_of_ble_eq_true rfl, Nat.le_of_ble_eq_true rfl⟩ (Nat.le_of_ble_eq_true rfl) hl.1 ⟨Nat.zero_le _, Nat.zero_le _⟩ rfl dX10_renew_21 (fun u21 H locs hw O => ?_)
  refine lv_aload_n hx hb dX10_renew_24 rfl (lv_at hl 0 rfl) ?_
  refine lv_bipush (v := 64) hx hb dX10_renew_25 (by decide) ?_
  refine lv_bipush (v := 6) hx hb dX10_renew_27 (by decide) ?_
  refine q_cvv (rest := []) X O hA 1 (c_X10_sumHalf hw) lk_X10_84 (by decide) rfl rfl rfl rfl rfl rfl ⟨Nat.le_of_ble_eq_true rfl, Nat.le_of_ble_eq_true rfl⟩ (Nat.le_of_ble_eq_true rfl) hl.1 ⟨Nat.zero_le _, Nat.zero_le _⟩ rfl dX10_renew_29 (fun u29 H locs hw O => ?_)
  exact q_vret X O hw dX10_renew_32
-- FellersOrder$Yard.add(II)I
abbrev rm_X10_add : Room := { frames := 3, cells := 0, slots := 0, locals := 67 }
def wp_X10_add (a1 : Int32) (a2 : Int32) (u : St) (Post : Int32 → St → Prop) : Prop := vp_in (u 1 7) 12 ∧ (vp_in (u 1 7) 12 ∧ (vp_in (u 1 7) 12 ∧ (wp_X10_renew (su (su (su (su u 3 (Int32.toNatClampNeg (u 1 7)) a1) 4 (Int32.toNatClampNeg (u 1 7)) a2) 5 (Int32.toNatClampNeg (u 1 7)) (0 : Int32)) 1 7 (((su (su (su u 3 (Int32.toNatClampNeg (u 1 7)) a1) 4 (Int32.toNatClampNeg (u 1 7)) a2) 5 (Int32.toNatClampNeg (u 1 7)) (0 : Int32)) 1 7) + (1 : Int32))) (fun _ u43 => Post (u 1 7) u43))))
set_option maxHeartbeats 4000000 in
set_option maxRecDepth 100000 in
theorem c_X10_add {a1 : Int32} {a2 : Int32} {l : Launch} {D : va_G} {b : Nat → ClassId} {h : Nat → Nat} {u : St} {Post : Int32 → St → Prop} (hw : wp_X10_add a1 a2 u Post) : CtI l yX10_add cX10_add 4 (some .int) rm_X10_add D (tyF b) 46 (gF b h) h [.ref (h 1), .int a1, .int a2] u Post := by
  refine CtI.of (plainFor_of_name (by decide)) (Nat.le_of_ble_eq_true rfl) ?_
  intro p e s m below meth c A ls X hA O hl
  have X : Cx p s m _ meth c cX10_add 4 (some .int) RX10 D (tyF b) A := X
  obtain ⟨⟨hx, hb, hml, hown, hts⟩, hK, hNs, hlocks, hr⟩ := id X
  have hl : lv_has ls 4 [(0, .ref (h 1)), (1, .int a1), (2, .int a2)] := hl
  unfold wp_X10_add at hw
  refine lv_aload_n hx hb dX10_add_0 rfl (lv_at hl 0 rfl) ?_
  refine gt_X10_41 X O dX10_add_1 ?_
  refine lv_istore_n (lv' := [(3, .int (u 1 7)), (0, .ref (h 1)), (1, .int a1), (2, .int a2)]) hx hb dX10_add_4 rfl hl (by decide) rfl (fun ls hl => ?_)
  refine lv_aload_n hx hb dX10_add_5 rfl (lv_at hl 1 rfl) ?_
  refine gt_X10_13 X O dX10_add_6 ?_
  refine lv_iconst (v := 0) hx hb dX10_add_9 (by decide) ?_
  refine q_alA X O 2 1 (by decide) rfl rfl (by unfold vp_in; decide) (me_f 0 3 (by decide) (by decide) rfl) dX10_add_10 ?_
  refine lv_iload_n hx hb dX10_add_11 rfl (lv_at hl 0 rfl) ?_
  refine lv_iload_n hx hb dX10_add_12 rfl (lv_at hl 2 rfl) ?_
  obtain ⟨i13, hw⟩ := hw
  refine q_ist X O 3 0 (by decide) (fun _ => rfl) rfl i13 dX10_add_13 (fun H locs O => ?_)
  refine lv_aload_n hx hb dX10_add_14 rfl (lv_at hl 1 rfl) ?_
  refine gt_X10_13 X O dX10_add_15 ?_
  refine lv_iconst (v := 1) hx hb dX10_add_18 (by decide) ?_
  refine q_alA X O 2 1 (by decide) rfl rfl (by unfold vp_in; decide) (me_f 1 4 (by decide) (by decide) rfl) dX10_add_19 ?_
  refine lv_iload_n hx hb dX10_add_20 rfl (lv_at hl 0 rfl) ?_
  refine lv_iload_n hx hb dX10_add_21 rfl (lv_at hl 3 rfl) ?_
  obtain ⟨i22, hw⟩ := hw
  refine q_ist X O 4 0 (by decide) (fun _ => rfl) rfl i22 dX10_add_22 (fun H locs O => ?_)
  refine lv_aload_n hx hb dX10_add_23 rfl (lv_at hl 1 rfl) ?_
  refine gt_X10_13 X O dX10_add_24 ?_
  refine lv_iconst (v := 2) hx hb dX10_add_27 (by decide) ?_
  refine q_alA X O 2 1 (by decide) rfl rfl (by unfold vp_in; decide) (me_f 2 5 (by decide) (by decide) rfl) dX10_add_28 ?_
  refine lv_iload_n hx hb dX10_add_29 rfl (lv_at hl 0 rfl) ?_
  refine lv_iconst (v := 0) hx hb dX10_add_30 (by decide) ?_
  obtain ⟨i31, hw⟩ := hw
  refine q_ist X O 5 0 (by decide) (fun _ => rfl) rfl i31 dX10_add_31 (fun H locs O => ?_)
  refine lv_aload_n hx hb dX10_add_32 rfl (lv_at hl 1 rfl) ?_
  refine lv_dup hx hb dX10_add_33 rfl ?_
  refine gt_X10_41 X O dX10_add_34 ?_
  refine lv_iconst (v := 1) hx hb dX10_add_37 (by decide) ?_
  refine lv_iadd hx hb dX10_add_38 ?_
  refine pt_X10_41 X O dX10_add_39 (fun H locs O => ?_)
  refine lv_aload_n hx hb dX10_add_42 rfl (lv_at hl 1 rfl) ?_
  refine q_cvv (rest := []) X O hA 1 (c_X10_renew hw) lk_X10_55 (by decide) rfl rfl rfl rfl rfl rfl ⟨Nat.le_of_ble_eq_true rfl, Nat.le_of_ble_eq_true rfl⟩ (Nat.le_of_ble_eq_true rfl) hl.1 ⟨Nat.zero_le _, Nat.zero_le _⟩ rfl dX10_add_43 (fun u43 H locs hw O => ?_)
  refine lv_iload_n hx hb dX10_add_46 rfl (lv_at hl 0 rfl) ?_
  exact q_iret X O hw dX10_add_47
-- FellersOrder$History.keep(IIII)V
abbrev rm_X2_keep : Room := { frames := 1, cells := 0, slots := 0, locals := 21 }
def wb_X2_keep_61 (Post : Int32 → St → Prop) (t0 : Int32) (u : St) : Prop := Post 0 (su (su u 20 4 t0) 20 5 (if (12 : Int32) < (((su u 20 4 t0) 20 5) + (1 : Int32)) then (12 : Int32) else (((su u 20 4 t0) 20 5) + (1 : Int32))))
set_option maxHeartbeats 4000000 in
set_option maxRecDepth 100000 in
theorem tb_X2_keep_61 (X : Cx p s m args meth c cX2_keep 5 none RX2 D (tyF b) A) (hA : ∀ q, s.heap.size ≤ q → A q) {Post : Int32 → St → Prop} : ∀ (t0 : Int32) (u : St) (H : Heap) (locs : List Loc) (ls : Array Slot), wb_X2_keep_61 Post t0 u → wO D 46 (gF b h) h u A s.heap H locs → lv_has ls 5 [(0, .ref (h 20))] → W p l e rm_X2_keep s m args below meth c H locs 0 0 (MQ below (va_Qv (Post 0) (cB D (tyF b) 46 (gF b h) h A) A) args s 0 0 A) (F0 m 61 ls [.int t0, .ref (h 20)]) := by
  obtain ⟨⟨hx, hb, hml, hown, hts⟩, hK, hNs, hlocks, hr⟩ := id X
  intro t0 u H locs ls hw O hl
  unfold wb_X2_keep_61 at hw
  refine pt_X2_28 X O dX2_keep_61 (fun H locs O => ?_)
  refine lv_aload_n hx hb dX2_keep_64 rfl (lv_at hl 0 rfl) ?_
  refine lv_aload_n hx hb dX2_keep_65 rfl (lv_at hl 0 rfl) ?_
  refine gt_X2_24 X O dX2_keep_66 ?_
  refine lv_iconst (v := 1) hx hb dX2_keep_69 (by decide) ?_
  refine lv_iadd hx hb dX2_keep_70 ?_
  refine lv_bipush (v := 12) hx hb dX2_keep_71 (by decide) ?_
  refine q_min X hl.1 wd_9_3 wd_8_14 wd_8_11 wd_8_15 ⟨Nat.le_of_ble_eq_true rfl, Nat.le_of_ble_eq_true rfl⟩ (Nat.le_of_ble_eq_true rfl) ⟨Nat.zero_le _, Nat.zero_le _⟩ dX2_keep_73 ?_
  refine pt_X2_24 X O dX2_keep_76 (fun H locs O => ?_)
  exact q_vret X O hw dX2_keep_79
def wp_X2_keep (a1 : Int32) (a2 : Int32) (a3 : Int32) (a4 : Int32) (u : St) (Post : Int32 → St → Prop) : Prop := vp_in (u 20 4) 12 ∧ (vp_in ((su u 21 (Int32.toNatClampNeg (u 20 4)) a1) 20 4) 12 ∧ (vp_in ((su (su u 21 (Int32.toNatClampNeg (u 20 4)) a1) 22 (Int32.toNatClampNeg ((su u 21 (Int32.toNatClampNeg (u 20 4)) a1) 20 4)) a2) 20 4) 12 ∧ (vp_in ((su (su (su u 21 (Int32.toNatClampNeg (u 20 4)) a1) 22 (Int32.toNatClampNeg ((su u 21 (Int32.toNatClampNeg (u 20 4)) a1) 20 4)) a2) 23 (Int32.toNatClampNeg ((su (su u 21 (Int32.toNatClampNeg (u 20 4)) a1) 22 (Int32.toNatClampNeg ((su u 21 (Int32.toNatClampNeg (u 20 4)) a1) 20 4)) a2) 20 4)) a3) 20 4) 12 ∧ (((¬ ((su (su (su (su u 21 (Int32.toNatClampNeg (u 20 4)) a1) 22 (Int32.toNatClampNeg ((su u 21 (Int32.toNatClampNeg (u 20 4)) a1) 20 4)) a2) 23 (Int32.toNatClampNeg ((su (su u 21 (Int32.toNatClampNeg (u 20 4)) a1) 22 (Int32.toNatClampNeg ((su u 21 (Int32.toNatClampNeg (u 20 4)) a1) 20 4)) a2) 20 4)) a3) 24 (Int32.toNatClampNeg ((su (su (su u 21 (Int32.toNatClampNeg (u 20 4)) a1) 22 (Int32.toNatClampNeg ((su u 21 (Int32.toNatClampNeg (u 20 4)) a1) 20 4)) a2) 23 (Int32.toNatClampNeg ((su (su u 21 (Int32.toNatClampNeg (u 20 4)) a1) 22 (Int32.toNatClampNeg ((su u 21 (Int32.toNatClampNeg (u 20 4)) a1) 20 4)) a2) 20 4)) a3) 20 4)) a4) 20 4) = (11 : Int32)) → (wb_X2_keep_61 Post (((su (su (su (su u 21 (Int32.toNatClampNeg (u 20 4)) a1) 22 (Int32.toNatClampNeg ((su u 21 (Int32.toNatClampNeg (u 20 4)) a1) 20 4)) a2) 23 (Int32.toNatClampNeg ((su (su u 21 (Int32.toNatClampNeg (u 20 4)) a1) 22 (Int32.toNatClampNeg ((su u 21 (Int32.toNatClampNeg (u 20 4)) a1) 20 4)) a2) 20 4)) a3) 24 (Int32.toNatClampNeg ((su (su (su u 21 (Int32.toNatClampNeg (u 20 4)) a1) 22 (Int32.toNatClampNeg ((su u 21 (Int32.toNatClampNeg (u 20 4)) a1) 20 4)) a2) 23 (Int32.toNatClampNeg ((su (su u 21 (Int32.toNatClampNeg (u 20 4)) a1) 22 (Int32.toNatClampNeg ((su u 21 (Int32.toNatClampNeg (u 20 4)) a1) 20 4)) a2) 20 4)) a3) 20 4)) a4) 20 4) + (1 : Int32)) (su (su (su (su u 21 (Int32.toNatClampNeg (u 20 4)) a1) 22 (Int32.toNatClampNeg ((su u 21 (Int32.toNatClampNeg (u 20 4)) a1) 20 4)) a2) 23 (Int32.toNatClampNeg ((su (su u 21 (Int32.toNatClampNeg (u 20 4)) a1) 22 (Int32.toNatClampNeg ((su u 21 (Int32.toNatClampNeg (u 20 4)) a1) 20 4)) a2) 20 4)) a3) 24 (Int32.toNatClampNeg ((su (su (su u 21 (Int32.toNatClampNeg (u 20 4)) a1) 22 (Int32.toNatClampNeg ((su u 21 (Int32.toNatClampNeg (u 20 4)) a1) 20 4)) a2) 23 (Int32.toNatClampNeg ((su (su u 21 (Int32.toNatClampNeg (u 20 4)) a1) 22 (Int32.toNatClampNeg ((su u 21 (Int32.toNatClampNeg (u 20 4)) a1) 20 4)) a2) 20 4)) a3) 20 4)) a4))) ∧ ((((su (su (su (su u 21 (Int32.toNatClampNeg (u 20 4)) a1) 22 (Int32.toNatClampNeg ((su u 21 (Int32.toNatClampNeg (u 20 4)) a1) 20 4)) a2) 23 (Int32.toNatClampNeg ((su (su u 21 (Int32.toNatClampNeg (u 20 4)) a1) 22 (Int32.toNatClampNeg ((su u 21 (Int32.toNatClampNeg (u 20 4)) a1) 20 4)) a2) 20 4)) a3) 24 (Int32.toNatClampNeg ((su (su (su u 21 (Int32.toNatClampNeg (u 20 4)) a1) 22 (Int32.toNatClampNeg ((su u 21 (Int32.toNatClampNeg (u 20 4)) a1) 20 4)) a2) 23 (Int32.toNatClampNeg ((su (su u 21 (Int32.toNatClampNeg (u 20 4)) a1) 22 (Int32.toNatClampNeg ((su u 21 (Int32.toNatClampNeg (u 20 4)) a1) 20 4)) a2) 20 4)) a3) 20 4)) a4) 20 4) = (11 : Int32)) → (wb_X2_keep_61 Post (0 : Int32) (su (su (su (su u 21 (Int32.toNatClampNeg (u 20 4)) a1) 22 (Int32.toNatClampNeg ((su u 21 (Int32.toNatClampNeg (u 20 4)) a1) 20 4)) a2) 23 (Int32.toNatClampNeg ((su (su u 21 (Int32.toNatClampNeg (u 20 4)) a1) 22 (Int32.toNatClampNeg ((su u 21 (Int32.toNatClampNeg (u 20 4)) a1) 20 4)) a2) 20 4)) a3) 24 (Int32.toNatClampNeg ((su (su (su u 21 (Int32.toNatClampNeg (u 20 4)) a1) 22 (Int32.toNatClampNeg ((su u 21 (Int32.toNatClampNeg (u 20 4)) a1) 20 4)) a2) 23 (Int32.toNatClampNeg ((su (su u 21 (Int32.toNatClampNeg (u 20 4)) a1) 22 (Int32.toNatClampNeg ((su u 21 (Int32.toNatClampNeg (u 20 4)) a1) 20 4)) a2) 20 4)) a3) 20 4)) a4)))))))
set_option maxHeartbeats 4000000 in
set_option maxRecDepth 100000 in
theorem c_X2_keep {a1 : Int32} {a2 : Int32} {a3 : Int32} {a4 : Int32} {l : Launch} {D : va_G} {b : Nat → ClassId} {h : Nat → Nat} {u : St} {Post : Int32 → St → Prop} (hw : wp_X2_keep a1 a2 a3 a4 u Post) : CtV l yX2_keep cX2_keep 5 none rm_X2_keep D (tyF b) 46 (gF b h) h [.ref (h 20), .int a1, .int a2, .int a3, .int a4] u Post := by
  refine CtV.of (plainFor_of_name (by decide)) (Nat.le_of_ble_eq_true rfl) ?_
  intro p e s m below meth c A ls X hA O hl
  have X : Cx p s m _ meth c cX2_keep 5 none RX2 D (tyF b) A := X
  obtain ⟨⟨hx, hb, hml, hown, hts⟩, hK, hNs, hlocks, hr⟩ := id X
  have hl : lv_has ls 5 [(0, .ref (h 20)), (1, .int a1), (2, .int a2), (3, .int a3), (4, .int a4)] := hl
  unfold wp_X2_keep at hw
  refine lv_aload_n hx hb dX2_keep_0 rfl (lv_at hl 0 rfl) ?_
  refine gt_X2_9 X O dX2_keep_1 ?_
  refine lv_aload_n hx hb dX2_keep_4 rfl (lv_at hl 0 rfl) ?_
  refine gt_X2_28 X O dX2_keep_5 ?_
  refine lv_iload_n hx hb dX2_keep_8 rfl (lv_at hl 1 rfl) ?_
  obtain ⟨i9, hw⟩ := hw
  refine q_ist X O 21 0 (by decide) (fun _ => rfl) rfl i9 dX2_keep_9 (fun H locs O => ?_)
  refine lv_aload_n hx hb dX2_keep_10 rfl (lv_at hl 0 rfl) ?_
  refine gt_X2_15 X O dX2_keep_11 ?_
  refine lv_aload_n hx hb dX2_keep_14 rfl (lv_at hl 0 rfl) ?_
  refine gt_X2_28 X O dX2_keep_15 ?_
  refine lv_iload_n hx hb dX2_keep_18 rfl (lv_at hl 2 rfl) ?_
  obtain ⟨i19, hw⟩ := hw
  refine q_ist X O 22 0 (by decide) (fun _ => rfl) rfl i19 dX2_keep_19 (fun H locs O => ?_)
  refine lv_aload_n hx hb dX2_keep_20 rfl (lv_at hl 0 rfl) ?_
  refine gt_X2_18 X O dX2_keep_21 ?_
  refine lv_aload_n hx hb dX2_keep_24 rfl (lv_at hl 0 rfl) ?_
  refine gt_X2_28 X O dX2_keep_25 ?_
  refine lv_iload_n hx hb dX2_keep_28 rfl (lv_at hl 3 rfl) ?_
  obtain ⟨i29, hw⟩ := hw
  refine q_ist X O 23 0 (by decide) (fun _ => rfl) rfl i29 dX2_keep_29 (fun H locs O => ?_)
  refine lv_aload_n hx hb dX2_keep_30 rfl (lv_at hl 0 rfl) ?_
  refine gt_X2_21 X O dX2_keep_31 ?_
  refine lv_aload_n hx hb dX2_keep_34 rfl (lv_at hl 0 rfl) ?_
  refine gt_X2_28 X O dX2_keep_35 ?_
  refine lv_iload hx hb dX2_keep_38 (lv_at hl 4 rfl) ?_
  obtain ⟨i40, hw⟩ := hw
  refine q_ist X O 24 0 (by decide) (fun _ => rfl) rfl i40 dX2_keep_40 (fun H locs O => ?_)
  refine lv_aload_n hx hb dX2_keep_41 rfl (lv_at hl 0 rfl) ?_
  refine lv_aload_n hx hb dX2_keep_42 rfl (lv_at hl 0 rfl) ?_
  refine gt_X2_28 X O dX2_keep_43 ?_
  refine lv_bipush (v := 11) hx hb dX2_keep_46 (by decide) ?_
  refine lv_icmp_ne (tgt := 55) hx hb dX2_keep_48 (by decide) (fun c48 => ?_) (fun c48 => ?_)
  · have hw := hw.1 c48
    refine lv_aload_n hx hb dX2_keep_55 rfl (lv_at hl 0 rfl) ?_
    refine gt_X2_28 X O dX2_keep_56 ?_
    refine lv_iconst (v := 1) hx hb dX2_keep_59 (by decide) ?_
    refine lv_iadd hx hb dX2_keep_60 ?_
    exact tb_X2_keep_61 X hA _ _ _ _ _ hw O (lv_sub hl [0] rfl)
  · have hw := hw.2 c48
    refine lv_iconst (v := 0) hx hb dX2_keep_51 (by decide) ?_
    refine lv_goto (tgt := 61) hx hb dX2_keep_52 (by decide) ?_
    exact tb_X2_keep_61 X hA _ _ _ _ _ hw O (lv_sub hl [0] rfl)
-- FellersOrder.bringJob(II)I
abbrev rm_X11_bringJob : Room := { frames := 4, cells := 0, slots := 0, locals := 90 }
def wp_X11_bringJob (a1 : Int32) (a2 : Int32) (u : St) (Post : Int32 → St → Prop) : Prop := wp_X10_add a1 a2 u (fun r6 u6 => wp_X2_keep (0 : Int32) r6 (0 : Int32) (0 : Int32) u6 (fun _ u18 => Post r6 u18))
set_option maxHeartbeats 4000000 in
set_option maxRecDepth 100000 in
theorem c_X11_bringJob {a1 : Int32} {a2 : Int32} {l : Launch} {D : va_G} {b : Nat → ClassId} {h : Nat → Nat} {u : St} {Post : Int32 → St → Prop} (hw : wp_X11_bringJob a1 a2 u Post) : CtI l yX11_bringJob cX11_bringJob 4 (some .int) rm_X11_bringJob D (tyF b) 46 (gF b h) h [.ref (h 0), .int a1, .int a2] u Post := by
  refine CtI.of (plainFor_of_name (by decide)) (Nat.le_of_ble_eq_true rfl) ?_
  intro p e s m below meth c A ls X hA O hl
  have X : Cx p s m _ meth c cX11_bringJob 4 (some .int) RX11 D (tyF b) A := X
  obtain ⟨⟨hx, hb, hml, hown, hts⟩, hK, hNs, hlocks, hr⟩ := id X
  have hl : lv_has ls 4 [(0, .ref (h 0)), (1, .int a1), (2, .int a2)] := hl
  unfold wp_X11_bringJob at hw
  refine lv_aload_n hx hb dX11_bringJob_0 rfl (lv_at hl 0 rfl) ?_
  refine gt_X11_10 X O dX11_bringJob_1 ?_
  refine lv_iload_n hx hb dX11_bringJob_4 rfl (lv_at hl 1 rfl) ?_
  refine lv_iload_n hx hb dX11_bringJob_5 rfl (lv_at hl 2 rfl) ?_
  refine q_civ (rest := []) X O hA 1 (c_X10_add hw) lk_X11_296 (by decide) rfl rfl rfl rfl rfl rfl ⟨Nat.le_of_ble_eq_true rfl, Nat.le_of_ble_eq_true rfl⟩ (Nat.le_of_ble_eq_true rfl) hl.1 ⟨Nat.zero_le _, Nat.zero_le _⟩ rfl dX11_bringJob_6 (fun r6 u6 H locs hw O => ?_)
  refine lv_istore_n (lv' := [(3, .int r6), (0, .ref (h 0)), (1, .int a1), (2, .int a2)]) hx hb dX11_bringJob_9 rfl hl (by decide) rfl (fun ls hl => ?_)
  refine lv_aload_n hx hb dX11_bringJob_10 rfl (lv_at hl 1 rfl) ?_
  refine gt_X11_33 X O dX11_bringJob_11 ?_
  refine lv_iconst (v := 0) hx hb dX11_bringJob_14 (by decide) ?_
  refine lv_iload_n hx hb dX11_bringJob_15 rfl (lv_at hl 0 rfl) ?_
  refine lv_iconst (v := 0) hx hb dX11_bringJob_16 (by decide) ?_
  refine lv_iconst (v := 0) hx hb dX11_bringJob_17 (by decide) ?_
  refine q_cvv (rest := []) X O hA 20 (c_X2_keep hw) lk_X11_104 (by decide) rfl rfl rfl rfl rfl rfl ⟨Nat.le_of_ble_eq_true rfl, Nat.le_of_ble_eq_true rfl⟩ (Nat.le_of_ble_eq_true rfl) hl.1 ⟨Nat.zero_le _, Nat.zero_le _⟩ rfl dX11_bringJob_18 (fun u18 H locs hw O => ?_)
  refine lv_iload_n hx hb dX11_bringJob_21 rfl (lv_at hl 0 rfl) ?_
  exact q_iret X O hw dX11_bringJob_22
-- FellersOrder.done(I)I
abbrev rm_X11_done : Room := { frames := 0, cells := 0, slots := 0, locals := 0 }
def wp_X11_done (a1 : Int32) (u : St) (Post : Int32 → St → Prop) : Prop := Post a1 (su u 0 7 (0 : Int32))
set_option maxHeartbeats 4000000 in
set_option maxRecDepth 100000 in
theorem c_X11_done {a1 : Int32} {l : Launch} {D : va_G} {b : Nat → ClassId} {h : Nat → Nat} {u : St} {Post : Int32 → St → Prop} (hw : wp_X11_done a1 u Post) : CtI l yX11_done cX11_done 2 (some .int) rm_X11_done D (tyF b) 46 (gF b h) h [.ref (h 0), .int a1] u Post := by
  refine CtI.of (plainFor_of_name (by decide)) (Nat.le_of_ble_eq_true rfl) ?_
  intro p e s m below meth c A ls X hA O hl
  have X : Cx p s m _ meth c cX11_done 2 (some .int) RX11 D (tyF b) A := X
  obtain ⟨⟨hx, hb, hml, hown, hts⟩, hK, hNs, hlocks, hr⟩ := id X
  have hl : lv_has ls 2 [(0, .ref (h 0)), (1, .int a1)] := hl
  unfold wp_X11_done at hw
  refine lv_aload_n hx hb dX11_done_0 rfl (lv_at hl 0 rfl) ?_
  refine lv_iconst (v := 0) hx hb dX11_done_1 (by decide) ?_
  refine pt_X11_70 X O dX11_done_2 (fun H locs O => ?_)
  refine lv_iload_n hx hb dX11_done_5 rfl (lv_at hl 1 rfl) ?_
  exact q_iret X O hw dX11_done_6
-- FellersOrder.refused(I)I
abbrev rm_X11_refused : Room := { frames := 0, cells := 0, slots := 0, locals := 0 }
def wp_X11_refused (a1 : Int32) (u : St) (Post : Int32 → St → Prop) : Prop := Post (-1 : Int32) (su u 0 7 a1)
set_option maxHeartbeats 4000000 in
set_option maxRecDepth 100000 in
theorem c_X11_refused {a1 : Int32} {l : Launch} {D : va_G} {b : Nat → ClassId} {h : Nat → Nat} {u : St} {Post : Int32 → St → Prop} (hw : wp_X11_refused a1 u Post) : CtI l yX11_refused cX11_refused 2 (some .int) rm_X11_refused D (tyF b) 46 (gF b h) h [.ref (h 0), .int a1] u Post := by
  refine CtI.of (plainFor_of_name (by decide)) (Nat.le_of_ble_eq_true rfl) ?_
  intro p e s m below meth c A ls X hA O hl
  have X : Cx p s m _ meth c cX11_refused 2 (some .int) RX11 D (tyF b) A := X
  obtain ⟨⟨hx, hb, hml, hown, hts⟩, hK, hNs, hlocks, hr⟩ := id X
  have hl : lv_has ls 2 [(0, .ref (h 0)), (1, .int a1)] := hl
  unfold wp_X11_refused at hw
  refine lv_aload_n hx hb dX11_refused_0 rfl (lv_at hl 0 rfl) ?_
  refine lv_iload_n hx hb dX11_refused_1 rfl (lv_at hl 1 rfl) ?_
  refine pt_X11_70 X O dX11_refused_2 (fun H locs O => ?_)
  refine lv_iconst (v := -1) hx hb dX11_refused_5 (by decide) ?_
  exact q_iret X O hw dX11_refused_6
-- FellersOrder.job(II)I
abbrev rm_X11_job : Room := { frames := 5, cells := 0, slots := 0, locals := 113 }
def wp_X11_job (a1 : Int32) (a2 : Int32) (u : St) (Post : Int32 → St → Prop) : Prop := wp_X10_allows (0 : Int32) a1 u (fun r2 u2 => ((r2 = 0) → (wp_X11_refused (1 : Int32) u2 (fun r18 u18 => Post r18 u18))) ∧ ((¬ r2 = 0) → (wp_X10_allows (1 : Int32) a2 u2 (fun r10 u10 => ((¬ r10 = 0) → (wp_X10_isFull u10 (fun r26 u26 => ((r26 = 0) → (wp_X11_bringJob a1 a2 u26 (fun r42 u42 => wp_X11_done r42 u42 (fun r45 u45 => Post r45 u45)))) ∧ ((¬ r26 = 0) → (wp_X11_refused (2 : Int32) u26 (fun r34 u34 => Post r34 u34)))))) ∧ ((r10 = 0) → (wp_X11_refused (1 : Int32) u10 (fun r18 u18 => Post r18 u18)))))))
set_option maxHeartbeats 4000000 in
set_option maxRecDepth 100000 in
theorem c_X11_job {a1 : Int32} {a2 : Int32} {l : Launch} {D : va_G} {b : Nat → ClassId} {h : Nat → Nat} {u : St} {Post : Int32 → St → Prop} (hw : wp_X11_job a1 a2 u Post) : CtI l yX11_job cX11_job 3 (some .int) rm_X11_job D (tyF b) 46 (gF b h) h [.ref (h 0), .int a1, .int a2] u Post := by
  refine CtI.of (plainFor_of_name (by decide)) (Nat.le_of_ble_eq_true rfl) ?_
  intro p e s m below meth c A ls X hA O hl
  have X : Cx p s m _ meth c cX11_job 3 (some .int) RX11 D (tyF b) A := X
  obtain ⟨⟨hx, hb, hml, hown, hts⟩, hK, hNs, hlocks, hr⟩ := id X
  have hl : lv_has ls 3 [(0, .ref (h 0)), (1, .int a1), (2, .int a2)] := hl
  unfold wp_X11_job at hw
  refine lv_iconst (v := 0) hx hb dX11_job_0 (by decide) ?_
  refine lv_iload_n hx hb dX11_job_1 rfl (lv_at hl 1 rfl) ?_
  refine q_cis (rest := []) X O hA (c_X10_allows hw) lk_X11_74 rfl rfl rfl ⟨Nat.le_of_ble_eq_true rfl, Nat.le_of_ble_eq_true rfl⟩ (Nat.le_of_ble_eq_true rfl) hl.1 ⟨Nat.zero_le _, Nat.zero_le _⟩ rfl dX11_job_2 (fun r2 u2 H locs hw O => ?_)
  refine lv_if_eq (tgt := 16) hx hb dX11_job_5 (by decide) (fun c5 => ?_) (fun c5 => ?_)
  · have hw := hw.1 c5
    refine lv_aload_n hx hb dX11_job_16 rfl (lv_at hl 0 rfl) ?_
    refine lv_iconst (v := 1) hx hb dX11_job_17 (by decide) ?_
    refine q_civ (rest := []) X O hA 0 (c_X11_refused hw) lk_X11_78 (by decide) rfl rfl rfl rfl rfl rfl ⟨Nat.le_of_ble_eq_true rfl, Nat.le_of_ble_eq_true rfl⟩ (Nat.le_of_ble_eq_true rfl) hl.1 ⟨Nat.zero_le _, Nat.zero_le _⟩ rfl dX11_job_18 (fun r18 u18 H locs hw O => ?_)
    exact q_iret X O hw dX11_job_21
  · have hw := hw.2 c5
    refine lv_iconst (v := 1) hx hb dX11_job_8 (by decide) ?_
    refine lv_iload_n hx hb dX11_job_9 rfl (lv_at hl 2 rfl) ?_
    refine q_cis (rest := []) X O hA (c_X10_allows hw) lk_X11_74 rfl rfl rfl ⟨Nat.le_of_ble_eq_true rfl, Nat.le_of_ble_eq_true rfl⟩ (Nat.le_of_ble_eq_true rfl) hl.1 ⟨Nat.zero_le _, Nat.zero_le _⟩ rfl dX11_job_10 (fun r10 u10 H locs hw O => ?_)
    refine lv_if_ne (tgt := 22) hx hb dX11_job_13 (by decide) (fun c13 => ?_) (fun c13 => ?_)
    · have hw := hw.1 c13
      refine lv_aload_n hx hb dX11_job_22 rfl (lv_at hl 0 rfl) ?_
      refine gt_X11_10 X O dX11_job_23 ?_
      refine q_civ (rest := []) X O hA 1 (c_X10_isFull hw) lk_X11_82 (by decide) rfl rfl rfl rfl rfl rfl ⟨Nat.le_of_ble_eq_true rfl, Nat.le_of_ble_eq_true rfl⟩ (Nat.le_of_ble_eq_true rfl) hl.1 ⟨Nat.zero_le _, Nat.zero_le _⟩ rfl dX11_job_26 (fun r26 u26 H locs hw O => ?_)
      refine lv_if_eq (tgt := 38) hx hb dX11_job_29 (by decide) (fun c29 => ?_) (fun c29 => ?_)
      · have hw := hw.1 c29
        refine lv_aload_n hx hb dX11_job_38 rfl (lv_at hl 0 rfl) ?_
        refine lv_aload_n hx hb dX11_job_39 rfl (lv_at hl 0 rfl) ?_
        refine lv_iload_n hx hb dX11_job_40 rfl (lv_at hl 1 rfl) ?_
        refine lv_iload_n hx hb dX11_job_41 rfl (lv_at hl 2 rfl) ?_
        refine q_civ (rest := [.ref (h 0)]) X O hA 0 (c_X11_bringJob hw) lk_X11_86 (by decide) rfl rfl rfl rfl rfl rfl ⟨Nat.le_of_ble_eq_true rfl, Nat.le_of_ble_eq_true rfl⟩ (Nat.le_of_ble_eq_true rfl) hl.1 ⟨Nat.zero_le _, Nat.zero_le _⟩ rfl dX11_job_42 (fun r42 u42 H locs hw O => ?_)
        refine q_civ (rest := []) X O hA 0 (c_X11_done hw) lk_X11_90 (by decide) rfl rfl rfl rfl rfl rfl ⟨Nat.le_of_ble_eq_true rfl, Nat.le_of_ble_eq_true rfl⟩ (Nat.le_of_ble_eq_true rfl) hl.1 ⟨Nat.zero_le _, Nat.zero_le _⟩ rfl dX11_job_45 (fun r45 u45 H locs hw O => ?_)
        exact q_iret X O hw dX11_job_48
      · have hw := hw.2 c29
        refine lv_aload_n hx hb dX11_job_32 rfl (lv_at hl 0 rfl) ?_
        refine lv_iconst (v := 2) hx hb dX11_job_33 (by decide) ?_
        refine q_civ (rest := []) X O hA 0 (c_X11_refused hw) lk_X11_78 (by decide) rfl rfl rfl rfl rfl rfl ⟨Nat.le_of_ble_eq_true rfl, Nat.le_of_ble_eq_true rfl⟩ (Nat.le_of_ble_eq_true rfl) hl.1 ⟨Nat.zero_le _, Nat.zero_le _⟩ rfl dX11_job_34 (fun r34 u34 H locs hw O => ?_)
        exact q_iret X O hw dX11_job_37
    · have hw := hw.2 c13
      refine lv_aload_n hx hb dX11_job_16 rfl (lv_at hl 0 rfl) ?_
      refine lv_iconst (v := 1) hx hb dX11_job_17 (by decide) ?_
      refine q_civ (rest := []) X O hA 0 (c_X11_refused hw) lk_X11_78 (by decide) rfl rfl rfl rfl rfl rfl ⟨Nat.le_of_ble_eq_true rfl, Nat.le_of_ble_eq_true rfl⟩ (Nat.le_of_ble_eq_true rfl) hl.1 ⟨Nat.zero_le _, Nat.zero_le _⟩ rfl dX11_job_18 (fun r18 u18 H locs hw O => ?_)
      exact q_iret X O hw dX11_job_21
-- FellersOrder$Yard.has(I)Z
abbrev rm_X10_has : Room := { frames := 0, cells := 0, slots := 0, locals := 0 }
def wp_X10_has (a1 : Int32) (u : St) (Post : Int32 → St → Prop) : Prop := ((a1 < 0) → (Post (0 : Int32) u)) ∧ ((¬ a1 < 0) → ((((u 1 7) ≤ a1) → (Post (0 : Int32) u)) ∧ ((¬ (u 1 7) ≤ a1) → (Post (1 : Int32) u))))
set_option maxHeartbeats 4000000 in
set_option maxRecDepth 100000 in
theorem c_X10_has {a1 : Int32} {l : Launch} {D : va_G} {b : Nat → ClassId} {h : Nat → Nat} {u : St} {Post : Int32 → St → Prop} (hw : wp_X10_has a1 u Post) : CtI l yX10_has cX10_has 2 (some .boolean) rm_X10_has D (tyF b) 46 (gF b h) h [.ref (h 1), .int a1] u Post := by
  refine CtI.of (plainFor_of_name (by decide)) (Nat.le_of_ble_eq_true rfl) ?_
  intro p e s m below meth c A ls X hA O hl
  have X : Cx p s m _ meth c cX10_has 2 (some .boolean) RX10 D (tyF b) A := X
  obtain ⟨⟨hx, hb, hml, hown, hts⟩, hK, hNs, hlocks, hr⟩ := id X
  have hl : lv_has ls 2 [(0, .ref (h 1)), (1, .int a1)] := hl
  unfold wp_X10_has at hw
  refine lv_iload_n hx hb dX10_has_0 rfl (lv_at hl 1 rfl) ?_
  refine lv_if_lt (tgt := 16) hx hb dX10_has_1 (by decide) (fun c1 => ?_) (fun c1 => ?_)
  · have hw := hw.1 c1
    refine lv_iconst (v := 0) hx hb dX10_has_16 (by decide) ?_
    exact q_zret X O rfl hw dX10_has_17
  · have hw := hw.2 c1
    refine lv_iload_n hx hb dX10_has_4 rfl (lv_at hl 1 rfl) ?_
    refine lv_aload_n hx hb dX10_has_5 rfl (lv_at hl 0 rfl) ?_
    refine gt_X10_41 X O dX10_has_6 ?_
    refine lv_icmp_ge (tgt := 16) hx hb dX10_has_9 (by decide) (fun c9 => ?_) (fun c9 => ?_)
    · have hw := hw.1 c9
      refine lv_iconst (v := 0) hx hb dX10_has_16 (by decide) ?_
      exact q_zret X O rfl hw dX10_has_17
    · have hw := hw.2 c9
      refine lv_iconst (v := 1) hx hb dX10_has_12 (by decide) ?_
      refine lv_goto (tgt := 17) hx hb dX10_has_13 (by decide) ?_
      exact q_zret X O rfl hw dX10_has_17
end PT
