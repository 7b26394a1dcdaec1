/-! the class, methods: X0_bodyAt X11_trace X11_isSheet X8_make X8_remove X11_sheet X8_isMissing X8_size X8_write X11_cell X8_numberAt X8_isOfSort X8_refusalAs X11_fromSheet J9_floorMod_7cf53 X8_sumFrom X11_forgeCopy X11_forgeLaying X11_forgeSize X11_forgeUnit X11_forge -/
theorem lk_X11_248 : LkV RX11 248 yX0_bodyAt cX0_bodyAt 2 (some .int) 1 := ⟨wd_37_15, wd_37_16, wd_37_17, wd_2_6, wd_37_18, by decide +kernel⟩
theorem lk_X11_251 : LkS RX11 251 yX11_isSheet cX11_isSheet 1 (some .boolean) 1 := ⟨wd_38_3, wd_38_4, wd_1_2, wd_38_5, by decide +kernel⟩
theorem lk_X11_257 : LkV RX11 257 yX8_make cX8_make 4 none 2 := ⟨wd_38_11, wd_38_12, wd_38_13, wd_3_3, wd_38_14, by decide +kernel⟩
theorem lk_X11_254 : LkV RX11 254 yX8_remove cX8_remove 1 none 0 := ⟨wd_38_6, wd_38_7, wd_38_8, wd_3_3, wd_38_9, by decide +kernel⟩
theorem lk_X11_260 : LkV RX11 260 yX8_isMissing cX8_isMissing 1 (some .boolean) 0 := ⟨wd_38_23, wd_39_0, wd_39_1, wd_3_3, wd_39_2, by decide +kernel⟩
theorem lk_X11_263 : LkV RX11 263 yX8_size cX8_size 1 (some .int) 0 := ⟨wd_39_3, wd_39_4, wd_39_5, wd_3_3, wd_39_6, by decide +kernel⟩
theorem lk_X11_264 : LkV RX11 264 yX8_write cX8_write 3 none 2 := ⟨wd_39_7, wd_39_8, wd_39_9, wd_3_3, wd_39_10, by decide +kernel⟩
theorem lk_X8_22 : LkV RX8 22 yX8_isMissing cX8_isMissing 1 (some .boolean) 0 := ⟨wd_39_23, wd_39_0, wd_39_1, wd_3_3, wd_39_2, by decide +kernel⟩
theorem lk_X8_26 : LkV RX8 26 yX8_isOfSort cX8_isOfSort 2 (some .boolean) 1 := ⟨wd_40_0, wd_40_1, wd_40_2, wd_3_3, wd_40_3, by decide +kernel⟩
theorem lk_X11_267 : LkV RX11 267 yX8_refusalAs cX8_refusalAs 2 (some .int) 1 := ⟨wd_39_19, wd_39_20, wd_39_21, wd_3_3, wd_39_22, by decide +kernel⟩
theorem lk_X11_270 : LkV RX11 270 yX8_numberAt cX8_numberAt 2 (some .int) 1 := ⟨wd_40_4, wd_40_5, wd_40_6, wd_3_3, wd_40_7, by decide +kernel⟩
theorem lk_X11_299 : LkV RX11 299 yX8_sumFrom cX8_sumFrom 5 (some .int) 2 := ⟨wd_41_5, wd_41_6, wd_41_7, wd_3_3, wd_41_8, by decide +kernel⟩
theorem lk_X11_302 : LkV RX11 302 yX8_isOfSort cX8_isOfSort 2 (some .boolean) 1 := ⟨wd_41_13, wd_40_1, wd_40_2, wd_3_3, wd_40_3, by decide +kernel⟩
theorem lk_X11_273 : LkS RX11 273 yJ9_floorMod_7cf53 cJ9_floorMod_7cf53 3 (some .int) 2 := ⟨wd_40_17, wd_40_18, wd_40_19, wd_40_20, by decide +kernel⟩
theorem lk_X11_278 : LkV RX11 278 yX11_forgeSize cX11_forgeSize 4 (some .int) 2 := ⟨wd_40_21, wd_40_22, wd_40_23, wd_1_2, wd_41_0, by decide +kernel⟩
theorem lk_X11_282 : LkV RX11 282 yX11_forgeCopy cX11_forgeCopy 4 (some .int) 2 := ⟨wd_41_1, wd_41_2, wd_41_3, wd_1_2, wd_41_4, by decide +kernel⟩
theorem lk_X11_285 : LkV RX11 285 yX11_forgeLaying cX11_forgeLaying 2 (some .int) 1 := ⟨wd_41_9, wd_41_10, wd_41_11, wd_1_2, wd_41_12, by decide +kernel⟩
theorem lk_X11_289 : LkV RX11 289 yX11_forgeUnit cX11_forgeUnit 2 (some .int) 1 := ⟨wd_41_14, wd_41_15, wd_41_16, wd_1_2, wd_41_17, by decide +kernel⟩
section PT
variable {p : Program} {l : Launch} {e : Env} {s : State} {m : MethodId} {args : Array Value} {below : List Frame} {meth : Method} {c : Code} {A : Nat → Prop} {D : va_G} {b : Nat → ClassId} {h : Nat → Nat}
-- FellersOrder$Acting.bodyAt(I)I
abbrev rm_X0_bodyAt : Room := { frames := 0, cells := 0, slots := 0, locals := 0 }
def wp_X0_bodyAt (a1 : Int32) (u : St) (Post : Int32 → St → Prop) : Prop := ((a1 < 0) → (Post (-1 : Int32) u)) ∧ ((¬ a1 < 0) → ((((u 25 1) ≤ a1) → (Post (-1 : Int32) u)) ∧ ((¬ (u 25 1) ≤ a1) → (vp_in a1 50 ∧ (Post (u 26 (Int32.toNatClampNeg a1)) u)))))
set_option maxHeartbeats 4000000 in
set_option maxRecDepth 100000 in
theorem c_X0_bodyAt {a1 : Int32} {l : Launch} {D : va_G} {b : Nat → ClassId} {h : Nat → Nat} {u : St} {Post : Int32 → St → Prop} (hw : wp_X0_bodyAt a1 u Post) : CtI l yX0_bodyAt cX0_bodyAt 2 (some .int) rm_X0_bodyAt D (tyF b) 46 (gF b h) h [.ref (h 25), .int a1] u Post := by
  refine CtI.of (plainFor_of_name (by decide)) (Nat.le_of_ble_eq_true rfl) ?_
  intro p e s m below meth c A ls X hA O hl
  have X : Cx p s m _ meth c cX0_bodyAt 2 (some .int) RX0 D (tyF b) A := X
  obtain ⟨⟨hx, hb, hml, hown, hts⟩, hK, hNs, hlocks, hr⟩ := id X
  have hl : lv_has ls 2 [(0, .ref (h 25)), (1, .int a1)] := hl
  unfold wp_X0_bodyAt at hw
  refine lv_iload_n hx hb dX0_bodyAt_0 rfl (lv_at hl 1 rfl) ?_
  refine lv_if_lt (tgt := 21) hx hb dX0_bodyAt_1 (by decide) (fun c1 => ?_) (fun c1 => ?_)
  · have hw := hw.1 c1
    refine lv_iconst (v := -1) hx hb dX0_bodyAt_21 (by decide) ?_
    exact q_iret X O hw dX0_bodyAt_22
  · have hw := hw.2 c1
    refine lv_iload_n hx hb dX0_bodyAt_4 rfl (lv_at hl 1 rfl) ?_
    refine lv_aload_n hx hb dX0_bodyAt_5 rfl (lv_at hl 0 rfl) ?_
    refine gt_X0_15 X O dX0_bodyAt_6 ?_
    refine lv_icmp_ge (tgt := 21) hx hb dX0_bodyAt_9 (by decide) (fun c9 => ?_) (fun c9 => ?_)
    · have hw := hw.1 c9
      refine lv_iconst (v := -1) hx hb dX0_bodyAt_21 (by decide) ?_
      exact q_iret X O hw dX0_bodyAt_22
    · have hw := hw.2 c9
      refine lv_aload_n hx hb dX0_bodyAt_12 rfl (lv_at hl 0 rfl) ?_
      refine gt_X0_9 X O dX0_bodyAt_13 ?_
      refine lv_iload_n hx hb dX0_bodyAt_16 rfl (lv_at hl 1 rfl) ?_
      obtain ⟨i17, hw⟩ := hw
      refine q_ild X O 26 0 (by decide) rfl rfl i17 dX0_bodyAt_17 ?_
      refine lv_goto (tgt := 22) hx hb dX0_bodyAt_18 (by decide) ?_
      exact q_iret X O hw dX0_bodyAt_22
-- FellersOrder.trace(I)I
abbrev rm_X11_trace : Room := { frames := 1, cells := 0, slots := 0, locals := 21 }
def wp_X11_trace (a1 : Int32) (u : St) (Post : Int32 → St → Prop) : Prop := wp_X0_bodyAt a1 u (fun r5 u5 => Post r5 u5)
set_option maxHeartbeats 4000000 in
set_option maxRecDepth 100000 in
theorem c_X11_trace {a1 : Int32} {l : Launch} {D : va_G} {b : Nat → ClassId} {h : Nat → Nat} {u : St} {Post : Int32 → St → Prop} (hw : wp_X11_trace a1 u Post) : CtI l yX11_trace cX11_trace 2 (some .int) rm_X11_trace D (tyF b) 46 (gF b h) h [.ref (h 0), .int a1] u Post := by
  refine CtI.of (plainFor_of_name (by decide)) (Nat.le_of_ble_eq_true rfl) ?_
  intro p e s m below meth c A ls X hA O hl
  have X : Cx p s m _ meth c cX11_trace 2 (some .int) RX11 D (tyF b) A := X
  obtain ⟨⟨hx, hb, hml, hown, hts⟩, hK, hNs, hlocks, hr⟩ := id X
  have hl : lv_has ls 2 [(0, .ref (h 0)), (1, .int a1)] := hl
  unfold wp_X11_trace at hw
  refine lv_aload_n hx hb dX11_trace_0 rfl (lv_at hl 0 rfl) ?_
  refine gt_X11_40 X O dX11_trace_1 ?_
  refine lv_iload_n hx hb dX11_trace_4 rfl (lv_at hl 1 rfl) ?_
  refine q_civ (rest := []) X O hA 25 (c_X0_bodyAt hw) lk_X11_248 (by decide) rfl rfl rfl rfl rfl rfl ⟨Nat.le_of_ble_eq_true rfl, Nat.le_of_ble_eq_true rfl⟩ (Nat.le_of_ble_eq_true rfl) hl.1 ⟨Nat.zero_le _, Nat.zero_le _⟩ rfl dX11_trace_5 (fun r5 u5 H locs hw O => ?_)
  exact q_iret X O hw dX11_trace_8
-- FellersOrder.isSheet(I)Z
abbrev rm_X11_isSheet : Room := { frames := 0, cells := 0, slots := 0, locals := 0 }
def wp_X11_isSheet (a0 : Int32) (u : St) (Post : Int32 → St → Prop) : Prop := ((a0 < 0) → (Post (0 : Int32) u)) ∧ ((¬ a0 < 0) → ((((6 : Int32) ≤ a0) → (Post (0 : Int32) u)) ∧ ((¬ (6 : Int32) ≤ a0) → (Post (1 : Int32) u))))
set_option maxHeartbeats 4000000 in
set_option maxRecDepth 100000 in
theorem c_X11_isSheet {a0 : Int32} {l : Launch} {D : va_G} {b : Nat → ClassId} {h : Nat → Nat} {u : St} {Post : Int32 → St → Prop} (hw : wp_X11_isSheet a0 u Post) : CtI l yX11_isSheet cX11_isSheet 1 (some .boolean) rm_X11_isSheet D (tyF b) 46 (gF b h) h [.int a0] u Post := by
  refine CtI.of (plainFor_of_name (by decide)) (Nat.le_of_ble_eq_true rfl) ?_
  intro p e s m below meth c A ls X hA O hl
  have X : Cx p s m _ meth c cX11_isSheet 1 (some .boolean) RX11 D (tyF b) A := X
  obtain ⟨⟨hx, hb, hml, hown, hts⟩, hK, hNs, hlocks, hr⟩ := id X
  have hl : lv_has ls 1 [(0, .int a0)] := hl
  unfold wp_X11_isSheet at hw
  refine lv_iload_n hx hb dX11_isSheet_0 rfl (lv_at hl 0 rfl) ?_
  refine lv_if_lt (tgt := 14) hx hb dX11_isSheet_1 (by decide) (fun c1 => ?_) (fun c1 => ?_)
  · have hw := hw.1 c1
    refine lv_iconst (v := 0) hx hb dX11_isSheet_14 (by decide) ?_
    exact q_zret X O rfl hw dX11_isSheet_15
  · have hw := hw.2 c1
    refine lv_iload_n hx hb dX11_isSheet_4 rfl (lv_at hl 0 rfl) ?_
    refine lv_bipush (v := 6) hx hb dX11_isSheet_5 (by decide) ?_
    refine lv_icmp_ge (tgt := 14) hx hb dX11_isSheet_7 (by decide) (fun c7 => ?_) (fun c7 => ?_)
    · have hw := hw.1 c7
      refine lv_iconst (v := 0) hx hb dX11_isSheet_14 (by decide) ?_
      exact q_zret X O rfl hw dX11_isSheet_15
    · have hw := hw.2 c7
      refine lv_iconst (v := 1) hx hb dX11_isSheet_10 (by decide) ?_
      refine lv_goto (tgt := 15) hx hb dX11_isSheet_11 (by decide) ?_
      exact q_zret X O rfl hw dX11_isSheet_15
-- FellersOrder$Sheet.make(II)V
abbrev rm_X8_make : Room := { frames := 0, cells := 0, slots := 0, locals := 0 }
def wb_X8_make_12 (sk : Nat) (Post : Int32 → St → Prop) (K12 : Int32 → St → Prop) (x3 : Int32) (u : St) : Prop := (((20 : Int32) ≤ x3) → (Post 0 u)) ∧ ((¬ (20 : Int32) ≤ x3) → (vp_in x3 20 ∧ (K12 (x3 + 1) (su u (35 + 2 * sk) (Int32.toNatClampNeg x3) (0 : Int32)))))
set_option maxHeartbeats 4000000 in
set_option maxRecDepth 100000 in
theorem tb_X8_make_12 {sk : Nat} (X : Cx p s m args meth c cX8_make 4 none RX8 D (tyF b) A) (hA : ∀ q, s.heap.size ≤ q → A q) (hs : sk < 6) {Post : Int32 → St → Prop} {K12 : Int32 → St → Prop} (k12 : ∀ (x3 : Int32) (u : St) (H : Heap) (locs : List Loc) (ls : Array Slot), K12 x3 u → wO D 46 (gF b h) h u A s.heap H locs → lv_has ls 4 [(0, .ref (h (34 + 2 * sk))), (3, .int x3)] → W p l e rm_X8_make s m args below meth c H locs 0 0 (MQ below (va_Qv (Post 0) (cB D (tyF b) 46 (gF b h) h A) A) args s 0 0 A) (F0 m 12 ls [])) : ∀ (x3 : Int32) (u : St) (H : Heap) (locs : List Loc) (ls : Array Slot), wb_X8_make_12 sk Post K12 x3 u → wO D 46 (gF b h) h u A s.heap H locs → lv_has ls 4 [(0, .ref (h (34 + 2 * sk))), (3, .int x3)] → W p l e rm_X8_make s m args below meth c H locs 0 0 (MQ below (va_Qv (Post 0) (cB D (tyF b) 46 (gF b h) h A) A) args s 0 0 A) (F0 m 12 ls []) := by
  obtain ⟨⟨hx, hb, hml, hown, hts⟩, hK, hNs, hlocks, hr⟩ := id X
  intro x3 u H locs ls hw O hl
  unfold wb_X8_make_12 at hw
  refine lv_iload_n hx hb dX8_make_12 rfl (lv_at hl 1 rfl) ?_
  refine lv_bipush (v := 20) hx hb dX8_make_13 (by decide) ?_
  refine lv_icmp_ge (tgt := 31) hx hb dX8_make_15 (by decide) (fun c15 => ?_) (fun c15 => ?_)
  · have hw := hw.1 c15
    exact q_vret X O hw dX8_make_31
  · have hw := hw.2 c15
    refine lv_aload_n hx hb dX8_make_18 rfl (lv_at hl 0 rfl) ?_
    refine gt_X8_9 hs X O dX8_make_19 ?_
    refine lv_iload_n hx hb dX8_make_22 rfl (lv_at hl 1 rfl) ?_
    refine lv_iconst (v := 0) hx hb dX8_make_23 (by decide) ?_
    obtain ⟨i24, hw⟩ := hw
    refine q_ist X O (35 + 2 * sk) 0 (nu_lt hs) (gF_nu hs) rfl i24 dX8_make_24 (fun H locs O => ?_)
    refine lv_iinc (v := x3 + 1) (lv' := [(3, .int (x3 + 1)), (0, .ref (h (34 + 2 * sk)))]) hx hb dX8_make_25 hl (k := 1) rfl rfl (by decide) rfl (fun ls hl => ?_)
    refine lv_goto (tgt := 12) hx hb dX8_make_28 (by decide) ?_
    exact k12 _ _ _ _ _ hw O (lv_sub hl [1, 0] rfl)
def wl_X8_make_12 (sk : Nat) (Post : Int32 → St → Prop) : Nat → Int32 → St → Prop
  | 0 => fun _ _ => False
  | n + 1 => fun x3 u => wb_X8_make_12 sk Post (wl_X8_make_12 sk Post n) x3 u
set_option maxHeartbeats 4000000 in
set_option maxRecDepth 100000 in
theorem tl_X8_make_12 {sk : Nat} (X : Cx p s m args meth c cX8_make 4 none RX8 D (tyF b) A) (hA : ∀ q, s.heap.size ≤ q → A q) (hs : sk < 6) {Post : Int32 → St → Prop} : ∀ n : Nat, ∀ (x3 : Int32) (u : St) (H : Heap) (locs : List Loc) (ls : Array Slot), (wl_X8_make_12 sk Post n) x3 u → wO D 46 (gF b h) h u A s.heap H locs → lv_has ls 4 [(0, .ref (h (34 + 2 * sk))), (3, .int x3)] → W p l e rm_X8_make s m args below meth c H locs 0 0 (MQ below (va_Qv (Post 0) (cB D (tyF b) 46 (gF b h) h A) A) args s 0 0 A) (F0 m 12 ls []) := by
  intro n
  induction n with
  | zero => intro x3 u H locs ls hw; exact False.elim hw
  | succ n ih => intro x3 u H locs ls hw O hl; exact tb_X8_make_12 X hA hs ih x3 u H locs ls hw O hl
def wp_X8_make (sk : Nat) (a1 : Int32) (a2 : Int32) (u : St) (Post : Int32 → St → Prop) : Prop := ∃ n : Nat, wl_X8_make_12 sk Post n (0 : Int32) (su (su u (34 + 2 * sk) 1 a1) (34 + 2 * sk) 2 a2)
set_option maxHeartbeats 4000000 in
set_option maxRecDepth 100000 in
theorem c_X8_make {sk : Nat} {a1 : Int32} {a2 : Int32} {l : Launch} {D : va_G} {b : Nat → ClassId} {h : Nat → Nat} {u : St} {Post : Int32 → St → Prop} (hs : sk < 6) (hw : wp_X8_make sk a1 a2 u Post) : CtV l yX8_make cX8_make 4 none rm_X8_make D (tyF b) 46 (gF b h) h [.ref (h (34 + 2 * sk)), .int a1, .int a2] u Post := by
  refine CtV.of (plainFor_of_name (by decide)) (Nat.le_of_ble_eq_true rfl) ?_
  intro p e s m below meth c A ls X hA O hl
  have X : Cx p s m _ meth c cX8_make 4 none RX8 D (tyF b) A := X
  obtain ⟨⟨hx, hb, hml, hown, hts⟩, hK, hNs, hlocks, hr⟩ := id X
  have hl : lv_has ls 4 [(0, .ref (h (34 + 2 * sk))), (1, .int a1), (2, .int a2)] := hl
  unfold wp_X8_make at hw
  refine lv_aload_n hx hb dX8_make_0 rfl (lv_at hl 0 rfl) ?_
  refine lv_iload_n hx hb dX8_make_1 rfl (lv_at hl 1 rfl) ?_
  refine pt_X8_15 hs X O dX8_make_2 (fun H locs O => ?_)
  refine lv_aload_n hx hb dX8_make_5 rfl (lv_at hl 0 rfl) ?_
  refine lv_iload_n hx hb dX8_make_6 rfl (lv_at hl 2 rfl) ?_
  refine pt_X8_19 hs X O dX8_make_7 (fun H locs O => ?_)
  refine lv_iconst (v := 0) hx hb dX8_make_10 (by decide) ?_
  refine lv_istore_n (lv' := [(3, .int (0 : Int32)), (0, .ref (h (34 + 2 * sk))), (1, .int a1), (2, .int a2)]) hx hb dX8_make_11 rfl hl (by decide) rfl (fun ls hl => ?_)
  obtain ⟨n, hw⟩ := hw
  exact tl_X8_make_12 X hA hs n _ _ _ _ _ hw O (lv_sub hl [1, 0] rfl)
-- FellersOrder$Sheet.remove()V
abbrev rm_X8_remove : Room := { frames := 0, cells := 0, slots := 0, locals := 0 }
def wp_X8_remove (sk : Nat) (u : St) (Post : Int32 → St → Prop) : Prop := Post 0 (su (su u (34 + 2 * sk) 1 (-1 : Int32)) (34 + 2 * sk) 2 (0 : Int32))
set_option maxHeartbeats 4000000 in
set_option maxRecDepth 100000 in
theorem c_X8_remove {sk : Nat} {l : Launch} {D : va_G} {b : Nat → ClassId} {h : Nat → Nat} {u : St} {Post : Int32 → St → Prop} (hs : sk < 6) (hw : wp_X8_remove sk u Post) : CtV l yX8_remove cX8_remove 1 none rm_X8_remove D (tyF b) 46 (gF b h) h [.ref (h (34 + 2 * sk))] u Post := by
  refine CtV.of (plainFor_of_name (by decide)) (Nat.le_of_ble_eq_true rfl) ?_
  intro p e s m below meth c A ls X hA O hl
  have X : Cx p s m _ meth c cX8_remove 1 none RX8 D (tyF b) A := X
  obtain ⟨⟨hx, hb, hml, hown, hts⟩, hK, hNs, hlocks, hr⟩ := id X
  have hl : lv_has ls 1 [(0, .ref (h (34 + 2 * sk)))] := hl
  unfold wp_X8_remove at hw
  refine lv_aload_n hx hb dX8_remove_0 rfl (lv_at hl 0 rfl) ?_
  refine lv_iconst (v := -1) hx hb dX8_remove_1 (by decide) ?_
  refine pt_X8_15 hs X O dX8_remove_2 (fun H locs O => ?_)
  refine lv_aload_n hx hb dX8_remove_5 rfl (lv_at hl 0 rfl) ?_
  refine lv_iconst (v := 0) hx hb dX8_remove_6 (by decide) ?_
  refine pt_X8_19 hs X O dX8_remove_7 (fun H locs O => ?_)
  exact q_vret X O hw dX8_remove_10
-- FellersOrder.sheet(III)I
abbrev rm_X11_sheet : Room := { frames := 1, cells := 0, slots := 0, locals := 23 }
def wp_X11_sheet (a1 : Int32) (a2 : Int32) (a3 : Int32) (u : St) (Post : Int32 → St → Prop) : Prop := wp_X11_isSheet a1 u (fun r1 u1 => ((r1 = 0) → (wp_X11_refused (1 : Int32) u1 (fun r19 u19 => Post r19 u19))) ∧ ((¬ r1 = 0) → (((a2 < (-1 : Int32)) → (wp_X11_refused (1 : Int32) u1 (fun r19 u19 => Post r19 u19))) ∧ ((¬ a2 < (-1 : Int32)) → (((a2 ≤ (2 : Int32)) → (((¬ a2 = (-1 : Int32)) → (((a3 < 0) → (wp_X11_refused (1 : Int32) u1 (fun r55 u55 => Post r55 u55))) ∧ ((¬ a3 < 0) → (((a3 ≤ (20 : Int32)) → (vp_in a1 6 ∧ (wp_X8_make (Int32.toNatClampNeg a1) a2 a3 u1 (fun _ u67 => wp_X11_done (1 : Int32) u67 (fun r72 u72 => Post r72 u72))))) ∧ ((¬ a3 ≤ (20 : Int32)) → (wp_X11_refused (1 : Int32) u1 (fun r55 u55 => Post r55 u55))))))) ∧ ((a2 = (-1 : Int32)) → (vp_in a1 6 ∧ (wp_X8_remove (Int32.toNatClampNeg a1) u1 (fun _ u34 => wp_X11_done (1 : Int32) u34 (fun r39 u39 => Post r39 u39))))))) ∧ ((¬ a2 ≤ (2 : Int32)) → (wp_X11_refused (1 : Int32) u1 (fun r19 u19 => Post r19 u19))))))))
set_option maxHeartbeats 4000000 in
set_option maxRecDepth 100000 in
theorem c_X11_sheet {a1 : Int32} {a2 : Int32} {a3 : Int32} {l : Launch} {D : va_G} {b : Nat → ClassId} {h : Nat → Nat} {u : St} {Post : Int32 → St → Prop} (hw : wp_X11_sheet a1 a2 a3 u Post) : CtI l yX11_sheet cX11_sheet 4 (some .int) rm_X11_sheet D (tyF b) 46 (gF b h) h [.ref (h 0), .int a1, .int a2, .int a3] u Post := by
  refine CtI.of (plainFor_of_name (by decide)) (Nat.le_of_ble_eq_true rfl) ?_
  intro p e s m below meth c A ls X hA O hl
  have X : Cx p s m _ meth c cX11_sheet 4 (some .int) RX11 D (tyF b) A := X
  obtain ⟨⟨hx, hb, hml, hown, hts⟩, hK, hNs, hlocks, hr⟩ := id X
  have hl : lv_has ls 4 [(0, .ref (h 0)), (1, .int a1), (2, .int a2), (3, .int a3)] := hl
  unfold wp_X11_sheet at hw
  refine lv_iload_n hx hb dX11_sheet_0 rfl (lv_at hl 1 rfl) ?_
  refine q_cis (rest := []) X O hA (c_X11_isSheet hw) lk_X11_251 rfl rfl rfl ⟨Nat.le_of_ble_eq_true rfl, Nat.le_of_ble_eq_true rfl⟩ (Nat.le_of_ble_eq_true rfl) hl.1 ⟨Nat.zero_le _, Nat.zero_le _⟩ rfl dX11_sheet_1 (fun r1 u1 H locs hw O => ?_)
  refine lv_if_eq (tgt := 17) hx hb dX11_sheet_4 (by decide) (fun c4 => ?_) (fun c4 => ?_)
  · have hw := hw.1 c4
    refine lv_aload_n hx hb dX11_sheet_17 rfl (lv_at hl 0 rfl) ?_
    refine lv_iconst (v := 1) hx hb dX11_sheet_18 (by decide) ?_
    refine q_civ (rest := []) X O hA 0 (c_X11_refused hw) lk_X11_78 (by decide) rfl rfl rfl rfl rfl rfl ⟨Nat.le_of_ble_eq_true rfl, Nat.le_of_ble_eq_true rfl⟩ (Nat.le_of_ble_eq_true rfl) hl.1 ⟨Nat.zero_le _, Nat.zero_le _⟩ rfl dX11_sheet_19 (fun r19 u19 H locs hw O => ?_)
    exact q_iret X O hw dX11_sheet_22
  · have hw := hw.2 c4
    refine lv_iload_n hx hb dX11_sheet_7 rfl (lv_at hl 2 rfl) ?_
    refine lv_iconst (v := -1) hx hb dX11_sheet_8 (by decide) ?_
    refine lv_icmp_lt (tgt := 17) hx hb dX11_sheet_9 (by decide) (fun c9 => ?_) (fun c9 => ?_)
    · have hw := hw.1 c9
      refine lv_aload_n hx hb dX11_sheet_17 rfl (lv_at hl 0 rfl) ?_
      refine lv_iconst (v := 1) hx hb dX11_sheet_18 (by decide) ?_
      refine q_civ (rest := []) X O hA 0 (c_X11_refused hw) lk_X11_78 (by decide) rfl rfl rfl rfl rfl rfl ⟨Nat.le_of_ble_eq_true rfl, Nat.le_of_ble_eq_true rfl⟩ (Nat.le_of_ble_eq_true rfl) hl.1 ⟨Nat.zero_le _, Nat.zero_le _⟩ rfl dX11_sheet_19 (fun r19 u19 H locs hw O => ?_)
      exact q_iret X O hw dX11_sheet_22
    · have hw := hw.2 c9
      refine lv_iload_n hx hb dX11_sheet_12 rfl (lv_at hl 2 rfl) ?_
      refine lv_iconst (v := 2) hx hb dX11_sheet_13 (by decide) ?_
      refine lv_icmp_le (tgt := 23) hx hb dX11_sheet_14 (by decide) (fun c14 => ?_) (fun c14 => ?_)
      · have hw := hw.1 c14
        refine lv_iload_n hx hb dX11_sheet_23 rfl (lv_at hl 2 rfl) ?_
        refine lv_iconst (v := -1) hx hb dX11_sheet_24 (by decide) ?_
        refine lv_icmp_ne (tgt := 43) hx hb dX11_sheet_25 (by decide) (fun c25 => ?_) (fun c25 => ?_)
        · have hw := hw.1 c25
          refine lv_iload_n hx hb dX11_sheet_43 rfl (lv_at hl 3 rfl) ?_
          refine lv_if_lt (tgt := 53) hx hb dX11_sheet_44 (by decide) (fun c44 => ?_) (fun c44 => ?_)
          · have hw := hw.1 c44
            refine lv_aload_n hx hb dX11_sheet_53 rfl (lv_at hl 0 rfl) ?_
            refine lv_iconst (v := 1) hx hb dX11_sheet_54 (by decide) ?_
            refine q_civ (rest := []) X O hA 0 (c_X11_refused hw) lk_X11_78 (by decide) rfl rfl rfl rfl rfl rfl ⟨Nat.le_of_ble_eq_true rfl, Nat.le_of_ble_eq_true rfl⟩ (Nat.le_of_ble_eq_true rfl) hl.1 ⟨Nat.zero_le _, Nat.zero_le _⟩ rfl dX11_sheet_55 (fun r55 u55 H locs hw O => ?_)
            exact q_iret X O hw dX11_sheet_58
          · have hw := hw.2 c44
            refine lv_iload_n hx hb dX11_sheet_47 rfl (lv_at hl 3 rfl) ?_
            refine lv_bipush (v := 20) hx hb dX11_sheet_48 (by decide) ?_
            refine lv_icmp_le (tgt := 59) hx hb dX11_sheet_50 (by decide) (fun c50 => ?_) (fun c50 => ?_)
            · have hw := hw.1 c50
              refine lv_aload_n hx hb dX11_sheet_59 rfl (lv_at hl 0 rfl) ?_
              refine gt_X11_65 X O dX11_sheet_60 ?_
              refine lv_iload_n hx hb dX11_sheet_63 rfl (lv_at hl 1 rfl) ?_
              obtain ⟨i64, hw⟩ := hw
              refine q_ald X O 33 3 (by decide) rfl rfl i64 (sh_s i64) dX11_sheet_64 ?_
              refine lv_iload_n hx hb dX11_sheet_65 rfl (lv_at hl 2 rfl) ?_
              refine lv_iload_n hx hb dX11_sheet_66 rfl (lv_at hl 3 rfl) ?_
              refine q_cvv (rest := []) X O hA (34 + 2 * (Int32.toNatClampNeg a1)) (c_X8_make (vin_lt i64) hw) lk_X11_257 (sh_lt (vin_lt i64)) (gF_sh (vin_lt i64) _) rfl rfl rfl rfl rfl ⟨Nat.le_of_ble_eq_true rfl, Nat.le_of_ble_eq_true rfl⟩ (Nat.le_of_ble_eq_true rfl) hl.1 ⟨Nat.zero_le _, Nat.zero_le _⟩ rfl dX11_sheet_67 (fun u67 H locs hw O => ?_)
              refine lv_aload_n hx hb dX11_sheet_70 rfl (lv_at hl 0 rfl) ?_
              refine lv_iconst (v := 1) hx hb dX11_sheet_71 (by decide) ?_
              refine q_civ (rest := []) X O hA 0 (c_X11_done hw) lk_X11_90 (by decide) rfl rfl rfl rfl rfl rfl ⟨Nat.le_of_ble_eq_true rfl, Nat.le_of_ble_eq_true rfl⟩ (Nat.le_of_ble_eq_true rfl) hl.1 ⟨Nat.zero_le _, Nat.zero_le _⟩ rfl dX11_sheet_72 (fun r72 u72 H locs hw O => ?_)
              exact q_iret X O hw dX11_sheet_75
            · have hw := hw.2 c50
              refine lv_aload_n hx hb dX11_sheet_53 rfl (lv_at hl 0 rfl) ?_
              refine lv_iconst (v := 1) hx hb dX11_sheet_54 (by decide) ?_
              refine q_civ (rest := []) X O hA 0 (c_X11_refused hw) lk_X11_78 (by decide) rfl rfl rfl rfl rfl rfl ⟨Nat.le_of_ble_eq_true rfl, Nat.le_of_ble_eq_true rfl⟩ (Nat.le_of_ble_eq_true rfl) hl.1 ⟨Nat.zero_le _, Nat.zero_le _⟩ rfl dX11_sheet_55 (fun r55 u55 H locs hw O => ?_)
              exact q_iret X O hw dX11_sheet_58
        · have hw := hw.2 c25
          refine lv_aload_n hx hb dX11_sheet_28 rfl (lv_at hl 0 rfl) ?_
          refine gt_X11_65 X O dX11_sheet_29 ?_
          refine lv_iload_n hx hb dX11_sheet_32 rfl (lv_at hl 1 rfl) ?_
          obtain ⟨i33, hw⟩ := hw
          refine q_ald X O 33 3 (by decide) rfl rfl i33 (sh_s i33) dX11_sheet_33 ?_
          refine q_cvv (rest := []) X O hA (34 + 2 * (Int32.toNatClampNeg a1)) (c_X8_remove (vin_lt i33) hw) lk_X11_254 (sh_lt (vin_lt i33)) (gF_sh (vin_lt i33) _) rfl rfl rfl rfl rfl ⟨Nat.le_of_ble_eq_true rfl, Nat.le_of_ble_eq_true rfl⟩ (Nat.le_of_ble_eq_true rfl) hl.1 ⟨Nat.zero_le _, Nat.zero_le _⟩ rfl dX11_sheet_34 (fun u34 H locs hw O => ?_)
          refine lv_aload_n hx hb dX11_sheet_37 rfl (lv_at hl 0 rfl) ?_
          refine lv_iconst (v := 1) hx hb dX11_sheet_38 (by decide) ?_
          refine q_civ (rest := []) X O hA 0 (c_X11_done hw) lk_X11_90 (by decide) rfl rfl rfl rfl rfl rfl ⟨Nat.le_of_ble_eq_true rfl, Nat.le_of_ble_eq_true rfl⟩ (Nat.le_of_ble_eq_true rfl) hl.1 ⟨Nat.zero_le _, Nat.zero_le _⟩ rfl dX11_sheet_39 (fun r39 u39 H locs hw O => ?_)
          exact q_iret X O hw dX11_sheet_42
      · have hw := hw.2 c14
        refine lv_aload_n hx hb dX11_sheet_17 rfl (lv_at hl 0 rfl) ?_
        refine lv_iconst (v := 1) hx hb dX11_sheet_18 (by decide) ?_
        refine q_civ (rest := []) X O hA 0 (c_X11_refused hw) lk_X11_78 (by decide) rfl rfl rfl rfl rfl rfl ⟨Nat.le_of_ble_eq_true rfl, Nat.le_of_ble_eq_true rfl⟩ (Nat.le_of_ble_eq_true rfl) hl.1 ⟨Nat.zero_le _, Nat.zero_le _⟩ rfl dX11_sheet_19 (fun r19 u19 H locs hw O => ?_)
        exact q_iret X O hw dX11_sheet_22
-- FellersOrder$Sheet.isMissing()Z
abbrev rm_X8_isMissing : Room := { frames := 0, cells := 0, slots := 0, locals := 0 }
def wp_X8_isMissing (sk : Nat) (u : St) (Post : Int32 → St → Prop) : Prop := ((¬ (u (34 + 2 * sk) 1) = (-1 : Int32)) → (Post (0 : Int32) u)) ∧ (((u (34 + 2 * sk) 1) = (-1 : Int32)) → (Post (1 : Int32) u))
set_option maxHeartbeats 4000000 in
set_option maxRecDepth 100000 in
theorem c_X8_isMissing {sk : Nat} {l : Launch} {D : va_G} {b : Nat → ClassId} {h : Nat → Nat} {u : St} {Post : Int32 → St → Prop} (hs : sk < 6) (hw : wp_X8_isMissing sk u Post) : CtI l yX8_isMissing cX8_isMissing 1 (some .boolean) rm_X8_isMissing D (tyF b) 46 (gF b h) h [.ref (h (34 + 2 * sk))] u Post := by
  refine CtI.of (plainFor_of_name (by decide)) (Nat.le_of_ble_eq_true rfl) ?_
  intro p e s m below meth c A ls X hA O hl
  have X : Cx p s m _ meth c cX8_isMissing 1 (some .boolean) RX8 D (tyF b) A := X
  obtain ⟨⟨hx, hb, hml, hown, hts⟩, hK, hNs, hlocks, hr⟩ := id X
  have hl : lv_has ls 1 [(0, .ref (h (34 + 2 * sk)))] := hl
  unfold wp_X8_isMissing at hw
  refine lv_aload_n hx hb dX8_isMissing_0 rfl (lv_at hl 0 rfl) ?_
  refine gt_X8_15 hs X O dX8_isMissing_1 ?_
  refine lv_iconst (v := -1) hx hb dX8_isMissing_4 (by decide) ?_
  refine lv_icmp_ne (tgt := 12) hx hb dX8_isMissing_5 (by decide) (fun c5 => ?_) (fun c5 => ?_)
  · have hw := hw.1 c5
    refine lv_iconst (v := 0) hx hb dX8_isMissing_12 (by decide) ?_
    exact q_zret X O rfl hw dX8_isMissing_13
  · have hw := hw.2 c5
    refine lv_iconst (v := 1) hx hb dX8_isMissing_8 (by decide) ?_
    refine lv_goto (tgt := 13) hx hb dX8_isMissing_9 (by decide) ?_
    exact q_zret X O rfl hw dX8_isMissing_13
-- FellersOrder$Sheet.size()I
abbrev rm_X8_size : Room := { frames := 0, cells := 0, slots := 0, locals := 0 }
def wp_X8_size (sk : Nat) (u : St) (Post : Int32 → St → Prop) : Prop := Post (u (34 + 2 * sk) 2) u
set_option maxHeartbeats 4000000 in
set_option maxRecDepth 100000 in
theorem c_X8_size {sk : Nat} {l : Launch} {D : va_G} {b : Nat → ClassId} {h : Nat → Nat} {u : St} {Post : Int32 → St → Prop} (hs : sk < 6) (hw : wp_X8_size sk u Post) : CtI l yX8_size cX8_size 1 (some .int) rm_X8_size D (tyF b) 46 (gF b h) h [.ref (h (34 + 2 * sk))] u Post := by
  refine CtI.of (plainFor_of_name (by decide)) (Nat.le_of_ble_eq_true rfl) ?_
  intro p e s m below meth c A ls X hA O hl
  have X : Cx p s m _ meth c cX8_size 1 (some .int) RX8 D (tyF b) A := X
  obtain ⟨⟨hx, hb, hml, hown, hts⟩, hK, hNs, hlocks, hr⟩ := id X
  have hl : lv_has ls 1 [(0, .ref (h (34 + 2 * sk)))] := hl
  unfold wp_X8_size at hw
  refine lv_aload_n hx hb dX8_size_0 rfl (lv_at hl 0 rfl) ?_
  refine gt_X8_19 hs X O dX8_size_1 ?_
  exact q_iret X O hw dX8_size_4
-- FellersOrder$Sheet.write(II)V
abbrev rm_X8_write : Room := { frames := 0, cells := 0, slots := 0, locals := 0 }
def wp_X8_write (sk : Nat) (a1 : Int32) (a2 : Int32) (u : St) (Post : Int32 → St → Prop) : Prop := ((¬ (u (34 + 2 * sk) 1) = 0) → (vp_in a1 20 ∧ (Post 0 (su u (35 + 2 * sk) (Int32.toNatClampNeg a1) a2)))) ∧ (((u (34 + 2 * sk) 1) = 0) → (vp_in a1 20 ∧ (Post 0 (su u (35 + 2 * sk) (Int32.toNatClampNeg a1) ((Int32.toInt16 a2).toInt32)))))
set_option maxHeartbeats 4000000 in
set_option maxRecDepth 100000 in
theorem c_X8_write {sk : Nat} {a1 : Int32} {a2 : Int32} {l : Launch} {D : va_G} {b : Nat → ClassId} {h : Nat → Nat} {u : St} {Post : Int32 → St → Prop} (hs : sk < 6) (hw : wp_X8_write sk a1 a2 u Post) : CtV l yX8_write cX8_write 3 none rm_X8_write D (tyF b) 46 (gF b h) h [.ref (h (34 + 2 * sk)), .int a1, .int a2] u Post := by
  refine CtV.of (plainFor_of_name (by decide)) (Nat.le_of_ble_eq_true rfl) ?_
  intro p e s m below meth c A ls X hA O hl
  have X : Cx p s m _ meth c cX8_write 3 none RX8 D (tyF b) A := X
  obtain ⟨⟨hx, hb, hml, hown, hts⟩, hK, hNs, hlocks, hr⟩ := id X
  have hl : lv_has ls 3 [(0, .ref (h (34 + 2 * sk))), (1, .int a1), (2, .int a2)] := hl
  unfold wp_X8_write at hw
  refine lv_aload_n hx hb dX8_write_0 rfl (lv_at hl 0 rfl) ?_
  refine gt_X8_9 hs X O dX8_write_1 ?_
  refine lv_iload_n hx hb dX8_write_4 rfl (lv_at hl 1 rfl) ?_
  refine lv_aload_n hx hb dX8_write_5 rfl (lv_at hl 0 rfl) ?_
  refine gt_X8_15 hs X O dX8_write_6 ?_
  refine lv_if_ne (tgt := 17) hx hb dX8_write_9 (by decide) (fun c9 => ?_) (fun c9 => ?_)
  · have hw := hw.1 c9
    refine lv_iload_n hx hb dX8_write_17 rfl (lv_at hl 2 rfl) ?_
    obtain ⟨i18, hw⟩ := hw
    refine q_ist X O (35 + 2 * sk) 0 (nu_lt hs) (gF_nu hs) rfl i18 dX8_write_18 (fun H locs O => ?_)
    exact q_vret X O hw dX8_write_19
  · have hw := hw.2 c9
    refine lv_iload_n hx hb dX8_write_12 rfl (lv_at hl 2 rfl) ?_
    refine lv_i2s hx hb dX8_write_13 rfl ?_
    refine lv_goto (tgt := 18) hx hb dX8_write_14 (by decide) ?_
    obtain ⟨i18, hw⟩ := hw
    refine q_ist X O (35 + 2 * sk) 0 (nu_lt hs) (gF_nu hs) rfl i18 dX8_write_18 (fun H locs O => ?_)
    exact q_vret X O hw dX8_write_19
-- FellersOrder.cell(III)I
abbrev rm_X11_cell : Room := { frames := 1, cells := 0, slots := 0, locals := 22 }
def wp_X11_cell (a1 : Int32) (a2 : Int32) (a3 : Int32) (u : St) (Post : Int32 → St → Prop) : Prop := wp_X11_isSheet a1 u (fun r1 u1 => ((¬ r1 = 0) → (vp_in a1 6 ∧ (wp_X8_isMissing (Int32.toNatClampNeg a1) u1 (fun r23 u23 => ((r23 = 0) → (((a2 < 0) → (wp_X11_refused (12 : Int32) u23 (fun r52 u52 => Post r52 u52))) ∧ ((¬ a2 < 0) → (wp_X8_size (Int32.toNatClampNeg a1) u23 (fun r43 u43 => ((a2 < r43) → (wp_X8_write (Int32.toNatClampNeg a1) a2 a3 u43 (fun _ u60 => wp_X11_done (1 : Int32) u60 (fun r65 u65 => Post r65 u65)))) ∧ ((¬ a2 < r43) → (wp_X11_refused (12 : Int32) u43 (fun r52 u52 => Post r52 u52)))))))) ∧ ((¬ r23 = 0) → (wp_X11_refused (10 : Int32) u23 (fun r32 u32 => Post r32 u32))))))) ∧ ((r1 = 0) → (wp_X11_refused (1 : Int32) u1 (fun r9 u9 => Post r9 u9))))
set_option maxHeartbeats 4000000 in
set_option maxRecDepth 100000 in
theorem c_X11_cell {a1 : Int32} {a2 : Int32} {a3 : Int32} {l : Launch} {D : va_G} {b : Nat → ClassId} {h : Nat → Nat} {u : St} {Post : Int32 → St → Prop} (hw : wp_X11_cell a1 a2 a3 u Post) : CtI l yX11_cell cX11_cell 5 (some .int) rm_X11_cell D (tyF b) 46 (gF b h) h [.ref (h 0), .int a1, .int a2, .int a3] u Post := by
  refine CtI.of (plainFor_of_name (by decide)) (Nat.le_of_ble_eq_true rfl) ?_
  intro p e s m below meth c A ls X hA O hl
  have X : Cx p s m _ meth c cX11_cell 5 (some .int) RX11 D (tyF b) A := X
  obtain ⟨⟨hx, hb, hml, hown, hts⟩, hK, hNs, hlocks, hr⟩ := id X
  have hl : lv_has ls 5 [(0, .ref (h 0)), (1, .int a1), (2, .int a2), (3, .int a3)] := hl
  unfold wp_X11_cell at hw
  refine lv_iload_n hx hb dX11_cell_0 rfl (lv_at hl 1 rfl) ?_
  refine q_cis (rest := []) X O hA (c_X11_isSheet hw) lk_X11_251 rfl rfl rfl ⟨Nat.le_of_ble_eq_true rfl, Nat.le_of_ble_eq_true rfl⟩ (Nat.le_of_ble_eq_true rfl) hl.1 ⟨Nat.zero_le _, Nat.zero_le _⟩ rfl dX11_cell_1 (fun r1 u1 H locs hw O => ?_)
  refine lv_if_ne (tgt := 13) hx hb dX11_cell_4 (by decide) (fun c4 => ?_) (fun c4 => ?_)
  · have hw := hw.1 c4
    refine lv_aload_n hx hb dX11_cell_13 rfl (lv_at hl 0 rfl) ?_
    refine gt_X11_65 X O dX11_cell_14 ?_
    refine lv_iload_n hx hb dX11_cell_17 rfl (lv_at hl 1 rfl) ?_
    obtain ⟨i18, hw⟩ := hw
    refine q_ald X O 33 3 (by decide) rfl rfl i18 (sh_s i18) dX11_cell_18 ?_
    refine lv_astore (lv' := [(4, .ref (h (34 + 2 * (Int32.toNatClampNeg a1)))), (0, .ref (h 0)), (1, .int a1), (2, .int a2), (3, .int a3)]) hx hb dX11_cell_19 hl (by decide) rfl (fun ls hl => ?_)
    refine lv_aload hx hb dX11_cell_21 (lv_at hl 0 rfl) ?_
    refine q_civ (rest := []) X O hA (34 + 2 * (Int32.toNatClampNeg a1)) (c_X8_isMissing (vin_lt i18) hw) lk_X11_260 (sh_lt (vin_lt i18)) (gF_sh (vin_lt i18) _) rfl rfl rfl rfl rfl ⟨Nat.le_of_ble_eq_true rfl, Nat.le_of_ble_eq_true rfl⟩ (Nat.le_of_ble_eq_true rfl) hl.1 ⟨Nat.zero_le _, Nat.zero_le _⟩ rfl dX11_cell_23 (fun r23 u23 H locs hw O => ?_)
    refine lv_if_eq (tgt := 36) hx hb dX11_cell_26 (by decide) (fun c26 => ?_) (fun c26 => ?_)
    · have hw := hw.1 c26
      refine lv_iload_n hx hb dX11_cell_36 rfl (lv_at hl 3 rfl) ?_
      refine lv_if_lt (tgt := 49) hx hb dX11_cell_37 (by decide) (fun c37 => ?_) (fun c37 => ?_)
      · have hw := hw.1 c37
        refine lv_aload_n hx hb dX11_cell_49 rfl (lv_at hl 1 rfl) ?_
        refine lv_bipush (v := 12) hx hb dX11_cell_50 (by decide) ?_
        refine q_civ (rest := []) X O hA 0 (c_X11_refused hw) lk_X11_78 (by decide) rfl rfl rfl rfl rfl rfl ⟨Nat.le_of_ble_eq_true rfl, Nat.le_of_ble_eq_true rfl⟩ (Nat.le_of_ble_eq_true rfl) hl.1 ⟨Nat.zero_le _, Nat.zero_le _⟩ rfl dX11_cell_52 (fun r52 u52 H locs hw O => ?_)
        exact q_iret X O hw dX11_cell_55
      · have hw := hw.2 c37
        refine lv_iload_n hx hb dX11_cell_40 rfl (lv_at hl 3 rfl) ?_
        refine lv_aload hx hb dX11_cell_41 (lv_at hl 0 rfl) ?_
        refine q_civ (rest := [.int a2]) X O hA (34 + 2 * (Int32.toNatClampNeg a1)) (c_X8_size (vin_lt i18) hw) lk_X11_263 (sh_lt (vin_lt i18)) (gF_sh (vin_lt i18) _) rfl rfl rfl rfl rfl ⟨Nat.le_of_ble_eq_true rfl, Nat.le_of_ble_eq_true rfl⟩ (Nat.le_of_ble_eq_true rfl) hl.1 ⟨Nat.zero_le _, Nat.zero_le _⟩ rfl dX11_cell_43 (fun r43 u43 H locs hw O => ?_)
        refine lv_icmp_lt (tgt := 56) hx hb dX11_cell_46 (by decide) (fun c46 => ?_) (fun c46 => ?_)
        · have hw := hw.1 c46
          refine lv_aload hx hb dX11_cell_56 (lv_at hl 0 rfl) ?_
          refine lv_iload_n hx hb dX11_cell_58 rfl (lv_at hl 3 rfl) ?_
          refine lv_iload_n hx hb dX11_cell_59 rfl (lv_at hl 4 rfl) ?_
          refine q_cvv (rest := []) X O hA (34 + 2 * (Int32.toNatClampNeg a1)) (c_X8_write (vin_lt i18) hw) lk_X11_264 (sh_lt (vin_lt i18)) (gF_sh (vin_lt i18) _) rfl rfl rfl rfl rfl ⟨Nat.le_of_ble_eq_true rfl, Nat.le_of_ble_eq_true rfl⟩ (Nat.le_of_ble_eq_true rfl) hl.1 ⟨Nat.zero_le _, Nat.zero_le _⟩ rfl dX11_cell_60 (fun u60 H locs hw O => ?_)
          refine lv_aload_n hx hb dX11_cell_63 rfl (lv_at hl 1 rfl) ?_
          refine lv_iconst (v := 1) hx hb dX11_cell_64 (by decide) ?_
          refine q_civ (rest := []) X O hA 0 (c_X11_done hw) lk_X11_90 (by decide) rfl rfl rfl rfl rfl rfl ⟨Nat.le_of_ble_eq_true rfl, Nat.le_of_ble_eq_true rfl⟩ (Nat.le_of_ble_eq_true rfl) hl.1 ⟨Nat.zero_le _, Nat.zero_le _⟩ rfl dX11_cell_65 (fun r65 u65 H locs hw O => ?_)
          exact q_iret X O hw dX11_cell_68
        · have hw := hw.2 c46
          refine lv_aload_n hx hb dX11_cell_49 rfl (lv_at hl 1 rfl) ?_
          refine lv_bipush (v := 12) hx hb dX11_cell_50 (by decide) ?_
          refine q_civ (rest := []) X O hA 0 (c_X11_refused hw) lk_X11_78 (by decide) rfl rfl rfl rfl rfl rfl ⟨Nat.le_of_ble_eq_true rfl, Nat.le_of_ble_eq_true rfl⟩ (Nat.le_of_ble_eq_true rfl) hl.1 ⟨Nat.zero_le _, Nat.zero_le _⟩ rfl dX11_cell_52 (fun r52 u52 H locs hw O => ?_)
          exact q_iret X O hw dX11_cell_55
    · have hw := hw.2 c26
      refine lv_aload_n hx hb dX11_cell_29 rfl (lv_at hl 1 rfl) ?_
      refine lv_bipush (v := 10) hx hb dX11_cell_30 (by decide) ?_
      refine q_civ (rest := []) X O hA 0 (c_X11_refused hw) lk_X11_78 (by decide) rfl rfl rfl rfl rfl rfl ⟨Nat.le_of_ble_eq_true rfl, Nat.le_of_ble_eq_true rfl⟩ (Nat.le_of_ble_eq_true rfl) hl.1 ⟨Nat.zero_le _, Nat.zero_le _⟩ rfl dX11_cell_32 (fun r32 u32 H locs hw O => ?_)
      exact q_iret X O hw dX11_cell_35
  · have hw := hw.2 c4
    refine lv_aload_n hx hb dX11_cell_7 rfl (lv_at hl 0 rfl) ?_
    refine lv_iconst (v := 1) hx hb dX11_cell_8 (by decide) ?_
    refine q_civ (rest := []) X O hA 0 (c_X11_refused hw) lk_X11_78 (by decide) rfl rfl rfl rfl rfl rfl ⟨Nat.le_of_ble_eq_true rfl, Nat.le_of_ble_eq_true rfl⟩ (Nat.le_of_ble_eq_true rfl) hl.1 ⟨Nat.zero_le _, Nat.zero_le _⟩ rfl dX11_cell_9 (fun r9 u9 H locs hw O => ?_)
    exact q_iret X O hw dX11_cell_12
-- FellersOrder$Sheet.numberAt(I)I
abbrev rm_X8_numberAt : Room := { frames := 0, cells := 0, slots := 0, locals := 0 }
def wp_X8_numberAt (sk : Nat) (a1 : Int32) (u : St) (Post : Int32 → St → Prop) : Prop := vp_in a1 20 ∧ (Post (u (35 + 2 * sk) (Int32.toNatClampNeg a1)) u)
set_option maxHeartbeats 4000000 in
set_option maxRecDepth 100000 in
theorem c_X8_numberAt {sk : Nat} {a1 : Int32} {l : Launch} {D : va_G} {b : Nat → ClassId} {h : Nat → Nat} {u : St} {Post : Int32 → St → Prop} (hs : sk < 6) (hw : wp_X8_numberAt sk a1 u Post) : CtI l yX8_numberAt cX8_numberAt 2 (some .int) rm_X8_numberAt D (tyF b) 46 (gF b h) h [.ref (h (34 + 2 * sk)), .int a1] u Post := by
  refine CtI.of (plainFor_of_name (by decide)) (Nat.le_of_ble_eq_true rfl) ?_
  intro p e s m below meth c A ls X hA O hl
  have X : Cx p s m _ meth c cX8_numberAt 2 (some .int) RX8 D (tyF b) A := X
  obtain ⟨⟨hx, hb, hml, hown, hts⟩, hK, hNs, hlocks, hr⟩ := id X
  have hl : lv_has ls 2 [(0, .ref (h (34 + 2 * sk))), (1, .int a1)] := hl
  unfold wp_X8_numberAt at hw
  refine lv_aload_n hx hb dX8_numberAt_0 rfl (lv_at hl 0 rfl) ?_
  refine gt_X8_9 hs X O dX8_numberAt_1 ?_
  refine lv_iload_n hx hb dX8_numberAt_4 rfl (lv_at hl 1 rfl) ?_
  obtain ⟨i5, hw⟩ := hw
  refine q_ild X O (35 + 2 * sk) 0 (nu_lt hs) (gF_nu hs _) rfl i5 dX8_numberAt_5 ?_
  exact q_iret X O hw dX8_numberAt_6
-- FellersOrder$Sheet.isOfSort(I)Z
abbrev rm_X8_isOfSort : Room := { frames := 0, cells := 0, slots := 0, locals := 0 }
def wp_X8_isOfSort (sk : Nat) (a1 : Int32) (u : St) (Post : Int32 → St → Prop) : Prop := ((¬ (u (34 + 2 * sk) 1) = a1) → (Post (0 : Int32) u)) ∧ (((u (34 + 2 * sk) 1) = a1) → (Post (1 : Int32) u))
set_option maxHeartbeats 4000000 in
set_option maxRecDepth 100000 in
theorem c_X8_isOfSort {sk : Nat} {a1 : Int32} {l : Launch} {D : va_G} {b : Nat → ClassId} {h : Nat → Nat} {u : St} {Post : Int32 → St → Prop} (hs : sk < 6) (hw : wp_X8_isOfSort sk a1 u Post) : CtI l yX8_isOfSort cX8_isOfSort 2 (some .boolean) rm_X8_isOfSort D (tyF b) 46 (gF b h) h [.ref (h (34 + 2 * sk)), .int a1] u Post := by
  refine CtI.of (plainFor_of_name (by decide)) (Nat.le_of_ble_eq_true rfl) ?_
  intro p e s m below meth c A ls X hA O hl
  have X : Cx p s m _ meth c cX8_isOfSort 2 (some .boolean) RX8 D (tyF b) A := X
  obtain ⟨⟨hx, hb, hml, hown, hts⟩, hK, hNs, hlocks, hr⟩ := id X
  have hl : lv_has ls 2 [(0, .ref (h (34 + 2 * sk))), (1, .int a1)] := hl
  unfold wp_X8_isOfSort at hw
  refine lv_aload_n hx hb dX8_isOfSort_0 rfl (lv_at hl 0 rfl) ?_
  refine gt_X8_15 hs X O dX8_isOfSort_1 ?_
  refine lv_iload_n hx hb dX8_isOfSort_4 rfl (lv_at hl 1 rfl) ?_
  refine lv_icmp_ne (tgt := 12) hx hb dX8_isOfSort_5 (by decide) (fun c5 => ?_) (fun c5 => ?_)
  · have hw := hw.1 c5
    refine lv_iconst (v := 0) hx hb dX8_isOfSort_12 (by decide) ?_
    exact q_zret X O rfl hw dX8_isOfSort_13
  · have hw := hw.2 c5
    refine lv_iconst (v := 1) hx hb dX8_isOfSort_8 (by decide) ?_
    refine lv_goto (tgt := 13) hx hb dX8_isOfSort_9 (by decide) ?_
    exact q_zret X O rfl hw dX8_isOfSort_13
-- FellersOrder$Sheet.refusalAs(I)I
abbrev rm_X8_refusalAs : Room := { frames := 1, cells := 0, slots := 0, locals := 21 }
def wp_X8_refusalAs (sk : Nat) (a1 : Int32) (u : St) (Post : Int32 → St → Prop) : Prop := wp_X8_isMissing sk u (fun r1 u1 => ((r1 = 0) → (wp_X8_isOfSort sk a1 u1 (fun r12 u12 => ((r12 = 0) → (Post (11 : Int32) u12)) ∧ ((¬ r12 = 0) → (Post (0 : Int32) u12))))) ∧ ((¬ r1 = 0) → (Post (10 : Int32) u1)))
set_option maxHeartbeats 4000000 in
set_option maxRecDepth 100000 in
theorem c_X8_refusalAs {sk : Nat} {a1 : Int32} {l : Launch} {D : va_G} {b : Nat → ClassId} {h : Nat → Nat} {u : St} {Post : Int32 → St → Prop} (hs : sk < 6) (hw : wp_X8_refusalAs sk a1 u Post) : CtI l yX8_refusalAs cX8_refusalAs 2 (some .int) rm_X8_refusalAs D (tyF b) 46 (gF b h) h [.ref (h (34 + 2 * sk)), .int a1] u Post := by
  refine CtI.of (plainFor_of_name (by decide)) (Nat.le_of_ble_eq_true rfl) ?_
  intro p e s m below meth c A ls X hA O hl
  have X : Cx p s m _ meth c cX8_refusalAs 2 (some .int) RX8 D (tyF b) A := X
  obtain ⟨⟨hx, hb, hml, hown, hts⟩, hK, hNs, hlocks, hr⟩ := id X
  have hl : lv_has ls 2 [(0, .ref (h (34 + 2 * sk))), (1, .int a1)] := hl
  unfold wp_X8_refusalAs at hw
  refine lv_aload_n hx hb dX8_refusalAs_0 rfl (lv_at hl 0 rfl) ?_
  refine q_civ (rest := []) X O hA (34 + 2 * sk) (c_X8_isMissing (hs) hw) lk_X8_22 (sh_lt (hs)) (gF_sh (hs) _) rfl rfl rfl rfl rfl ⟨Nat.le_of_ble_eq_true rfl, Nat.le_of_ble_eq_true rfl⟩ (Nat.le_of_ble_eq_true rfl) hl.1 ⟨Nat.zero_le _, Nat.zero_le _⟩ rfl dX8_refusalAs_1 (fun r1 u1 H locs hw O => ?_)
  refine lv_if_eq (tgt := 10) hx hb dX8_refusalAs_4 (by decide) (fun c4 => ?_) (fun c4 => ?_)
  · have hw := hw.1 c4
    refine lv_aload_n hx hb dX8_refusalAs_10 rfl (lv_at hl 0 rfl) ?_
    refine lv_iload_n hx hb dX8_refusalAs_11 rfl (lv_at hl 1 rfl) ?_
    refine q_civ (rest := []) X O hA (34 + 2 * sk) (c_X8_isOfSort (hs) hw) lk_X8_26 (sh_lt (hs)) (gF_sh (hs) _) rfl rfl rfl rfl rfl ⟨Nat.le_of_ble_eq_true rfl, Nat.le_of_ble_eq_true rfl⟩ (Nat.le_of_ble_eq_true rfl) hl.1 ⟨Nat.zero_le _, Nat.zero_le _⟩ rfl dX8_refusalAs_12 (fun r12 u12 H locs hw O => ?_)
    refine lv_if_eq (tgt := 22) hx hb dX8_refusalAs_15 (by decide) (fun c15 => ?_) (fun c15 => ?_)
    · have hw := hw.1 c15
      refine lv_bipush (v := 11) hx hb dX8_refusalAs_22 (by decide) ?_
      exact q_iret X O hw dX8_refusalAs_24
    · have hw := hw.2 c15
      refine lv_iconst (v := 0) hx hb dX8_refusalAs_18 (by decide) ?_
      refine lv_goto (tgt := 24) hx hb dX8_refusalAs_19 (by decide) ?_
      exact q_iret X O hw dX8_refusalAs_24
  · have hw := hw.2 c4
    refine lv_bipush (v := 10) hx hb dX8_refusalAs_7 (by decide) ?_
    exact q_iret X O hw dX8_refusalAs_9
-- FellersOrder.fromSheet(III)I
abbrev rm_X11_fromSheet : Room := { frames := 5, cells := 0, slots := 0, locals := 113 }
def wp_X11_fromSheet (a1 : Int32) (a2 : Int32) (a3 : Int32) (u : St) (Post : Int32 → St → Prop) : Prop := wp_X11_isSheet a1 u (fun r1 u1 => ((r1 = 0) → (wp_X11_refused (1 : Int32) u1 (fun r18 u18 => Post r18 u18))) ∧ ((¬ r1 = 0) → (((a2 < 0) → (wp_X11_refused (1 : Int32) u1 (fun r18 u18 => Post r18 u18))) ∧ ((¬ a2 < 0) → (((a2 ≤ (2 : Int32)) → (wp_X10_isFull u1 (fun r26 u26 => ((r26 = 0) → (vp_in a1 6 ∧ (wp_X8_refusalAs (Int32.toNatClampNeg a1) a2 u26 (fun r49 u49 => ((r49 = 0) → (((a3 < 0) → (wp_X11_refused (12 : Int32) u49 (fun r84 u84 => Post r84 u84))) ∧ ((¬ a3 < 0) → (wp_X8_size (Int32.toNatClampNeg a1) u49 (fun r73 u73 => ((a3 < (r73 - (1 : Int32))) → (wp_X8_numberAt (Int32.toNatClampNeg a1) a3 u73 (fun r91 u91 => wp_X8_numberAt (Int32.toNatClampNeg a1) (a3 + (1 : Int32)) u91 (fun r101 u101 => wp_X10_allows (0 : Int32) r91 u101 (fun r109 u109 => ((r109 = 0) → (wp_X11_refused (3 : Int32) u109 (fun r126 u126 => Post r126 u126))) ∧ ((¬ r109 = 0) → (wp_X10_allows (1 : Int32) r101 u109 (fun r118 u118 => ((¬ r118 = 0) → (wp_X11_bringJob r91 r101 u118 (fun r136 u136 => wp_X11_done r136 u136 (fun r139 u139 => Post r139 u139)))) ∧ ((r118 = 0) → (wp_X11_refused (3 : Int32) u118 (fun r126 u126 => Post r126 u126))))))))))) ∧ ((¬ a3 < (r73 - (1 : Int32))) → (wp_X11_refused (12 : Int32) u73 (fun r84 u84 => Post r84 u84)))))))) ∧ ((¬ r49 = 0) → (wp_X11_refused r49 u49 (fun r62 u62 => Post r62 u62))))))) ∧ ((¬ r26 = 0) → (wp_X11_refused (2 : Int32) u26 (fun r34 u34 => Post r34 u34)))))) ∧ ((¬ a2 ≤ (2 : Int32)) → (wp_X11_refused (1 : Int32) u1 (fun r18 u18 => Post r18 u18))))))))
set_option maxHeartbeats 4000000 in
set_option maxRecDepth 100000 in
theorem c_X11_fromSheet {a1 : Int32} {a2 : Int32} {a3 : Int32} {l : Launch} {D : va_G} {b : Nat → ClassId} {h : Nat → Nat} {u : St} {Post : Int32 → St → Prop} (hw : wp_X11_fromSheet a1 a2 a3 u Post) : CtI l yX11_fromSheet cX11_fromSheet 8 (some .int) rm_X11_fromSheet D (tyF b) 46 (gF b h) h [.ref (h 0), .int a1, .int a2, .int a3] u Post := by
  refine CtI.of (plainFor_of_name (by decide)) (Nat.le_of_ble_eq_true rfl) ?_
  intro p e s m below meth c A ls X hA O hl
  have X : Cx p s m _ meth c cX11_fromSheet 8 (some .int) RX11 D (tyF b) A := X
  obtain ⟨⟨hx, hb, hml, hown, hts⟩, hK, hNs, hlocks, hr⟩ := id X
  have hl : lv_has ls 8 [(0, .ref (h 0)), (1, .int a1), (2, .int a2), (3, .int a3)] := hl
  unfold wp_X11_fromSheet at hw
  refine lv_iload_n hx hb dX11_fromSheet_0 rfl (lv_at hl 1 rfl) ?_
  refine q_cis (rest := []) X O hA (c_X11_isSheet hw) lk_X11_251 rfl rfl rfl ⟨Nat.le_of_ble_eq_true rfl, Nat.le_of_ble_eq_true rfl⟩ (Nat.le_of_ble_eq_true rfl) hl.1 ⟨Nat.zero_le _, Nat.zero_le _⟩ rfl dX11_fromSheet_1 (fun r1 u1 H locs hw O => ?_)
  refine lv_if_eq (tgt := 16) hx hb dX11_fromSheet_4 (by decide) (fun c4 => ?_) (fun c4 => ?_)
  · have hw := hw.1 c4
    refine lv_aload_n hx hb dX11_fromSheet_16 rfl (lv_at hl 0 rfl) ?_
    refine lv_iconst (v := 1) hx hb dX11_fromSheet_17 (by decide) ?_
    refine q_civ (rest := []) X O hA 0 (c_X11_refused hw) lk_X11_78 (by decide) rfl rfl rfl rfl rfl rfl ⟨Nat.le_of_ble_eq_true rfl, Nat.le_of_ble_eq_true rfl⟩ (Nat.le_of_ble_eq_true rfl) hl.1 ⟨Nat.zero_le _, Nat.zero_le _⟩ rfl dX11_fromSheet_18 (fun r18 u18 H locs hw O => ?_)
    exact q_iret X O hw dX11_fromSheet_21
  · have hw := hw.2 c4
    refine lv_iload_n hx hb dX11_fromSheet_7 rfl (lv_at hl 2 rfl) ?_
    refine lv_if_lt (tgt := 16) hx hb dX11_fromSheet_8 (by decide) (fun c8 => ?_) (fun c8 => ?_)
    · have hw := hw.1 c8
      refine lv_aload_n hx hb dX11_fromSheet_16 rfl (lv_at hl 0 rfl) ?_
      refine lv_iconst (v := 1) hx hb dX11_fromSheet_17 (by decide) ?_
      refine q_civ (rest := []) X O hA 0 (c_X11_refused hw) lk_X11_78 (by decide) rfl rfl rfl rfl rfl rfl ⟨Nat.le_of_ble_eq_true rfl, Nat.le_of_ble_eq_true rfl⟩ (Nat.le_of_ble_eq_true rfl) hl.1 ⟨Nat.zero_le _, Nat.zero_le _⟩ rfl dX11_fromSheet_18 (fun r18 u18 H locs hw O => ?_)
      exact q_iret X O hw dX11_fromSheet_21
    · have hw := hw.2 c8
      refine lv_iload_n hx hb dX11_fromSheet_11 rfl (lv_at hl 2 rfl) ?_
      refine lv_iconst (v := 2) hx hb dX11_fromSheet_12 (by decide) ?_
      refine lv_icmp_le (tgt := 22) hx hb dX11_fromSheet_13 (by decide) (fun c13 => ?_) (fun c13 => ?_)
      · have hw := hw.1 c13
        refine lv_aload_n hx hb dX11_fromSheet_22 rfl (lv_at hl 0 rfl) ?_
        refine gt_X11_10 X O dX11_fromSheet_23 ?_
        refine q_civ (rest := []) X O hA 1 (c_X10_isFull hw) lk_X11_82 (by decide) rfl rfl rfl rfl rfl rfl ⟨Nat.le_of_ble_eq_true rfl, Nat.le_of_ble_eq_true rfl⟩ (Nat.le_of_ble_eq_true rfl) hl.1 ⟨Nat.zero_le _, Nat.zero_le _⟩ rfl dX11_fromSheet_26 (fun r26 u26 H locs hw O => ?_)
        refine lv_if_eq (tgt := 38) hx hb dX11_fromSheet_29 (by decide) (fun c29 => ?_) (fun c29 => ?_)
        · have hw := hw.1 c29
          refine lv_aload_n hx hb dX11_fromSheet_38 rfl (lv_at hl 0 rfl) ?_
          refine gt_X11_65 X O dX11_fromSheet_39 ?_
          refine lv_iload_n hx hb dX11_fromSheet_42 rfl (lv_at hl 1 rfl) ?_
          obtain ⟨i43, hw⟩ := hw
          refine q_ald X O 33 3 (by decide) rfl rfl i43 (sh_s i43) dX11_fromSheet_43 ?_
          refine lv_astore (lv' := [(4, .ref (h (34 + 2 * (Int32.toNatClampNeg a1)))), (0, .ref (h 0)), (1, .int a1), (2, .int a2), (3, .int a3)]) hx hb dX11_fromSheet_44 hl (by decide) rfl (fun ls hl => ?_)
          refine lv_aload hx hb dX11_fromSheet_46 (lv_at hl 0 rfl) ?_
          refine lv_iload_n hx hb dX11_fromSheet_48 rfl (lv_at hl 3 rfl) ?_
          refine q_civ (rest := []) X O hA (34 + 2 * (Int32.toNatClampNeg a1)) (c_X8_refusalAs (vin_lt i43) hw) lk_X11_267 (sh_lt (vin_lt i43)) (gF_sh (vin_lt i43) _) rfl rfl rfl rfl rfl ⟨Nat.le_of_ble_eq_true rfl, Nat.le_of_ble_eq_true rfl⟩ (Nat.le_of_ble_eq_true rfl) hl.1 ⟨Nat.zero_le _, Nat.zero_le _⟩ rfl dX11_fromSheet_49 (fun r49 u49 H locs hw O => ?_)
          refine lv_istore (lv' := [(5, .int r49), (4, .ref (h (34 + 2 * (Int32.toNatClampNeg a1)))), (0, .ref (h 0)), (1, .int a1), (2, .int a2), (3, .int a3)]) hx hb dX11_fromSheet_52 hl (by decide) rfl (fun ls hl => ?_)
          refine lv_iload hx hb dX11_fromSheet_54 (lv_at hl 0 rfl) ?_
          refine lv_if_eq (tgt := 66) hx hb dX11_fromSheet_56 (by decide) (fun c56 => ?_) (fun c56 => ?_)
          · have hw := hw.1 c56
            refine lv_iload_n hx hb dX11_fromSheet_66 rfl (lv_at hl 5 rfl) ?_
            refine lv_if_lt (tgt := 81) hx hb dX11_fromSheet_67 (by decide) (fun c67 => ?_) (fun c67 => ?_)
            · have hw := hw.1 c67
              refine lv_aload_n hx hb dX11_fromSheet_81 rfl (lv_at hl 2 rfl) ?_
              refine lv_bipush (v := 12) hx hb dX11_fromSheet_82 (by decide) ?_
              refine q_civ (rest := []) X O hA 0 (c_X11_refused hw) lk_X11_78 (by decide) rfl rfl rfl rfl rfl rfl ⟨Nat.le_of_ble_eq_true rfl, Nat.le_of_ble_eq_true rfl⟩ (Nat.le_of_ble_eq_true rfl) hl.1 ⟨Nat.zero_le _, Nat.zero_le _⟩ rfl dX11_fromSheet_84 (fun r84 u84 H locs hw O => ?_)
              exact q_iret X O hw dX11_fromSheet_87
            · have hw := hw.2 c67
              refine lv_iload_n hx hb dX11_fromSheet_70 rfl (lv_at hl 5 rfl) ?_
              refine lv_aload hx hb dX11_fromSheet_71 (lv_at hl 1 rfl) ?_
              refine q_civ (rest := [.int a3]) X O hA (34 + 2 * (Int32.toNatClampNeg a1)) (c_X8_size (vin_lt i43) hw) lk_X11_263 (sh_lt (vin_lt i43)) (gF_sh (vin_lt i43) _) rfl rfl rfl rfl rfl ⟨Nat.le_of_ble_eq_true rfl, Nat.le_of_ble_eq_true rfl⟩ (Nat.le_of_ble_eq_true rfl) hl.1 ⟨Nat.zero_le _, Nat.zero_le _⟩ rfl dX11_fromSheet_73 (fun r73 u73 H locs hw O => ?_)
              refine lv_iconst (v := 1) hx hb dX11_fromSheet_76 (by decide) ?_
              refine lv_isub hx hb dX11_fromSheet_77 ?_
              refine lv_icmp_lt (tgt := 88) hx hb dX11_fromSheet_78 (by decide) (fun c78 => ?_) (fun c78 => ?_)
              · have hw := hw.1 c78
                refine lv_aload hx hb dX11_fromSheet_88 (lv_at hl 1 rfl) ?_
                refine lv_iload_n hx hb dX11_fromSheet_90 rfl (lv_at hl 5 rfl) ?_
                refine q_civ (rest := []) X O hA (34 + 2 * (Int32.toNatClampNeg a1)) (c_X8_numberAt (vin_lt i43) hw) lk_X11_270 (sh_lt (vin_lt i43)) (gF_sh (vin_lt i43) _) rfl rfl rfl rfl rfl ⟨Nat.le_of_ble_eq_true rfl, Nat.le_of_ble_eq_true rfl⟩ (Nat.le_of_ble_eq_true rfl) hl.1 ⟨Nat.zero_le _, Nat.zero_le _⟩ rfl dX11_fromSheet_91 (fun r91 u91 H locs hw O => ?_)
                refine lv_istore (lv' := [(6, .int r91), (5, .int r49), (4, .ref (h (34 + 2 * (Int32.toNatClampNeg a1)))), (0, .ref (h 0)), (1, .int a1), (2, .int a2), (3, .int a3)]) hx hb dX11_fromSheet_94 hl (by decide) rfl (fun ls hl => ?_)
                refine lv_aload hx hb dX11_fromSheet_96 (lv_at hl 2 rfl) ?_
                refine lv_iload_n hx hb dX11_fromSheet_98 rfl (lv_at hl 6 rfl) ?_
                refine lv_iconst (v := 1) hx hb dX11_fromSheet_99 (by decide) ?_
                refine lv_iadd hx hb dX11_fromSheet_100 ?_
                refine q_civ (rest := []) X O hA (34 + 2 * (Int32.toNatClampNeg a1)) (c_X8_numberAt (vin_lt i43) hw) lk_X11_270 (sh_lt (vin_lt i43)) (gF_sh (vin_lt i43) _) rfl rfl rfl rfl rfl ⟨Nat.le_of_ble_eq_true rfl, Nat.le_of_ble_eq_true rfl⟩ (Nat.le_of_ble_eq_true rfl) hl.1 ⟨Nat.zero_le _, Nat.zero_le _⟩ rfl dX11_fromSheet_101 (fun r101 u101 H locs hw O => ?_)
                refine lv_istore (lv' := [(7, .int r101), (6, .int r91), (5, .int r49), (4, .ref (h (34 + 2 * (Int32.toNatClampNeg a1)))), (0, .ref (h 0)), (1, .int a1), (2, .int a2), (3, .int a3)]) hx hb dX11_fromSheet_104 hl (by decide) rfl (fun ls hl => ?_)
                refine lv_iconst (v := 0) hx hb dX11_fromSheet_106 (by decide) ?_
                refine lv_iload hx hb dX11_fromSheet_107 (lv_at hl 1 rfl) ?_
                refine q_cis (rest := []) X O hA (c_X10_allows hw) lk_X11_74 rfl rfl rfl ⟨Nat.le_of_ble_eq_true rfl, Nat.le_of_ble_eq_true rfl⟩ (Nat.le_of_ble_eq_true rfl) hl.1 ⟨Nat.zero_le _, Nat.zero_le _⟩ rfl dX11_fromSheet_109 (fun r109 u109 H locs hw O => ?_)
                refine lv_if_eq (tgt := 124) hx hb dX11_fromSheet_112 (by decide) (fun c112 => ?_) (fun c112 => ?_)
                · have hw := hw.1 c112
                  refine lv_aload_n hx hb dX11_fromSheet_124 rfl (lv_at hl 4 rfl) ?_
                  refine lv_iconst (v := 3) hx hb dX11_fromSheet_125 (by decide) ?_
                  refine q_civ (rest := []) X O hA 0 (c_X11_refused hw) lk_X11_78 (by decide) rfl rfl rfl rfl rfl rfl ⟨Nat.le_of_ble_eq_true rfl, Nat.le_of_ble_eq_true rfl⟩ (Nat.le_of_ble_eq_true rfl) hl.1 ⟨Nat.zero_le _, Nat.zero_le _⟩ rfl dX11_fromSheet_126 (fun r126 u126 H locs hw O => ?_)
                  exact q_iret X O hw dX11_fromSheet_129
                · have hw := hw.2 c112
                  refine lv_iconst (v := 1) hx hb dX11_fromSheet_115 (by decide) ?_
                  refine lv_iload hx hb dX11_fromSheet_116 (lv_at hl 0 rfl) ?_
                  refine q_cis (rest := []) X O hA (c_X10_allows hw) lk_X11_74 rfl rfl rfl ⟨Nat.le_of_ble_eq_true rfl, Nat.le_of_ble_eq_true rfl⟩ (Nat.le_of_ble_eq_true rfl) hl.1 ⟨Nat.zero_le _, Nat.zero_le _⟩ rfl dX11_fromSheet_118 (fun r118 u118 H locs hw O => ?_)
                  refine lv_if_ne (tgt := 130) hx hb dX11_fromSheet_121 (by decide) (fun c121 => ?_) (fun c121 => ?_)
                  · have hw := hw.1 c121
                    refine lv_aload_n hx hb dX11_fromSheet_130 rfl (lv_at hl 4 rfl) ?_
                    refine lv_aload_n hx hb dX11_fromSheet_131 rfl (lv_at hl 4 rfl) ?_
                    refine lv_iload hx hb dX11_fromSheet_132 (lv_at hl 1 rfl) ?_
                    refine lv_iload hx hb dX11_fromSheet_134 (lv_at hl 0 rfl) ?_
                    refine q_civ (rest := [.ref (h 0)]) X O hA 0 (c_X11_bringJob hw) lk_X11_86 (by decide) rfl rfl rfl rfl rfl rfl ⟨Nat.le_of_ble_eq_true rfl, Nat.le_of_ble_eq_true rfl⟩ (Nat.le_of_ble_eq_true rfl) hl.1 ⟨Nat.zero_le _, Nat.zero_le _⟩ rfl dX11_fromSheet_136 (fun r136 u136 H locs hw O => ?_)
                    refine q_civ (rest := []) X O hA 0 (c_X11_done hw) lk_X11_90 (by decide) rfl rfl rfl rfl rfl rfl ⟨Nat.le_of_ble_eq_true rfl, Nat.le_of_ble_eq_true rfl⟩ (Nat.le_of_ble_eq_true rfl) hl.1 ⟨Nat.zero_le _, Nat.zero_le _⟩ rfl dX11_fromSheet_139 (fun r139 u139 H locs hw O => ?_)
                    exact q_iret X O hw dX11_fromSheet_142
                  · have hw := hw.2 c121
                    refine lv_aload_n hx hb dX11_fromSheet_124 rfl (lv_at hl 4 rfl) ?_
                    refine lv_iconst (v := 3) hx hb dX11_fromSheet_125 (by decide) ?_
                    refine q_civ (rest := []) X O hA 0 (c_X11_refused hw) lk_X11_78 (by decide) rfl rfl rfl rfl rfl rfl ⟨Nat.le_of_ble_eq_true rfl, Nat.le_of_ble_eq_true rfl⟩ (Nat.le_of_ble_eq_true rfl) hl.1 ⟨Nat.zero_le _, Nat.zero_le _⟩ rfl dX11_fromSheet_126 (fun r126 u126 H locs hw O => ?_)
                    exact q_iret X O hw dX11_fromSheet_129
              · have hw := hw.2 c78
                refine lv_aload_n hx hb dX11_fromSheet_81 rfl (lv_at hl 2 rfl) ?_
                refine lv_bipush (v := 12) hx hb dX11_fromSheet_82 (by decide) ?_
                refine q_civ (rest := []) X O hA 0 (c_X11_refused hw) lk_X11_78 (by decide) rfl rfl rfl rfl rfl rfl ⟨Nat.le_of_ble_eq_true rfl, Nat.le_of_ble_eq_true rfl⟩ (Nat.le_of_ble_eq_true rfl) hl.1 ⟨Nat.zero_le _, Nat.zero_le _⟩ rfl dX11_fromSheet_84 (fun r84 u84 H locs hw O => ?_)
                exact q_iret X O hw dX11_fromSheet_87
          · have hw := hw.2 c56
            refine lv_aload_n hx hb dX11_fromSheet_59 rfl (lv_at hl 2 rfl) ?_
            refine lv_iload hx hb dX11_fromSheet_60 (lv_at hl 0 rfl) ?_
            refine q_civ (rest := []) X O hA 0 (c_X11_refused hw) lk_X11_78 (by decide) rfl rfl rfl rfl rfl rfl ⟨Nat.le_of_ble_eq_true rfl, Nat.le_of_ble_eq_true rfl⟩ (Nat.le_of_ble_eq_true rfl) hl.1 ⟨Nat.zero_le _, Nat.zero_le _⟩ rfl dX11_fromSheet_62 (fun r62 u62 H locs hw O => ?_)
            exact q_iret X O hw dX11_fromSheet_65
        · have hw := hw.2 c29
          refine lv_aload_n hx hb dX11_fromSheet_32 rfl (lv_at hl 0 rfl) ?_
          refine lv_iconst (v := 2) hx hb dX11_fromSheet_33 (by decide) ?_
          refine q_civ (rest := []) X O hA 0 (c_X11_refused hw) lk_X11_78 (by decide) rfl rfl rfl rfl rfl rfl ⟨Nat.le_of_ble_eq_true rfl, Nat.le_of_ble_eq_true rfl⟩ (Nat.le_of_ble_eq_true rfl) hl.1 ⟨Nat.zero_le _, Nat.zero_le _⟩ rfl dX11_fromSheet_34 (fun r34 u34 H locs hw O => ?_)
          exact q_iret X O hw dX11_fromSheet_37
      · have hw := hw.2 c13
        refine lv_aload_n hx hb dX11_fromSheet_16 rfl (lv_at hl 0 rfl) ?_
        refine lv_iconst (v := 1) hx hb dX11_fromSheet_17 (by decide) ?_
        refine q_civ (rest := []) X O hA 0 (c_X11_refused hw) lk_X11_78 (by decide) rfl rfl rfl rfl rfl rfl ⟨Nat.le_of_ble_eq_true rfl, Nat.le_of_ble_eq_true rfl⟩ (Nat.le_of_ble_eq_true rfl) hl.1 ⟨Nat.zero_le _, Nat.zero_le _⟩ rfl dX11_fromSheet_18 (fun r18 u18 H locs hw O => ?_)
        exact q_iret X O hw dX11_fromSheet_21
-- java/lang/Math.floorMod(II)I
abbrev rm_J9_floorMod_7cf53 : Room := { frames := 0, cells := 0, slots := 0, locals := 0 }
def wp_J9_floorMod_7cf53 (a0 : Int32) (a1 : Int32) (u : St) (Post : Int32 → St → Prop) : Prop := (¬ a1 = 0) ∧ (((0 ≤ (a0 ^^^ a1)) → (Post (a0 - a0 / a1 * a1) u)) ∧ ((¬ 0 ≤ (a0 ^^^ a1)) → ((((a0 - a0 / a1 * a1) = 0) → (Post (a0 - a0 / a1 * a1) u)) ∧ ((¬ (a0 - a0 / a1 * a1) = 0) → (Post ((a0 - a0 / a1 * a1) + a1) u)))))
set_option maxHeartbeats 4000000 in
set_option maxRecDepth 100000 in
theorem c_J9_floorMod_7cf53 {a0 : Int32} {a1 : Int32} {l : Launch} {D : va_G} {b : Nat → ClassId} {h : Nat → Nat} {u : St} {Post : Int32 → St → Prop} (hw : wp_J9_floorMod_7cf53 a0 a1 u Post) : CtI l yJ9_floorMod_7cf53 cJ9_floorMod_7cf53 3 (some .int) rm_J9_floorMod_7cf53 D (tyF b) 46 (gF b h) h [.int a0, .int a1] u Post := by
  refine CtI.of (by decide +kernel) (Nat.le_of_ble_eq_true rfl) ?_
  intro p e s m below meth c A ls X hA O hl
  have X : Cx p s m _ meth c cJ9_floorMod_7cf53 3 (some .int) RJ9 D (tyF b) A := X
  obtain ⟨⟨hx, hb, hml, hown, hts⟩, hK, hNs, hlocks, hr⟩ := id X
  have hl : lv_has ls 3 [(0, .int a0), (1, .int a1)] := hl
  unfold wp_J9_floorMod_7cf53 at hw
  refine lv_iload_n hx hb dJ9_floorMod_7cf53_0 rfl (lv_at hl 0 rfl) ?_
  refine lv_iload_n hx hb dJ9_floorMod_7cf53_1 rfl (lv_at hl 1 rfl) ?_
  obtain ⟨z2, hw⟩ := hw
  refine lv_irem hx hb dJ9_floorMod_7cf53_2 z2 ?_
  refine lv_istore_n (lv' := [(2, .int (a0 - a0 / a1 * a1)), (0, .int a0), (1, .int a1)]) hx hb dJ9_floorMod_7cf53_3 rfl hl (by decide) rfl (fun ls hl => ?_)
  refine lv_iload_n hx hb dJ9_floorMod_7cf53_4 rfl (lv_at hl 1 rfl) ?_
  refine lv_iload_n hx hb dJ9_floorMod_7cf53_5 rfl (lv_at hl 2 rfl) ?_
  refine lv_ixor hx hb dJ9_floorMod_7cf53_6 ?_
  refine lv_if_ge (tgt := 18) hx hb dJ9_floorMod_7cf53_7 (by decide) (fun c7 => ?_) (fun c7 => ?_)
  · have hw := hw.1 c7
    refine lv_iload_n hx hb dJ9_floorMod_7cf53_18 rfl (lv_at hl 0 rfl) ?_
    exact q_iret X O hw dJ9_floorMod_7cf53_19
  · have hw := hw.2 c7
    refine lv_iload_n hx hb dJ9_floorMod_7cf53_10 rfl (lv_at hl 0 rfl) ?_
    refine lv_if_eq (tgt := 18) hx hb dJ9_floorMod_7cf53_11 (by decide) (fun c11 => ?_) (fun c11 => ?_)
    · have hw := hw.1 c11
      refine lv_iload_n hx hb dJ9_floorMod_7cf53_18 rfl (lv_at hl 0 rfl) ?_
      exact q_iret X O hw dJ9_floorMod_7cf53_19
    · have hw := hw.2 c11
      refine lv_iload_n hx hb dJ9_floorMod_7cf53_14 rfl (lv_at hl 0 rfl) ?_
      refine lv_iload_n hx hb dJ9_floorMod_7cf53_15 rfl (lv_at hl 2 rfl) ?_
      refine lv_iadd hx hb dJ9_floorMod_7cf53_16 ?_
      exact q_iret X O hw dJ9_floorMod_7cf53_17
-- FellersOrder$Sheet.sumFrom(II)I
abbrev rm_X8_sumFrom : Room := { frames := 0, cells := 0, slots := 0, locals := 0 }
def wb_X8_sumFrom_5 (sk : Nat) (Post : Int32 → St → Prop) (K5 : Int32 → Int32 → Int32 → Int32 → St → Prop) (x1 : Int32) (x2 : Int32) (x3 : Int32) (x4 : Int32) (u : St) : Prop := (((x1 + x2) ≤ x4) → (Post x3 u)) ∧ ((¬ (x1 + x2) ≤ x4) → (vp_in x4 20 ∧ (K5 x1 x2 (x3 + (u (35 + 2 * sk) (Int32.toNatClampNeg x4))) (x4 + 1) u)))
set_option maxHeartbeats 4000000 in
set_option maxRecDepth 100000 in
theorem tb_X8_sumFrom_5 {sk : Nat} (X : Cx p s m args meth c cX8_sumFrom 5 (some .int) RX8 D (tyF b) A) (hA : ∀ q, s.heap.size ≤ q → A q) (hs : sk < 6) {Post : Int32 → St → Prop} {K5 : Int32 → Int32 → Int32 → Int32 → St → Prop} (k5 : ∀ (x1 : Int32) (x2 : Int32) (x3 : Int32) (x4 : Int32) (u : St) (H : Heap) (locs : List Loc) (ls : Array Slot), K5 x1 x2 x3 x4 u → wO D 46 (gF b h) h u A s.heap H locs → lv_has ls 5 [(0, .ref (h (34 + 2 * sk))), (1, .int x1), (2, .int x2), (3, .int x3), (4, .int x4)] → W p l e rm_X8_sumFrom s m args below meth c H locs 0 0 (MQ below (va_Qi Post (cB D (tyF b) 46 (gF b h) h A) A) args s 0 0 A) (F0 m 5 ls [])) : ∀ (x1 : Int32) (x2 : Int32) (x3 : Int32) (x4 : Int32) (u : St) (H : Heap) (locs : List Loc) (ls : Array Slot), wb_X8_sumFrom_5 sk Post K5 x1 x2 x3 x4 u → wO D 46 (gF b h) h u A s.heap H locs → lv_has ls 5 [(0, .ref (h (34 + 2 * sk))), (1, .int x1), (2, .int x2), (3, .int x3), (4, .int x4)] → W p l e rm_X8_sumFrom s m args below meth c H locs 0 0 (MQ below (va_Qi Post (cB D (tyF b) 46 (gF b h) h A) A) args s 0 0 A) (F0 m 5 ls []) := by
  obtain ⟨⟨hx, hb, hml, hown, hts⟩, hK, hNs, hlocks, hr⟩ := id X
  intro x1 x2 x3 x4 u H locs ls hw O hl
  unfold wb_X8_sumFrom_5 at hw
  refine lv_iload hx hb dX8_sumFrom_5 (lv_at hl 4 rfl) ?_
  refine lv_iload_n hx hb dX8_sumFrom_7 rfl (lv_at hl 1 rfl) ?_
  refine lv_iload_n hx hb dX8_sumFrom_8 rfl (lv_at hl 2 rfl) ?_
  refine lv_iadd hx hb dX8_sumFrom_9 ?_
  refine lv_icmp_ge (tgt := 29) hx hb dX8_sumFrom_10 (by decide) (fun c10 => ?_) (fun c10 => ?_)
  · have hw := hw.1 c10
    refine lv_iload_n hx hb dX8_sumFrom_29 rfl (lv_at hl 3 rfl) ?_
    exact q_iret X O hw dX8_sumFrom_30
  · have hw := hw.2 c10
    refine lv_iload_n hx hb dX8_sumFrom_13 rfl (lv_at hl 3 rfl) ?_
    refine lv_aload_n hx hb dX8_sumFrom_14 rfl (lv_at hl 0 rfl) ?_
    refine gt_X8_9 hs X O dX8_sumFrom_15 ?_
    refine lv_iload hx hb dX8_sumFrom_18 (lv_at hl 4 rfl) ?_
    obtain ⟨i20, hw⟩ := hw
    refine q_ild X O (35 + 2 * sk) 0 (nu_lt hs) (gF_nu hs _) rfl i20 dX8_sumFrom_20 ?_
    refine lv_iadd hx hb dX8_sumFrom_21 ?_
    refine lv_istore_n (lv' := [(3, .int (x3 + (u (35 + 2 * sk) (Int32.toNatClampNeg x4)))), (0, .ref (h (34 + 2 * sk))), (1, .int x1), (2, .int x2), (4, .int x4)]) hx hb dX8_sumFrom_22 rfl hl (by decide) rfl (fun ls hl => ?_)
    refine lv_iinc (v := x4 + 1) (lv' := [(4, .int (x4 + 1)), (3, .int (x3 + (u (35 + 2 * sk) (Int32.toNatClampNeg x4)))), (0, .ref (h (34 + 2 * sk))), (1, .int x1), (2, .int x2)]) hx hb dX8_sumFrom_23 hl (k := 4) rfl rfl (by decide) rfl (fun ls hl => ?_)
    refine lv_goto (tgt := 5) hx hb dX8_sumFrom_26 (by decide) ?_
    exact k5 _ _ _ _ _ _ _ _ hw O (lv_sub hl [2, 3, 4, 1, 0] rfl)
def wl_X8_sumFrom_5 (sk : Nat) (Post : Int32 → St → Prop) : Nat → Int32 → Int32 → Int32 → Int32 → St → Prop
  | 0 => fun _ _ _ _ _ => False
  | n + 1 => fun x1 x2 x3 x4 u => wb_X8_sumFrom_5 sk Post (wl_X8_sumFrom_5 sk Post n) x1 x2 x3 x4 u
set_option maxHeartbeats 4000000 in
set_option maxRecDepth 100000 in
theorem tl_X8_sumFrom_5 {sk : Nat} (X : Cx p s m args meth c cX8_sumFrom 5 (some .int) RX8 D (tyF b) A) (hA : ∀ q, s.heap.size ≤ q → A q) (hs : sk < 6) {Post : Int32 → St → Prop} : ∀ n : Nat, ∀ (x1 : Int32) (x2 : Int32) (x3 : Int32) (x4 : Int32) (u : St) (H : Heap) (locs : List Loc) (ls : Array Slot), (wl_X8_sumFrom_5 sk Post n) x1 x2 x3 x4 u → wO D 46 (gF b h) h u A s.heap H locs → lv_has ls 5 [(0, .ref (h (34 + 2 * sk))), (1, .int x1), (2, .int x2), (3, .int x3), (4, .int x4)] → W p l e rm_X8_sumFrom s m args below meth c H locs 0 0 (MQ below (va_Qi Post (cB D (tyF b) 46 (gF b h) h A) A) args s 0 0 A) (F0 m 5 ls []) := by
  intro n
  induction n with
  | zero => intro x1 x2 x3 x4 u H locs ls hw; exact False.elim hw
  | succ n ih => intro x1 x2 x3 x4 u H locs ls hw O hl; exact tb_X8_sumFrom_5 X hA hs ih x1 x2 x3 x4 u H locs ls hw O hl
def wp_X8_sumFrom (sk : Nat) (a1 : Int32) (a2 : Int32) (u : St) (Post : Int32 → St → Prop) : Prop := ∃ n : Nat, wl_X8_sumFrom_5 sk Post n a1 a2 (0 : Int32) a1 u
set_option maxHeartbeats 4000000 in
set_option maxRecDepth 100000 in
theorem c_X8_sumFrom {sk : Nat} {a1 : Int32} {a2 : Int32} {l : Launch} {D : va_G} {b : Nat → ClassId} {h : Nat → Nat} {u : St} {Post : Int32 → St → Prop} (hs : sk < 6) (hw : wp_X8_sumFrom sk a1 a2 u Post) : CtI l yX8_sumFrom cX8_sumFrom 5 (some .int) rm_X8_sumFrom D (tyF b) 46 (gF b h) h [.ref (h (34 + 2 * sk)), .int a1, .int a2] u Post := by
  refine CtI.of (plainFor_of_name (by decide)) (Nat.le_of_ble_eq_true rfl) ?_
  intro p e s m below meth c A ls X hA O hl
  have X : Cx p s m _ meth c cX8_sumFrom 5 (some .int) RX8 D (tyF b) A := X
  obtain ⟨⟨hx, hb, hml, hown, hts⟩, hK, hNs, hlocks, hr⟩ := id X
  have hl : lv_has ls 5 [(0, .ref (h (34 + 2 * sk))), (1, .int a1), (2, .int a2)] := hl
  unfold wp_X8_sumFrom at hw
  refine lv_iconst (v := 0) hx hb dX8_sumFrom_0 (by decide) ?_
  refine lv_istore_n (lv' := [(3, .int (0 : Int32)), (0, .ref (h (34 + 2 * sk))), (1, .int a1), (2, .int a2)]) hx hb dX8_sumFrom_1 rfl hl (by decide) rfl (fun ls hl => ?_)
  refine lv_iload_n hx hb dX8_sumFrom_2 rfl (lv_at hl 2 rfl) ?_
  refine lv_istore (lv' := [(4, .int a1), (3, .int (0 : Int32)), (0, .ref (h (34 + 2 * sk))), (1, .int a1), (2, .int a2)]) hx hb dX8_sumFrom_3 hl (by decide) rfl (fun ls hl => ?_)
  obtain ⟨n, hw⟩ := hw
  exact tl_X8_sumFrom_5 X hA hs n _ _ _ _ _ _ _ _ hw O (lv_sub hl [2, 3, 4, 1, 0] rfl)
-- FellersOrder.forgeCopy(LFellersOrder$Sheet;I)I
abbrev rm_X11_forgeCopy : Room := { frames := 2, cells := 0, slots := 0, locals := 42 }
def wp_X11_forgeCopy (sk : Nat) (a2 : Int32) (u : St) (Post : Int32 → St → Prop) : Prop := wp_X8_refusalAs sk (1 : Int32) u (fun r2 u2 => ((r2 = 0) → (((a2 < 0) → (wp_X11_refused (12 : Int32) u2 (fun r41 u41 => Post r41 u41))) ∧ ((¬ a2 < 0) → (wp_X8_size sk u2 (fun r24 u24 => ((r24 < ((1 : Int32) + a2)) → (wp_X11_refused (12 : Int32) u24 (fun r41 u41 => Post r41 u41))) ∧ ((¬ r24 < ((1 : Int32) + a2)) → ((((a2 + a2) ≤ (7 : Int32)) → (wp_X8_sumFrom sk (1 : Int32) a2 u24 (fun r49 u49 => wp_X11_done r49 u49 (fun r52 u52 => Post r52 u52)))) ∧ ((¬ (a2 + a2) ≤ (7 : Int32)) → (wp_X11_refused (12 : Int32) u24 (fun r41 u41 => Post r41 u41)))))))))) ∧ ((¬ r2 = 0) → (wp_X11_refused r2 u2 (fun r12 u12 => Post r12 u12))))
set_option maxHeartbeats 4000000 in
set_option maxRecDepth 100000 in
theorem c_X11_forgeCopy {sk : Nat} {a2 : Int32} {l : Launch} {D : va_G} {b : Nat → ClassId} {h : Nat → Nat} {u : St} {Post : Int32 → St → Prop} (hs : sk < 6) (hw : wp_X11_forgeCopy sk a2 u Post) : CtI l yX11_forgeCopy cX11_forgeCopy 4 (some .int) rm_X11_forgeCopy D (tyF b) 46 (gF b h) h [.ref (h 0), .ref (h (34 + 2 * sk)), .int a2] u Post := by
  refine CtI.of (plainFor_of_name (by decide)) (Nat.le_of_ble_eq_true rfl) ?_
  intro p e s m below meth c A ls X hA O hl
  have X : Cx p s m _ meth c cX11_forgeCopy 4 (some .int) RX11 D (tyF b) A := X
  obtain ⟨⟨hx, hb, hml, hown, hts⟩, hK, hNs, hlocks, hr⟩ := id X
  have hl : lv_has ls 4 [(0, .ref (h 0)), (1, .ref (h (34 + 2 * sk))), (2, .int a2)] := hl
  unfold wp_X11_forgeCopy at hw
  refine lv_aload_n hx hb dX11_forgeCopy_0 rfl (lv_at hl 1 rfl) ?_
  refine lv_iconst (v := 1) hx hb dX11_forgeCopy_1 (by decide) ?_
  refine q_civ (rest := []) X O hA (34 + 2 * sk) (c_X8_refusalAs (hs) hw) lk_X11_267 (sh_lt (hs)) (gF_sh (hs) _) rfl rfl rfl rfl rfl ⟨Nat.le_of_ble_eq_true rfl, Nat.le_of_ble_eq_true rfl⟩ (Nat.le_of_ble_eq_true rfl) hl.1 ⟨Nat.zero_le _, Nat.zero_le _⟩ rfl dX11_forgeCopy_2 (fun r2 u2 H locs hw O => ?_)
  refine lv_istore_n (lv' := [(3, .int r2), (0, .ref (h 0)), (1, .ref (h (34 + 2 * sk))), (2, .int a2)]) hx hb dX11_forgeCopy_5 rfl hl (by decide) rfl (fun ls hl => ?_)
  refine lv_iload_n hx hb dX11_forgeCopy_6 rfl (lv_at hl 0 rfl) ?_
  refine lv_if_eq (tgt := 16) hx hb dX11_forgeCopy_7 (by decide) (fun c7 => ?_) (fun c7 => ?_)
  · have hw := hw.1 c7
    refine lv_iload_n hx hb dX11_forgeCopy_16 rfl (lv_at hl 3 rfl) ?_
    refine lv_if_lt (tgt := 38) hx hb dX11_forgeCopy_17 (by decide) (fun c17 => ?_) (fun c17 => ?_)
    · have hw := hw.1 c17
      refine lv_aload_n hx hb dX11_forgeCopy_38 rfl (lv_at hl 1 rfl) ?_
      refine lv_bipush (v := 12) hx hb dX11_forgeCopy_39 (by decide) ?_
      refine q_civ (rest := []) X O hA 0 (c_X11_refused hw) lk_X11_78 (by decide) rfl rfl rfl rfl rfl rfl ⟨Nat.le_of_ble_eq_true rfl, Nat.le_of_ble_eq_true rfl⟩ (Nat.le_of_ble_eq_true rfl) hl.1 ⟨Nat.zero_le _, Nat.zero_le _⟩ rfl dX11_forgeCopy_41 (fun r41 u41 H locs hw O => ?_)
      exact q_iret X O hw dX11_forgeCopy_44
    · have hw := hw.2 c17
      refine lv_iconst (v := 1) hx hb dX11_forgeCopy_20 (by decide) ?_
      refine lv_iload_n hx hb dX11_forgeCopy_21 rfl (lv_at hl 3 rfl) ?_
      refine lv_iadd hx hb dX11_forgeCopy_22 ?_
      refine lv_aload_n hx hb dX11_forgeCopy_23 rfl (lv_at hl 2 rfl) ?_
      refine q_civ (rest := [.int ((1 : Int32) + a2)]) X O hA (34 + 2 * sk) (c_X8_size (hs) hw) lk_X11_263 (sh_lt (hs)) (gF_sh (hs) _) rfl rfl rfl rfl rfl ⟨Nat.le_of_ble_eq_true rfl, Nat.le_of_ble_eq_true rfl⟩ (Nat.le_of_ble_eq_true rfl) hl.1 ⟨Nat.zero_le _, Nat.zero_le _⟩ rfl dX11_forgeCopy_24 (fun r24 u24 H locs hw O => ?_)
      refine lv_icmp_gt (tgt := 38) hx hb dX11_forgeCopy_27 (by decide) (fun c27 => ?_) (fun c27 => ?_)
      · have hw := hw.1 c27
        refine lv_aload_n hx hb dX11_forgeCopy_38 rfl (lv_at hl 1 rfl) ?_
        refine lv_bipush (v := 12) hx hb dX11_forgeCopy_39 (by decide) ?_
        refine q_civ (rest := []) X O hA 0 (c_X11_refused hw) lk_X11_78 (by decide) rfl rfl rfl rfl rfl rfl ⟨Nat.le_of_ble_eq_true rfl, Nat.le_of_ble_eq_true rfl⟩ (Nat.le_of_ble_eq_true rfl) hl.1 ⟨Nat.zero_le _, Nat.zero_le _⟩ rfl dX11_forgeCopy_41 (fun r41 u41 H locs hw O => ?_)
        exact q_iret X O hw dX11_forgeCopy_44
      · have hw := hw.2 c27
        refine lv_iload_n hx hb dX11_forgeCopy_30 rfl (lv_at hl 3 rfl) ?_
        refine lv_iload_n hx hb dX11_forgeCopy_31 rfl (lv_at hl 3 rfl) ?_
        refine lv_iadd hx hb dX11_forgeCopy_32 ?_
        refine lv_bipush (v := 7) hx hb dX11_forgeCopy_33 (by decide) ?_
        refine lv_icmp_le (tgt := 45) hx hb dX11_forgeCopy_35 (by decide) (fun c35 => ?_) (fun c35 => ?_)
        · have hw := hw.1 c35
          refine lv_aload_n hx hb dX11_forgeCopy_45 rfl (lv_at hl 1 rfl) ?_
          refine lv_aload_n hx hb dX11_forgeCopy_46 rfl (lv_at hl 2 rfl) ?_
          refine lv_iconst (v := 1) hx hb dX11_forgeCopy_47 (by decide) ?_
          refine lv_iload_n hx hb dX11_forgeCopy_48 rfl (lv_at hl 3 rfl) ?_
          refine q_civ (rest := [.ref (h 0)]) X O hA (34 + 2 * sk) (c_X8_sumFrom (hs) hw) lk_X11_299 (sh_lt (hs)) (gF_sh (hs) _) rfl rfl rfl rfl rfl ⟨Nat.le_of_ble_eq_true rfl, Nat.le_of_ble_eq_true rfl⟩ (Nat.le_of_ble_eq_true rfl) hl.1 ⟨Nat.zero_le _, Nat.zero_le _⟩ rfl dX11_forgeCopy_49 (fun r49 u49 H locs hw O => ?_)
          refine q_civ (rest := []) X O hA 0 (c_X11_done hw) lk_X11_90 (by decide) rfl rfl rfl rfl rfl rfl ⟨Nat.le_of_ble_eq_true rfl, Nat.le_of_ble_eq_true rfl⟩ (Nat.le_of_ble_eq_true rfl) hl.1 ⟨Nat.zero_le _, Nat.zero_le _⟩ rfl dX11_forgeCopy_52 (fun r52 u52 H locs hw O => ?_)
          exact q_iret X O hw dX11_forgeCopy_55
        · have hw := hw.2 c35
          refine lv_aload_n hx hb dX11_forgeCopy_38 rfl (lv_at hl 1 rfl) ?_
          refine lv_bipush (v := 12) hx hb dX11_forgeCopy_39 (by decide) ?_
          refine q_civ (rest := []) X O hA 0 (c_X11_refused hw) lk_X11_78 (by decide) rfl rfl rfl rfl rfl rfl ⟨Nat.le_of_ble_eq_true rfl, Nat.le_of_ble_eq_true rfl⟩ (Nat.le_of_ble_eq_true rfl) hl.1 ⟨Nat.zero_le _, Nat.zero_le _⟩ rfl dX11_forgeCopy_41 (fun r41 u41 H locs hw O => ?_)
          exact q_iret X O hw dX11_forgeCopy_44
  · have hw := hw.2 c7
    refine lv_aload_n hx hb dX11_forgeCopy_10 rfl (lv_at hl 1 rfl) ?_
    refine lv_iload_n hx hb dX11_forgeCopy_11 rfl (lv_at hl 0 rfl) ?_
    refine q_civ (rest := []) X O hA 0 (c_X11_refused hw) lk_X11_78 (by decide) rfl rfl rfl rfl rfl rfl ⟨Nat.le_of_ble_eq_true rfl, Nat.le_of_ble_eq_true rfl⟩ (Nat.le_of_ble_eq_true rfl) hl.1 ⟨Nat.zero_le _, Nat.zero_le _⟩ rfl dX11_forgeCopy_12 (fun r12 u12 H locs hw O => ?_)
    exact q_iret X O hw dX11_forgeCopy_15
-- FellersOrder.forgeLaying(LFellersOrder$Sheet;)I
abbrev rm_X11_forgeLaying : Room := { frames := 1, cells := 0, slots := 0, locals := 21 }
def wp_X11_forgeLaying (sk : Nat) (u : St) (Post : Int32 → St → Prop) : Prop := wp_X8_isMissing sk u (fun r1 u1 => ((r1 = 0) → (wp_X8_isOfSort sk (0 : Int32) u1 (fun r15 u15 => ((r15 = 0) → (wp_X11_refused (14 : Int32) u15 (fun r35 u35 => Post r35 u35))) ∧ ((¬ r15 = 0) → (wp_X8_size sk u15 (fun r23 u23 => wp_X11_done r23 u23 (fun r26 u26 => Post r26 u26))))))) ∧ ((¬ r1 = 0) → (wp_X11_done (0 : Int32) u1 (fun r9 u9 => Post r9 u9))))
set_option maxHeartbeats 4000000 in
set_option maxRecDepth 100000 in
theorem c_X11_forgeLaying {sk : Nat} {l : Launch} {D : va_G} {b : Nat → ClassId} {h : Nat → Nat} {u : St} {Post : Int32 → St → Prop} (hs : sk < 6) (hw : wp_X11_forgeLaying sk u Post) : CtI l yX11_forgeLaying cX11_forgeLaying 2 (some .int) rm_X11_forgeLaying D (tyF b) 46 (gF b h) h [.ref (h 0), .ref (h (34 + 2 * sk))] u Post := by
  refine CtI.of (plainFor_of_name (by decide)) (Nat.le_of_ble_eq_true rfl) ?_
  intro p e s m below meth c A ls X hA O hl
  have X : Cx p s m _ meth c cX11_forgeLaying 2 (some .int) RX11 D (tyF b) A := X
  obtain ⟨⟨hx, hb, hml, hown, hts⟩, hK, hNs, hlocks, hr⟩ := id X
  have hl : lv_has ls 2 [(0, .ref (h 0)), (1, .ref (h (34 + 2 * sk)))] := hl
  unfold wp_X11_forgeLaying at hw
  refine lv_aload_n hx hb dX11_forgeLaying_0 rfl (lv_at hl 1 rfl) ?_
  refine q_civ (rest := []) X O hA (34 + 2 * sk) (c_X8_isMissing (hs) hw) lk_X11_260 (sh_lt (hs)) (gF_sh (hs) _) rfl rfl rfl rfl rfl ⟨Nat.le_of_ble_eq_true rfl, Nat.le_of_ble_eq_true rfl⟩ (Nat.le_of_ble_eq_true rfl) hl.1 ⟨Nat.zero_le _, Nat.zero_le _⟩ rfl dX11_forgeLaying_1 (fun r1 u1 H locs hw O => ?_)
  refine lv_if_eq (tgt := 13) hx hb dX11_forgeLaying_4 (by decide) (fun c4 => ?_) (fun c4 => ?_)
  · have hw := hw.1 c4
    refine lv_aload_n hx hb dX11_forgeLaying_13 rfl (lv_at hl 1 rfl) ?_
    refine lv_iconst (v := 0) hx hb dX11_forgeLaying_14 (by decide) ?_
    refine q_civ (rest := []) X O hA (34 + 2 * sk) (c_X8_isOfSort (hs) hw) lk_X11_302 (sh_lt (hs)) (gF_sh (hs) _) rfl rfl rfl rfl rfl ⟨Nat.le_of_ble_eq_true rfl, Nat.le_of_ble_eq_true rfl⟩ (Nat.le_of_ble_eq_true rfl) hl.1 ⟨Nat.zero_le _, Nat.zero_le _⟩ rfl dX11_forgeLaying_15 (fun r15 u15 H locs hw O => ?_)
    refine lv_if_eq (tgt := 32) hx hb dX11_forgeLaying_18 (by decide) (fun c18 => ?_) (fun c18 => ?_)
    · have hw := hw.1 c18
      refine lv_aload_n hx hb dX11_forgeLaying_32 rfl (lv_at hl 0 rfl) ?_
      refine lv_bipush (v := 14) hx hb dX11_forgeLaying_33 (by decide) ?_
      refine q_civ (rest := []) X O hA 0 (c_X11_refused hw) lk_X11_78 (by decide) rfl rfl rfl rfl rfl rfl ⟨Nat.le_of_ble_eq_true rfl, Nat.le_of_ble_eq_true rfl⟩ (Nat.le_of_ble_eq_true rfl) hl.1 ⟨Nat.zero_le _, Nat.zero_le _⟩ rfl dX11_forgeLaying_35 (fun r35 u35 H locs hw O => ?_)
      exact q_iret X O hw dX11_forgeLaying_38
    · have hw := hw.2 c18
      refine lv_aload_n hx hb dX11_forgeLaying_21 rfl (lv_at hl 0 rfl) ?_
      refine lv_aload_n hx hb dX11_forgeLaying_22 rfl (lv_at hl 1 rfl) ?_
      refine q_civ (rest := [.ref (h 0)]) X O hA (34 + 2 * sk) (c_X8_size (hs) hw) lk_X11_263 (sh_lt (hs)) (gF_sh (hs) _) rfl rfl rfl rfl rfl ⟨Nat.le_of_ble_eq_true rfl, Nat.le_of_ble_eq_true rfl⟩ (Nat.le_of_ble_eq_true rfl) hl.1 ⟨Nat.zero_le _, Nat.zero_le _⟩ rfl dX11_forgeLaying_23 (fun r23 u23 H locs hw O => ?_)
      refine q_civ (rest := []) X O hA 0 (c_X11_done hw) lk_X11_90 (by decide) rfl rfl rfl rfl rfl rfl ⟨Nat.le_of_ble_eq_true rfl, Nat.le_of_ble_eq_true rfl⟩ (Nat.le_of_ble_eq_true rfl) hl.1 ⟨Nat.zero_le _, Nat.zero_le _⟩ rfl dX11_forgeLaying_26 (fun r26 u26 H locs hw O => ?_)
      refine lv_goto (tgt := 38) hx hb dX11_forgeLaying_29 (by decide) ?_
      exact q_iret X O hw dX11_forgeLaying_38
  · have hw := hw.2 c4
    refine lv_aload_n hx hb dX11_forgeLaying_7 rfl (lv_at hl 0 rfl) ?_
    refine lv_iconst (v := 0) hx hb dX11_forgeLaying_8 (by decide) ?_
    refine q_civ (rest := []) X O hA 0 (c_X11_done hw) lk_X11_90 (by decide) rfl rfl rfl rfl rfl rfl ⟨Nat.le_of_ble_eq_true rfl, Nat.le_of_ble_eq_true rfl⟩ (Nat.le_of_ble_eq_true rfl) hl.1 ⟨Nat.zero_le _, Nat.zero_le _⟩ rfl dX11_forgeLaying_9 (fun r9 u9 H locs hw O => ?_)
    exact q_iret X O hw dX11_forgeLaying_12
-- FellersOrder.forgeSize(LFellersOrder$Sheet;I)I
abbrev rm_X11_forgeSize : Room := { frames := 2, cells := 0, slots := 0, locals := 42 }
def wp_X11_forgeSize (sk : Nat) (a2 : Int32) (u : St) (Post : Int32 → St → Prop) : Prop := wp_X8_refusalAs sk a2 u (fun r2 u2 => ((¬ r2 = 0) → (wp_X11_refused r2 u2 (fun r23 u23 => Post r23 u23))) ∧ ((r2 = 0) → (wp_X8_size sk u2 (fun r12 u12 => wp_X11_done r12 u12 (fun r15 u15 => Post r15 u15)))))
set_option maxHeartbeats 4000000 in
set_option maxRecDepth 100000 in
theorem c_X11_forgeSize {sk : Nat} {a2 : Int32} {l : Launch} {D : va_G} {b : Nat → ClassId} {h : Nat → Nat} {u : St} {Post : Int32 → St → Prop} (hs : sk < 6) (hw : wp_X11_forgeSize sk a2 u Post) : CtI l yX11_forgeSize cX11_forgeSize 4 (some .int) rm_X11_forgeSize D (tyF b) 46 (gF b h) h [.ref (h 0), .ref (h (34 + 2 * sk)), .int a2] u Post := by
  refine CtI.of (plainFor_of_name (by decide)) (Nat.le_of_ble_eq_true rfl) ?_
  intro p e s m below meth c A ls X hA O hl
  have X : Cx p s m _ meth c cX11_forgeSize 4 (some .int) RX11 D (tyF b) A := X
  obtain ⟨⟨hx, hb, hml, hown, hts⟩, hK, hNs, hlocks, hr⟩ := id X
  have hl : lv_has ls 4 [(0, .ref (h 0)), (1, .ref (h (34 + 2 * sk))), (2, .int a2)] := hl
  unfold wp_X11_forgeSize at hw
  refine lv_aload_n hx hb dX11_forgeSize_0 rfl (lv_at hl 1 rfl) ?_
  refine lv_iload_n hx hb dX11_forgeSize_1 rfl (lv_at hl 2 rfl) ?_
  refine q_civ (rest := []) X O hA (34 + 2 * sk) (c_X8_refusalAs (hs) hw) lk_X11_267 (sh_lt (hs)) (gF_sh (hs) _) rfl rfl rfl rfl rfl ⟨Nat.le_of_ble_eq_true rfl, Nat.le_of_ble_eq_true rfl⟩ (Nat.le_of_ble_eq_true rfl) hl.1 ⟨Nat.zero_le _, Nat.zero_le _⟩ rfl dX11_forgeSize_2 (fun r2 u2 H locs hw O => ?_)
  refine lv_istore_n (lv' := [(3, .int r2), (0, .ref (h 0)), (1, .ref (h (34 + 2 * sk))), (2, .int a2)]) hx hb dX11_forgeSize_5 rfl hl (by decide) rfl (fun ls hl => ?_)
  refine lv_iload_n hx hb dX11_forgeSize_6 rfl (lv_at hl 0 rfl) ?_
  refine lv_if_ne (tgt := 21) hx hb dX11_forgeSize_7 (by decide) (fun c7 => ?_) (fun c7 => ?_)
  · have hw := hw.1 c7
    refine lv_aload_n hx hb dX11_forgeSize_21 rfl (lv_at hl 1 rfl) ?_
    refine lv_iload_n hx hb dX11_forgeSize_22 rfl (lv_at hl 0 rfl) ?_
    refine q_civ (rest := []) X O hA 0 (c_X11_refused hw) lk_X11_78 (by decide) rfl rfl rfl rfl rfl rfl ⟨Nat.le_of_ble_eq_true rfl, Nat.le_of_ble_eq_true rfl⟩ (Nat.le_of_ble_eq_true rfl) hl.1 ⟨Nat.zero_le _, Nat.zero_le _⟩ rfl dX11_forgeSize_23 (fun r23 u23 H locs hw O => ?_)
    exact q_iret X O hw dX11_forgeSize_26
  · have hw := hw.2 c7
    refine lv_aload_n hx hb dX11_forgeSize_10 rfl (lv_at hl 1 rfl) ?_
    refine lv_aload_n hx hb dX11_forgeSize_11 rfl (lv_at hl 2 rfl) ?_
    refine q_civ (rest := [.ref (h 0)]) X O hA (34 + 2 * sk) (c_X8_size (hs) hw) lk_X11_263 (sh_lt (hs)) (gF_sh (hs) _) rfl rfl rfl rfl rfl ⟨Nat.le_of_ble_eq_true rfl, Nat.le_of_ble_eq_true rfl⟩ (Nat.le_of_ble_eq_true rfl) hl.1 ⟨Nat.zero_le _, Nat.zero_le _⟩ rfl dX11_forgeSize_12 (fun r12 u12 H locs hw O => ?_)
    refine q_civ (rest := []) X O hA 0 (c_X11_done hw) lk_X11_90 (by decide) rfl rfl rfl rfl rfl rfl ⟨Nat.le_of_ble_eq_true rfl, Nat.le_of_ble_eq_true rfl⟩ (Nat.le_of_ble_eq_true rfl) hl.1 ⟨Nat.zero_le _, Nat.zero_le _⟩ rfl dX11_forgeSize_15 (fun r15 u15 H locs hw O => ?_)
    refine lv_goto (tgt := 26) hx hb dX11_forgeSize_18 (by decide) ?_
    exact q_iret X O hw dX11_forgeSize_26
-- FellersOrder.forgeUnit(I)I
abbrev rm_X11_forgeUnit : Room := { frames := 1, cells := 0, slots := 0, locals := 22 }
def wp_X11_forgeUnit (a1 : Int32) (u : St) (Post : Int32 → St → Prop) : Prop := wp_X10_has a1 u (fun r5 u5 => ((¬ r5 = 0) → (wp_X10_kindOf a1 u5 (fun r27 u27 => vp_in r27 5 ∧ (((r27 = 1 ∨ r27 = 3) → (wp_X10_measure a1 (0 : Int32) u27 (fun r44 u44 => wp_X11_done r44 u44 (fun r47 u47 => Post r47 u47)))) ∧ (¬ (r27 = 1 ∨ r27 = 3) → (wp_X11_refused (11 : Int32) u27 (fun r54 u54 => Post r54 u54))))))) ∧ ((r5 = 0) → (wp_X11_refused (10 : Int32) u5 (fun r14 u14 => Post r14 u14))))
set_option maxHeartbeats 4000000 in
set_option maxRecDepth 100000 in
theorem c_X11_forgeUnit {a1 : Int32} {l : Launch} {D : va_G} {b : Nat → ClassId} {h : Nat → Nat} {u : St} {Post : Int32 → St → Prop} (hw : wp_X11_forgeUnit a1 u Post) : CtI l yX11_forgeUnit cX11_forgeUnit 2 (some .int) rm_X11_forgeUnit D (tyF b) 46 (gF b h) h [.ref (h 0), .int a1] u Post := by
  refine CtI.of (plainFor_of_name (by decide)) (Nat.le_of_ble_eq_true rfl) ?_
  intro p e s m below meth c A ls X hA O hl
  have X : Cx p s m _ meth c cX11_forgeUnit 2 (some .int) RX11 D (tyF b) A := X
  obtain ⟨⟨hx, hb, hml, hown, hts⟩, hK, hNs, hlocks, hr⟩ := id X
  have hl : lv_has ls 2 [(0, .ref (h 0)), (1, .int a1)] := hl
  unfold wp_X11_forgeUnit at hw
  refine lv_aload_n hx hb dX11_forgeUnit_0 rfl (lv_at hl 0 rfl) ?_
  refine gt_X11_10 X O dX11_forgeUnit_1 ?_
  refine lv_iload_n hx hb dX11_forgeUnit_4 rfl (lv_at hl 1 rfl) ?_
  refine q_civ (rest := []) X O hA 1 (c_X10_has hw) lk_X11_93 (by decide) rfl rfl rfl rfl rfl rfl ⟨Nat.le_of_ble_eq_true rfl, Nat.le_of_ble_eq_true rfl⟩ (Nat.le_of_ble_eq_true rfl) hl.1 ⟨Nat.zero_le _, Nat.zero_le _⟩ rfl dX11_forgeUnit_5 (fun r5 u5 H locs hw O => ?_)
  refine lv_if_ne (tgt := 18) hx hb dX11_forgeUnit_8 (by decide) (fun c8 => ?_) (fun c8 => ?_)
  · have hw := hw.1 c8
    refine lv_aload_n hx hb dX11_forgeUnit_18 rfl (lv_at hl 0 rfl) ?_
    refine gt_X11_59 X O dX11_forgeUnit_19 ?_
    refine lv_aload_n hx hb dX11_forgeUnit_22 rfl (lv_at hl 0 rfl) ?_
    refine gt_X11_10 X O dX11_forgeUnit_23 ?_
    refine lv_iload_n hx hb dX11_forgeUnit_26 rfl (lv_at hl 1 rfl) ?_
    refine q_civ (rest := [.ref (h 27)]) X O hA 1 (c_X10_kindOf hw) lk_X11_135 (by decide) rfl rfl rfl rfl rfl rfl ⟨Nat.le_of_ble_eq_true rfl, Nat.le_of_ble_eq_true rfl⟩ (Nat.le_of_ble_eq_true rfl) hl.1 ⟨Nat.zero_le _, Nat.zero_le _⟩ rfl dX11_forgeUnit_27 (fun r27 u27 H locs hw O => ?_)
    obtain ⟨i30, hw⟩ := hw
    refine q_ald X O 27 2 (by decide) rfl rfl i30 (kd_s i30) dX11_forgeUnit_30 ?_
    rcases kd5 i30 with e | e | e | e | e
    · have hw := hw.2 (by rw [e]; decide)
      rw [e, kd_0]
      refine q_ik0 X O dX11_forgeUnit_31 ?_
      refine lv_if_eq (tgt := 51) hx hb dX11_forgeUnit_34 (by decide) (fun _ => ?_) (fun q => absurd q (by decide))
      refine lv_aload_n hx hb dX11_forgeUnit_51 rfl (lv_at hl 0 rfl) ?_
      refine lv_bipush (v := 11) hx hb dX11_forgeUnit_52 (by decide) ?_
      refine q_civ (rest := []) X O hA 0 (c_X11_refused hw) lk_X11_78 (by decide) rfl rfl rfl rfl rfl rfl ⟨Nat.le_of_ble_eq_true rfl, Nat.le_of_ble_eq_true rfl⟩ (Nat.le_of_ble_eq_true rfl) hl.1 ⟨Nat.zero_le _, Nat.zero_le _⟩ rfl dX11_forgeUnit_54 (fun r54 u54 H locs hw O => ?_)
      exact q_iret X O hw dX11_forgeUnit_57
    · have hw := hw.1 (by rw [e]; decide)
      rw [e, kd_1]
      refine q_ik1 X O dX11_forgeUnit_31 ?_
      refine lv_if_eq (tgt := 51) hx hb dX11_forgeUnit_34 (by decide) (fun q => absurd q (by decide)) (fun _ => ?_)
      refine lv_aload_n hx hb dX11_forgeUnit_37 rfl (lv_at hl 0 rfl) ?_
      refine lv_aload_n hx hb dX11_forgeUnit_38 rfl (lv_at hl 0 rfl) ?_
      refine gt_X11_10 X O dX11_forgeUnit_39 ?_
      refine lv_iload_n hx hb dX11_forgeUnit_42 rfl (lv_at hl 1 rfl) ?_
      refine lv_iconst (v := 0) hx hb dX11_forgeUnit_43 (by decide) ?_
      refine q_civ (rest := [.ref (h 0)]) X O hA 1 (c_X10_measure hw) lk_X11_97 (by decide) rfl rfl rfl rfl rfl rfl ⟨Nat.le_of_ble_eq_true rfl, Nat.le_of_ble_eq_true rfl⟩ (Nat.le_of_ble_eq_true rfl) hl.1 ⟨Nat.zero_le _, Nat.zero_le _⟩ rfl dX11_forgeUnit_44 (fun r44 u44 H locs hw O => ?_)
      refine q_civ (rest := []) X O hA 0 (c_X11_done hw) lk_X11_90 (by decide) rfl rfl rfl rfl rfl rfl ⟨Nat.le_of_ble_eq_true rfl, Nat.le_of_ble_eq_true rfl⟩ (Nat.le_of_ble_eq_true rfl) hl.1 ⟨Nat.zero_le _, Nat.zero_le _⟩ rfl dX11_forgeUnit_47 (fun r47 u47 H locs hw O => ?_)
      exact q_iret X O hw dX11_forgeUnit_50
    · have hw := hw.2 (by rw [e]; decide)
      rw [e, kd_2]
      refine q_ik2 X O dX11_forgeUnit_31 ?_
      refine lv_if_eq (tgt := 51) hx hb dX11_forgeUnit_34 (by decide) (fun _ => ?_) (fun q => absurd q (by decide))
      refine lv_aload_n hx hb dX11_forgeUnit_51 rfl (lv_at hl 0 rfl) ?_
      refine lv_bipush (v := 11) hx hb dX11_forgeUnit_52 (by decide) ?_
      refine q_civ (rest := []) X O hA 0 (c_X11_refused hw) lk_X11_78 (by decide) rfl rfl rfl rfl rfl rfl ⟨Nat.le_of_ble_eq_true rfl, Nat.le_of_ble_eq_true rfl⟩ (Nat.le_of_ble_eq_true rfl) hl.1 ⟨Nat.zero_le _, Nat.zero_le _⟩ rfl dX11_forgeUnit_54 (fun r54 u54 H locs hw O => ?_)
      exact q_iret X O hw dX11_forgeUnit_57
    · have hw := hw.1 (by rw [e]; decide)
      rw [e, kd_3]
      refine q_ik3 X O dX11_forgeUnit_31 ?_
      refine lv_if_eq (tgt := 51) hx hb dX11_forgeUnit_34 (by decide) (fun q => absurd q (by decide)) (fun _ => ?_)
      refine lv_aload_n hx hb dX11_forgeUnit_37 rfl (lv_at hl 0 rfl) ?_
      refine lv_aload_n hx hb dX11_forgeUnit_38 rfl (lv_at hl 0 rfl) ?_
      refine gt_X11_10 X O dX11_forgeUnit_39 ?_
      refine lv_iload_n hx hb dX11_forgeUnit_42 rfl (lv_at hl 1 rfl) ?_
      refine lv_iconst (v := 0) hx hb dX11_forgeUnit_43 (by decide) ?_
      refine q_civ (rest := [.ref (h 0)]) X O hA 1 (c_X10_measure hw) lk_X11_97 (by decide) rfl rfl rfl rfl rfl rfl ⟨Nat.le_of_ble_eq_true rfl, Nat.le_of_ble_eq_true rfl⟩ (Nat.le_of_ble_eq_true rfl) hl.1 ⟨Nat.zero_le _, Nat.zero_le _⟩ rfl dX11_forgeUnit_44 (fun r44 u44 H locs hw O => ?_)
      refine q_civ (rest := []) X O hA 0 (c_X11_done hw) lk_X11_90 (by decide) rfl rfl rfl rfl rfl rfl ⟨Nat.le_of_ble_eq_true rfl, Nat.le_of_ble_eq_true rfl⟩ (Nat.le_of_ble_eq_true rfl) hl.1 ⟨Nat.zero_le _, Nat.zero_le _⟩ rfl dX11_forgeUnit_47 (fun r47 u47 H locs hw O => ?_)
      exact q_iret X O hw dX11_forgeUnit_50
    · have hw := hw.2 (by rw [e]; decide)
      rw [e, kd_4]
      refine q_ik4 X O dX11_forgeUnit_31 ?_
      refine lv_if_eq (tgt := 51) hx hb dX11_forgeUnit_34 (by decide) (fun _ => ?_) (fun q => absurd q (by decide))
      refine lv_aload_n hx hb dX11_forgeUnit_51 rfl (lv_at hl 0 rfl) ?_
      refine lv_bipush (v := 11) hx hb dX11_forgeUnit_52 (by decide) ?_
      refine q_civ (rest := []) X O hA 0 (c_X11_refused hw) lk_X11_78 (by decide) rfl rfl rfl rfl rfl rfl ⟨Nat.le_of_ble_eq_true rfl, Nat.le_of_ble_eq_true rfl⟩ (Nat.le_of_ble_eq_true rfl) hl.1 ⟨Nat.zero_le _, Nat.zero_le _⟩ rfl dX11_forgeUnit_54 (fun r54 u54 H locs hw O => ?_)
      exact q_iret X O hw dX11_forgeUnit_57
  · have hw := hw.2 c8
    refine lv_aload_n hx hb dX11_forgeUnit_11 rfl (lv_at hl 0 rfl) ?_
    refine lv_bipush (v := 10) hx hb dX11_forgeUnit_12 (by decide) ?_
    refine q_civ (rest := []) X O hA 0 (c_X11_refused hw) lk_X11_78 (by decide) rfl rfl rfl rfl rfl rfl ⟨Nat.le_of_ble_eq_true rfl, Nat.le_of_ble_eq_true rfl⟩ (Nat.le_of_ble_eq_true rfl) hl.1 ⟨Nat.zero_le _, Nat.zero_le _⟩ rfl dX11_forgeUnit_14 (fun r14 u14 H locs hw O => ?_)
    exact q_iret X O hw dX11_forgeUnit_17
-- FellersOrder.forge(III)I
abbrev rm_X11_forge : Room := { frames := 3, cells := 0, slots := 0, locals := 65 }
def wp_X11_forge (a1 : Int32) (a2 : Int32) (a3 : Int32) (u : St) (Post : Int32 → St → Prop) : Prop := wp_X11_isSheet a1 u (fun r1 u1 => ((r1 = 0) → (wp_X11_refused (1 : Int32) u1 (fun r31 u31 => Post r31 u31))) ∧ ((¬ r1 = 0) → (((a2 < 0) → (wp_X11_refused (1 : Int32) u1 (fun r31 u31 => Post r31 u31))) ∧ ((¬ a2 < 0) → ((((6 : Int32) < a2) → (wp_X11_refused (1 : Int32) u1 (fun r31 u31 => Post r31 u31))) ∧ ((¬ (6 : Int32) < a2) → (((a3 < (-100 : Int32)) → (wp_X11_refused (1 : Int32) u1 (fun r31 u31 => Post r31 u31))) ∧ ((¬ a3 < (-100 : Int32)) → (((a3 ≤ (100 : Int32)) → (vp_in a1 6 ∧ ((a2 = 0 → (wp_J9_floorMod_7cf53 a3 (3 : Int32) u1 (fun r89 u89 => wp_X11_forgeSize (Int32.toNatClampNeg a1) r89 u89 (fun r92 u92 => Post r92 u92)))) ∧ (a2 = 1 → (((0 ≤ a3) → (wp_X11_done a3 u1 (fun r111 u111 => Post r111 u111))) ∧ ((¬ 0 ≤ a3) → (wp_X11_refused (13 : Int32) u1 (fun r103 u103 => Post r103 u103))))) ∧ (a2 = 2 → (wp_X11_forgeCopy (Int32.toNatClampNeg a1) a3 u1 (fun r119 u119 => Post r119 u119))) ∧ (a2 = 3 → (wp_X11_forgeLaying (Int32.toNatClampNeg a1) u1 (fun r126 u126 => Post r126 u126))) ∧ (a2 = 4 → (((¬ a3 = 0) → ((¬ a3 = 0) ∧ (wp_X11_done ((1000 : Int32) / a3) u1 (fun r149 u149 => Post r149 u149)))) ∧ ((a3 = 0) → (wp_X11_refused (15 : Int32) u1 (fun r137 u137 => Post r137 u137))))) ∧ (a2 = 5 → (wp_J9_floorMod_7cf53 a3 (2 : Int32) u1 (fun r155 u155 => ((¬ r155 = 0) → (wp_X11_done (1 : Int32) u155 (fun r172 u172 => Post r172 u172))) ∧ ((r155 = 0) → (wp_X11_refused (10 : Int32) u155 (fun r164 u164 => Post r164 u164)))))) ∧ (¬ a2 = 0 → ¬ a2 = 1 → ¬ a2 = 2 → ¬ a2 = 3 → ¬ a2 = 4 → ¬ a2 = 5 → (wp_J9_floorMod_7cf53 a3 (12 : Int32) u1 (fun r180 u180 => wp_X11_forgeUnit r180 u180 (fun r183 u183 => Post r183 u183))))))) ∧ ((¬ a3 ≤ (100 : Int32)) → (wp_X11_refused (1 : Int32) u1 (fun r31 u31 => Post r31 u31))))))))))))
set_option maxHeartbeats 4000000 in
set_option maxRecDepth 100000 in
theorem c_X11_forge {a1 : Int32} {a2 : Int32} {a3 : Int32} {l : Launch} {D : va_G} {b : Nat → ClassId} {h : Nat → Nat} {u : St} {Post : Int32 → St → Prop} (hw : wp_X11_forge a1 a2 a3 u Post) : CtI l yX11_forge cX11_forge 5 (some .int) rm_X11_forge D (tyF b) 46 (gF b h) h [.ref (h 0), .int a1, .int a2, .int a3] u Post := by
  refine CtI.of (plainFor_of_name (by decide)) (Nat.le_of_ble_eq_true rfl) ?_
  intro p e s m below meth c A ls X hA O hl
  have X : Cx p s m _ meth c cX11_forge 5 (some .int) RX11 D (tyF b) A := X
  obtain ⟨⟨hx, hb, hml, hown, hts⟩, hK, hNs, hlocks, hr⟩ := id X
  have hl : lv_has ls 5 [(0, .ref (h 0)), (1, .int a1), (2, .int a2), (3, .int a3)] := hl
  unfold wp_X11_forge at hw
  refine lv_iload_n hx hb dX11_forge_0 rfl (lv_at hl 1 rfl) ?_
  refine q_cis (rest := []) X O hA (c_X11_isSheet hw) lk_X11_251 rfl rfl rfl ⟨Nat.le_of_ble_eq_true rfl, Nat.le_of_ble_eq_true rfl⟩ (Nat.le_of_ble_eq_true rfl) hl.1 ⟨Nat.zero_le _, Nat.zero_le _⟩ rfl dX11_forge_1 (fun r1 u1 H locs hw O => ?_)
  refine lv_if_eq (tgt := 29) hx hb dX11_forge_4 (by decide) (fun c4 => ?_) (fun c4 => ?_)
  · have hw := hw.1 c4
    refine lv_aload_n hx hb dX11_forge_29 rfl (lv_at hl 0 rfl) ?_
    refine lv_iconst (v := 1) hx hb dX11_forge_30 (by decide) ?_
    refine q_civ (rest := []) X O hA 0 (c_X11_refused hw) lk_X11_78 (by decide) rfl rfl rfl rfl rfl rfl ⟨Nat.le_of_ble_eq_true rfl, Nat.le_of_ble_eq_true rfl⟩ (Nat.le_of_ble_eq_true rfl) hl.1 ⟨Nat.zero_le _, Nat.zero_le _⟩ rfl dX11_forge_31 (fun r31 u31 H locs hw O => ?_)
    exact q_iret X O hw dX11_forge_34
  · have hw := hw.2 c4
    refine lv_iload_n hx hb dX11_forge_7 rfl (lv_at hl 2 rfl) ?_
    refine lv_if_lt (tgt := 29) hx hb dX11_forge_8 (by decide) (fun c8 => ?_) (fun c8 => ?_)
    · have hw := hw.1 c8
      refine lv_aload_n hx hb dX11_forge_29 rfl (lv_at hl 0 rfl) ?_
      refine lv_iconst (v := 1) hx hb dX11_forge_30 (by decide) ?_
      refine q_civ (rest := []) X O hA 0 (c_X11_refused hw) lk_X11_78 (by decide) rfl rfl rfl rfl rfl rfl ⟨Nat.le_of_ble_eq_true rfl, Nat.le_of_ble_eq_true rfl⟩ (Nat.le_of_ble_eq_true rfl) hl.1 ⟨Nat.zero_le _, Nat.zero_le _⟩ rfl dX11_forge_31 (fun r31 u31 H locs hw O => ?_)
      exact q_iret X O hw dX11_forge_34
    · have hw := hw.2 c8
      refine lv_iload_n hx hb dX11_forge_11 rfl (lv_at hl 2 rfl) ?_
      refine lv_bipush (v := 6) hx hb dX11_forge_12 (by decide) ?_
      refine lv_icmp_gt (tgt := 29) hx hb dX11_forge_14 (by decide) (fun c14 => ?_) (fun c14 => ?_)
      · have hw := hw.1 c14
        refine lv_aload_n hx hb dX11_forge_29 rfl (lv_at hl 0 rfl) ?_
        refine lv_iconst (v := 1) hx hb dX11_forge_30 (by decide) ?_
        refine q_civ (rest := []) X O hA 0 (c_X11_refused hw) lk_X11_78 (by decide) rfl rfl rfl rfl rfl rfl ⟨Nat.le_of_ble_eq_true rfl, Nat.le_of_ble_eq_true rfl⟩ (Nat.le_of_ble_eq_true rfl) hl.1 ⟨Nat.zero_le _, Nat.zero_le _⟩ rfl dX11_forge_31 (fun r31 u31 H locs hw O => ?_)
        exact q_iret X O hw dX11_forge_34
      · have hw := hw.2 c14
        refine lv_iload_n hx hb dX11_forge_17 rfl (lv_at hl 3 rfl) ?_
        refine lv_bipush (v := -100) hx hb dX11_forge_18 (by decide) ?_
        refine lv_icmp_lt (tgt := 29) hx hb dX11_forge_20 (by decide) (fun c20 => ?_) (fun c20 => ?_)
        · have hw := hw.1 c20
          refine lv_aload_n hx hb dX11_forge_29 rfl (lv_at hl 0 rfl) ?_
          refine lv_iconst (v := 1) hx hb dX11_forge_30 (by decide) ?_
          refine q_civ (rest := []) X O hA 0 (c_X11_refused hw) lk_X11_78 (by decide) rfl rfl rfl rfl rfl rfl ⟨Nat.le_of_ble_eq_true rfl, Nat.le_of_ble_eq_true rfl⟩ (Nat.le_of_ble_eq_true rfl) hl.1 ⟨Nat.zero_le _, Nat.zero_le _⟩ rfl dX11_forge_31 (fun r31 u31 H locs hw O => ?_)
          exact q_iret X O hw dX11_forge_34
        · have hw := hw.2 c20
          refine lv_iload_n hx hb dX11_forge_23 rfl (lv_at hl 3 rfl) ?_
          refine lv_bipush (v := 100) hx hb dX11_forge_24 (by decide) ?_
          refine lv_icmp_le (tgt := 35) hx hb dX11_forge_26 (by decide) (fun c26 => ?_) (fun c26 => ?_)
          · have hw := hw.1 c26
            refine lv_aload_n hx hb dX11_forge_35 rfl (lv_at hl 0 rfl) ?_
            refine gt_X11_65 X O dX11_forge_36 ?_
            refine lv_iload_n hx hb dX11_forge_39 rfl (lv_at hl 1 rfl) ?_
            obtain ⟨i40, hw⟩ := hw
            refine q_ald X O 33 3 (by decide) rfl rfl i40 (sh_s i40) dX11_forge_40 ?_
            refine lv_astore (lv' := [(4, .ref (h (34 + 2 * (Int32.toNatClampNeg a1)))), (0, .ref (h 0)), (1, .int a1), (2, .int a2), (3, .int a3)]) hx hb dX11_forge_41 hl (by decide) rfl (fun ls hl => ?_)
            refine lv_iload_n hx hb dX11_forge_43 rfl (lv_at hl 3 rfl) ?_
            by_cases s44_0 : a2 = 0
            · have hw := hw.1 s44_0
              refine lv_tableIn (off := 40) (tgt := 84) hx hb dX11_forge_44 (by rw [s44_0]; decide) (by rw [s44_0]; decide) (by rw [s44_0]; decide) (by decide) ?_
              refine lv_aload_n hx hb dX11_forge_84 rfl (lv_at hl 1 rfl) ?_
              refine lv_aload hx hb dX11_forge_85 (lv_at hl 0 rfl) ?_
              refine lv_iload_n hx hb dX11_forge_87 rfl (lv_at hl 4 rfl) ?_
              refine lv_iconst (v := 3) hx hb dX11_forge_88 (by decide) ?_
              refine q_cis (rest := [.ref (h (34 + 2 * (Int32.toNatClampNeg a1))), .ref (h 0)]) X O hA (c_J9_floorMod_7cf53 hw) lk_X11_273 rfl rfl rfl ⟨Nat.le_of_ble_eq_true rfl, Nat.le_of_ble_eq_true rfl⟩ (Nat.le_of_ble_eq_true rfl) hl.1 ⟨Nat.zero_le _, Nat.zero_le _⟩ rfl dX11_forge_89 (fun r89 u89 H locs hw O => ?_)
              refine q_civ (rest := []) X O hA 0 (c_X11_forgeSize (vin_lt i40) hw) lk_X11_278 (by decide) rfl rfl rfl rfl rfl rfl ⟨Nat.le_of_ble_eq_true rfl, Nat.le_of_ble_eq_true rfl⟩ (Nat.le_of_ble_eq_true rfl) hl.1 ⟨Nat.zero_le _, Nat.zero_le _⟩ rfl dX11_forge_92 (fun r92 u92 H locs hw O => ?_)
              exact q_iret X O hw dX11_forge_95
            · replace hw := hw.2
              by_cases s44_1 : a2 = 1
              · have hw := hw.1 s44_1
                refine lv_tableIn (off := 52) (tgt := 96) hx hb dX11_forge_44 (by rw [s44_1]; decide) (by rw [s44_1]; decide) (by rw [s44_1]; decide) (by decide) ?_
                refine lv_iload_n hx hb dX11_forge_96 rfl (lv_at hl 4 rfl) ?_
                refine lv_if_ge (tgt := 109) hx hb dX11_forge_97 (by decide) (fun c97 => ?_) (fun c97 => ?_)
                · have hw := hw.1 c97
                  refine lv_aload_n hx hb dX11_forge_109 rfl (lv_at hl 1 rfl) ?_
                  refine lv_iload_n hx hb dX11_forge_110 rfl (lv_at hl 4 rfl) ?_
                  refine q_civ (rest := []) X O hA 0 (c_X11_done hw) lk_X11_90 (by decide) rfl rfl rfl rfl rfl rfl ⟨Nat.le_of_ble_eq_true rfl, Nat.le_of_ble_eq_true rfl⟩ (Nat.le_of_ble_eq_true rfl) hl.1 ⟨Nat.zero_le _, Nat.zero_le _⟩ rfl dX11_forge_111 (fun r111 u111 H locs hw O => ?_)
                  exact q_iret X O hw dX11_forge_114
                · have hw := hw.2 c97
                  refine lv_aload_n hx hb dX11_forge_100 rfl (lv_at hl 1 rfl) ?_
                  refine lv_bipush (v := 13) hx hb dX11_forge_101 (by decide) ?_
                  refine q_civ (rest := []) X O hA 0 (c_X11_refused hw) lk_X11_78 (by decide) rfl rfl rfl rfl rfl rfl ⟨Nat.le_of_ble_eq_true rfl, Nat.le_of_ble_eq_true rfl⟩ (Nat.le_of_ble_eq_true rfl) hl.1 ⟨Nat.zero_le _, Nat.zero_le _⟩ rfl dX11_forge_103 (fun r103 u103 H locs hw O => ?_)
                  refine lv_goto (tgt := 114) hx hb dX11_forge_106 (by decide) ?_
                  exact q_iret X O hw dX11_forge_114
              · replace hw := hw.2
                by_cases s44_2 : a2 = 2
                · have hw := hw.1 s44_2
                  refine lv_tableIn (off := 71) (tgt := 115) hx hb dX11_forge_44 (by rw [s44_2]; decide) (by rw [s44_2]; decide) (by rw [s44_2]; decide) (by decide) ?_
                  refine lv_aload_n hx hb dX11_forge_115 rfl (lv_at hl 1 rfl) ?_
                  refine lv_aload hx hb dX11_forge_116 (lv_at hl 0 rfl) ?_
                  refine lv_iload_n hx hb dX11_forge_118 rfl (lv_at hl 4 rfl) ?_
                  refine q_civ (rest := []) X O hA 0 (c_X11_forgeCopy (vin_lt i40) hw) lk_X11_282 (by decide) rfl rfl rfl rfl rfl rfl ⟨Nat.le_of_ble_eq_true rfl, Nat.le_of_ble_eq_true rfl⟩ (Nat.le_of_ble_eq_true rfl) hl.1 ⟨Nat.zero_le _, Nat.zero_le _⟩ rfl dX11_forge_119 (fun r119 u119 H locs hw O => ?_)
                  exact q_iret X O hw dX11_forge_122
                · replace hw := hw.2
                  by_cases s44_3 : a2 = 3
                  · have hw := hw.1 s44_3
                    refine lv_tableIn (off := 79) (tgt := 123) hx hb dX11_forge_44 (by rw [s44_3]; decide) (by rw [s44_3]; decide) (by rw [s44_3]; decide) (by decide) ?_
                    refine lv_aload_n hx hb dX11_forge_123 rfl (lv_at hl 1 rfl) ?_
                    refine lv_aload hx hb dX11_forge_124 (lv_at hl 0 rfl) ?_
                    refine q_civ (rest := []) X O hA 0 (c_X11_forgeLaying (vin_lt i40) hw) lk_X11_285 (by decide) rfl rfl rfl rfl rfl rfl ⟨Nat.le_of_ble_eq_true rfl, Nat.le_of_ble_eq_true rfl⟩ (Nat.le_of_ble_eq_true rfl) hl.1 ⟨Nat.zero_le _, Nat.zero_le _⟩ rfl dX11_forge_126 (fun r126 u126 H locs hw O => ?_)
                    exact q_iret X O hw dX11_forge_129
                  · replace hw := hw.2
                    by_cases s44_4 : a2 = 4
                    · have hw := hw.1 s44_4
                      refine lv_tableIn (off := 86) (tgt := 130) hx hb dX11_forge_44 (by rw [s44_4]; decide) (by rw [s44_4]; decide) (by rw [s44_4]; decide) (by decide) ?_
                      refine lv_iload_n hx hb dX11_forge_130 rfl (lv_at hl 4 rfl) ?_
                      refine lv_if_ne (tgt := 143) hx hb dX11_forge_131 (by decide) (fun c131 => ?_) (fun c131 => ?_)
                      · have hw := hw.1 c131
                        refine lv_aload_n hx hb dX11_forge_143 rfl (lv_at hl 1 rfl) ?_
                        refine lv_sipush (v := 1000) hx hb dX11_forge_144 (by decide) ?_
                        refine lv_iload_n hx hb dX11_forge_147 rfl (lv_at hl 4 rfl) ?_
                        obtain ⟨z148, hw⟩ := hw
                        refine lv_idiv hx hb dX11_forge_148 z148 ?_
                        refine q_civ (rest := []) X O hA 0 (c_X11_done hw) lk_X11_90 (by decide) rfl rfl rfl rfl rfl rfl ⟨Nat.le_of_ble_eq_true rfl, Nat.le_of_ble_eq_true rfl⟩ (Nat.le_of_ble_eq_true rfl) hl.1 ⟨Nat.zero_le _, Nat.zero_le _⟩ rfl dX11_forge_149 (fun r149 u149 H locs hw O => ?_)
                        exact q_iret X O hw dX11_forge_152
                      · have hw := hw.2 c131
                        refine lv_aload_n hx hb dX11_forge_134 rfl (lv_at hl 1 rfl) ?_
                        refine lv_bipush (v := 15) hx hb dX11_forge_135 (by decide) ?_
                        refine q_civ (rest := []) X O hA 0 (c_X11_refused hw) lk_X11_78 (by decide) rfl rfl rfl rfl rfl rfl ⟨Nat.le_of_ble_eq_true rfl, Nat.le_of_ble_eq_true rfl⟩ (Nat.le_of_ble_eq_true rfl) hl.1 ⟨Nat.zero_le _, Nat.zero_le _⟩ rfl dX11_forge_137 (fun r137 u137 H locs hw O => ?_)
                        refine lv_goto (tgt := 152) hx hb dX11_forge_140 (by decide) ?_
                        exact q_iret X O hw dX11_forge_152
                    · replace hw := hw.2
                      by_cases s44_5 : a2 = 5
                      · have hw := hw.1 s44_5
                        refine lv_tableIn (off := 109) (tgt := 153) hx hb dX11_forge_44 (by rw [s44_5]; decide) (by rw [s44_5]; decide) (by rw [s44_5]; decide) (by decide) ?_
                        refine lv_iload_n hx hb dX11_forge_153 rfl (lv_at hl 4 rfl) ?_
                        refine lv_iconst (v := 2) hx hb dX11_forge_154 (by decide) ?_
                        refine q_cis (rest := []) X O hA (c_J9_floorMod_7cf53 hw) lk_X11_273 rfl rfl rfl ⟨Nat.le_of_ble_eq_true rfl, Nat.le_of_ble_eq_true rfl⟩ (Nat.le_of_ble_eq_true rfl) hl.1 ⟨Nat.zero_le _, Nat.zero_le _⟩ rfl dX11_forge_155 (fun r155 u155 H locs hw O => ?_)
                        refine lv_if_ne (tgt := 170) hx hb dX11_forge_158 (by decide) (fun c158 => ?_) (fun c158 => ?_)
                        · have hw := hw.1 c158
                          refine lv_aload_n hx hb dX11_forge_170 rfl (lv_at hl 1 rfl) ?_
                          refine lv_iconst (v := 1) hx hb dX11_forge_171 (by decide) ?_
                          refine q_civ (rest := []) X O hA 0 (c_X11_done hw) lk_X11_90 (by decide) rfl rfl rfl rfl rfl rfl ⟨Nat.le_of_ble_eq_true rfl, Nat.le_of_ble_eq_true rfl⟩ (Nat.le_of_ble_eq_true rfl) hl.1 ⟨Nat.zero_le _, Nat.zero_le _⟩ rfl dX11_forge_172 (fun r172 u172 H locs hw O => ?_)
                          exact q_iret X O hw dX11_forge_175
                        · have hw := hw.2 c158
                          refine lv_aload_n hx hb dX11_forge_161 rfl (lv_at hl 1 rfl) ?_
                          refine lv_bipush (v := 10) hx hb dX11_forge_162 (by decide) ?_
                          refine q_civ (rest := []) X O hA 0 (c_X11_refused hw) lk_X11_78 (by decide) rfl rfl rfl rfl rfl rfl ⟨Nat.le_of_ble_eq_true rfl, Nat.le_of_ble_eq_true rfl⟩ (Nat.le_of_ble_eq_true rfl) hl.1 ⟨Nat.zero_le _, Nat.zero_le _⟩ rfl dX11_forge_164 (fun r164 u164 H locs hw O => ?_)
                          refine lv_goto (tgt := 175) hx hb dX11_forge_167 (by decide) ?_
                          exact q_iret X O hw dX11_forge_175
                      · replace hw := hw.2
                        have hw := hw s44_0 s44_1 s44_2 s44_3 s44_4 s44_5
                        refine lv_tableOut (tgt := 176) hx hb dX11_forge_44 (by have e0 := ts_ne (k := 0) (by decide) s44_0; have e1 := ts_ne (k := 1) (by decide) s44_1; have e2 := ts_ne (k := 2) (by decide) s44_2; have e3 := ts_ne (k := 3) (by decide) s44_3; have e4 := ts_ne (k := 4) (by decide) s44_4; have e5 := ts_ne (k := 5) (by decide) s44_5; omega) (by decide) ?_
                        refine lv_aload_n hx hb dX11_forge_176 rfl (lv_at hl 1 rfl) ?_
                        refine lv_iload_n hx hb dX11_forge_177 rfl (lv_at hl 4 rfl) ?_
                        refine lv_bipush (v := 12) hx hb dX11_forge_178 (by decide) ?_
                        refine q_cis (rest := [.ref (h 0)]) X O hA (c_J9_floorMod_7cf53 hw) lk_X11_273 rfl rfl rfl ⟨Nat.le_of_ble_eq_true rfl, Nat.le_of_ble_eq_true rfl⟩ (Nat.le_of_ble_eq_true rfl) hl.1 ⟨Nat.zero_le _, Nat.zero_le _⟩ rfl dX11_forge_180 (fun r180 u180 H locs hw O => ?_)
                        refine q_civ (rest := []) X O hA 0 (c_X11_forgeUnit hw) lk_X11_289 (by decide) rfl rfl rfl rfl rfl rfl ⟨Nat.le_of_ble_eq_true rfl, Nat.le_of_ble_eq_true rfl⟩ (Nat.le_of_ble_eq_true rfl) hl.1 ⟨Nat.zero_le _, Nat.zero_le _⟩ rfl dX11_forge_183 (fun r183 u183 H locs hw O => ?_)
                        exact q_iret X O hw dX11_forge_186
          · have hw := hw.2 c26
            refine lv_aload_n hx hb dX11_forge_29 rfl (lv_at hl 0 rfl) ?_
            refine lv_iconst (v := 1) hx hb dX11_forge_30 (by decide) ?_
            refine q_civ (rest := []) X O hA 0 (c_X11_refused hw) lk_X11_78 (by decide) rfl rfl rfl rfl rfl rfl ⟨Nat.le_of_ble_eq_true rfl, Nat.le_of_ble_eq_true rfl⟩ (Nat.le_of_ble_eq_true rfl) hl.1 ⟨Nat.zero_le _, Nat.zero_le _⟩ rfl dX11_forge_31 (fun r31 u31 H locs hw O => ?_)
            exact q_iret X O hw dX11_forge_34
end PT
