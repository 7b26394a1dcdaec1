/-! The plain constructors: Acting, History, Line, Plan, Sheet, the kinds. -/
def B_X0 (b : Nat → ClassId) (h0 : Nat) (q : Nat → Nat) : va_W := [(h0, .inr (0, [.ref (q 0), .int 0, .int 0, .int 0, .int 0, .int 0])), ((q 0), .inl (b 0, 50, .inl (fun _ => 0)))]
abbrev rm_X0_init : Room := { frames := 1, cells := 1, slots := 50, locals := 20 }
set_option maxHeartbeats 40000000 in
set_option maxRecDepth 100000 in
theorem c_X0_init {l : Launch} {D : va_G} {b : Nat → ClassId} {h0 : Nat} : CtN l yX0_init cX0_init 1 rm_X0_init D (tyA b) h0 [(h0, .inr (0, [.null, .int 0, .int 0, .int 0, .int 0, .int 0]))] (B_X0 b h0) 1 50 := by
  refine CtN.of (plainFor_of_name (by decide)) (Nat.le_of_ble_eq_true rfl) ?_
  intro p e s m below meth c A ls S hK hNs hlocks hr hi hA O hl
  have S : CallFix p m c cX0_init 1 s _ wsU RX0 := S
  obtain ⟨hx, hb, hml, hown, hts⟩ := id S
  obtain ⟨H, hH⟩ : ∃ H, H = s.heap := ⟨_, rfl⟩
  have O : wL D [(h0, .inr (0, [.null, .int 0, .int 0, .int 0, .int 0, .int 0]))] A s.heap H [] := by rw [hH]; exact O
  rw [show F0 m 0 ls [] = F0 m 0 ls [] from rfl]
  suffices hgo : W p l e rm_X0_init s m _ below meth c H [] 0 0 _ (F0 m 0 ls []) by rw [hH] at hgo; exact hgo
  refine lv_aload_n hx hb dX0_init_0 rfl (lv_at hl 0 rfl) ?_
  refine n_obj S wd_4_17 hl.1 dX0_init_1 (Nat.le_of_ble_eq_true rfl) (Nat.le_of_ble_eq_true rfl) (Nat.le_of_ble_eq_true rfl) ?_
  refine lv_aload_n hx hb dX0_init_4 rfl (lv_at hl 0 rfl) ?_
  refine lv_bipush (v := 50) hx hb dX0_init_5 (by decide) ?_
  refine n_int (N' := 50) S hK O hA rfl (by decide) (by decide) (by decide) (Nat.le_of_ble_eq_true rfl) (Nat.le_of_ble_eq_true rfl) dX0_init_7 (fun a7 H O => ?_)
  have O : wL D [(h0, .inr (0, [.null, .int 0, .int 0, .int 0, .int 0, .int 0])), (a7, .inl (b 0, 50, .inl (fun _ => 0)))] A s.heap H _ := O
  refine n_putF (ty := .array .int) S hK O hi 0 rfl rfl inuX0 tyX0 tyX0_ok nmX0 0 (by decide) wd_4_18 rfl rfl (by decide +kernel) rfl rfl (by simp only [List.length_cons, List.length_nil]; decide) dX0_init_9 (fun H locs O => ?_)
  have O : wL D [(h0, .inr (0, [.ref a7, .int 0, .int 0, .int 0, .int 0, .int 0])), (a7, .inl (b 0, 50, .inl (fun _ => 0)))] A s.heap H _ := O
  exact n_vret S hlocks hr (fun k => ([a7] : List Nat).getD k 0) O (Nat.le_of_ble_eq_true rfl) (Nat.le_of_ble_eq_true rfl) dX0_init_12
def B_X2 (b : Nat → ClassId) (h0 : Nat) (q : Nat → Nat) : va_W := [(h0, .inr (2, [.ref (q 0), .ref (q 1), .ref (q 2), .ref (q 3), .int 0, .int 0])), ((q 0), .inl (b 0, 12, .inl (fun _ => 0))), ((q 1), .inl (b 0, 12, .inl (fun _ => 0))), ((q 2), .inl (b 0, 12, .inl (fun _ => 0))), ((q 3), .inl (b 0, 12, .inl (fun _ => 0)))]
abbrev rm_X2_init : Room := { frames := 1, cells := 4, slots := 48, locals := 20 }
set_option maxHeartbeats 40000000 in
set_option maxRecDepth 100000 in
theorem c_X2_init {l : Launch} {D : va_G} {b : Nat → ClassId} {h0 : Nat} : CtN l yX2_init cX2_init 1 rm_X2_init D (tyA b) h0 [(h0, .inr (2, [.null, .null, .null, .null, .int 0, .int 0]))] (B_X2 b h0) 4 48 := by
  refine CtN.of (plainFor_of_name (by decide)) (Nat.le_of_ble_eq_true rfl) ?_
  intro p e s m below meth c A ls S hK hNs hlocks hr hi hA O hl
  have S : CallFix p m c cX2_init 1 s _ wsU RX2 := S
  obtain ⟨hx, hb, hml, hown, hts⟩ := id S
  obtain ⟨H, hH⟩ : ∃ H, H = s.heap := ⟨_, rfl⟩
  have O : wL D [(h0, .inr (2, [.null, .null, .null, .null, .int 0, .int 0]))] A s.heap H [] := by rw [hH]; exact O
  rw [show F0 m 0 ls [] = F0 m 0 ls [] from rfl]
  suffices hgo : W p l e rm_X2_init s m _ below meth c H [] 0 0 _ (F0 m 0 ls []) by rw [hH] at hgo; exact hgo
  refine lv_aload_n hx hb dX2_init_0 rfl (lv_at hl 0 rfl) ?_
  refine n_obj S wd_4_10 hl.1 dX2_init_1 (Nat.le_of_ble_eq_true rfl) (Nat.le_of_ble_eq_true rfl) (Nat.le_of_ble_eq_true rfl) ?_
  refine lv_aload_n hx hb dX2_init_4 rfl (lv_at hl 0 rfl) ?_
  refine lv_bipush (v := 12) hx hb dX2_init_5 (by decide) ?_
  refine n_int (N' := 12) S hK O hA rfl (by decide) (by decide) (by decide) (Nat.le_of_ble_eq_true rfl) (Nat.le_of_ble_eq_true rfl) dX2_init_7 (fun a7 H O => ?_)
  have O : wL D [(h0, .inr (2, [.null, .null, .null, .null, .int 0, .int 0])), (a7, .inl (b 0, 12, .inl (fun _ => 0)))] A s.heap H _ := O
  refine n_putF (ty := .array .int) S hK O hi 0 rfl rfl inuX2 tyX2 tyX2_ok nmX2 0 (by decide) wd_4_11 rfl rfl (by decide +kernel) rfl rfl (by simp only [List.length_cons, List.length_nil]; decide) dX2_init_9 (fun H locs O => ?_)
  have O : wL D [(h0, .inr (2, [.ref a7, .null, .null, .null, .int 0, .int 0])), (a7, .inl (b 0, 12, .inl (fun _ => 0)))] A s.heap H _ := O
  refine lv_aload_n hx hb dX2_init_12 rfl (lv_at hl 0 rfl) ?_
  refine lv_bipush (v := 12) hx hb dX2_init_13 (by decide) ?_
  refine n_int (N' := 12) S hK O hA rfl (by decide) (by decide) (by decide) (Nat.le_of_ble_eq_true rfl) (Nat.le_of_ble_eq_true rfl) dX2_init_15 (fun a15 H O => ?_)
  have O : wL D [(h0, .inr (2, [.ref a7, .null, .null, .null, .int 0, .int 0])), (a7, .inl (b 0, 12, .inl (fun _ => 0))), (a15, .inl (b 0, 12, .inl (fun _ => 0)))] A s.heap H _ := O
  refine n_putF (ty := .array .int) S hK O hi 0 rfl rfl inuX2 tyX2 tyX2_ok nmX2 1 (by decide) wd_4_12 rfl rfl (by decide +kernel) rfl rfl (by simp only [List.length_cons, List.length_nil]; decide) dX2_init_17 (fun H locs O => ?_)
  have O : wL D [(h0, .inr (2, [.ref a7, .ref a15, .null, .null, .int 0, .int 0])), (a7, .inl (b 0, 12, .inl (fun _ => 0))), (a15, .inl (b 0, 12, .inl (fun _ => 0)))] A s.heap H _ := O
  refine lv_aload_n hx hb dX2_init_20 rfl (lv_at hl 0 rfl) ?_
  refine lv_bipush (v := 12) hx hb dX2_init_21 (by decide) ?_
  refine n_int (N' := 12) S hK O hA rfl (by decide) (by decide) (by decide) (Nat.le_of_ble_eq_true rfl) (Nat.le_of_ble_eq_true rfl) dX2_init_23 (fun a23 H O => ?_)
  have O : wL D [(h0, .inr (2, [.ref a7, .ref a15, .null, .null, .int 0, .int 0])), (a7, .inl (b 0, 12, .inl (fun _ => 0))), (a15, .inl (b 0, 12, .inl (fun _ => 0))), (a23, .inl (b 0, 12, .inl (fun _ => 0)))] A s.heap H _ := O
  refine n_putF (ty := .array .int) S hK O hi 0 rfl rfl inuX2 tyX2 tyX2_ok nmX2 2 (by decide) wd_4_13 rfl rfl (by decide +kernel) rfl rfl (by simp only [List.length_cons, List.length_nil]; decide) dX2_init_25 (fun H locs O => ?_)
  have O : wL D [(h0, .inr (2, [.ref a7, .ref a15, .ref a23, .null, .int 0, .int 0])), (a7, .inl (b 0, 12, .inl (fun _ => 0))), (a15, .inl (b 0, 12, .inl (fun _ => 0))), (a23, .inl (b 0, 12, .inl (fun _ => 0)))] A s.heap H _ := O
  refine lv_aload_n hx hb dX2_init_28 rfl (lv_at hl 0 rfl) ?_
  refine lv_bipush (v := 12) hx hb dX2_init_29 (by decide) ?_
  refine n_int (N' := 12) S hK O hA rfl (by decide) (by decide) (by decide) (Nat.le_of_ble_eq_true rfl) (Nat.le_of_ble_eq_true rfl) dX2_init_31 (fun a31 H O => ?_)
  have O : wL D [(h0, .inr (2, [.ref a7, .ref a15, .ref a23, .null, .int 0, .int 0])), (a7, .inl (b 0, 12, .inl (fun _ => 0))), (a15, .inl (b 0, 12, .inl (fun _ => 0))), (a23, .inl (b 0, 12, .inl (fun _ => 0))), (a31, .inl (b 0, 12, .inl (fun _ => 0)))] A s.heap H _ := O
  refine n_putF (ty := .array .int) S hK O hi 0 rfl rfl inuX2 tyX2 tyX2_ok nmX2 3 (by decide) wd_4_14 rfl rfl (by decide +kernel) rfl rfl (by simp only [List.length_cons, List.length_nil]; decide) dX2_init_33 (fun H locs O => ?_)
  have O : wL D [(h0, .inr (2, [.ref a7, .ref a15, .ref a23, .ref a31, .int 0, .int 0])), (a7, .inl (b 0, 12, .inl (fun _ => 0))), (a15, .inl (b 0, 12, .inl (fun _ => 0))), (a23, .inl (b 0, 12, .inl (fun _ => 0))), (a31, .inl (b 0, 12, .inl (fun _ => 0)))] A s.heap H _ := O
  exact n_vret S hlocks hr (fun k => ([a7, a15, a23, a31] : List Nat).getD k 0) O (Nat.le_of_ble_eq_true rfl) (Nat.le_of_ble_eq_true rfl) dX2_init_36
def B_X6 (b : Nat → ClassId) (h0 : Nat) (q : Nat → Nat) : va_W := [(h0, .inr (6, [.ref (q 0), .int 0])), ((q 0), .inl (b 0, 12, .inl (fun _ => 0)))]
abbrev rm_X6_init : Room := { frames := 1, cells := 1, slots := 12, locals := 20 }
set_option maxHeartbeats 40000000 in
set_option maxRecDepth 100000 in
theorem c_X6_init {l : Launch} {D : va_G} {b : Nat → ClassId} {h0 : Nat} : CtN l yX6_init cX6_init 1 rm_X6_init D (tyA b) h0 [(h0, .inr (6, [.null, .int 0]))] (B_X6 b h0) 1 12 := by
  refine CtN.of (plainFor_of_name (by decide)) (Nat.le_of_ble_eq_true rfl) ?_
  intro p e s m below meth c A ls S hK hNs hlocks hr hi hA O hl
  have S : CallFix p m c cX6_init 1 s _ wsU RX6 := S
  obtain ⟨hx, hb, hml, hown, hts⟩ := id S
  obtain ⟨H, hH⟩ : ∃ H, H = s.heap := ⟨_, rfl⟩
  have O : wL D [(h0, .inr (6, [.null, .int 0]))] A s.heap H [] := by rw [hH]; exact O
  rw [show F0 m 0 ls [] = F0 m 0 ls [] from rfl]
  suffices hgo : W p l e rm_X6_init s m _ below meth c H [] 0 0 _ (F0 m 0 ls []) by rw [hH] at hgo; exact hgo
  refine lv_aload_n hx hb dX6_init_0 rfl (lv_at hl 0 rfl) ?_
  refine n_obj S wd_4_6 hl.1 dX6_init_1 (Nat.le_of_ble_eq_true rfl) (Nat.le_of_ble_eq_true rfl) (Nat.le_of_ble_eq_true rfl) ?_
  refine lv_aload_n hx hb dX6_init_4 rfl (lv_at hl 0 rfl) ?_
  refine lv_bipush (v := 12) hx hb dX6_init_5 (by decide) ?_
  refine n_int (N' := 12) S hK O hA rfl (by decide) (by decide) (by decide) (Nat.le_of_ble_eq_true rfl) (Nat.le_of_ble_eq_true rfl) dX6_init_7 (fun a7 H O => ?_)
  have O : wL D [(h0, .inr (6, [.null, .int 0])), (a7, .inl (b 0, 12, .inl (fun _ => 0)))] A s.heap H _ := O
  refine n_putF (ty := .array .int) S hK O hi 0 rfl rfl inuX6 tyX6 tyX6_ok nmX6 0 (by decide) wd_4_7 rfl rfl (by decide +kernel) rfl rfl (by simp only [List.length_cons, List.length_nil]; decide) dX6_init_9 (fun H locs O => ?_)
  have O : wL D [(h0, .inr (6, [.ref a7, .int 0])), (a7, .inl (b 0, 12, .inl (fun _ => 0)))] A s.heap H _ := O
  exact n_vret S hlocks hr (fun k => ([a7] : List Nat).getD k 0) O (Nat.le_of_ble_eq_true rfl) (Nat.le_of_ble_eq_true rfl) dX6_init_12
def B_X7 (b : Nat → ClassId) (h0 : Nat) (q : Nat → Nat) : va_W := [(h0, .inr (7, [.ref (q 0), .int 0, .int (-1), .ref (q 1), .ref (q 2), .ref (q 3), .int (-1), .ref (q 4), .int (-1)])), ((q 0), .inl (b 0, 12, .inl (fun _ => 0))), ((q 1), .inl (b 0, 4096, .inl (fun _ => 0))), ((q 2), .inl (b 0, 4096, .inl (fun _ => 0))), ((q 3), .inl (b 0, 12, .inl (fun _ => 0))), ((q 4), .inl (b 0, 12, .inl (fun _ => 0)))]
abbrev rm_X7_init : Room := { frames := 1, cells := 5, slots := 8228, locals := 20 }
set_option maxHeartbeats 40000000 in
set_option maxRecDepth 100000 in
theorem c_X7_init {l : Launch} {D : va_G} {b : Nat → ClassId} {h0 : Nat} : CtN l yX7_init cX7_init 1 rm_X7_init D (tyA b) h0 [(h0, .inr (7, [.null, .int 0, .int 0, .null, .null, .null, .int 0, .null, .int 0]))] (B_X7 b h0) 5 8228 := by
  refine CtN.of (plainFor_of_name (by decide)) (Nat.le_of_ble_eq_true rfl) ?_
  intro p e s m below meth c A ls S hK hNs hlocks hr hi hA O hl
  have S : CallFix p m c cX7_init 1 s _ wsU RX7 := S
  obtain ⟨hx, hb, hml, hown, hts⟩ := id S
  obtain ⟨H, hH⟩ : ∃ H, H = s.heap := ⟨_, rfl⟩
  have O : wL D [(h0, .inr (7, [.null, .int 0, .int 0, .null, .null, .null, .int 0, .null, .int 0]))] A s.heap H [] := by rw [hH]; exact O
  rw [show F0 m 0 ls [] = F0 m 0 ls [] from rfl]
  suffices hgo : W p l e rm_X7_init s m _ below meth c H [] 0 0 _ (F0 m 0 ls []) by rw [hH] at hgo; exact hgo
  refine lv_aload_n hx hb dX7_init_0 rfl (lv_at hl 0 rfl) ?_
  refine n_obj S wd_3_19 hl.1 dX7_init_1 (Nat.le_of_ble_eq_true rfl) (Nat.le_of_ble_eq_true rfl) (Nat.le_of_ble_eq_true rfl) ?_
  refine lv_aload_n hx hb dX7_init_4 rfl (lv_at hl 0 rfl) ?_
  refine lv_bipush (v := 12) hx hb dX7_init_5 (by decide) ?_
  refine n_int (N' := 12) S hK O hA rfl (by decide) (by decide) (by decide) (Nat.le_of_ble_eq_true rfl) (Nat.le_of_ble_eq_true rfl) dX7_init_7 (fun a7 H O => ?_)
  have O : wL D [(h0, .inr (7, [.null, .int 0, .int 0, .null, .null, .null, .int 0, .null, .int 0])), (a7, .inl (b 0, 12, .inl (fun _ => 0)))] A s.heap H _ := O
  refine n_putF (ty := .array .int) S hK O hi 0 rfl rfl inuX7 tyX7 tyX7_ok nmX7 0 (by decide) wd_3_20 rfl rfl (by decide +kernel) rfl rfl (by simp only [List.length_cons, List.length_nil]; decide) dX7_init_9 (fun H locs O => ?_)
  have O : wL D [(h0, .inr (7, [.ref a7, .int 0, .int 0, .null, .null, .null, .int 0, .null, .int 0])), (a7, .inl (b 0, 12, .inl (fun _ => 0)))] A s.heap H _ := O
  refine lv_aload_n hx hb dX7_init_12 rfl (lv_at hl 0 rfl) ?_
  refine lv_iconst (v := -1) hx hb dX7_init_13 (by decide) ?_
  refine n_put S hK O 0 rfl rfl inuX7 tyX7 tyX7_ok nmX7 2 (by decide) wd_3_21 rfl rfl (by decide +kernel) (by simp only [List.length_cons, List.length_nil]; decide) dX7_init_14 (fun H locs O => ?_)
  have O : wL D [(h0, .inr (7, [.ref a7, .int 0, .int (-1), .null, .null, .null, .int 0, .null, .int 0])), (a7, .inl (b 0, 12, .inl (fun _ => 0)))] A s.heap H _ := O
  refine lv_aload_n hx hb dX7_init_17 rfl (lv_at hl 0 rfl) ?_
  refine lv_sipush (v := 4096) hx hb dX7_init_18 (by decide) ?_
  refine n_int (N' := 4096) S hK O hA rfl (by decide) (by decide) (by decide) (Nat.le_of_ble_eq_true rfl) (Nat.le_of_ble_eq_true rfl) dX7_init_21 (fun a21 H O => ?_)
  have O : wL D [(h0, .inr (7, [.ref a7, .int 0, .int (-1), .null, .null, .null, .int 0, .null, .int 0])), (a7, .inl (b 0, 12, .inl (fun _ => 0))), (a21, .inl (b 0, 4096, .inl (fun _ => 0)))] A s.heap H _ := O
  refine n_putF (ty := .array .int) S hK O hi 0 rfl rfl inuX7 tyX7 tyX7_ok nmX7 3 (by decide) wd_3_22 rfl rfl (by decide +kernel) rfl rfl (by simp only [List.length_cons, List.length_nil]; decide) dX7_init_23 (fun H locs O => ?_)
  have O : wL D [(h0, .inr (7, [.ref a7, .int 0, .int (-1), .ref a21, .null, .null, .int 0, .null, .int 0])), (a7, .inl (b 0, 12, .inl (fun _ => 0))), (a21, .inl (b 0, 4096, .inl (fun _ => 0)))] A s.heap H _ := O
  refine lv_aload_n hx hb dX7_init_26 rfl (lv_at hl 0 rfl) ?_
  refine lv_sipush (v := 4096) hx hb dX7_init_27 (by decide) ?_
  refine n_int (N' := 4096) S hK O hA rfl (by decide) (by decide) (by decide) (Nat.le_of_ble_eq_true rfl) (Nat.le_of_ble_eq_true rfl) dX7_init_30 (fun a30 H O => ?_)
  have O : wL D [(h0, .inr (7, [.ref a7, .int 0, .int (-1), .ref a21, .null, .null, .int 0, .null, .int 0])), (a7, .inl (b 0, 12, .inl (fun _ => 0))), (a21, .inl (b 0, 4096, .inl (fun _ => 0))), (a30, .inl (b 0, 4096, .inl (fun _ => 0)))] A s.heap H _ := O
  refine n_putF (ty := .array .int) S hK O hi 0 rfl rfl inuX7 tyX7 tyX7_ok nmX7 4 (by decide) wd_3_23 rfl rfl (by decide +kernel) rfl rfl (by simp only [List.length_cons, List.length_nil]; decide) dX7_init_32 (fun H locs O => ?_)
  have O : wL D [(h0, .inr (7, [.ref a7, .int 0, .int (-1), .ref a21, .ref a30, .null, .int 0, .null, .int 0])), (a7, .inl (b 0, 12, .inl (fun _ => 0))), (a21, .inl (b 0, 4096, .inl (fun _ => 0))), (a30, .inl (b 0, 4096, .inl (fun _ => 0)))] A s.heap H _ := O
  refine lv_aload_n hx hb dX7_init_35 rfl (lv_at hl 0 rfl) ?_
  refine lv_bipush (v := 12) hx hb dX7_init_36 (by decide) ?_
  refine n_int (N' := 12) S hK O hA rfl (by decide) (by decide) (by decide) (Nat.le_of_ble_eq_true rfl) (Nat.le_of_ble_eq_true rfl) dX7_init_38 (fun a38 H O => ?_)
  have O : wL D [(h0, .inr (7, [.ref a7, .int 0, .int (-1), .ref a21, .ref a30, .null, .int 0, .null, .int 0])), (a7, .inl (b 0, 12, .inl (fun _ => 0))), (a21, .inl (b 0, 4096, .inl (fun _ => 0))), (a30, .inl (b 0, 4096, .inl (fun _ => 0))), (a38, .inl (b 0, 12, .inl (fun _ => 0)))] A s.heap H _ := O
  refine n_putF (ty := .array .int) S hK O hi 0 rfl rfl inuX7 tyX7 tyX7_ok nmX7 5 (by decide) wd_4_0 rfl rfl (by decide +kernel) rfl rfl (by simp only [List.length_cons, List.length_nil]; decide) dX7_init_40 (fun H locs O => ?_)
  have O : wL D [(h0, .inr (7, [.ref a7, .int 0, .int (-1), .ref a21, .ref a30, .ref a38, .int 0, .null, .int 0])), (a7, .inl (b 0, 12, .inl (fun _ => 0))), (a21, .inl (b 0, 4096, .inl (fun _ => 0))), (a30, .inl (b 0, 4096, .inl (fun _ => 0))), (a38, .inl (b 0, 12, .inl (fun _ => 0)))] A s.heap H _ := O
  refine lv_aload_n hx hb dX7_init_43 rfl (lv_at hl 0 rfl) ?_
  refine lv_iconst (v := -1) hx hb dX7_init_44 (by decide) ?_
  refine n_put S hK O 0 rfl rfl inuX7 tyX7 tyX7_ok nmX7 6 (by decide) wd_4_1 rfl rfl (by decide +kernel) (by simp only [List.length_cons, List.length_nil]; decide) dX7_init_45 (fun H locs O => ?_)
  have O : wL D [(h0, .inr (7, [.ref a7, .int 0, .int (-1), .ref a21, .ref a30, .ref a38, .int (-1), .null, .int 0])), (a7, .inl (b 0, 12, .inl (fun _ => 0))), (a21, .inl (b 0, 4096, .inl (fun _ => 0))), (a30, .inl (b 0, 4096, .inl (fun _ => 0))), (a38, .inl (b 0, 12, .inl (fun _ => 0)))] A s.heap H _ := O
  refine lv_aload_n hx hb dX7_init_48 rfl (lv_at hl 0 rfl) ?_
  refine lv_bipush (v := 12) hx hb dX7_init_49 (by decide) ?_
  refine n_int (N' := 12) S hK O hA rfl (by decide) (by decide) (by decide) (Nat.le_of_ble_eq_true rfl) (Nat.le_of_ble_eq_true rfl) dX7_init_51 (fun a51 H O => ?_)
  have O : wL D [(h0, .inr (7, [.ref a7, .int 0, .int (-1), .ref a21, .ref a30, .ref a38, .int (-1), .null, .int 0])), (a7, .inl (b 0, 12, .inl (fun _ => 0))), (a21, .inl (b 0, 4096, .inl (fun _ => 0))), (a30, .inl (b 0, 4096, .inl (fun _ => 0))), (a38, .inl (b 0, 12, .inl (fun _ => 0))), (a51, .inl (b 0, 12, .inl (fun _ => 0)))] A s.heap H _ := O
  refine n_putF (ty := .array .int) S hK O hi 0 rfl rfl inuX7 tyX7 tyX7_ok nmX7 7 (by decide) wd_4_2 rfl rfl (by decide +kernel) rfl rfl (by simp only [List.length_cons, List.length_nil]; decide) dX7_init_53 (fun H locs O => ?_)
  have O : wL D [(h0, .inr (7, [.ref a7, .int 0, .int (-1), .ref a21, .ref a30, .ref a38, .int (-1), .ref a51, .int 0])), (a7, .inl (b 0, 12, .inl (fun _ => 0))), (a21, .inl (b 0, 4096, .inl (fun _ => 0))), (a30, .inl (b 0, 4096, .inl (fun _ => 0))), (a38, .inl (b 0, 12, .inl (fun _ => 0))), (a51, .inl (b 0, 12, .inl (fun _ => 0)))] A s.heap H _ := O
  refine lv_aload_n hx hb dX7_init_56 rfl (lv_at hl 0 rfl) ?_
  refine lv_iconst (v := -1) hx hb dX7_init_57 (by decide) ?_
  refine n_put S hK O 0 rfl rfl inuX7 tyX7 tyX7_ok nmX7 8 (by decide) wd_4_3 rfl rfl (by decide +kernel) (by simp only [List.length_cons, List.length_nil]; decide) dX7_init_58 (fun H locs O => ?_)
  have O : wL D [(h0, .inr (7, [.ref a7, .int 0, .int (-1), .ref a21, .ref a30, .ref a38, .int (-1), .ref a51, .int (-1)])), (a7, .inl (b 0, 12, .inl (fun _ => 0))), (a21, .inl (b 0, 4096, .inl (fun _ => 0))), (a30, .inl (b 0, 4096, .inl (fun _ => 0))), (a38, .inl (b 0, 12, .inl (fun _ => 0))), (a51, .inl (b 0, 12, .inl (fun _ => 0)))] A s.heap H _ := O
  exact n_vret S hlocks hr (fun k => ([a7, a21, a30, a38, a51] : List Nat).getD k 0) O (Nat.le_of_ble_eq_true rfl) (Nat.le_of_ble_eq_true rfl) dX7_init_61
def B_X8 (b : Nat → ClassId) (h0 : Nat) (q : Nat → Nat) : va_W := [(h0, .inr (8, [.ref (q 0), .int (-1), .int 0])), ((q 0), .inl (b 0, 20, .inl (fun _ => 0)))]
abbrev rm_X8_init : Room := { frames := 1, cells := 1, slots := 20, locals := 20 }
set_option maxHeartbeats 40000000 in
set_option maxRecDepth 100000 in
theorem c_X8_init {l : Launch} {D : va_G} {b : Nat → ClassId} {h0 : Nat} : CtN l yX8_init cX8_init 1 rm_X8_init D (tyA b) h0 [(h0, .inr (8, [.null, .int 0, .int 0]))] (B_X8 b h0) 1 20 := by
  refine CtN.of (plainFor_of_name (by decide)) (Nat.le_of_ble_eq_true rfl) ?_
  intro p e s m below meth c A ls S hK hNs hlocks hr hi hA O hl
  have S : CallFix p m c cX8_init 1 s _ wsU RX8 := S
  obtain ⟨hx, hb, hml, hown, hts⟩ := id S
  obtain ⟨H, hH⟩ : ∃ H, H = s.heap := ⟨_, rfl⟩
  have O : wL D [(h0, .inr (8, [.null, .int 0, .int 0]))] A s.heap H [] := by rw [hH]; exact O
  rw [show F0 m 0 ls [] = F0 m 0 ls [] from rfl]
  suffices hgo : W p l e rm_X8_init s m _ below meth c H [] 0 0 _ (F0 m 0 ls []) by rw [hH] at hgo; exact hgo
  refine lv_aload_n hx hb dX8_init_0 rfl (lv_at hl 0 rfl) ?_
  refine n_obj S wd_5_8 hl.1 dX8_init_1 (Nat.le_of_ble_eq_true rfl) (Nat.le_of_ble_eq_true rfl) (Nat.le_of_ble_eq_true rfl) ?_
  refine lv_aload_n hx hb dX8_init_4 rfl (lv_at hl 0 rfl) ?_
  refine lv_bipush (v := 20) hx hb dX8_init_5 (by decide) ?_
  refine n_int (N' := 20) S hK O hA rfl (by decide) (by decide) (by decide) (Nat.le_of_ble_eq_true rfl) (Nat.le_of_ble_eq_true rfl) dX8_init_7 (fun a7 H O => ?_)
  have O : wL D [(h0, .inr (8, [.null, .int 0, .int 0])), (a7, .inl (b 0, 20, .inl (fun _ => 0)))] A s.heap H _ := O
  refine n_putF (ty := .array .int) S hK O hi 0 rfl rfl inuX8 tyX8 tyX8_ok nmX8 0 (by decide) wd_5_9 rfl rfl (by decide +kernel) rfl rfl (by simp only [List.length_cons, List.length_nil]; decide) dX8_init_9 (fun H locs O => ?_)
  have O : wL D [(h0, .inr (8, [.ref a7, .int 0, .int 0])), (a7, .inl (b 0, 20, .inl (fun _ => 0)))] A s.heap H _ := O
  refine lv_aload_n hx hb dX8_init_12 rfl (lv_at hl 0 rfl) ?_
  refine lv_iconst (v := -1) hx hb dX8_init_13 (by decide) ?_
  refine n_put S hK O 0 rfl rfl inuX8 tyX8 tyX8_ok nmX8 1 (by decide) wd_5_10 rfl rfl (by decide +kernel) (by simp only [List.length_cons, List.length_nil]; decide) dX8_init_14 (fun H locs O => ?_)
  have O : wL D [(h0, .inr (8, [.ref a7, .int (-1), .int 0])), (a7, .inl (b 0, 20, .inl (fun _ => 0)))] A s.heap H _ := O
  exact n_vret S hlocks hr (fun k => ([a7] : List Nat).getD k 0) O (Nat.le_of_ble_eq_true rfl) (Nat.le_of_ble_eq_true rfl) dX8_init_17
abbrev rm_X4_init : Room := { frames := 1, cells := 0, slots := 0, locals := 20 }
set_option maxHeartbeats 40000000 in
set_option maxRecDepth 100000 in
theorem c_X4_init {l : Launch} {D : va_G} {b : Nat → ClassId} {h0 ci : Nat} : CtN l yX4_init cX4_init 1 rm_X4_init D (tyA b) h0 [(h0, .inr (ci, []))] (fun _ => [(h0, .inr (ci, []))]) 0 0 := by
  refine CtN.of (plainFor_of_name (by decide)) (Nat.le_of_ble_eq_true rfl) ?_
  intro p e s m below meth c A ls S hK hNs hlocks hr hi hA O hl
  have S : CallFix p m c cX4_init 1 s _ wsU RX4 := S
  obtain ⟨hx, hb, hml, hown, hts⟩ := id S
  refine lv_aload_n hx hb dX4_init_0 rfl (lv_at hl 0 rfl) ?_
  refine n_obj S wd_4_21 hl.1 dX4_init_1 (Nat.le_of_ble_eq_true rfl) (Nat.le_of_ble_eq_true rfl) (Nat.le_of_ble_eq_true rfl) ?_
  exact n_vret S hlocks hr (fun _ => 0) O (Nat.le_of_ble_eq_true rfl) (Nat.le_of_ble_eq_true rfl) dX4_init_4
theorem lkN_X9_1 : LkN RX9 1 yX4_init cX4_init 1 := ⟨⟨"FellersOrder", List.mem_of_getElem? (i := 7) rfl⟩, wd_4_19, wd_2_10, wd_4_20, rfl, by decide +kernel⟩
abbrev rm_X9_init : Room := { frames := 2, cells := 0, slots := 0, locals := 40 }
set_option maxHeartbeats 40000000 in
set_option maxRecDepth 100000 in
theorem c_X9_init {l : Launch} {D : va_G} {b : Nat → ClassId} {h0 ci : Nat} : CtN l yX9_init cX9_init 1 rm_X9_init D (tyA b) h0 [(h0, .inr (ci, []))] (fun _ => [(h0, .inr (ci, []))]) 0 0 := by
  refine CtN.of (plainFor_of_name (by decide)) (Nat.le_of_ble_eq_true rfl) ?_
  intro p e s m below meth c A ls S hK hNs hlocks hr hi hA O hl
  have S : CallFix p m c cX9_init 1 s _ wsU RX9 := S
  obtain ⟨hx, hb, hml, hown, hts⟩ := id S
  refine lv_aload_n hx hb dX9_init_0 rfl (lv_at hl 0 rfl) ?_
  refine n_call (wr := []) (rest := []) S hK hNs O hA (c_X4_init (b := b)) lkN_X9_1 rfl rfl ⟨Nat.le_of_ble_eq_true rfl, Nat.le_of_ble_eq_true rfl⟩ (Nat.le_of_ble_eq_true rfl) hl.1 ⟨Nat.le_of_ble_eq_true rfl, Nat.le_of_ble_eq_true rfl⟩ dX9_init_1 (fun q H locs O => ?_)
  exact n_vret S hlocks hr (fun _ => 0) O (Nat.le_of_ble_eq_true rfl) (Nat.le_of_ble_eq_true rfl) dX9_init_4
theorem lkN_X3_1 : LkN RX3 1 yX4_init cX4_init 1 := ⟨⟨"FellersOrder", List.mem_of_getElem? (i := 9) rfl⟩, wd_4_19, wd_2_10, wd_4_20, rfl, by decide +kernel⟩
abbrev rm_X3_init : Room := { frames := 2, cells := 0, slots := 0, locals := 40 }
set_option maxHeartbeats 40000000 in
set_option maxRecDepth 100000 in
theorem c_X3_init {l : Launch} {D : va_G} {b : Nat → ClassId} {h0 ci : Nat} : CtN l yX3_init cX3_init 1 rm_X3_init D (tyA b) h0 [(h0, .inr (ci, []))] (fun _ => [(h0, .inr (ci, []))]) 0 0 := by
  refine CtN.of (plainFor_of_name (by decide)) (Nat.le_of_ble_eq_true rfl) ?_
  intro p e s m below meth c A ls S hK hNs hlocks hr hi hA O hl
  have S : CallFix p m c cX3_init 1 s _ wsU RX3 := S
  obtain ⟨hx, hb, hml, hown, hts⟩ := id S
  refine lv_aload_n hx hb dX3_init_0 rfl (lv_at hl 0 rfl) ?_
  refine n_call (wr := []) (rest := []) S hK hNs O hA (c_X4_init (b := b)) lkN_X3_1 rfl rfl ⟨Nat.le_of_ble_eq_true rfl, Nat.le_of_ble_eq_true rfl⟩ (Nat.le_of_ble_eq_true rfl) hl.1 ⟨Nat.le_of_ble_eq_true rfl, Nat.le_of_ble_eq_true rfl⟩ dX3_init_1 (fun q H locs O => ?_)
  exact n_vret S hlocks hr (fun _ => 0) O (Nat.le_of_ble_eq_true rfl) (Nat.le_of_ble_eq_true rfl) dX3_init_4
theorem lkN_X5_1 : LkN RX5 1 yX4_init cX4_init 1 := ⟨⟨"FellersOrder", List.mem_of_getElem? (i := 13) rfl⟩, wd_4_19, wd_2_10, wd_4_20, rfl, by decide +kernel⟩
abbrev rm_X5_init : Room := { frames := 2, cells := 0, slots := 0, locals := 40 }
set_option maxHeartbeats 40000000 in
set_option maxRecDepth 100000 in
theorem c_X5_init {l : Launch} {D : va_G} {b : Nat → ClassId} {h0 ci : Nat} : CtN l yX5_init cX5_init 1 rm_X5_init D (tyA b) h0 [(h0, .inr (ci, []))] (fun _ => [(h0, .inr (ci, []))]) 0 0 := by
  refine CtN.of (plainFor_of_name (by decide)) (Nat.le_of_ble_eq_true rfl) ?_
  intro p e s m below meth c A ls S hK hNs hlocks hr hi hA O hl
  have S : CallFix p m c cX5_init 1 s _ wsU RX5 := S
  obtain ⟨hx, hb, hml, hown, hts⟩ := id S
  refine lv_aload_n hx hb dX5_init_0 rfl (lv_at hl 0 rfl) ?_
  refine n_call (wr := []) (rest := []) S hK hNs O hA (c_X4_init (b := b)) lkN_X5_1 rfl rfl ⟨Nat.le_of_ble_eq_true rfl, Nat.le_of_ble_eq_true rfl⟩ (Nat.le_of_ble_eq_true rfl) hl.1 ⟨Nat.le_of_ble_eq_true rfl, Nat.le_of_ble_eq_true rfl⟩ dX5_init_1 (fun q H locs O => ?_)
  exact n_vret S hlocks hr (fun _ => 0) O (Nat.le_of_ble_eq_true rfl) (Nat.le_of_ble_eq_true rfl) dX5_init_4
theorem lkN_X1_1 : LkN RX1 1 yX9_init cX9_init 1 := ⟨⟨"FellersOrder", List.mem_of_getElem? (i := 11) rfl⟩, wd_4_22, wd_2_13, wd_4_23, rfl, by decide +kernel⟩
abbrev rm_X1_init : Room := { frames := 3, cells := 0, slots := 0, locals := 60 }
set_option maxHeartbeats 40000000 in
set_option maxRecDepth 100000 in
theorem c_X1_init {l : Launch} {D : va_G} {b : Nat → ClassId} {h0 ci : Nat} : CtN l yX1_init cX1_init 1 rm_X1_init D (tyA b) h0 [(h0, .inr (ci, []))] (fun _ => [(h0, .inr (ci, []))]) 0 0 := by
  refine CtN.of (plainFor_of_name (by decide)) (Nat.le_of_ble_eq_true rfl) ?_
  intro p e s m below meth c A ls S hK hNs hlocks hr hi hA O hl
  have S : CallFix p m c cX1_init 1 s _ wsU RX1 := S
  obtain ⟨hx, hb, hml, hown, hts⟩ := id S
  refine lv_aload_n hx hb dX1_init_0 rfl (lv_at hl 0 rfl) ?_
  refine n_call (wr := []) (rest := []) S hK hNs O hA (c_X9_init (b := b)) lkN_X1_1 rfl rfl ⟨Nat.le_of_ble_eq_true rfl, Nat.le_of_ble_eq_true rfl⟩ (Nat.le_of_ble_eq_true rfl) hl.1 ⟨Nat.le_of_ble_eq_true rfl, Nat.le_of_ble_eq_true rfl⟩ dX1_init_1 (fun q H locs O => ?_)
  exact n_vret S hlocks hr (fun _ => 0) O (Nat.le_of_ble_eq_true rfl) (Nat.le_of_ble_eq_true rfl) dX1_init_4
