/-! Yard's constructor. -/
def B_X10 (b : Nat → ClassId) (h0 : Nat) (q : Nat → Nat) : va_W := [(h0, .inr (10, [.ref (q 0), .ref (q 4), .ref (q 5), .ref (q 6), .ref (q 7), .ref (q 8), .ref (q 9), .int 0, .int 0, .int 0])), ((q 0), .inl (b 2, 3, .inr (.inr (.inr (.inr (fun i => if i < 3 then some (q (1 + i)) else none)))))), ((q 1), .inl (b 0, 12, .inl (fun _ => 0))), ((q 2), .inl (b 0, 12, .inl (fun _ => 0))), ((q 3), .inl (b 0, 12, .inl (fun _ => 0))), ((q 4), .inl (b 0, 12, .inl (fun _ => 0))), ((q 5), .inl (b 0, 12, .inl (fun _ => 0))), ((q 6), .inl (b 0, 12, .inl (fun _ => 0))), ((q 7), .inl (b 0, 128, .inl (fun _ => 0))), ((q 8), .inl (b 0, 128, .inl (fun _ => 0))), ((q 9), .inl (b 0, 128, .inl (fun _ => 0)))]
theorem fun3 {f g : Nat → Nat} (h0 : f 0 = g 0) (h1 : f 1 = g 1) (h2 : f 2 = g 2) : (fun i => if i < 3 then some (f i) else none) = (fun i => if i < 3 then some (g i) else none) := by
  funext i
  by_cases h : i < 3
  · rw [if_pos h, if_pos h]
    rcases (show i = 0 ∨ i = 1 ∨ i = 2 by omega) with rfl | rfl | rfl
    · rw [h0]
    · rw [h1]
    · rw [h2]
  · rw [if_neg h, if_neg h]
abbrev rm_X10_init : Room := { frames := 1, cells := 10, slots := 459, locals := 20 }
set_option maxHeartbeats 40000000 in
set_option maxRecDepth 100000 in
theorem c_X10_init {l : Launch} {D : va_G} {b : Nat → ClassId} {h0 : Nat} : CtN l yX10_init cX10_init 1 rm_X10_init D (tyA b) h0 [(h0, .inr (10, [.null, .null, .null, .null, .null, .null, .null, .int 0, .int 0, .int 0]))] (B_X10 b h0) 10 459 := by
  refine CtN.of (plainFor_of_name (by decide)) (Nat.le_of_ble_eq_true rfl) ?_
  intro p e s m below meth c A ls S hK hNs hlocks hr hi hA O hl
  have S : CallFix p m c cX10_init 1 s _ wsU RX10 := S
  obtain ⟨hx, hb, hml, hown, hts⟩ := id S
  obtain ⟨H, hH⟩ : ∃ H, H = s.heap := ⟨_, rfl⟩
  have O : wL D [(h0, .inr (10, [.null, .null, .null, .null, .null, .null, .null, .int 0, .int 0, .int 0]))] A s.heap H [] := by rw [hH]; exact O
  rw [show F0 m 0 ls [] = F0 m 0 ls [] from rfl]
  suffices hgo : W p l e rm_X10_init s m _ below meth c H [] 0 0 _ (F0 m 0 ls []) by rw [hH] at hgo; exact hgo
  refine lv_aload_n hx hb dX10_init_0 rfl (lv_at hl 0 rfl) ?_
  refine n_obj S wd_3_7 hl.1 dX10_init_1 (Nat.le_of_ble_eq_true rfl) (Nat.le_of_ble_eq_true rfl) (Nat.le_of_ble_eq_true rfl) ?_
  refine lv_aload_n hx hb dX10_init_4 rfl (lv_at hl 0 rfl) ?_
  refine lv_iconst (v := 3) hx hb dX10_init_5 (by decide) ?_
  refine lv_bipush (v := 12) hx hb dX10_init_6 (by decide) ?_
  refine n_mna S hK O hA (hNs.1 _ (List.mem_of_getElem? (i := 27) rfl)) rfl rfl wd_3_8 (Nat.le_of_ble_eq_true rfl) (Nat.le_of_ble_eq_true rfl) dX10_init_8 (fun a8 r8 H O => ?_)
  have O : wL D [(h0, .inr (10, [.null, .null, .null, .null, .null, .null, .null, .int 0, .int 0, .int 0])), (a8, .inl (b 2, 3, .inr (.inr (.inr (.inr (fun i => if i < 3 then some (r8 i) else none)))))), (r8 0, .inl (b 0, 12, .inl (fun _ => 0))), (r8 1, .inl (b 0, 12, .inl (fun _ => 0))), (r8 2, .inl (b 0, 12, .inl (fun _ => 0)))] A s.heap H _ := O
  refine n_putF (ty := .array (.array .int)) S hK O hi 0 rfl rfl inuX10 tyX10 tyX10_ok nmX10 0 (by decide) wd_3_10 rfl rfl (by decide +kernel) rfl rfl (by simp only [List.length_cons, List.length_nil]; decide) dX10_init_12 (fun H locs O => ?_)
  have O : wL D [(h0, .inr (10, [.ref a8, .null, .null, .null, .null, .null, .null, .int 0, .int 0, .int 0])), (a8, .inl (b 2, 3, .inr (.inr (.inr (.inr (fun i => if i < 3 then some (r8 i) else none)))))), (r8 0, .inl (b 0, 12, .inl (fun _ => 0))), (r8 1, .inl (b 0, 12, .inl (fun _ => 0))), (r8 2, .inl (b 0, 12, .inl (fun _ => 0)))] A s.heap H _ := O
  refine lv_aload_n hx hb dX10_init_15 rfl (lv_at hl 0 rfl) ?_
  refine lv_bipush (v := 12) hx hb dX10_init_16 (by decide) ?_
  refine n_int (N' := 12) S hK O hA rfl (by decide) (by decide) (by decide) (Nat.le_of_ble_eq_true rfl) (Nat.le_of_ble_eq_true rfl) dX10_init_18 (fun a18 H O => ?_)
  have O : wL D [(h0, .inr (10, [.ref a8, .null, .null, .null, .null, .null, .null, .int 0, .int 0, .int 0])), (a8, .inl (b 2, 3, .inr (.inr (.inr (.inr (fun i => if i < 3 then some (r8 i) else none)))))), (r8 0, .inl (b 0, 12, .inl (fun _ => 0))), (r8 1, .inl (b 0, 12, .inl (fun _ => 0))), (r8 2, .inl (b 0, 12, .inl (fun _ => 0))), (a18, .inl (b 0, 12, .inl (fun _ => 0)))] A s.heap H _ := O
  refine n_putF (ty := .array .int) S hK O hi 0 rfl rfl inuX10 tyX10 tyX10_ok nmX10 1 (by decide) wd_3_11 rfl rfl (by decide +kernel) rfl rfl (by simp only [List.length_cons, List.length_nil]; decide) dX10_init_20 (fun H locs O => ?_)
  have O : wL D [(h0, .inr (10, [.ref a8, .ref a18, .null, .null, .null, .null, .null, .int 0, .int 0, .int 0])), (a8, .inl (b 2, 3, .inr (.inr (.inr (.inr (fun i => if i < 3 then some (r8 i) else none)))))), (r8 0, .inl (b 0, 12, .inl (fun _ => 0))), (r8 1, .inl (b 0, 12, .inl (fun _ => 0))), (r8 2, .inl (b 0, 12, .inl (fun _ => 0))), (a18, .inl (b 0, 12, .inl (fun _ => 0)))] A s.heap H _ := O
  refine lv_aload_n hx hb dX10_init_23 rfl (lv_at hl 0 rfl) ?_
  refine lv_bipush (v := 12) hx hb dX10_init_24 (by decide) ?_
  refine n_int (N' := 12) S hK O hA rfl (by decide) (by decide) (by decide) (Nat.le_of_ble_eq_true rfl) (Nat.le_of_ble_eq_true rfl) dX10_init_26 (fun a26 H O => ?_)
  have O : wL D [(h0, .inr (10, [.ref a8, .ref a18, .null, .null, .null, .null, .null, .int 0, .int 0, .int 0])), (a8, .inl (b 2, 3, .inr (.inr (.inr (.inr (fun i => if i < 3 then some (r8 i) else none)))))), (r8 0, .inl (b 0, 12, .inl (fun _ => 0))), (r8 1, .inl (b 0, 12, .inl (fun _ => 0))), (r8 2, .inl (b 0, 12, .inl (fun _ => 0))), (a18, .inl (b 0, 12, .inl (fun _ => 0))), (a26, .inl (b 0, 12, .inl (fun _ => 0)))] A s.heap H _ := O
  refine n_putF (ty := .array .int) S hK O hi 0 rfl rfl inuX10 tyX10 tyX10_ok nmX10 2 (by decide) wd_3_12 rfl rfl (by decide +kernel) rfl rfl (by simp only [List.length_cons, List.length_nil]; decide) dX10_init_28 (fun H locs O => ?_)
  have O : wL D [(h0, .inr (10, [.ref a8, .ref a18, .ref a26, .null, .null, .null, .null, .int 0, .int 0, .int 0])), (a8, .inl (b 2, 3, .inr (.inr (.inr (.inr (fun i => if i < 3 then some (r8 i) else none)))))), (r8 0, .inl (b 0, 12, .inl (fun _ => 0))), (r8 1, .inl (b 0, 12, .inl (fun _ => 0))), (r8 2, .inl (b 0, 12, .inl (fun _ => 0))), (a18, .inl (b 0, 12, .inl (fun _ => 0))), (a26, .inl (b 0, 12, .inl (fun _ => 0)))] A s.heap H _ := O
  refine lv_aload_n hx hb dX10_init_31 rfl (lv_at hl 0 rfl) ?_
  refine lv_bipush (v := 12) hx hb dX10_init_32 (by decide) ?_
  refine n_int (N' := 12) S hK O hA rfl (by decide) (by decide) (by decide) (Nat.le_of_ble_eq_true rfl) (Nat.le_of_ble_eq_true rfl) dX10_init_34 (fun a34 H O => ?_)
  have O : wL D [(h0, .inr (10, [.ref a8, .ref a18, .ref a26, .null, .null, .null, .null, .int 0, .int 0, .int 0])), (a8, .inl (b 2, 3, .inr (.inr (.inr (.inr (fun i => if i < 3 then some (r8 i) else none)))))), (r8 0, .inl (b 0, 12, .inl (fun _ => 0))), (r8 1, .inl (b 0, 12, .inl (fun _ => 0))), (r8 2, .inl (b 0, 12, .inl (fun _ => 0))), (a18, .inl (b 0, 12, .inl (fun _ => 0))), (a26, .inl (b 0, 12, .inl (fun _ => 0))), (a34, .inl (b 0, 12, .inl (fun _ => 0)))] A s.heap H _ := O
  refine n_putF (ty := .array .int) S hK O hi 0 rfl rfl inuX10 tyX10 tyX10_ok nmX10 3 (by decide) wd_3_13 rfl rfl (by decide +kernel) rfl rfl (by simp only [List.length_cons, List.length_nil]; decide) dX10_init_36 (fun H locs O => ?_)
  have O : wL D [(h0, .inr (10, [.ref a8, .ref a18, .ref a26, .ref a34, .null, .null, .null, .int 0, .int 0, .int 0])), (a8, .inl (b 2, 3, .inr (.inr (.inr (.inr (fun i => if i < 3 then some (r8 i) else none)))))), (r8 0, .inl (b 0, 12, .inl (fun _ => 0))), (r8 1, .inl (b 0, 12, .inl (fun _ => 0))), (r8 2, .inl (b 0, 12, .inl (fun _ => 0))), (a18, .inl (b 0, 12, .inl (fun _ => 0))), (a26, .inl (b 0, 12, .inl (fun _ => 0))), (a34, .inl (b 0, 12, .inl (fun _ => 0)))] A s.heap H _ := O
  refine lv_aload_n hx hb dX10_init_39 rfl (lv_at hl 0 rfl) ?_
  refine lv_sipush (v := 128) hx hb dX10_init_40 (by decide) ?_
  refine n_int (N' := 128) S hK O hA rfl (by decide) (by decide) (by decide) (Nat.le_of_ble_eq_true rfl) (Nat.le_of_ble_eq_true rfl) dX10_init_43 (fun a43 H O => ?_)
  have O : wL D [(h0, .inr (10, [.ref a8, .ref a18, .ref a26, .ref a34, .null, .null, .null, .int 0, .int 0, .int 0])), (a8, .inl (b 2, 3, .inr (.inr (.inr (.inr (fun i => if i < 3 then some (r8 i) else none)))))), (r8 0, .inl (b 0, 12, .inl (fun _ => 0))), (r8 1, .inl (b 0, 12, .inl (fun _ => 0))), (r8 2, .inl (b 0, 12, .inl (fun _ => 0))), (a18, .inl (b 0, 12, .inl (fun _ => 0))), (a26, .inl (b 0, 12, .inl (fun _ => 0))), (a34, .inl (b 0, 12, .inl (fun _ => 0))), (a43, .inl (b 0, 128, .inl (fun _ => 0)))] A s.heap H _ := O
  refine n_putF (ty := .array .int) S hK O hi 0 rfl rfl inuX10 tyX10 tyX10_ok nmX10 4 (by decide) wd_3_14 rfl rfl (by decide +kernel) rfl rfl (by simp only [List.length_cons, List.length_nil]; decide) dX10_init_45 (fun H locs O => ?_)
  have O : wL D [(h0, .inr (10, [.ref a8, .ref a18, .ref a26, .ref a34, .ref a43, .null, .null, .int 0, .int 0, .int 0])), (a8, .inl (b 2, 3, .inr (.inr (.inr (.inr (fun i => if i < 3 then some (r8 i) else none)))))), (r8 0, .inl (b 0, 12, .inl (fun _ => 0))), (r8 1, .inl (b 0, 12, .inl (fun _ => 0))), (r8 2, .inl (b 0, 12, .inl (fun _ => 0))), (a18, .inl (b 0, 12, .inl (fun _ => 0))), (a26, .inl (b 0, 12, .inl (fun _ => 0))), (a34, .inl (b 0, 12, .inl (fun _ => 0))), (a43, .inl (b 0, 128, .inl (fun _ => 0)))] A s.heap H _ := O
  refine lv_aload_n hx hb dX10_init_48 rfl (lv_at hl 0 rfl) ?_
  refine lv_sipush (v := 128) hx hb dX10_init_49 (by decide) ?_
  refine n_int (N' := 128) S hK O hA rfl (by decide) (by decide) (by decide) (Nat.le_of_ble_eq_true rfl) (Nat.le_of_ble_eq_true rfl) dX10_init_52 (fun a52 H O => ?_)
  have O : wL D [(h0, .inr (10, [.ref a8, .ref a18, .ref a26, .ref a34, .ref a43, .null, .null, .int 0, .int 0, .int 0])), (a8, .inl (b 2, 3, .inr (.inr (.inr (.inr (fun i => if i < 3 then some (r8 i) else none)))))), (r8 0, .inl (b 0, 12, .inl (fun _ => 0))), (r8 1, .inl (b 0, 12, .inl (fun _ => 0))), (r8 2, .inl (b 0, 12, .inl (fun _ => 0))), (a18, .inl (b 0, 12, .inl (fun _ => 0))), (a26, .inl (b 0, 12, .inl (fun _ => 0))), (a34, .inl (b 0, 12, .inl (fun _ => 0))), (a43, .inl (b 0, 128, .inl (fun _ => 0))), (a52, .inl (b 0, 128, .inl (fun _ => 0)))] A s.heap H _ := O
  refine n_putF (ty := .array .int) S hK O hi 0 rfl rfl inuX10 tyX10 tyX10_ok nmX10 5 (by decide) wd_3_15 rfl rfl (by decide +kernel) rfl rfl (by simp only [List.length_cons, List.length_nil]; decide) dX10_init_54 (fun H locs O => ?_)
  have O : wL D [(h0, .inr (10, [.ref a8, .ref a18, .ref a26, .ref a34, .ref a43, .ref a52, .null, .int 0, .int 0, .int 0])), (a8, .inl (b 2, 3, .inr (.inr (.inr (.inr (fun i => if i < 3 then some (r8 i) else none)))))), (r8 0, .inl (b 0, 12, .inl (fun _ => 0))), (r8 1, .inl (b 0, 12, .inl (fun _ => 0))), (r8 2, .inl (b 0, 12, .inl (fun _ => 0))), (a18, .inl (b 0, 12, .inl (fun _ => 0))), (a26, .inl (b 0, 12, .inl (fun _ => 0))), (a34, .inl (b 0, 12, .inl (fun _ => 0))), (a43, .inl (b 0, 128, .inl (fun _ => 0))), (a52, .inl (b 0, 128, .inl (fun _ => 0)))] A s.heap H _ := O
  refine lv_aload_n hx hb dX10_init_57 rfl (lv_at hl 0 rfl) ?_
  refine lv_sipush (v := 128) hx hb dX10_init_58 (by decide) ?_
  refine n_int (N' := 128) S hK O hA rfl (by decide) (by decide) (by decide) (Nat.le_of_ble_eq_true rfl) (Nat.le_of_ble_eq_true rfl) dX10_init_61 (fun a61 H O => ?_)
  have O : wL D [(h0, .inr (10, [.ref a8, .ref a18, .ref a26, .ref a34, .ref a43, .ref a52, .null, .int 0, .int 0, .int 0])), (a8, .inl (b 2, 3, .inr (.inr (.inr (.inr (fun i => if i < 3 then some (r8 i) else none)))))), (r8 0, .inl (b 0, 12, .inl (fun _ => 0))), (r8 1, .inl (b 0, 12, .inl (fun _ => 0))), (r8 2, .inl (b 0, 12, .inl (fun _ => 0))), (a18, .inl (b 0, 12, .inl (fun _ => 0))), (a26, .inl (b 0, 12, .inl (fun _ => 0))), (a34, .inl (b 0, 12, .inl (fun _ => 0))), (a43, .inl (b 0, 128, .inl (fun _ => 0))), (a52, .inl (b 0, 128, .inl (fun _ => 0))), (a61, .inl (b 0, 128, .inl (fun _ => 0)))] A s.heap H _ := O
  refine n_putF (ty := .array .int) S hK O hi 0 rfl rfl inuX10 tyX10 tyX10_ok nmX10 6 (by decide) wd_3_16 rfl rfl (by decide +kernel) rfl rfl (by simp only [List.length_cons, List.length_nil]; decide) dX10_init_63 (fun H locs O => ?_)
  have O : wL D [(h0, .inr (10, [.ref a8, .ref a18, .ref a26, .ref a34, .ref a43, .ref a52, .ref a61, .int 0, .int 0, .int 0])), (a8, .inl (b 2, 3, .inr (.inr (.inr (.inr (fun i => if i < 3 then some (r8 i) else none)))))), (r8 0, .inl (b 0, 12, .inl (fun _ => 0))), (r8 1, .inl (b 0, 12, .inl (fun _ => 0))), (r8 2, .inl (b 0, 12, .inl (fun _ => 0))), (a18, .inl (b 0, 12, .inl (fun _ => 0))), (a26, .inl (b 0, 12, .inl (fun _ => 0))), (a34, .inl (b 0, 12, .inl (fun _ => 0))), (a43, .inl (b 0, 128, .inl (fun _ => 0))), (a52, .inl (b 0, 128, .inl (fun _ => 0))), (a61, .inl (b 0, 128, .inl (fun _ => 0)))] A s.heap H _ := O
  rw [fun3 (f := r8) (g := fun i => (fun k => ([a8, r8 0, r8 1, r8 2, a18, a26, a34, a43, a52, a61] : List Nat).getD k 0) (1 + i)) rfl rfl rfl] at O
  exact n_vret S hlocks hr (fun k => ([a8, r8 0, r8 1, r8 2, a18, a26, a34, a43, a52, a61] : List Nat).getD k 0) O (Nat.le_of_ble_eq_true rfl) (Nat.le_of_ble_eq_true rfl) dX10_init_66
