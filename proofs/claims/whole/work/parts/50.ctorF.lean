/-! The class's constructor. -/
theorem gs_at {X U V : va_W} {x : Nat × va_E} : (((X ++ [x]) ++ U) ++ V)[X.length]? = some x := by
  rw [List.getElem?_append_left (by first | (simp; done) | (simp; omega)), List.getElem?_append_left (by first | (simp; done) | (simp; omega)), List.getElem?_append_right (Nat.le_refl _), Nat.sub_self]
  rfl
theorem gs_last {L Z : va_W} {x : Nat × va_E} : (L ++ (x :: Z))[L.length]? = some x := by
  rw [List.getElem?_append_right (Nat.le_refl _), Nat.sub_self]
  rfl
theorem gs_set {X U V : va_W} {x x2 : Nat × va_E} : (((X ++ [x]) ++ U) ++ V).set X.length x2 = (((X ++ [x2]) ++ U) ++ V) := by
  rw [List.set_append_left _ _ (by first | (simp; done) | (simp; omega)), List.set_append_left _ _ (by first | (simp; done) | (simp; omega)), List.set_append_right _ _ (Nat.le_refl _), Nat.sub_self]
  rfl
section NA
variable {p : Program} {l : Launch} {e : Env} {R : Room} {s : State} {m : MethodId} {args : Array Value} {below : List Frame} {meth : Method} {c : Code} {H : Heap} {locs : List Loc} {cells slots : Nat} {Q : State → Prop}
variable {cc : ByteArray} {pc nL idx : Nat} {ls : Array Slot} {rest st0 : List Value} {own : String} {D : va_G} {tys : List (ClassId × FieldType)} {A : Nat → Prop} {ws : va_W}
theorem n_astS {cA : ClassId} {E : String} (t0 : Nat) {X U Z : va_W} {a v n ci : Nat} {f : Nat → Option Nat} {fs : List Value} {r : vw_C} {i : Int32} {i' : Nat} (S : CallFix p m c cc nL s args wsU own) (hK : va_K D vwCl tys s) (O : wL D (((X ++ [(a, .inl (cA, n, .inr (.inr (.inr (.inr f)))))]) ++ U) ++ ((v, .inr (ci, fs)) :: Z)) A s.heap H locs) (ht : tys[t0]? = some (cA, .object E)) (hc : vwCl[ci]? = some r) (hasg : ∀ comp c0 : ClassId, s.vm.findClass E = some comp → s.vm.findClass r.1 = some c0 → s.vm.assignable c0 comp = true) (hi : i.toNatClampNeg = i') (hin : vp_in i n) (hdg : decode cc pc = .ok (.aastore, 1))
    (kk : ∀ (H1 : Heap) (locs1 : List Loc), wL D (((X ++ [(a, .inl (cA, n, .inr (.inr (.inr (.inr (va_up f i' (some v)))))))]) ++ U) ++ ((v, .inr (ci, fs)) :: Z)) A s.heap H1 locs1 → W p l e R s m args below meth c H1 locs1 cells slots Q (F0 m (pc + 1) ls rest)) : W p l e R s m args below meth c H locs cells slots Q (F0 m pc ls (.ref v :: .int i :: .ref a :: rest)) := by
  refine n_ast X.length t0 _ S hK O gs_at ht gs_last hc hasg hi hin hdg (fun H1 locs1 O1 => kk H1 locs1 ?_)
  rw [gs_set] at O1
  exact O1
end NA
theorem lkN_X11_9 : LkN RX11 9 yX10_init cX10_init 1 := ⟨⟨"FellersOrder", List.mem_of_getElem? (i := 0) rfl⟩, wd_3_5, wd_1_14, wd_3_6, rfl, by decide +kernel⟩
theorem lkN_X11_18 : LkN RX11 18 yX7_init cX7_init 1 := ⟨⟨"FellersOrder", List.mem_of_getElem? (i := 1) rfl⟩, wd_3_17, wd_1_18, wd_3_18, rfl, by decide +kernel⟩
theorem lkN_X11_25 : LkN RX11 25 yX6_init cX6_init 1 := ⟨⟨"FellersOrder", List.mem_of_getElem? (i := 2) rfl⟩, wd_4_4, wd_1_22, wd_4_5, rfl, by decide +kernel⟩
theorem lkN_X11_32 : LkN RX11 32 yX2_init cX2_init 1 := ⟨⟨"FellersOrder", List.mem_of_getElem? (i := 3) rfl⟩, wd_4_8, wd_2_2, wd_4_9, rfl, by decide +kernel⟩
theorem lkN_X11_39 : LkN RX11 39 yX0_init cX0_init 1 := ⟨⟨"FellersOrder", List.mem_of_getElem? (i := 4) rfl⟩, wd_4_15, wd_2_6, wd_4_16, rfl, by decide +kernel⟩
theorem lkN_X11_46 : LkN RX11 46 yX4_init cX4_init 1 := ⟨⟨"FellersOrder", List.mem_of_getElem? (i := 5) rfl⟩, wd_4_19, wd_2_10, wd_4_20, rfl, by decide +kernel⟩
theorem lkN_X11_49 : LkN RX11 49 yX9_init cX9_init 1 := ⟨⟨"FellersOrder", List.mem_of_getElem? (i := 6) rfl⟩, wd_4_22, wd_2_13, wd_4_23, rfl, by decide +kernel⟩
theorem lkN_X11_52 : LkN RX11 52 yX3_init cX3_init 1 := ⟨⟨"FellersOrder", List.mem_of_getElem? (i := 8) rfl⟩, wd_5_0, wd_2_16, wd_5_1, rfl, by decide +kernel⟩
theorem lkN_X11_55 : LkN RX11 55 yX1_init cX1_init 1 := ⟨⟨"FellersOrder", List.mem_of_getElem? (i := 10) rfl⟩, wd_5_2, wd_2_19, wd_5_3, rfl, by decide +kernel⟩
theorem lkN_X11_58 : LkN RX11 58 yX5_init cX5_init 1 := ⟨⟨"FellersOrder", List.mem_of_getElem? (i := 12) rfl⟩, wd_5_4, wd_2_22, wd_5_5, rfl, by decide +kernel⟩
theorem lkN_X11_69 : LkN RX11 69 yX8_init cX8_init 1 := ⟨⟨"FellersOrder", List.mem_of_getElem? (i := 14) rfl⟩, wd_5_6, wd_3_3, wd_5_7, rfl, by decide +kernel⟩
def uF0 : St := fun k => if k = 12 then (fun j => if j = 2 ∨ j = 6 ∨ j = 8 then -1 else 0) else if 34 ≤ k ∧ k % 2 = 0 then (fun j => if j = 1 then -1 else 0) else fun _ => 0
set_option maxHeartbeats 40000000 in
set_option maxRecDepth 100000 in
theorem e46 (b : Nat → ClassId) (h : Nat → Nat) : wG 46 (gF b h) h uF0 = [(h 0, .inr (11, [.ref (h 1), .ref (h 12), .ref (h 18), .ref (h 20), .ref (h 25), .ref (h 27), .ref (h 33), .int 0])), (h 1, .inr (10, [.ref (h 2), .ref (h 6), .ref (h 7), .ref (h 8), .ref (h 9), .ref (h 10), .ref (h 11), .int 0, .int 0, .int 0])), (h 2, .inl (b 2, 3, .inr (.inr (.inr (.inr (fun i => if i < 3 then some (h (3 + i)) else none)))))), (h 3, .inl (b 0, 12, .inl (fun _ => 0))), (h 4, .inl (b 0, 12, .inl (fun _ => 0))), (h 5, .inl (b 0, 12, .inl (fun _ => 0))), (h 6, .inl (b 0, 12, .inl (fun _ => 0))), (h 7, .inl (b 0, 12, .inl (fun _ => 0))), (h 8, .inl (b 0, 12, .inl (fun _ => 0))), (h 9, .inl (b 0, 128, .inl (fun _ => 0))), (h 10, .inl (b 0, 128, .inl (fun _ => 0))), (h 11, .inl (b 0, 128, .inl (fun _ => 0))), (h 12, .inr (7, [.ref (h 13), .int 0, .int (-1), .ref (h 14), .ref (h 15), .ref (h 16), .int (-1), .ref (h 17), .int (-1)])), (h 13, .inl (b 0, 12, .inl (fun _ => 0))), (h 14, .inl (b 0, 4096, .inl (fun _ => 0))), (h 15, .inl (b 0, 4096, .inl (fun _ => 0))), (h 16, .inl (b 0, 12, .inl (fun _ => 0))), (h 17, .inl (b 0, 12, .inl (fun _ => 0))), (h 18, .inr (6, [.ref (h 19), .int 0])), (h 19, .inl (b 0, 12, .inl (fun _ => 0))), (h 20, .inr (2, [.ref (h 21), .ref (h 22), .ref (h 23), .ref (h 24), .int 0, .int 0])), (h 21, .inl (b 0, 12, .inl (fun _ => 0))), (h 22, .inl (b 0, 12, .inl (fun _ => 0))), (h 23, .inl (b 0, 12, .inl (fun _ => 0))), (h 24, .inl (b 0, 12, .inl (fun _ => 0))), (h 25, .inr (0, [.ref (h 26), .int 0, .int 0, .int 0, .int 0, .int 0])), (h 26, .inl (b 0, 50, .inl (fun _ => 0))), (h 27, .inl (b 3, 5, .inr (.inr (.inr (.inr (fun i => if i < 5 then some (h (28 + i)) else none)))))), (h 28, .inr (4, [])), (h 29, .inr (9, [])), (h 30, .inr (3, [])), (h 31, .inr (1, [])), (h 32, .inr (5, [])), (h 33, .inl (b 4, 6, .inr (.inr (.inr (.inr (fun i => if i < 6 then some (h (34 + 2 * i)) else none)))))), (h 34, .inr (8, [.ref (h 35), .int (-1), .int 0])), (h 35, .inl (b 0, 20, .inl (fun _ => 0))), (h 36, .inr (8, [.ref (h 37), .int (-1), .int 0])), (h 37, .inl (b 0, 20, .inl (fun _ => 0))), (h 38, .inr (8, [.ref (h 39), .int (-1), .int 0])), (h 39, .inl (b 0, 20, .inl (fun _ => 0))), (h 40, .inr (8, [.ref (h 41), .int (-1), .int 0])), (h 41, .inl (b 0, 20, .inl (fun _ => 0))), (h 42, .inr (8, [.ref (h 43), .int (-1), .int 0])), (h 43, .inl (b 0, 20, .inl (fun _ => 0))), (h 44, .inr (8, [.ref (h 45), .int (-1), .int 0])), (h 45, .inl (b 0, 20, .inl (fun _ => 0)))] := by
  show [(h 0, gF b h 0 (uF0 0)), (h 1, gF b h 1 (uF0 1)), (h 2, gF b h 2 (uF0 2)), (h 3, gF b h 3 (uF0 3)), (h 4, gF b h 4 (uF0 4)), (h 5, gF b h 5 (uF0 5)), (h 6, gF b h 6 (uF0 6)), (h 7, gF b h 7 (uF0 7)), (h 8, gF b h 8 (uF0 8)), (h 9, gF b h 9 (uF0 9)), (h 10, gF b h 10 (uF0 10)), (h 11, gF b h 11 (uF0 11)), (h 12, gF b h 12 (uF0 12)), (h 13, gF b h 13 (uF0 13)), (h 14, gF b h 14 (uF0 14)), (h 15, gF b h 15 (uF0 15)), (h 16, gF b h 16 (uF0 16)), (h 17, gF b h 17 (uF0 17)), (h 18, gF b h 18 (uF0 18)), (h 19, gF b h 19 (uF0 19)), (h 20, gF b h 20 (uF0 20)), (h 21, gF b h 21 (uF0 21)), (h 22, gF b h 22 (uF0 22)), (h 23, gF b h 23 (uF0 23)), (h 24, gF b h 24 (uF0 24)), (h 25, gF b h 25 (uF0 25)), (h 26, gF b h 26 (uF0 26)), (h 27, gF b h 27 (uF0 27)), (h 28, gF b h 28 (uF0 28)), (h 29, gF b h 29 (uF0 29)), (h 30, gF b h 30 (uF0 30)), (h 31, gF b h 31 (uF0 31)), (h 32, gF b h 32 (uF0 32)), (h 33, gF b h 33 (uF0 33)), (h 34, gF b h 34 (uF0 34)), (h 35, gF b h 35 (uF0 35)), (h 36, gF b h 36 (uF0 36)), (h 37, gF b h 37 (uF0 37)), (h 38, gF b h 38 (uF0 38)), (h 39, gF b h 39 (uF0 39)), (h 40, gF b h 40 (uF0 40)), (h 41, gF b h 41 (uF0 41)), (h 42, gF b h 42 (uF0 42)), (h 43, gF b h 43 (uF0 43)), (h 44, gF b h 44 (uF0 44)), (h 45, gF b h 45 (uF0 45))] = _
  rfl
theorem fun5 {g : Nat → Nat} {a0 a1 a2 a3 a4 : Nat} (h0 : g 0 = a0) (h1 : g 1 = a1) (h2 : g 2 = a2) (h3 : g 3 = a3) (h4 : g 4 = a4) : (va_up (va_up (va_up (va_up (va_up (fun _ => none) 0 (some a0)) 1 (some a1)) 2 (some a2)) 3 (some a3)) 4 (some a4)) = (fun i => if i < 5 then some (g i) else none) := by
  subst h0 h1 h2 h3 h4
  funext i
  by_cases h : i < 5
  · rw [if_pos h]
    rcases (show i = 0 ∨ i = 1 ∨ i = 2 ∨ i = 3 ∨ i = 4 by omega) with rfl | rfl | rfl | rfl | rfl <;> rfl
  · rw [if_neg h]
    simp only [va_up]
    rw [if_neg (by omega), if_neg (by omega), if_neg (by omega), if_neg (by omega), if_neg (by omega)]
theorem fun6 {g : Nat → Nat} {a0 a1 a2 a3 a4 a5 : Nat} (h0 : g 0 = a0) (h1 : g 1 = a1) (h2 : g 2 = a2) (h3 : g 3 = a3) (h4 : g 4 = a4) (h5 : g 5 = a5) : (va_up (va_up (va_up (va_up (va_up (va_up (fun _ => none) 0 (some a0)) 1 (some a1)) 2 (some a2)) 3 (some a3)) 4 (some a4)) 5 (some a5)) = (fun i => if i < 6 then some (g i) else none) := by
  subst h0 h1 h2 h3 h4 h5
  funext i
  by_cases h : i < 6
  · rw [if_pos h]
    rcases (show i = 0 ∨ i = 1 ∨ i = 2 ∨ i = 3 ∨ i = 4 ∨ i = 5 by omega) with rfl | rfl | rfl | rfl | rfl | rfl <;> rfl
  · rw [if_neg h]
    simp only [va_up]
    rw [if_neg (by omega), if_neg (by omega), if_neg (by omega), if_neg (by omega), if_neg (by omega), if_neg (by omega)]
abbrev rm_X11_init : Room := { frames := 4, cells := 45, slots := 8979, locals := 100 }
set_option maxHeartbeats 40000000 in
set_option maxRecDepth 100000 in
theorem c_X11_init {l : Launch} {D : va_G} {b : Nat → ClassId} {h0 : Nat} : CtN l yX11_init cX11_init 2 rm_X11_init D (tyA b) h0 [(h0, .inr (11, [.null, .null, .null, .null, .null, .null, .null, .int 0]))] (fun q => wG 46 (gF b (hq h0 q)) (hq h0 q) uF0) 45 8979 := by
  refine CtN.of (plainFor_of_name (by decide)) (Nat.le_of_ble_eq_true rfl) ?_
  intro p e s m below meth c A ls S hK hNs hlocks hr hi hA O hl
  have S : CallFix p m c cX11_init 2 s _ wsU RX11 := S
  obtain ⟨hx, hb, hml, hown, hts⟩ := id S
  obtain ⟨H, hH⟩ : ∃ H, H = s.heap := ⟨_, rfl⟩
  have O : wL D [(h0, .inr (11, [.null, .null, .null, .null, .null, .null, .null, .int 0]))] A s.heap H [] := by rw [hH]; exact O
  rw [show F0 m 0 ls [] = F0 m 0 ls [] from rfl]
  suffices hgo : W p l e rm_X11_init s m _ below meth c H [] 0 0 _ (F0 m 0 ls []) by rw [hH] at hgo; exact hgo
  obtain ⟨T0, hT0⟩ : ∃ T : va_W, T = [] := ⟨_, rfl⟩
  have O : wL D ([(h0, .inr (11, [.null, .null, .null, .null, .null, .null, .null, .int 0]))] ++ T0) A s.heap H [] := by rw [hT0]; exact O
  refine lv_aload_n hx hb dX11_init_0 rfl (lv_at hl 0 rfl) ?_
  refine n_obj S wd_1_9 hl.1 dX11_init_1 (Nat.le_of_ble_eq_true rfl) (Nat.le_of_ble_eq_true rfl) (Nat.le_of_ble_eq_true rfl) ?_
  refine lv_aload_n hx hb dX11_init_4 rfl (lv_at hl 0 rfl) ?_
  refine n_new (ci := 10) (fs := [.null, .null, .null, .null, .null, .null, .null, .int 0, .int 0, .int 0]) S hK O hA inuX10 tyX10 tyX10_ok wd_1_12 wd_1_13 wd_1_14 rfl (fun j hj => by rcases (show j = 0 ∨ j = 1 ∨ j = 2 ∨ j = 3 ∨ j = 4 ∨ j = 5 ∨ j = 6 ∨ j = 7 ∨ j = 8 ∨ j = 9 by omega) with rfl | rfl | rfl | rfl | rfl | rfl | rfl | rfl | rfl | rfl <;> rfl) (Nat.le_of_ble_eq_true rfl) (Nat.le_of_ble_eq_true rfl) dX11_init_5 (fun a5_1 H O => ?_)
  have O : wL D (([(h0, .inr (11, [.null, .null, .null, .null, .null, .null, .null, .int 0]))] ++ T0) ++ [(a5_1, .inr (10, [.null, .null, .null, .null, .null, .null, .null, .int 0, .int 0, .int 0]))]) A s.heap H _ := O
  refine lv_dup hx hb dX11_init_8 rfl ?_
  refine n_call (wr := ([(h0, .inr (11, [.null, .null, .null, .null, .null, .null, .null, .int 0]))] ++ T0)) (w0 := [(a5_1, .inr (10, [.null, .null, .null, .null, .null, .null, .null, .int 0, .int 0, .int 0]))]) (rest := [.ref a5_1, .ref h0]) S hK hNs O hA (c_X10_init (b := b)) lkN_X11_9 rfl rfl ⟨Nat.le_of_ble_eq_true rfl, Nat.le_of_ble_eq_true rfl⟩ (Nat.le_of_ble_eq_true rfl) hl.1 ⟨Nat.le_of_ble_eq_true rfl, Nat.le_of_ble_eq_true rfl⟩ dX11_init_9 (fun q_a5_1 H locs O => ?_)
  have O : wL D (([(h0, .inr (11, [.null, .null, .null, .null, .null, .null, .null, .int 0]))] ++ T0) ++ B_X10 b a5_1 q_a5_1) A s.heap H _ := O
  obtain ⟨T1, hT1⟩ : ∃ T : va_W, T = T0 ++ B_X10 b a5_1 q_a5_1 := ⟨_, rfl⟩
  have O : wL D ([(h0, .inr (11, [.null, .null, .null, .null, .null, .null, .null, .int 0]))] ++ T1) A s.heap H locs := by rw [hT1, ← List.append_assoc]; exact O
  refine n_putF (ty := .object "FellersOrder$Yard") S hK O hi 0 rfl rfl inuX11 tyX11 tyX11_ok nmX11 0 (by decide) wd_1_15 rfl rfl (by decide +kernel) rfl rfl (by simp only [List.length_cons, List.length_nil]; decide) dX11_init_12 (fun H locs O => ?_)
  have O : wL D ([(h0, .inr (11, [.ref a5_1, .null, .null, .null, .null, .null, .null, .int 0]))] ++ T1) A s.heap H _ := O
  refine lv_aload_n hx hb dX11_init_15 rfl (lv_at hl 0 rfl) ?_
  refine n_new (ci := 7) (fs := [.null, .int 0, .int 0, .null, .null, .null, .int 0, .null, .int 0]) S hK O hA inuX7 tyX7 tyX7_ok wd_1_16 wd_1_17 wd_1_18 rfl (fun j hj => by rcases (show j = 0 ∨ j = 1 ∨ j = 2 ∨ j = 3 ∨ j = 4 ∨ j = 5 ∨ j = 6 ∨ j = 7 ∨ j = 8 by omega) with rfl | rfl | rfl | rfl | rfl | rfl | rfl | rfl | rfl <;> rfl) (Nat.le_of_ble_eq_true rfl) (Nat.le_of_ble_eq_true rfl) dX11_init_16 (fun a16_2 H O => ?_)
  have O : wL D (([(h0, .inr (11, [.ref a5_1, .null, .null, .null, .null, .null, .null, .int 0]))] ++ T1) ++ [(a16_2, .inr (7, [.null, .int 0, .int 0, .null, .null, .null, .int 0, .null, .int 0]))]) A s.heap H _ := O
  refine lv_dup hx hb dX11_init_19 rfl ?_
  refine n_call (wr := ([(h0, .inr (11, [.ref a5_1, .null, .null, .null, .null, .null, .null, .int 0]))] ++ T1)) (w0 := [(a16_2, .inr (7, [.null, .int 0, .int 0, .null, .null, .null, .int 0, .null, .int 0]))]) (rest := [.ref a16_2, .ref h0]) S hK hNs O hA (c_X7_init (b := b)) lkN_X11_18 rfl rfl ⟨Nat.le_of_ble_eq_true rfl, Nat.le_of_ble_eq_true rfl⟩ (Nat.le_of_ble_eq_true rfl) hl.1 ⟨Nat.le_of_ble_eq_true rfl, Nat.le_of_ble_eq_true rfl⟩ dX11_init_20 (fun q_a16_2 H locs O => ?_)
  have O : wL D (([(h0, .inr (11, [.ref a5_1, .null, .null, .null, .null, .null, .null, .int 0]))] ++ T1) ++ B_X7 b a16_2 q_a16_2) A s.heap H _ := O
  obtain ⟨T2, hT2⟩ : ∃ T : va_W, T = T1 ++ B_X7 b a16_2 q_a16_2 := ⟨_, rfl⟩
  have O : wL D ([(h0, .inr (11, [.ref a5_1, .null, .null, .null, .null, .null, .null, .int 0]))] ++ T2) A s.heap H locs := by rw [hT2, ← List.append_assoc]; exact O
  refine n_putF (ty := .object "FellersOrder$Plan") S hK O hi 0 rfl rfl inuX11 tyX11 tyX11_ok nmX11 1 (by decide) wd_1_19 rfl rfl (by decide +kernel) rfl rfl (by simp only [List.length_cons, List.length_nil]; decide) dX11_init_23 (fun H locs O => ?_)
  have O : wL D ([(h0, .inr (11, [.ref a5_1, .ref a16_2, .null, .null, .null, .null, .null, .int 0]))] ++ T2) A s.heap H _ := O
  refine lv_aload_n hx hb dX11_init_26 rfl (lv_at hl 0 rfl) ?_
  refine n_new (ci := 6) (fs := [.null, .int 0]) S hK O hA inuX6 tyX6 tyX6_ok wd_1_20 wd_1_21 wd_1_22 rfl (fun j hj => by rcases (show j = 0 ∨ j = 1 by omega) with rfl | rfl <;> rfl) (Nat.le_of_ble_eq_true rfl) (Nat.le_of_ble_eq_true rfl) dX11_init_27 (fun a27_3 H O => ?_)
  have O : wL D (([(h0, .inr (11, [.ref a5_1, .ref a16_2, .null, .null, .null, .null, .null, .int 0]))] ++ T2) ++ [(a27_3, .inr (6, [.null, .int 0]))]) A s.heap H _ := O
  refine lv_dup hx hb dX11_init_30 rfl ?_
  refine n_call (wr := ([(h0, .inr (11, [.ref a5_1, .ref a16_2, .null, .null, .null, .null, .null, .int 0]))] ++ T2)) (w0 := [(a27_3, .inr (6, [.null, .int 0]))]) (rest := [.ref a27_3, .ref h0]) S hK hNs O hA (c_X6_init (b := b)) lkN_X11_25 rfl rfl ⟨Nat.le_of_ble_eq_true rfl, Nat.le_of_ble_eq_true rfl⟩ (Nat.le_of_ble_eq_true rfl) hl.1 ⟨Nat.le_of_ble_eq_true rfl, Nat.le_of_ble_eq_true rfl⟩ dX11_init_31 (fun q_a27_3 H locs O => ?_)
  have O : wL D (([(h0, .inr (11, [.ref a5_1, .ref a16_2, .null, .null, .null, .null, .null, .int 0]))] ++ T2) ++ B_X6 b a27_3 q_a27_3) A s.heap H _ := O
  obtain ⟨T3, hT3⟩ : ∃ T : va_W, T = T2 ++ B_X6 b a27_3 q_a27_3 := ⟨_, rfl⟩
  have O : wL D ([(h0, .inr (11, [.ref a5_1, .ref a16_2, .null, .null, .null, .null, .null, .int 0]))] ++ T3) A s.heap H locs := by rw [hT3, ← List.append_assoc]; exact O
  refine n_putF (ty := .object "FellersOrder$Line") S hK O hi 0 rfl rfl inuX11 tyX11 tyX11_ok nmX11 2 (by decide) wd_1_23 rfl rfl (by decide +kernel) rfl rfl (by simp only [List.length_cons, List.length_nil]; decide) dX11_init_34 (fun H locs O => ?_)
  have O : wL D ([(h0, .inr (11, [.ref a5_1, .ref a16_2, .ref a27_3, .null, .null, .null, .null, .int 0]))] ++ T3) A s.heap H _ := O
  refine lv_aload_n hx hb dX11_init_37 rfl (lv_at hl 0 rfl) ?_
  refine n_new (ci := 2) (fs := [.null, .null, .null, .null, .int 0, .int 0]) S hK O hA inuX2 tyX2 tyX2_ok wd_2_0 wd_2_1 wd_2_2 rfl (fun j hj => by rcases (show j = 0 ∨ j = 1 ∨ j = 2 ∨ j = 3 ∨ j = 4 ∨ j = 5 by omega) with rfl | rfl | rfl | rfl | rfl | rfl <;> rfl) (Nat.le_of_ble_eq_true rfl) (Nat.le_of_ble_eq_true rfl) dX11_init_38 (fun a38_4 H O => ?_)
  have O : wL D (([(h0, .inr (11, [.ref a5_1, .ref a16_2, .ref a27_3, .null, .null, .null, .null, .int 0]))] ++ T3) ++ [(a38_4, .inr (2, [.null, .null, .null, .null, .int 0, .int 0]))]) A s.heap H _ := O
  refine lv_dup hx hb dX11_init_41 rfl ?_
  refine n_call (wr := ([(h0, .inr (11, [.ref a5_1, .ref a16_2, .ref a27_3, .null, .null, .null, .null, .int 0]))] ++ T3)) (w0 := [(a38_4, .inr (2, [.null, .null, .null, .null, .int 0, .int 0]))]) (rest := [.ref a38_4, .ref h0]) S hK hNs O hA (c_X2_init (b := b)) lkN_X11_32 rfl rfl ⟨Nat.le_of_ble_eq_true rfl, Nat.le_of_ble_eq_true rfl⟩ (Nat.le_of_ble_eq_true rfl) hl.1 ⟨Nat.le_of_ble_eq_true rfl, Nat.le_of_ble_eq_true rfl⟩ dX11_init_42 (fun q_a38_4 H locs O => ?_)
  have O : wL D (([(h0, .inr (11, [.ref a5_1, .ref a16_2, .ref a27_3, .null, .null, .null, .null, .int 0]))] ++ T3) ++ B_X2 b a38_4 q_a38_4) A s.heap H _ := O
  obtain ⟨T4, hT4⟩ : ∃ T : va_W, T = T3 ++ B_X2 b a38_4 q_a38_4 := ⟨_, rfl⟩
  have O : wL D ([(h0, .inr (11, [.ref a5_1, .ref a16_2, .ref a27_3, .null, .null, .null, .null, .int 0]))] ++ T4) A s.heap H locs := by rw [hT4, ← List.append_assoc]; exact O
  refine n_putF (ty := .object "FellersOrder$History") S hK O hi 0 rfl rfl inuX11 tyX11 tyX11_ok nmX11 3 (by decide) wd_2_3 rfl rfl (by decide +kernel) rfl rfl (by simp only [List.length_cons, List.length_nil]; decide) dX11_init_45 (fun H locs O => ?_)
  have O : wL D ([(h0, .inr (11, [.ref a5_1, .ref a16_2, .ref a27_3, .ref a38_4, .null, .null, .null, .int 0]))] ++ T4) A s.heap H _ := O
  refine lv_aload_n hx hb dX11_init_48 rfl (lv_at hl 0 rfl) ?_
  refine n_new (ci := 0) (fs := [.null, .int 0, .int 0, .int 0, .int 0, .int 0]) S hK O hA inuX0 tyX0 tyX0_ok wd_2_4 wd_2_5 wd_2_6 rfl (fun j hj => by rcases (show j = 0 ∨ j = 1 ∨ j = 2 ∨ j = 3 ∨ j = 4 ∨ j = 5 by omega) with rfl | rfl | rfl | rfl | rfl | rfl <;> rfl) (Nat.le_of_ble_eq_true rfl) (Nat.le_of_ble_eq_true rfl) dX11_init_49 (fun a49_5 H O => ?_)
  have O : wL D (([(h0, .inr (11, [.ref a5_1, .ref a16_2, .ref a27_3, .ref a38_4, .null, .null, .null, .int 0]))] ++ T4) ++ [(a49_5, .inr (0, [.null, .int 0, .int 0, .int 0, .int 0, .int 0]))]) A s.heap H _ := O
  refine lv_dup hx hb dX11_init_52 rfl ?_
  refine n_call (wr := ([(h0, .inr (11, [.ref a5_1, .ref a16_2, .ref a27_3, .ref a38_4, .null, .null, .null, .int 0]))] ++ T4)) (w0 := [(a49_5, .inr (0, [.null, .int 0, .int 0, .int 0, .int 0, .int 0]))]) (rest := [.ref a49_5, .ref h0]) S hK hNs O hA (c_X0_init (b := b)) lkN_X11_39 rfl rfl ⟨Nat.le_of_ble_eq_true rfl, Nat.le_of_ble_eq_true rfl⟩ (Nat.le_of_ble_eq_true rfl) hl.1 ⟨Nat.le_of_ble_eq_true rfl, Nat.le_of_ble_eq_true rfl⟩ dX11_init_53 (fun q_a49_5 H locs O => ?_)
  have O : wL D (([(h0, .inr (11, [.ref a5_1, .ref a16_2, .ref a27_3, .ref a38_4, .null, .null, .null, .int 0]))] ++ T4) ++ B_X0 b a49_5 q_a49_5) A s.heap H _ := O
  obtain ⟨T5, hT5⟩ : ∃ T : va_W, T = T4 ++ B_X0 b a49_5 q_a49_5 := ⟨_, rfl⟩
  have O : wL D ([(h0, .inr (11, [.ref a5_1, .ref a16_2, .ref a27_3, .ref a38_4, .null, .null, .null, .int 0]))] ++ T5) A s.heap H locs := by rw [hT5, ← List.append_assoc]; exact O
  refine n_putF (ty := .object "FellersOrder$Acting") S hK O hi 0 rfl rfl inuX11 tyX11 tyX11_ok nmX11 4 (by decide) wd_2_7 rfl rfl (by decide +kernel) rfl rfl (by simp only [List.length_cons, List.length_nil]; decide) dX11_init_56 (fun H locs O => ?_)
  have O : wL D ([(h0, .inr (11, [.ref a5_1, .ref a16_2, .ref a27_3, .ref a38_4, .ref a49_5, .null, .null, .int 0]))] ++ T5) A s.heap H _ := O
  refine lv_aload_n hx hb dX11_init_59 rfl (lv_at hl 0 rfl) ?_
  refine lv_iconst (v := 5) hx hb dX11_init_60 (by decide) ?_
  refine n_newq (N' := 5) 3 S hK O hA wd_2_8 (hNs.1 _ (List.mem_of_getElem? (i := 28) rfl)) rfl (by decide) (by decide) (by decide) (Nat.le_of_ble_eq_true rfl) (Nat.le_of_ble_eq_true rfl) dX11_init_61 (fun a61 H O => ?_)
  obtain ⟨U1, hU1⟩ : ∃ T : va_W, T = [] := ⟨_, rfl⟩
  have O : wL D ((([(h0, .inr (11, [.ref a5_1, .ref a16_2, .ref a27_3, .ref a38_4, .ref a49_5, .null, .null, .int 0]))] ++ T5) ++ [(a61, .inl (b 3, 5, .inr (.inr (.inr (.inr (fun _ => none))))))]) ++ U1) A s.heap H locs := by rw [hU1, List.append_nil]; exact O
  refine lv_dup hx hb dX11_init_64 rfl ?_
  refine lv_iconst (v := 0) hx hb dX11_init_65 (by decide) ?_
  refine n_new (ci := 4) (fs := []) S hK O hA inuX4 tyX4 tyX4_ok wd_2_8 wd_2_9 wd_2_10 rfl (fun j hj => by exact absurd hj (Nat.not_lt_zero j)) (Nat.le_of_ble_eq_true rfl) (Nat.le_of_ble_eq_true rfl) dX11_init_66 (fun a66_6 H O => ?_)
  have O : wL D (((([(h0, .inr (11, [.ref a5_1, .ref a16_2, .ref a27_3, .ref a38_4, .ref a49_5, .null, .null, .int 0]))] ++ T5) ++ [(a61, .inl (b 3, 5, .inr (.inr (.inr (.inr (fun _ => none))))))]) ++ U1) ++ [(a66_6, .inr (4, []))]) A s.heap H _ := O
  refine lv_dup hx hb dX11_init_69 rfl ?_
  refine n_call (wr := ((([(h0, .inr (11, [.ref a5_1, .ref a16_2, .ref a27_3, .ref a38_4, .ref a49_5, .null, .null, .int 0]))] ++ T5) ++ [(a61, .inl (b 3, 5, .inr (.inr (.inr (.inr (fun _ => none))))))]) ++ U1)) (w0 := [(a66_6, .inr (4, []))]) (rest := [.ref a66_6, .int 0, .ref a61, .ref a61, .ref h0]) S hK hNs O hA (c_X4_init (b := b) (ci := 4)) lkN_X11_46 rfl rfl ⟨Nat.le_of_ble_eq_true rfl, Nat.le_of_ble_eq_true rfl⟩ (Nat.le_of_ble_eq_true rfl) hl.1 ⟨Nat.le_of_ble_eq_true rfl, Nat.le_of_ble_eq_true rfl⟩ dX11_init_70 (fun q_a66_6 H locs O => ?_)
  have O : wL D (((([(h0, .inr (11, [.ref a5_1, .ref a16_2, .ref a27_3, .ref a38_4, .ref a49_5, .null, .null, .int 0]))] ++ T5) ++ [(a61, .inl (b 3, 5, .inr (.inr (.inr (.inr (fun _ => none))))))]) ++ U1) ++ [(a66_6, .inr (4, []))]) A s.heap H _ := O
  refine n_astS (X := ([(h0, .inr (11, [.ref a5_1, .ref a16_2, .ref a27_3, .ref a38_4, .ref a49_5, .null, .null, .int 0]))] ++ T5)) (U := U1) (i' := 0) 3 S hK O rfl rfl (fun comp c0 h1 h2 => vb_asgS comp c0 h1 h2) (by decide) (by unfold vp_in; decide) dX11_init_73 (fun H locs O => ?_)
  have O : wL D (((([(h0, .inr (11, [.ref a5_1, .ref a16_2, .ref a27_3, .ref a38_4, .ref a49_5, .null, .null, .int 0]))] ++ T5) ++ [(a61, .inl (b 3, 5, .inr (.inr (.inr (.inr (va_up (fun _ => none) 0 (some a66_6)))))))]) ++ U1) ++ [(a66_6, .inr (4, []))]) A s.heap H _ := O
  obtain ⟨U2, hU2⟩ : ∃ T : va_W, T = U1 ++ [(a66_6, .inr (4, []))] := ⟨_, rfl⟩
  have O : wL D ((([(h0, .inr (11, [.ref a5_1, .ref a16_2, .ref a27_3, .ref a38_4, .ref a49_5, .null, .null, .int 0]))] ++ T5) ++ [(a61, .inl (b 3, 5, .inr (.inr (.inr (.inr (va_up (fun _ => none) 0 (some a66_6)))))))]) ++ U2) A s.heap H locs := by rw [hU2, ← List.append_assoc]; exact O
  refine lv_dup hx hb dX11_init_74 rfl ?_
  refine lv_iconst (v := 1) hx hb dX11_init_75 (by decide) ?_
  refine n_new (ci := 9) (fs := []) S hK O hA inuX9 tyX9 tyX9_ok wd_2_11 wd_2_12 wd_2_13 rfl (fun j hj => by exact absurd hj (Nat.not_lt_zero j)) (Nat.le_of_ble_eq_true rfl) (Nat.le_of_ble_eq_true rfl) dX11_init_76 (fun a76_7 H O => ?_)
  have O : wL D (((([(h0, .inr (11, [.ref a5_1, .ref a16_2, .ref a27_3, .ref a38_4, .ref a49_5, .null, .null, .int 0]))] ++ T5) ++ [(a61, .inl (b 3, 5, .inr (.inr (.inr (.inr (va_up (fun _ => none) 0 (some a66_6)))))))]) ++ U2) ++ [(a76_7, .inr (9, []))]) A s.heap H _ := O
  refine lv_dup hx hb dX11_init_79 rfl ?_
  refine n_call (wr := ((([(h0, .inr (11, [.ref a5_1, .ref a16_2, .ref a27_3, .ref a38_4, .ref a49_5, .null, .null, .int 0]))] ++ T5) ++ [(a61, .inl (b 3, 5, .inr (.inr (.inr (.inr (va_up (fun _ => none) 0 (some a66_6)))))))]) ++ U2)) (w0 := [(a76_7, .inr (9, []))]) (rest := [.ref a76_7, .int 1, .ref a61, .ref a61, .ref h0]) S hK hNs O hA (c_X9_init (b := b) (ci := 9)) lkN_X11_49 rfl rfl ⟨Nat.le_of_ble_eq_true rfl, Nat.le_of_ble_eq_true rfl⟩ (Nat.le_of_ble_eq_true rfl) hl.1 ⟨Nat.le_of_ble_eq_true rfl, Nat.le_of_ble_eq_true rfl⟩ dX11_init_80 (fun q_a76_7 H locs O => ?_)
  have O : wL D (((([(h0, .inr (11, [.ref a5_1, .ref a16_2, .ref a27_3, .ref a38_4, .ref a49_5, .null, .null, .int 0]))] ++ T5) ++ [(a61, .inl (b 3, 5, .inr (.inr (.inr (.inr (va_up (fun _ => none) 0 (some a66_6)))))))]) ++ U2) ++ [(a76_7, .inr (9, []))]) A s.heap H _ := O
  refine n_astS (X := ([(h0, .inr (11, [.ref a5_1, .ref a16_2, .ref a27_3, .ref a38_4, .ref a49_5, .null, .null, .int 0]))] ++ T5)) (U := U2) (i' := 1) 3 S hK O rfl rfl (vb_asgC (hNs.1 _ (List.mem_of_getElem? (i := 23) rfl))) (by decide) (by unfold vp_in; decide) dX11_init_83 (fun H locs O => ?_)
  have O : wL D (((([(h0, .inr (11, [.ref a5_1, .ref a16_2, .ref a27_3, .ref a38_4, .ref a49_5, .null, .null, .int 0]))] ++ T5) ++ [(a61, .inl (b 3, 5, .inr (.inr (.inr (.inr (va_up (va_up (fun _ => none) 0 (some a66_6)) 1 (some a76_7)))))))]) ++ U2) ++ [(a76_7, .inr (9, []))]) A s.heap H _ := O
  obtain ⟨U3, hU3⟩ : ∃ T : va_W, T = U2 ++ [(a76_7, .inr (9, []))] := ⟨_, rfl⟩
  have O : wL D ((([(h0, .inr (11, [.ref a5_1, .ref a16_2, .ref a27_3, .ref a38_4, .ref a49_5, .null, .null, .int 0]))] ++ T5) ++ [(a61, .inl (b 3, 5, .inr (.inr (.inr (.inr (va_up (va_up (fun _ => none) 0 (some a66_6)) 1 (some a76_7)))))))]) ++ U3) A s.heap H locs := by rw [hU3, ← List.append_assoc]; exact O
  refine lv_dup hx hb dX11_init_84 rfl ?_
  refine lv_iconst (v := 2) hx hb dX11_init_85 (by decide) ?_
  refine n_new (ci := 3) (fs := []) S hK O hA inuX3 tyX3 tyX3_ok wd_2_14 wd_2_15 wd_2_16 rfl (fun j hj => by exact absurd hj (Nat.not_lt_zero j)) (Nat.le_of_ble_eq_true rfl) (Nat.le_of_ble_eq_true rfl) dX11_init_86 (fun a86_8 H O => ?_)
  have O : wL D (((([(h0, .inr (11, [.ref a5_1, .ref a16_2, .ref a27_3, .ref a38_4, .ref a49_5, .null, .null, .int 0]))] ++ T5) ++ [(a61, .inl (b 3, 5, .inr (.inr (.inr (.inr (va_up (va_up (fun _ => none) 0 (some a66_6)) 1 (some a76_7)))))))]) ++ U3) ++ [(a86_8, .inr (3, []))]) A s.heap H _ := O
  refine lv_dup hx hb dX11_init_89 rfl ?_
  refine n_call (wr := ((([(h0, .inr (11, [.ref a5_1, .ref a16_2, .ref a27_3, .ref a38_4, .ref a49_5, .null, .null, .int 0]))] ++ T5) ++ [(a61, .inl (b 3, 5, .inr (.inr (.inr (.inr (va_up (va_up (fun _ => none) 0 (some a66_6)) 1 (some a76_7)))))))]) ++ U3)) (w0 := [(a86_8, .inr (3, []))]) (rest := [.ref a86_8, .int 2, .ref a61, .ref a61, .ref h0]) S hK hNs O hA (c_X3_init (b := b) (ci := 3)) lkN_X11_52 rfl rfl ⟨Nat.le_of_ble_eq_true rfl, Nat.le_of_ble_eq_true rfl⟩ (Nat.le_of_ble_eq_true rfl) hl.1 ⟨Nat.le_of_ble_eq_true rfl, Nat.le_of_ble_eq_true rfl⟩ dX11_init_90 (fun q_a86_8 H locs O => ?_)
  have O : wL D (((([(h0, .inr (11, [.ref a5_1, .ref a16_2, .ref a27_3, .ref a38_4, .ref a49_5, .null, .null, .int 0]))] ++ T5) ++ [(a61, .inl (b 3, 5, .inr (.inr (.inr (.inr (va_up (va_up (fun _ => none) 0 (some a66_6)) 1 (some a76_7)))))))]) ++ U3) ++ [(a86_8, .inr (3, []))]) A s.heap H _ := O
  refine n_astS (X := ([(h0, .inr (11, [.ref a5_1, .ref a16_2, .ref a27_3, .ref a38_4, .ref a49_5, .null, .null, .int 0]))] ++ T5)) (U := U3) (i' := 2) 3 S hK O rfl rfl (vb_asgC (hNs.1 _ (List.mem_of_getElem? (i := 24) rfl))) (by decide) (by unfold vp_in; decide) dX11_init_93 (fun H locs O => ?_)
  have O : wL D (((([(h0, .inr (11, [.ref a5_1, .ref a16_2, .ref a27_3, .ref a38_4, .ref a49_5, .null, .null, .int 0]))] ++ T5) ++ [(a61, .inl (b 3, 5, .inr (.inr (.inr (.inr (va_up (va_up (va_up (fun _ => none) 0 (some a66_6)) 1 (some a76_7)) 2 (some a86_8)))))))]) ++ U3) ++ [(a86_8, .inr (3, []))]) A s.heap H _ := O
  obtain ⟨U4, hU4⟩ : ∃ T : va_W, T = U3 ++ [(a86_8, .inr (3, []))] := ⟨_, rfl⟩
  have O : wL D ((([(h0, .inr (11, [.ref a5_1, .ref a16_2, .ref a27_3, .ref a38_4, .ref a49_5, .null, .null, .int 0]))] ++ T5) ++ [(a61, .inl (b 3, 5, .inr (.inr (.inr (.inr (va_up (va_up (va_up (fun _ => none) 0 (some a66_6)) 1 (some a76_7)) 2 (some a86_8)))))))]) ++ U4) A s.heap H locs := by rw [hU4, ← List.append_assoc]; exact O
  refine lv_dup hx hb dX11_init_94 rfl ?_
  refine lv_iconst (v := 3) hx hb dX11_init_95 (by decide) ?_
  refine n_new (ci := 1) (fs := []) S hK O hA inuX1 tyX1 tyX1_ok wd_2_17 wd_2_18 wd_2_19 rfl (fun j hj => by exact absurd hj (Nat.not_lt_zero j)) (Nat.le_of_ble_eq_true rfl) (Nat.le_of_ble_eq_true rfl) dX11_init_96 (fun a96_9 H O => ?_)
  have O : wL D (((([(h0, .inr (11, [.ref a5_1, .ref a16_2, .ref a27_3, .ref a38_4, .ref a49_5, .null, .null, .int 0]))] ++ T5) ++ [(a61, .inl (b 3, 5, .inr (.inr (.inr (.inr (va_up (va_up (va_up (fun _ => none) 0 (some a66_6)) 1 (some a76_7)) 2 (some a86_8)))))))]) ++ U4) ++ [(a96_9, .inr (1, []))]) A s.heap H _ := O
  refine lv_dup hx hb dX11_init_99 rfl ?_
  refine n_call (wr := ((([(h0, .inr (11, [.ref a5_1, .ref a16_2, .ref a27_3, .ref a38_4, .ref a49_5, .null, .null, .int 0]))] ++ T5) ++ [(a61, .inl (b 3, 5, .inr (.inr (.inr (.inr (va_up (va_up (va_up (fun _ => none) 0 (some a66_6)) 1 (some a76_7)) 2 (some a86_8)))))))]) ++ U4)) (w0 := [(a96_9, .inr (1, []))]) (rest := [.ref a96_9, .int 3, .ref a61, .ref a61, .ref h0]) S hK hNs O hA (c_X1_init (b := b) (ci := 1)) lkN_X11_55 rfl rfl ⟨Nat.le_of_ble_eq_true rfl, Nat.le_of_ble_eq_true rfl⟩ (Nat.le_of_ble_eq_true rfl) hl.1 ⟨Nat.le_of_ble_eq_true rfl, Nat.le_of_ble_eq_true rfl⟩ dX11_init_100 (fun q_a96_9 H locs O => ?_)
  have O : wL D (((([(h0, .inr (11, [.ref a5_1, .ref a16_2, .ref a27_3, .ref a38_4, .ref a49_5, .null, .null, .int 0]))] ++ T5) ++ [(a61, .inl (b 3, 5, .inr (.inr (.inr (.inr (va_up (va_up (va_up (fun _ => none) 0 (some a66_6)) 1 (some a76_7)) 2 (some a86_8)))))))]) ++ U4) ++ [(a96_9, .inr (1, []))]) A s.heap H _ := O
  refine n_astS (X := ([(h0, .inr (11, [.ref a5_1, .ref a16_2, .ref a27_3, .ref a38_4, .ref a49_5, .null, .null, .int 0]))] ++ T5)) (U := U4) (i' := 3) 3 S hK O rfl rfl (vb_asgC (hNs.1 _ (List.mem_of_getElem? (i := 25) rfl))) (by decide) (by unfold vp_in; decide) dX11_init_103 (fun H locs O => ?_)
  have O : wL D (((([(h0, .inr (11, [.ref a5_1, .ref a16_2, .ref a27_3, .ref a38_4, .ref a49_5, .null, .null, .int 0]))] ++ T5) ++ [(a61, .inl (b 3, 5, .inr (.inr (.inr (.inr (va_up (va_up (va_up (va_up (fun _ => none) 0 (some a66_6)) 1 (some a76_7)) 2 (some a86_8)) 3 (some a96_9)))))))]) ++ U4) ++ [(a96_9, .inr (1, []))]) A s.heap H _ := O
  obtain ⟨U5, hU5⟩ : ∃ T : va_W, T = U4 ++ [(a96_9, .inr (1, []))] := ⟨_, rfl⟩
  have O : wL D ((([(h0, .inr (11, [.ref a5_1, .ref a16_2, .ref a27_3, .ref a38_4, .ref a49_5, .null, .null, .int 0]))] ++ T5) ++ [(a61, .inl (b 3, 5, .inr (.inr (.inr (.inr (va_up (va_up (va_up (va_up (fun _ => none) 0 (some a66_6)) 1 (some a76_7)) 2 (some a86_8)) 3 (some a96_9)))))))]) ++ U5) A s.heap H locs := by rw [hU5, ← List.append_assoc]; exact O
  refine lv_dup hx hb dX11_init_104 rfl ?_
  refine lv_iconst (v := 4) hx hb dX11_init_105 (by decide) ?_
  refine n_new (ci := 5) (fs := []) S hK O hA inuX5 tyX5 tyX5_ok wd_2_20 wd_2_21 wd_2_22 rfl (fun j hj => by exact absurd hj (Nat.not_lt_zero j)) (Nat.le_of_ble_eq_true rfl) (Nat.le_of_ble_eq_true rfl) dX11_init_106 (fun a106_10 H O => ?_)
  have O : wL D (((([(h0, .inr (11, [.ref a5_1, .ref a16_2, .ref a27_3, .ref a38_4, .ref a49_5, .null, .null, .int 0]))] ++ T5) ++ [(a61, .inl (b 3, 5, .inr (.inr (.inr (.inr (va_up (va_up (va_up (va_up (fun _ => none) 0 (some a66_6)) 1 (some a76_7)) 2 (some a86_8)) 3 (some a96_9)))))))]) ++ U5) ++ [(a106_10, .inr (5, []))]) A s.heap H _ := O
  refine lv_dup hx hb dX11_init_109 rfl ?_
  refine n_call (wr := ((([(h0, .inr (11, [.ref a5_1, .ref a16_2, .ref a27_3, .ref a38_4, .ref a49_5, .null, .null, .int 0]))] ++ T5) ++ [(a61, .inl (b 3, 5, .inr (.inr (.inr (.inr (va_up (va_up (va_up (va_up (fun _ => none) 0 (some a66_6)) 1 (some a76_7)) 2 (some a86_8)) 3 (some a96_9)))))))]) ++ U5)) (w0 := [(a106_10, .inr (5, []))]) (rest := [.ref a106_10, .int 4, .ref a61, .ref a61, .ref h0]) S hK hNs O hA (c_X5_init (b := b) (ci := 5)) lkN_X11_58 rfl rfl ⟨Nat.le_of_ble_eq_true rfl, Nat.le_of_ble_eq_true rfl⟩ (Nat.le_of_ble_eq_true rfl) hl.1 ⟨Nat.le_of_ble_eq_true rfl, Nat.le_of_ble_eq_true rfl⟩ dX11_init_110 (fun q_a106_10 H locs O => ?_)
  have O : wL D (((([(h0, .inr (11, [.ref a5_1, .ref a16_2, .ref a27_3, .ref a38_4, .ref a49_5, .null, .null, .int 0]))] ++ T5) ++ [(a61, .inl (b 3, 5, .inr (.inr (.inr (.inr (va_up (va_up (va_up (va_up (fun _ => none) 0 (some a66_6)) 1 (some a76_7)) 2 (some a86_8)) 3 (some a96_9)))))))]) ++ U5) ++ [(a106_10, .inr (5, []))]) A s.heap H _ := O
  refine n_astS (X := ([(h0, .inr (11, [.ref a5_1, .ref a16_2, .ref a27_3, .ref a38_4, .ref a49_5, .null, .null, .int 0]))] ++ T5)) (U := U5) (i' := 4) 3 S hK O rfl rfl (vb_asgC (hNs.1 _ (List.mem_of_getElem? (i := 26) rfl))) (by decide) (by unfold vp_in; decide) dX11_init_113 (fun H locs O => ?_)
  have O : wL D (((([(h0, .inr (11, [.ref a5_1, .ref a16_2, .ref a27_3, .ref a38_4, .ref a49_5, .null, .null, .int 0]))] ++ T5) ++ [(a61, .inl (b 3, 5, .inr (.inr (.inr (.inr (va_up (va_up (va_up (va_up (va_up (fun _ => none) 0 (some a66_6)) 1 (some a76_7)) 2 (some a86_8)) 3 (some a96_9)) 4 (some a106_10)))))))]) ++ U5) ++ [(a106_10, .inr (5, []))]) A s.heap H _ := O
  obtain ⟨U6, hU6⟩ : ∃ T : va_W, T = U5 ++ [(a106_10, .inr (5, []))] := ⟨_, rfl⟩
  have O : wL D ((([(h0, .inr (11, [.ref a5_1, .ref a16_2, .ref a27_3, .ref a38_4, .ref a49_5, .null, .null, .int 0]))] ++ T5) ++ [(a61, .inl (b 3, 5, .inr (.inr (.inr (.inr (va_up (va_up (va_up (va_up (va_up (fun _ => none) 0 (some a66_6)) 1 (some a76_7)) 2 (some a86_8)) 3 (some a96_9)) 4 (some a106_10)))))))]) ++ U6) A s.heap H locs := by rw [hU6, ← List.append_assoc]; exact O
  refine n_putF (ty := .array (.object "FellersOrder$JobKind")) S hK O hi 0 rfl rfl inuX11 tyX11 tyX11_ok nmX11 5 (by decide) wd_2_23 rfl rfl (by decide +kernel) rfl rfl (by simp only [List.length_cons, List.length_nil]; decide) dX11_init_114 (fun H locs O => ?_)
  have O : wL D ((([(h0, .inr (11, [.ref a5_1, .ref a16_2, .ref a27_3, .ref a38_4, .ref a49_5, .ref a61, .null, .int 0]))] ++ T5) ++ [(a61, .inl (b 3, 5, .inr (.inr (.inr (.inr (va_up (va_up (va_up (va_up (va_up (fun _ => none) 0 (some a66_6)) 1 (some a76_7)) 2 (some a86_8)) 3 (some a96_9)) 4 (some a106_10)))))))]) ++ U6) A s.heap H _ := O
  refine lv_aload_n hx hb dX11_init_117 rfl (lv_at hl 0 rfl) ?_
  refine lv_bipush (v := 6) hx hb dX11_init_118 (by decide) ?_
  obtain ⟨T6, hT6⟩ : ∃ T : va_W, T = (T5 ++ [(a61, .inl (b 3, 5, .inr (.inr (.inr (.inr (va_up (va_up (va_up (va_up (va_up (fun _ => none) 0 (some a66_6)) 1 (some a76_7)) 2 (some a86_8)) 3 (some a96_9)) 4 (some a106_10)))))))]) ++ U6 := ⟨_, rfl⟩
  have O : wL D ([(h0, .inr (11, [.ref a5_1, .ref a16_2, .ref a27_3, .ref a38_4, .ref a49_5, .ref a61, .null, .int 0]))] ++ T6) A s.heap H locs := by rw [hT6, ← List.append_assoc, ← List.append_assoc]; exact O
  refine n_newq (N' := 6) 4 S hK O hA wd_3_0 (hNs.1 _ (List.mem_of_getElem? (i := 29) rfl)) rfl (by decide) (by decide) (by decide) (Nat.le_of_ble_eq_true rfl) (Nat.le_of_ble_eq_true rfl) dX11_init_120 (fun a120 H O => ?_)
  obtain ⟨U7, hU7⟩ : ∃ T : va_W, T = [] := ⟨_, rfl⟩
  have O : wL D ((([(h0, .inr (11, [.ref a5_1, .ref a16_2, .ref a27_3, .ref a38_4, .ref a49_5, .ref a61, .null, .int 0]))] ++ T6) ++ [(a120, .inl (b 4, 6, .inr (.inr (.inr (.inr (fun _ => none))))))]) ++ U7) A s.heap H locs := by rw [hU7, List.append_nil]; exact O
  refine n_putF (ty := .array (.object "FellersOrder$Sheet")) S hK O hi 0 rfl rfl inuX11 tyX11 tyX11_ok nmX11 6 (by decide) wd_3_1 rfl rfl (by decide +kernel) rfl rfl (by simp only [List.length_cons, List.length_nil]; decide) dX11_init_123 (fun H locs O => ?_)
  have O : wL D ((([(h0, .inr (11, [.ref a5_1, .ref a16_2, .ref a27_3, .ref a38_4, .ref a49_5, .ref a61, .ref a120, .int 0]))] ++ T6) ++ [(a120, .inl (b 4, 6, .inr (.inr (.inr (.inr (fun _ => none))))))]) ++ U7) A s.heap H _ := O
  refine lv_iconst (v := 0) hx hb dX11_init_126 (by decide) ?_
  refine lv_istore_n (lv' := [(1, .int 0), (0, .ref h0)]) hx hb dX11_init_127 rfl hl (by decide) rfl (fun ls hl => ?_)
  refine lv_iload_n hx hb dX11_init_128 rfl (lv_at hl 0 rfl) ?_
  refine lv_bipush (v := 6) hx hb dX11_init_129 (by decide) ?_
  refine lv_icmp_ge (tgt := 153) hx hb dX11_init_131 (by decide) (fun q => absurd q (by decide)) (fun _ => ?_)
  refine lv_aload_n hx hb dX11_init_134 rfl (lv_at hl 1 rfl) ?_
  refine n_get S hK O 0 rfl rfl inuX11 6 (by decide) wd_3_1 rfl rfl dX11_init_135 ?_
  refine lv_iload_n hx hb dX11_init_138 rfl (lv_at hl 0 rfl) ?_
  refine n_new (ci := 8) (fs := [.null, .int 0, .int 0]) S hK O hA inuX8 tyX8 tyX8_ok wd_3_0 wd_3_2 wd_3_3 rfl (fun j hj => by rcases (show j = 0 ∨ j = 1 ∨ j = 2 by omega) with rfl | rfl | rfl <;> rfl) (Nat.le_of_ble_eq_true rfl) (Nat.le_of_ble_eq_true rfl) dX11_init_139 (fun a139_11 H O => ?_)
  have O : wL D (((([(h0, .inr (11, [.ref a5_1, .ref a16_2, .ref a27_3, .ref a38_4, .ref a49_5, .ref a61, .ref a120, .int 0]))] ++ T6) ++ [(a120, .inl (b 4, 6, .inr (.inr (.inr (.inr (fun _ => none))))))]) ++ U7) ++ [(a139_11, .inr (8, [.null, .int 0, .int 0]))]) A s.heap H _ := O
  refine lv_dup hx hb dX11_init_142 rfl ?_
  refine n_call (wr := ((([(h0, .inr (11, [.ref a5_1, .ref a16_2, .ref a27_3, .ref a38_4, .ref a49_5, .ref a61, .ref a120, .int 0]))] ++ T6) ++ [(a120, .inl (b 4, 6, .inr (.inr (.inr (.inr (fun _ => none))))))]) ++ U7)) (w0 := [(a139_11, .inr (8, [.null, .int 0, .int 0]))]) (rest := [.ref a139_11, .int 0, .ref a120]) S hK hNs O hA (c_X8_init (b := b)) lkN_X11_69 rfl rfl ⟨Nat.le_of_ble_eq_true rfl, Nat.le_of_ble_eq_true rfl⟩ (Nat.le_of_ble_eq_true rfl) hl.1 ⟨Nat.le_of_ble_eq_true rfl, Nat.le_of_ble_eq_true rfl⟩ dX11_init_143 (fun q_a139_11 H locs O => ?_)
  have O : wL D (((([(h0, .inr (11, [.ref a5_1, .ref a16_2, .ref a27_3, .ref a38_4, .ref a49_5, .ref a61, .ref a120, .int 0]))] ++ T6) ++ [(a120, .inl (b 4, 6, .inr (.inr (.inr (.inr (fun _ => none))))))]) ++ U7) ++ [(a139_11, .inr (8, [.ref (q_a139_11 0), .int (-1), .int 0])), (q_a139_11 0, .inl (b 0, 20, .inl (fun _ => 0)))]) A s.heap H _ := O
  refine n_astS (X := ([(h0, .inr (11, [.ref a5_1, .ref a16_2, .ref a27_3, .ref a38_4, .ref a49_5, .ref a61, .ref a120, .int 0]))] ++ T6)) (U := U7) (i' := 0) 4 S hK O rfl rfl (fun comp c0 h1 h2 => vb_asgS comp c0 h1 h2) (by decide) (by unfold vp_in; decide) dX11_init_146 (fun H locs O => ?_)
  have O : wL D (((([(h0, .inr (11, [.ref a5_1, .ref a16_2, .ref a27_3, .ref a38_4, .ref a49_5, .ref a61, .ref a120, .int 0]))] ++ T6) ++ [(a120, .inl (b 4, 6, .inr (.inr (.inr (.inr (va_up (fun _ => none) 0 (some a139_11)))))))]) ++ U7) ++ [(a139_11, .inr (8, [.ref (q_a139_11 0), .int (-1), .int 0])), (q_a139_11 0, .inl (b 0, 20, .inl (fun _ => 0)))]) A s.heap H _ := O
  obtain ⟨U8, hU8⟩ : ∃ T : va_W, T = U7 ++ [(a139_11, .inr (8, [.ref (q_a139_11 0), .int (-1), .int 0])), (q_a139_11 0, .inl (b 0, 20, .inl (fun _ => 0)))] := ⟨_, rfl⟩
  have O : wL D ((([(h0, .inr (11, [.ref a5_1, .ref a16_2, .ref a27_3, .ref a38_4, .ref a49_5, .ref a61, .ref a120, .int 0]))] ++ T6) ++ [(a120, .inl (b 4, 6, .inr (.inr (.inr (.inr (va_up (fun _ => none) 0 (some a139_11)))))))]) ++ U8) A s.heap H locs := by rw [hU8, ← List.append_assoc]; exact O
  refine lv_iinc (v := 1) (lv' := [(1, .int 1), (0, .ref h0)]) hx hb dX11_init_147 hl (k := 0) rfl (by decide) (by decide) rfl (fun ls hl => ?_)
  refine lv_goto (tgt := 128) hx hb dX11_init_150 (by decide) ?_
  refine lv_iload_n hx hb dX11_init_128 rfl (lv_at hl 0 rfl) ?_
  refine lv_bipush (v := 6) hx hb dX11_init_129 (by decide) ?_
  refine lv_icmp_ge (tgt := 153) hx hb dX11_init_131 (by decide) (fun q => absurd q (by decide)) (fun _ => ?_)
  refine lv_aload_n hx hb dX11_init_134 rfl (lv_at hl 1 rfl) ?_
  refine n_get S hK O 0 rfl rfl inuX11 6 (by decide) wd_3_1 rfl rfl dX11_init_135 ?_
  refine lv_iload_n hx hb dX11_init_138 rfl (lv_at hl 0 rfl) ?_
  refine n_new (ci := 8) (fs := [.null, .int 0, .int 0]) S hK O hA inuX8 tyX8 tyX8_ok wd_3_0 wd_3_2 wd_3_3 rfl (fun j hj => by rcases (show j = 0 ∨ j = 1 ∨ j = 2 by omega) with rfl | rfl | rfl <;> rfl) (Nat.le_of_ble_eq_true rfl) (Nat.le_of_ble_eq_true rfl) dX11_init_139 (fun a139_12 H O => ?_)
  have O : wL D (((([(h0, .inr (11, [.ref a5_1, .ref a16_2, .ref a27_3, .ref a38_4, .ref a49_5, .ref a61, .ref a120, .int 0]))] ++ T6) ++ [(a120, .inl (b 4, 6, .inr (.inr (.inr (.inr (va_up (fun _ => none) 0 (some a139_11)))))))]) ++ U8) ++ [(a139_12, .inr (8, [.null, .int 0, .int 0]))]) A s.heap H _ := O
  refine lv_dup hx hb dX11_init_142 rfl ?_
  refine n_call (wr := ((([(h0, .inr (11, [.ref a5_1, .ref a16_2, .ref a27_3, .ref a38_4, .ref a49_5, .ref a61, .ref a120, .int 0]))] ++ T6) ++ [(a120, .inl (b 4, 6, .inr (.inr (.inr (.inr (va_up (fun _ => none) 0 (some a139_11)))))))]) ++ U8)) (w0 := [(a139_12, .inr (8, [.null, .int 0, .int 0]))]) (rest := [.ref a139_12, .int 1, .ref a120]) S hK hNs O hA (c_X8_init (b := b)) lkN_X11_69 rfl rfl ⟨Nat.le_of_ble_eq_true rfl, Nat.le_of_ble_eq_true rfl⟩ (Nat.le_of_ble_eq_true rfl) hl.1 ⟨Nat.le_of_ble_eq_true rfl, Nat.le_of_ble_eq_true rfl⟩ dX11_init_143 (fun q_a139_12 H locs O => ?_)
  have O : wL D (((([(h0, .inr (11, [.ref a5_1, .ref a16_2, .ref a27_3, .ref a38_4, .ref a49_5, .ref a61, .ref a120, .int 0]))] ++ T6) ++ [(a120, .inl (b 4, 6, .inr (.inr (.inr (.inr (va_up (fun _ => none) 0 (some a139_11)))))))]) ++ U8) ++ [(a139_12, .inr (8, [.ref (q_a139_12 0), .int (-1), .int 0])), (q_a139_12 0, .inl (b 0, 20, .inl (fun _ => 0)))]) A s.heap H _ := O
  refine n_astS (X := ([(h0, .inr (11, [.ref a5_1, .ref a16_2, .ref a27_3, .ref a38_4, .ref a49_5, .ref a61, .ref a120, .int 0]))] ++ T6)) (U := U8) (i' := 1) 4 S hK O rfl rfl (fun comp c0 h1 h2 => vb_asgS comp c0 h1 h2) (by decide) (by unfold vp_in; decide) dX11_init_146 (fun H locs O => ?_)
  have O : wL D (((([(h0, .inr (11, [.ref a5_1, .ref a16_2, .ref a27_3, .ref a38_4, .ref a49_5, .ref a61, .ref a120, .int 0]))] ++ T6) ++ [(a120, .inl (b 4, 6, .inr (.inr (.inr (.inr (va_up (va_up (fun _ => none) 0 (some a139_11)) 1 (some a139_12)))))))]) ++ U8) ++ [(a139_12, .inr (8, [.ref (q_a139_12 0), .int (-1), .int 0])), (q_a139_12 0, .inl (b 0, 20, .inl (fun _ => 0)))]) A s.heap H _ := O
  obtain ⟨U9, hU9⟩ : ∃ T : va_W, T = U8 ++ [(a139_12, .inr (8, [.ref (q_a139_12 0), .int (-1), .int 0])), (q_a139_12 0, .inl (b 0, 20, .inl (fun _ => 0)))] := ⟨_, rfl⟩
  have O : wL D ((([(h0, .inr (11, [.ref a5_1, .ref a16_2, .ref a27_3, .ref a38_4, .ref a49_5, .ref a61, .ref a120, .int 0]))] ++ T6) ++ [(a120, .inl (b 4, 6, .inr (.inr (.inr (.inr (va_up (va_up (fun _ => none) 0 (some a139_11)) 1 (some a139_12)))))))]) ++ U9) A s.heap H locs := by rw [hU9, ← List.append_assoc]; exact O
  refine lv_iinc (v := 2) (lv' := [(1, .int 2), (0, .ref h0)]) hx hb dX11_init_147 hl (k := 0) rfl (by decide) (by decide) rfl (fun ls hl => ?_)
  refine lv_goto (tgt := 128) hx hb dX11_init_150 (by decide) ?_
  refine lv_iload_n hx hb dX11_init_128 rfl (lv_at hl 0 rfl) ?_
  refine lv_bipush (v := 6) hx hb dX11_init_129 (by decide) ?_
  refine lv_icmp_ge (tgt := 153) hx hb dX11_init_131 (by decide) (fun q => absurd q (by decide)) (fun _ => ?_)
  refine lv_aload_n hx hb dX11_init_134 rfl (lv_at hl 1 rfl) ?_
  refine n_get S hK O 0 rfl rfl inuX11 6 (by decide) wd_3_1 rfl rfl dX11_init_135 ?_
  refine lv_iload_n hx hb dX11_init_138 rfl (lv_at hl 0 rfl) ?_
  refine n_new (ci := 8) (fs := [.null, .int 0, .int 0]) S hK O hA inuX8 tyX8 tyX8_ok wd_3_0 wd_3_2 wd_3_3 rfl (fun j hj => by rcases (show j = 0 ∨ j = 1 ∨ j = 2 by omega) with rfl | rfl | rfl <;> rfl) (Nat.le_of_ble_eq_true rfl) (Nat.le_of_ble_eq_true rfl) dX11_init_139 (fun a139_13 H O => ?_)
  have O : wL D (((([(h0, .inr (11, [.ref a5_1, .ref a16_2, .ref a27_3, .ref a38_4, .ref a49_5, .ref a61, .ref a120, .int 0]))] ++ T6) ++ [(a120, .inl (b 4, 6, .inr (.inr (.inr (.inr (va_up (va_up (fun _ => none) 0 (some a139_11)) 1 (some a139_12)))))))]) ++ U9) ++ [(a139_13, .inr (8, [.null, .int 0, .int 0]))]) A s.heap H _ := O
  refine lv_dup hx hb dX11_init_142 rfl ?_
  refine n_call (wr := ((([(h0, .inr (11, [.ref a5_1, .ref a16_2, .ref a27_3, .ref a38_4, .ref a49_5, .ref a61, .ref a120, .int 0]))] ++ T6) ++ [(a120, .inl (b 4, 6, .inr (.inr (.inr (.inr (va_up (va_up (fun _ => none) 0 (some a139_11)) 1 (some a139_12)))))))]) ++ U9)) (w0 := [(a139_13, .inr (8, [.null, .int 0, .int 0]))]) (rest := [.ref a139_13, .int 2, .ref a120]) S hK hNs O hA (c_X8_init (b := b)) lkN_X11_69 rfl rfl ⟨Nat.le_of_ble_eq_true rfl, Nat.le_of_ble_eq_true rfl⟩ (Nat.le_of_ble_eq_true rfl) hl.1 ⟨Nat.le_of_ble_eq_true rfl, Nat.le_of_ble_eq_true rfl⟩ dX11_init_143 (fun q_a139_13 H locs O => ?_)
  have O : wL D (((([(h0, .inr (11, [.ref a5_1, .ref a16_2, .ref a27_3, .ref a38_4, .ref a49_5, .ref a61, .ref a120, .int 0]))] ++ T6) ++ [(a120, .inl (b 4, 6, .inr (.inr (.inr (.inr (va_up (va_up (fun _ => none) 0 (some a139_11)) 1 (some a139_12)))))))]) ++ U9) ++ [(a139_13, .inr (8, [.ref (q_a139_13 0), .int (-1), .int 0])), (q_a139_13 0, .inl (b 0, 20, .inl (fun _ => 0)))]) A s.heap H _ := O
  refine n_astS (X := ([(h0, .inr (11, [.ref a5_1, .ref a16_2, .ref a27_3, .ref a38_4, .ref a49_5, .ref a61, .ref a120, .int 0]))] ++ T6)) (U := U9) (i' := 2) 4 S hK O rfl rfl (fun comp c0 h1 h2 => vb_asgS comp c0 h1 h2) (by decide) (by unfold vp_in; decide) dX11_init_146 (fun H locs O => ?_)
  have O : wL D (((([(h0, .inr (11, [.ref a5_1, .ref a16_2, .ref a27_3, .ref a38_4, .ref a49_5, .ref a61, .ref a120, .int 0]))] ++ T6) ++ [(a120, .inl (b 4, 6, .inr (.inr (.inr (.inr (va_up (va_up (va_up (fun _ => none) 0 (some a139_11)) 1 (some a139_12)) 2 (some a139_13)))))))]) ++ U9) ++ [(a139_13, .inr (8, [.ref (q_a139_13 0), .int (-1), .int 0])), (q_a139_13 0, .inl (b 0, 20, .inl (fun _ => 0)))]) A s.heap H _ := O
  obtain ⟨U10, hU10⟩ : ∃ T : va_W, T = U9 ++ [(a139_13, .inr (8, [.ref (q_a139_13 0), .int (-1), .int 0])), (q_a139_13 0, .inl (b 0, 20, .inl (fun _ => 0)))] := ⟨_, rfl⟩
  have O : wL D ((([(h0, .inr (11, [.ref a5_1, .ref a16_2, .ref a27_3, .ref a38_4, .ref a49_5, .ref a61, .ref a120, .int 0]))] ++ T6) ++ [(a120, .inl (b 4, 6, .inr (.inr (.inr (.inr (va_up (va_up (va_up (fun _ => none) 0 (some a139_11)) 1 (some a139_12)) 2 (some a139_13)))))))]) ++ U10) A s.heap H locs := by rw [hU10, ← List.append_assoc]; exact O
  refine lv_iinc (v := 3) (lv' := [(1, .int 3), (0, .ref h0)]) hx hb dX11_init_147 hl (k := 0) rfl (by decide) (by decide) rfl (fun ls hl => ?_)
  refine lv_goto (tgt := 128) hx hb dX11_init_150 (by decide) ?_
  refine lv_iload_n hx hb dX11_init_128 rfl (lv_at hl 0 rfl) ?_
  refine lv_bipush (v := 6) hx hb dX11_init_129 (by decide) ?_
  refine lv_icmp_ge (tgt := 153) hx hb dX11_init_131 (by decide) (fun q => absurd q (by decide)) (fun _ => ?_)
  refine lv_aload_n hx hb dX11_init_134 rfl (lv_at hl 1 rfl) ?_
  refine n_get S hK O 0 rfl rfl inuX11 6 (by decide) wd_3_1 rfl rfl dX11_init_135 ?_
  refine lv_iload_n hx hb dX11_init_138 rfl (lv_at hl 0 rfl) ?_
  refine n_new (ci := 8) (fs := [.null, .int 0, .int 0]) S hK O hA inuX8 tyX8 tyX8_ok wd_3_0 wd_3_2 wd_3_3 rfl (fun j hj => by rcases (show j = 0 ∨ j = 1 ∨ j = 2 by omega) with rfl | rfl | rfl <;> rfl) (Nat.le_of_ble_eq_true rfl) (Nat.le_of_ble_eq_true rfl) dX11_init_139 (fun a139_14 H O => ?_)
  have O : wL D (((([(h0, .inr (11, [.ref a5_1, .ref a16_2, .ref a27_3, .ref a38_4, .ref a49_5, .ref a61, .ref a120, .int 0]))] ++ T6) ++ [(a120, .inl (b 4, 6, .inr (.inr (.inr (.inr (va_up (va_up (va_up (fun _ => none) 0 (some a139_11)) 1 (some a139_12)) 2 (some a139_13)))))))]) ++ U10) ++ [(a139_14, .inr (8, [.null, .int 0, .int 0]))]) A s.heap H _ := O
  refine lv_dup hx hb dX11_init_142 rfl ?_
  refine n_call (wr := ((([(h0, .inr (11, [.ref a5_1, .ref a16_2, .ref a27_3, .ref a38_4, .ref a49_5, .ref a61, .ref a120, .int 0]))] ++ T6) ++ [(a120, .inl (b 4, 6, .inr (.inr (.inr (.inr (va_up (va_up (va_up (fun _ => none) 0 (some a139_11)) 1 (some a139_12)) 2 (some a139_13)))))))]) ++ U10)) (w0 := [(a139_14, .inr (8, [.null, .int 0, .int 0]))]) (rest := [.ref a139_14, .int 3, .ref a120]) S hK hNs O hA (c_X8_init (b := b)) lkN_X11_69 rfl rfl ⟨Nat.le_of_ble_eq_true rfl, Nat.le_of_ble_eq_true rfl⟩ (Nat.le_of_ble_eq_true rfl) hl.1 ⟨Nat.le_of_ble_eq_true rfl, Nat.le_of_ble_eq_true rfl⟩ dX11_init_143 (fun q_a139_14 H locs O => ?_)
  have O : wL D (((([(h0, .inr (11, [.ref a5_1, .ref a16_2, .ref a27_3, .ref a38_4, .ref a49_5, .ref a61, .ref a120, .int 0]))] ++ T6) ++ [(a120, .inl (b 4, 6, .inr (.inr (.inr (.inr (va_up (va_up (va_up (fun _ => none) 0 (some a139_11)) 1 (some a139_12)) 2 (some a139_13)))))))]) ++ U10) ++ [(a139_14, .inr (8, [.ref (q_a139_14 0), .int (-1), .int 0])), (q_a139_14 0, .inl (b 0, 20, .inl (fun _ => 0)))]) A s.heap H _ := O
  refine n_astS (X := ([(h0, .inr (11, [.ref a5_1, .ref a16_2, .ref a27_3, .ref a38_4, .ref a49_5, .ref a61, .ref a120, .int 0]))] ++ T6)) (U := U10) (i' := 3) 4 S hK O rfl rfl (fun comp c0 h1 h2 => vb_asgS comp c0 h1 h2) (by decide) (by unfold vp_in; decide) dX11_init_146 (fun H locs O => ?_)
  have O : wL D (((([(h0, .inr (11, [.ref a5_1, .ref a16_2, .ref a27_3, .ref a38_4, .ref a49_5, .ref a61, .ref a120, .int 0]))] ++ T6) ++ [(a120, .inl (b 4, 6, .inr (.inr (.inr (.inr (va_up (va_up (va_up (va_up (fun _ => none) 0 (some a139_11)) 1 (some a139_12)) 2 (some a139_13)) 3 (some a139_14)))))))]) ++ U10) ++ [(a139_14, .inr (8, [.ref (q_a139_14 0), .int (-1), .int 0])), (q_a139_14 0, .inl (b 0, 20, .inl (fun _ => 0)))]) A s.heap H _ := O
  obtain ⟨U11, hU11⟩ : ∃ T : va_W, T = U10 ++ [(a139_14, .inr (8, [.ref (q_a139_14 0), .int (-1), .int 0])), (q_a139_14 0, .inl (b 0, 20, .inl (fun _ => 0)))] := ⟨_, rfl⟩
  have O : wL D ((([(h0, .inr (11, [.ref a5_1, .ref a16_2, .ref a27_3, .ref a38_4, .ref a49_5, .ref a61, .ref a120, .int 0]))] ++ T6) ++ [(a120, .inl (b 4, 6, .inr (.inr (.inr (.inr (va_up (va_up (va_up (va_up (fun _ => none) 0 (some a139_11)) 1 (some a139_12)) 2 (some a139_13)) 3 (some a139_14)))))))]) ++ U11) A s.heap H locs := by rw [hU11, ← List.append_assoc]; exact O
  refine lv_iinc (v := 4) (lv' := [(1, .int 4), (0, .ref h0)]) hx hb dX11_init_147 hl (k := 0) rfl (by decide) (by decide) rfl (fun ls hl => ?_)
  refine lv_goto (tgt := 128) hx hb dX11_init_150 (by decide) ?_
  refine lv_iload_n hx hb dX11_init_128 rfl (lv_at hl 0 rfl) ?_
  refine lv_bipush (v := 6) hx hb dX11_init_129 (by decide) ?_
  refine lv_icmp_ge (tgt := 153) hx hb dX11_init_131 (by decide) (fun q => absurd q (by decide)) (fun _ => ?_)
  refine lv_aload_n hx hb dX11_init_134 rfl (lv_at hl 1 rfl) ?_
  refine n_get S hK O 0 rfl rfl inuX11 6 (by decide) wd_3_1 rfl rfl dX11_init_135 ?_
  refine lv_iload_n hx hb dX11_init_138 rfl (lv_at hl 0 rfl) ?_
  refine n_new (ci := 8) (fs := [.null, .int 0, .int 0]) S hK O hA inuX8 tyX8 tyX8_ok wd_3_0 wd_3_2 wd_3_3 rfl (fun j hj => by rcases (show j = 0 ∨ j = 1 ∨ j = 2 by omega) with rfl | rfl | rfl <;> rfl) (Nat.le_of_ble_eq_true rfl) (Nat.le_of_ble_eq_true rfl) dX11_init_139 (fun a139_15 H O => ?_)
  have O : wL D (((([(h0, .inr (11, [.ref a5_1, .ref a16_2, .ref a27_3, .ref a38_4, .ref a49_5, .ref a61, .ref a120, .int 0]))] ++ T6) ++ [(a120, .inl (b 4, 6, .inr (.inr (.inr (.inr (va_up (va_up (va_up (va_up (fun _ => none) 0 (some a139_11)) 1 (some a139_12)) 2 (some a139_13)) 3 (some a139_14)))))))]) ++ U11) ++ [(a139_15, .inr (8, [.null, .int 0, .int 0]))]) A s.heap H _ := O
  refine lv_dup hx hb dX11_init_142 rfl ?_
  refine n_call (wr := ((([(h0, .inr (11, [.ref a5_1, .ref a16_2, .ref a27_3, .ref a38_4, .ref a49_5, .ref a61, .ref a120, .int 0]))] ++ T6) ++ [(a120, .inl (b 4, 6, .inr (.inr (.inr (.inr (va_up (va_up (va_up (va_up (fun _ => none) 0 (some a139_11)) 1 (some a139_12)) 2 (some a139_13)) 3 (some a139_14)))))))]) ++ U11)) (w0 := [(a139_15, .inr (8, [.null, .int 0, .int 0]))]) (rest := [.ref a139_15, .int 4, .ref a120]) S hK hNs O hA (c_X8_init (b := b)) lkN_X11_69 rfl rfl ⟨Nat.le_of_ble_eq_true rfl, Nat.le_of_ble_eq_true rfl⟩ (Nat.le_of_ble_eq_true rfl) hl.1 ⟨Nat.le_of_ble_eq_true rfl, Nat.le_of_ble_eq_true rfl⟩ dX11_init_143 (fun q_a139_15 H locs O => ?_)
  have O : wL D (((([(h0, .inr (11, [.ref a5_1, .ref a16_2, .ref a27_3, .ref a38_4, .ref a49_5, .ref a61, .ref a120, .int 0]))] ++ T6) ++ [(a120, .inl (b 4, 6, .inr (.inr (.inr (.inr (va_up (va_up (va_up (va_up (fun _ => none) 0 (some a139_11)) 1 (some a139_12)) 2 (some a139_13)) 3 (some a139_14)))))))]) ++ U11) ++ [(a139_15, .inr (8, [.ref (q_a139_15 0), .int (-1), .int 0])), (q_a139_15 0, .inl (b 0, 20, .inl (fun _ => 0)))]) A s.heap H _ := O
  refine n_astS (X := ([(h0, .inr (11, [.ref a5_1, .ref a16_2, .ref a27_3, .ref a38_4, .ref a49_5, .ref a61, .ref a120, .int 0]))] ++ T6)) (U := U11) (i' := 4) 4 S hK O rfl rfl (fun comp c0 h1 h2 => vb_asgS comp c0 h1 h2) (by decide) (by unfold vp_in; decide) dX11_init_146 (fun H locs O => ?_)
  have O : wL D (((([(h0, .inr (11, [.ref a5_1, .ref a16_2, .ref a27_3, .ref a38_4, .ref a49_5, .ref a61, .ref a120, .int 0]))] ++ T6) ++ [(a120, .inl (b 4, 6, .inr (.inr (.inr (.inr (va_up (va_up (va_up (va_up (va_up (fun _ => none) 0 (some a139_11)) 1 (some a139_12)) 2 (some a139_13)) 3 (some a139_14)) 4 (some a139_15)))))))]) ++ U11) ++ [(a139_15, .inr (8, [.ref (q_a139_15 0), .int (-1), .int 0])), (q_a139_15 0, .inl (b 0, 20, .inl (fun _ => 0)))]) A s.heap H _ := O
  obtain ⟨U12, hU12⟩ : ∃ T : va_W, T = U11 ++ [(a139_15, .inr (8, [.ref (q_a139_15 0), .int (-1), .int 0])), (q_a139_15 0, .inl (b 0, 20, .inl (fun _ => 0)))] := ⟨_, rfl⟩
  have O : wL D ((([(h0, .inr (11, [.ref a5_1, .ref a16_2, .ref a27_3, .ref a38_4, .ref a49_5, .ref a61, .ref a120, .int 0]))] ++ T6) ++ [(a120, .inl (b 4, 6, .inr (.inr (.inr (.inr (va_up (va_up (va_up (va_up (va_up (fun _ => none) 0 (some a139_11)) 1 (some a139_12)) 2 (some a139_13)) 3 (some a139_14)) 4 (some a139_15)))))))]) ++ U12) A s.heap H locs := by rw [hU12, ← List.append_assoc]; exact O
  refine lv_iinc (v := 5) (lv' := [(1, .int 5), (0, .ref h0)]) hx hb dX11_init_147 hl (k := 0) rfl (by decide) (by decide) rfl (fun ls hl => ?_)
  refine lv_goto (tgt := 128) hx hb dX11_init_150 (by decide) ?_
  refine lv_iload_n hx hb dX11_init_128 rfl (lv_at hl 0 rfl) ?_
  refine lv_bipush (v := 6) hx hb dX11_init_129 (by decide) ?_
  refine lv_icmp_ge (tgt := 153) hx hb dX11_init_131 (by decide) (fun q => absurd q (by decide)) (fun _ => ?_)
  refine lv_aload_n hx hb dX11_init_134 rfl (lv_at hl 1 rfl) ?_
  refine n_get S hK O 0 rfl rfl inuX11 6 (by decide) wd_3_1 rfl rfl dX11_init_135 ?_
  refine lv_iload_n hx hb dX11_init_138 rfl (lv_at hl 0 rfl) ?_
  refine n_new (ci := 8) (fs := [.null, .int 0, .int 0]) S hK O hA inuX8 tyX8 tyX8_ok wd_3_0 wd_3_2 wd_3_3 rfl (fun j hj => by rcases (show j = 0 ∨ j = 1 ∨ j = 2 by omega) with rfl | rfl | rfl <;> rfl) (Nat.le_of_ble_eq_true rfl) (Nat.le_of_ble_eq_true rfl) dX11_init_139 (fun a139_16 H O => ?_)
  have O : wL D (((([(h0, .inr (11, [.ref a5_1, .ref a16_2, .ref a27_3, .ref a38_4, .ref a49_5, .ref a61, .ref a120, .int 0]))] ++ T6) ++ [(a120, .inl (b 4, 6, .inr (.inr (.inr (.inr (va_up (va_up (va_up (va_up (va_up (fun _ => none) 0 (some a139_11)) 1 (some a139_12)) 2 (some a139_13)) 3 (some a139_14)) 4 (some a139_15)))))))]) ++ U12) ++ [(a139_16, .inr (8, [.null, .int 0, .int 0]))]) A s.heap H _ := O
  refine lv_dup hx hb dX11_init_142 rfl ?_
  refine n_call (wr := ((([(h0, .inr (11, [.ref a5_1, .ref a16_2, .ref a27_3, .ref a38_4, .ref a49_5, .ref a61, .ref a120, .int 0]))] ++ T6) ++ [(a120, .inl (b 4, 6, .inr (.inr (.inr (.inr (va_up (va_up (va_up (va_up (va_up (fun _ => none) 0 (some a139_11)) 1 (some a139_12)) 2 (some a139_13)) 3 (some a139_14)) 4 (some a139_15)))))))]) ++ U12)) (w0 := [(a139_16, .inr (8, [.null, .int 0, .int 0]))]) (rest := [.ref a139_16, .int 5, .ref a120]) S hK hNs O hA (c_X8_init (b := b)) lkN_X11_69 rfl rfl ⟨Nat.le_of_ble_eq_true rfl, Nat.le_of_ble_eq_true rfl⟩ (Nat.le_of_ble_eq_true rfl) hl.1 ⟨Nat.le_of_ble_eq_true rfl, Nat.le_of_ble_eq_true rfl⟩ dX11_init_143 (fun q_a139_16 H locs O => ?_)
  have O : wL D (((([(h0, .inr (11, [.ref a5_1, .ref a16_2, .ref a27_3, .ref a38_4, .ref a49_5, .ref a61, .ref a120, .int 0]))] ++ T6) ++ [(a120, .inl (b 4, 6, .inr (.inr (.inr (.inr (va_up (va_up (va_up (va_up (va_up (fun _ => none) 0 (some a139_11)) 1 (some a139_12)) 2 (some a139_13)) 3 (some a139_14)) 4 (some a139_15)))))))]) ++ U12) ++ [(a139_16, .inr (8, [.ref (q_a139_16 0), .int (-1), .int 0])), (q_a139_16 0, .inl (b 0, 20, .inl (fun _ => 0)))]) A s.heap H _ := O
  refine n_astS (X := ([(h0, .inr (11, [.ref a5_1, .ref a16_2, .ref a27_3, .ref a38_4, .ref a49_5, .ref a61, .ref a120, .int 0]))] ++ T6)) (U := U12) (i' := 5) 4 S hK O rfl rfl (fun comp c0 h1 h2 => vb_asgS comp c0 h1 h2) (by decide) (by unfold vp_in; decide) dX11_init_146 (fun H locs O => ?_)
  have O : wL D (((([(h0, .inr (11, [.ref a5_1, .ref a16_2, .ref a27_3, .ref a38_4, .ref a49_5, .ref a61, .ref a120, .int 0]))] ++ T6) ++ [(a120, .inl (b 4, 6, .inr (.inr (.inr (.inr (va_up (va_up (va_up (va_up (va_up (va_up (fun _ => none) 0 (some a139_11)) 1 (some a139_12)) 2 (some a139_13)) 3 (some a139_14)) 4 (some a139_15)) 5 (some a139_16)))))))]) ++ U12) ++ [(a139_16, .inr (8, [.ref (q_a139_16 0), .int (-1), .int 0])), (q_a139_16 0, .inl (b 0, 20, .inl (fun _ => 0)))]) A s.heap H _ := O
  obtain ⟨U13, hU13⟩ : ∃ T : va_W, T = U12 ++ [(a139_16, .inr (8, [.ref (q_a139_16 0), .int (-1), .int 0])), (q_a139_16 0, .inl (b 0, 20, .inl (fun _ => 0)))] := ⟨_, rfl⟩
  have O : wL D ((([(h0, .inr (11, [.ref a5_1, .ref a16_2, .ref a27_3, .ref a38_4, .ref a49_5, .ref a61, .ref a120, .int 0]))] ++ T6) ++ [(a120, .inl (b 4, 6, .inr (.inr (.inr (.inr (va_up (va_up (va_up (va_up (va_up (va_up (fun _ => none) 0 (some a139_11)) 1 (some a139_12)) 2 (some a139_13)) 3 (some a139_14)) 4 (some a139_15)) 5 (some a139_16)))))))]) ++ U13) A s.heap H locs := by rw [hU13, ← List.append_assoc]; exact O
  refine lv_iinc (v := 6) (lv' := [(1, .int 6), (0, .ref h0)]) hx hb dX11_init_147 hl (k := 0) rfl (by decide) (by decide) rfl (fun ls hl => ?_)
  refine lv_goto (tgt := 128) hx hb dX11_init_150 (by decide) ?_
  refine lv_iload_n hx hb dX11_init_128 rfl (lv_at hl 0 rfl) ?_
  refine lv_bipush (v := 6) hx hb dX11_init_129 (by decide) ?_
  refine lv_icmp_ge (tgt := 153) hx hb dX11_init_131 (by decide) (fun _ => ?_) (fun q => absurd q (by decide))
  refine lv_aload_n hx hb dX11_init_153 rfl (lv_at hl 1 rfl) ?_
  refine lv_iconst (v := 0) hx hb dX11_init_154 (by decide) ?_
  refine n_put S hK O 0 rfl rfl inuX11 tyX11 tyX11_ok nmX11 7 (by decide) wd_3_4 rfl rfl (by decide +kernel) (by simp only [List.length_cons, List.length_nil]; decide) dX11_init_155 (fun H locs O => ?_)
  have O : wL D ((([(h0, .inr (11, [.ref a5_1, .ref a16_2, .ref a27_3, .ref a38_4, .ref a49_5, .ref a61, .ref a120, .int 0]))] ++ T6) ++ [(a120, .inl (b 4, 6, .inr (.inr (.inr (.inr (va_up (va_up (va_up (va_up (va_up (va_up (fun _ => none) 0 (some a139_11)) 1 (some a139_12)) 2 (some a139_13)) 3 (some a139_14)) 4 (some a139_15)) 5 (some a139_16)))))))]) ++ U13) A s.heap H _ := O
  obtain ⟨Qf, hQf⟩ : ∃ Qf : Nat → Nat, Qf = (fun k => ([h0, a5_1, q_a5_1 0, q_a5_1 1, q_a5_1 2, q_a5_1 3, q_a5_1 4, q_a5_1 5, q_a5_1 6, q_a5_1 7, q_a5_1 8, q_a5_1 9, a16_2, q_a16_2 0, q_a16_2 1, q_a16_2 2, q_a16_2 3, q_a16_2 4, a27_3, q_a27_3 0, a38_4, q_a38_4 0, q_a38_4 1, q_a38_4 2, q_a38_4 3, a49_5, q_a49_5 0, a61, a66_6, a76_7, a86_8, a96_9, a106_10, a120, a139_11, q_a139_11 0, a139_12, q_a139_12 0, a139_13, q_a139_13 0, a139_14, q_a139_14 0, a139_15, q_a139_15 0, a139_16, q_a139_16 0] : List Nat).getD k 0) := ⟨_, rfl⟩
  subst hU13
  subst hU12
  subst hU11
  subst hU10
  subst hU9
  subst hU8
  subst hU7
  subst hT6
  subst hU6
  subst hU5
  subst hU4
  subst hU3
  subst hU2
  subst hU1
  subst hT5
  subst hT4
  subst hT3
  subst hT2
  subst hT1
  subst hT0
  unfold B_X10 B_X7 B_X6 B_X2 B_X0 at O
  rw [fun3 (f := fun i => q_a5_1 (1 + i)) (g := fun i => hq h0 Qf (3 + i)) (by rw [hQf]; rfl) (by rw [hQf]; rfl) (by rw [hQf]; rfl), fun5 (g := fun i => hq h0 Qf (28 + i)) (by rw [hQf]; rfl) (by rw [hQf]; rfl) (by rw [hQf]; rfl) (by rw [hQf]; rfl) (by rw [hQf]; rfl), fun6 (g := fun i => hq h0 Qf (34 + 2 * i)) (by rw [hQf]; rfl) (by rw [hQf]; rfl) (by rw [hQf]; rfl) (by rw [hQf]; rfl) (by rw [hQf]; rfl) (by rw [hQf]; rfl)] at O
  have eh0 : hq h0 Qf 0 = h0 := by rw [hQf]; rfl
  have eh1 : hq h0 Qf 1 = a5_1 := by rw [hQf]; rfl
  have eh2 : hq h0 Qf 2 = q_a5_1 0 := by rw [hQf]; rfl
  have eh3 : hq h0 Qf 3 = q_a5_1 1 := by rw [hQf]; rfl
  have eh4 : hq h0 Qf 4 = q_a5_1 2 := by rw [hQf]; rfl
  have eh5 : hq h0 Qf 5 = q_a5_1 3 := by rw [hQf]; rfl
  have eh6 : hq h0 Qf 6 = q_a5_1 4 := by rw [hQf]; rfl
  have eh7 : hq h0 Qf 7 = q_a5_1 5 := by rw [hQf]; rfl
  have eh8 : hq h0 Qf 8 = q_a5_1 6 := by rw [hQf]; rfl
  have eh9 : hq h0 Qf 9 = q_a5_1 7 := by rw [hQf]; rfl
  have eh10 : hq h0 Qf 10 = q_a5_1 8 := by rw [hQf]; rfl
  have eh11 : hq h0 Qf 11 = q_a5_1 9 := by rw [hQf]; rfl
  have eh12 : hq h0 Qf 12 = a16_2 := by rw [hQf]; rfl
  have eh13 : hq h0 Qf 13 = q_a16_2 0 := by rw [hQf]; rfl
  have eh14 : hq h0 Qf 14 = q_a16_2 1 := by rw [hQf]; rfl
  have eh15 : hq h0 Qf 15 = q_a16_2 2 := by rw [hQf]; rfl
  have eh16 : hq h0 Qf 16 = q_a16_2 3 := by rw [hQf]; rfl
  have eh17 : hq h0 Qf 17 = q_a16_2 4 := by rw [hQf]; rfl
  have eh18 : hq h0 Qf 18 = a27_3 := by rw [hQf]; rfl
  have eh19 : hq h0 Qf 19 = q_a27_3 0 := by rw [hQf]; rfl
  have eh20 : hq h0 Qf 20 = a38_4 := by rw [hQf]; rfl
  have eh21 : hq h0 Qf 21 = q_a38_4 0 := by rw [hQf]; rfl
  have eh22 : hq h0 Qf 22 = q_a38_4 1 := by rw [hQf]; rfl
  have eh23 : hq h0 Qf 23 = q_a38_4 2 := by rw [hQf]; rfl
  have eh24 : hq h0 Qf 24 = q_a38_4 3 := by rw [hQf]; rfl
  have eh25 : hq h0 Qf 25 = a49_5 := by rw [hQf]; rfl
  have eh26 : hq h0 Qf 26 = q_a49_5 0 := by rw [hQf]; rfl
  have eh27 : hq h0 Qf 27 = a61 := by rw [hQf]; rfl
  have eh28 : hq h0 Qf 28 = a66_6 := by rw [hQf]; rfl
  have eh29 : hq h0 Qf 29 = a76_7 := by rw [hQf]; rfl
  have eh30 : hq h0 Qf 30 = a86_8 := by rw [hQf]; rfl
  have eh31 : hq h0 Qf 31 = a96_9 := by rw [hQf]; rfl
  have eh32 : hq h0 Qf 32 = a106_10 := by rw [hQf]; rfl
  have eh33 : hq h0 Qf 33 = a120 := by rw [hQf]; rfl
  have eh34 : hq h0 Qf 34 = a139_11 := by rw [hQf]; rfl
  have eh35 : hq h0 Qf 35 = q_a139_11 0 := by rw [hQf]; rfl
  have eh36 : hq h0 Qf 36 = a139_12 := by rw [hQf]; rfl
  have eh37 : hq h0 Qf 37 = q_a139_12 0 := by rw [hQf]; rfl
  have eh38 : hq h0 Qf 38 = a139_13 := by rw [hQf]; rfl
  have eh39 : hq h0 Qf 39 = q_a139_13 0 := by rw [hQf]; rfl
  have eh40 : hq h0 Qf 40 = a139_14 := by rw [hQf]; rfl
  have eh41 : hq h0 Qf 41 = q_a139_14 0 := by rw [hQf]; rfl
  have eh42 : hq h0 Qf 42 = a139_15 := by rw [hQf]; rfl
  have eh43 : hq h0 Qf 43 = q_a139_15 0 := by rw [hQf]; rfl
  have eh44 : hq h0 Qf 44 = a139_16 := by rw [hQf]; rfl
  have eh45 : hq h0 Qf 45 = q_a139_16 0 := by rw [hQf]; rfl
  have O : wL D (wG 46 (gF b (hq h0 Qf)) (hq h0 Qf) uF0) A s.heap H locs := by
    rw [e46, eh0, eh1, eh2, eh3, eh4, eh5, eh6, eh7, eh8, eh9, eh10, eh11, eh12, eh13, eh14, eh15, eh16, eh17, eh18, eh19, eh20, eh21, eh22, eh23, eh24, eh25, eh26, eh27, eh28, eh29, eh30, eh31, eh32, eh33, eh34, eh35, eh36, eh37, eh38, eh39, eh40, eh41, eh42, eh43, eh44, eh45]
    exact O
  exact n_vret S hlocks hr Qf O (Nat.le_of_ble_eq_true rfl) (Nat.le_of_ble_eq_true rfl) dX11_init_158
