/-! The law's entry: what the Statement gives, the two objects made, then the loop. -/
theorem lkI_L_9 : LkI RL 9 yX11_init cX11_init 2 := ⟨wd_1_6, wd_1_7, wd_1_2, wd_1_8, rfl, by decide +kernel⟩
theorem lkI_L_12 : LkI RL 12 yX12_init cX12_init 2 := ⟨wd_5_11, wd_5_12, wd_1_5, wd_5_13, rfl, by decide +kernel⟩
theorem nestW_in : ∀ w ∈ nestW, w ∈ lw_tbl := by decide +kernel
theorem ao_args {ty : FieldType} {a : Array Value} {U : State} (h : (Cond.arrayOver ty).before a U = true) : va_Nw (.arrayOver ty) U := by
  unfold va_Nw
  simp only [Cond.before, Cond.holds, Cond.value] at h ⊢
  exact h
section ST
variable {s : State} {b : Nat}
theorem st_nst (hts : ∀ w ∈ lw_tbl, w.before #[Value.ref b] s = true) (hgv : (Jvm.Cond.and given_1 narrow_1).before #[Value.ref b] s = true) : Nst s := by
  have g := flat_of_before _ hgv
  refine ⟨fun w hw => ?_, va_Nc.of (g (.not (.castable RX4 RX9)) (by decide +kernel)), va_Nc.of (g (.not (.castable RX3 RX9)) (by decide +kernel)), va_Nc.of (g (.not (.castable RX5 RX9)) (by decide +kernel))⟩
  have h := hts w (nestW_in w hw)
  rcases nestW_form w hw with ⟨_, _, _, _, _, _, rfl⟩ | ⟨_, _, _, _, rfl⟩ | ⟨_, _, rfl⟩ | ⟨_, rfl⟩
  · exact va_Nw.of rfl h
  · exact va_Nw.of rfl h
  · exact va_Nw.of rfl h
  · exact ao_args h
theorem st_stt (hts : ∀ w ∈ lw_tbl, w.before #[Value.ref b] s = true) (hgv : (Jvm.Cond.and given_1 narrow_1).before #[Value.ref b] s = true) : Stt (fun q : Nat => s.heap.size ≤ q) s s.heap := by
  have g := flat_of_before _ hgv
  have hA : ∀ a : Nat, a < s.heap.size → ¬ (fun q : Nat => s.heap.size ≤ q) a := fun a h => Nat.not_le.mpr h
  obtain ⟨t0, v0, T0⟩ := va_Tof (tm := .static RX10 "LOWEST" "[I") (ty := .int) (N := 3) (f := fun j => .int (loT j)) (by decide) (g (.arrayOf (.static RX10 "LOWEST" "[I") .int) (by decide +kernel)) (va_eqt (g (.eq (.length (.static RX10 "LOWEST" "[I")) (.int 3)) (by decide +kernel))) (fun j hj => by
    rcases (show j = 0 ∨ j = 1 ∨ j = 2 by omega) with rfl | rfl | rfl
    · exact va_eqt (g (.eq (.elem (.static RX10 "LOWEST" "[I") (.int 0)) (.int 1)) (by decide +kernel))
    · exact va_eqt (g (.eq (.elem (.static RX10 "LOWEST" "[I") (.int 1)) (.int 0)) (by decide +kernel))
    · exact va_eqt (g (.eq (.elem (.static RX10 "LOWEST" "[I") (.int 2)) (.int 0)) (by decide +kernel))) hA
  obtain ⟨t1, v1, T1⟩ := va_Tof (tm := .static RX10 "HIGHEST" "[I") (ty := .int) (N := 3) (f := fun j => .int (hiT j)) (by decide) (g (.arrayOf (.static RX10 "HIGHEST" "[I") .int) (by decide +kernel)) (va_eqt (g (.eq (.length (.static RX10 "HIGHEST" "[I")) (.int 3)) (by decide +kernel))) (fun j hj => by
    rcases (show j = 0 ∨ j = 1 ∨ j = 2 by omega) with rfl | rfl | rfl
    · exact va_eqt (g (.eq (.elem (.static RX10 "HIGHEST" "[I") (.int 0)) (.int 100)) (by decide +kernel))
    · exact va_eqt (g (.eq (.elem (.static RX10 "HIGHEST" "[I") (.int 1)) (.int 100)) (by decide +kernel))
    · exact va_eqt (g (.eq (.elem (.static RX10 "HIGHEST" "[I") (.int 2)) (.int 500)) (by decide +kernel))) hA
  exact ⟨t0, t1, va_Zref (hts (.laysStatic RX10 "LOWEST" "[I") (by decide +kernel)) (hts (.initialized RX10) (by decide +kernel)) v0 hA, T0, va_Zref (hts (.laysStatic RX10 "HIGHEST" "[I") (by decide +kernel)) (hts (.initialized RX10) (by decide +kernel)) v1 hA, T1⟩
theorem st_arr {ty : FieldType} (h : (Cond.arrayClass ty).before #[Value.ref b] s = true) (ho : ∀ C, ty ≠ .object C) : ∃ c : ClassId, ArrOfT s c ty ∧ va_RA s c ty := by
  obtain ⟨c, k, comp, h1, h2, h3⟩ := Cond.arrayClass_spec h
  refine ⟨c, fun N z => ⟨(fun q hq => by cases hq), k, h2, comp, h3⟩, ?_⟩
  cases ty <;> first | exact h1 | exact absurd rfl (ho _)
theorem st_arA (h : (Cond.arrayOver (.array .int)).before #[Value.ref b] s = true) : ∃ c : ClassId, ArrOfT s c (.array .int) ∧ va_RA s c (.array .int) := by
  obtain ⟨comp, c, k, h1, h2, h3, h4⟩ := Cond.arrayOver_specA h
  exact ⟨c, fun N z => ⟨(fun q hq => by cases hq), k, h2, comp, h3⟩, h4⟩
theorem st_arO {C : String} (h : (Cond.arrayOver (.object C)).before #[Value.ref b] s = true) : ∃ c : ClassId, ArrOfT s c (.object C) ∧ va_RA s c (.object C) := by
  obtain ⟨comp, c, k, h1, h2, h3, h4, h5⟩ := Cond.arrayOver_spec h
  exact ⟨c, fun N z => ⟨(fun q hq => by cases hq), k, h3, comp, h4⟩, k, comp, h3, h4, h1, h5⟩
theorem st_K (hts : ∀ w ∈ lw_tbl, w.before #[Value.ref b] s = true) : ∃ (D : va_G) (B : Nat → ClassId), va_K D vwCl (tyA B) s := by
  have htU : ∀ w ∈ wsU, w.before #[Value.ref b] s = true := fun w hw => hts w (lwU w hw)
  obtain ⟨c0, i0, k0⟩ := u_known (C := RX0) (T := TX0) (N := 6) (n := 6) htU inuX0 (htU (.instantiable RX0 6) wd_2_5)
  obtain ⟨c1, i1, k1⟩ := u_known (C := RX1) (T := TX1) (N := 0) (n := 0) htU inuX1 (htU (.instantiable RX1 0) wd_2_18)
  obtain ⟨c2, i2, k2⟩ := u_known (C := RX2) (T := TX2) (N := 6) (n := 6) htU inuX2 (htU (.instantiable RX2 6) wd_2_1)
  obtain ⟨c3, i3, k3⟩ := u_known (C := RX3) (T := TX3) (N := 0) (n := 0) htU inuX3 (htU (.instantiable RX3 0) wd_2_15)
  obtain ⟨c4, i4, k4⟩ := u_known (C := RX4) (T := TX4) (N := 0) (n := 0) htU inuX4 (htU (.instantiable RX4 0) wd_2_9)
  obtain ⟨c5, i5, k5⟩ := u_known (C := RX5) (T := TX5) (N := 0) (n := 0) htU inuX5 (htU (.instantiable RX5 0) wd_2_21)
  obtain ⟨c6, i6, k6⟩ := u_known (C := RX6) (T := TX6) (N := 2) (n := 2) htU inuX6 (htU (.instantiable RX6 2) wd_1_21)
  obtain ⟨c7, i7, k7⟩ := u_known (C := RX7) (T := TX7) (N := 9) (n := 9) htU inuX7 (htU (.instantiable RX7 9) wd_1_17)
  obtain ⟨c8, i8, k8⟩ := u_known (C := RX8) (T := TX8) (N := 3) (n := 3) htU inuX8 (htU (.instantiable RX8 3) wd_3_2)
  obtain ⟨c9, i9, k9⟩ := u_known (C := RX9) (T := TX9) (N := 0) (n := 0) htU inuX9 (htU (.instantiable RX9 0) wd_2_12)
  obtain ⟨c10, i10, k10⟩ := u_known (C := RX10) (T := TX10) (N := 10) (n := 10) htU inuX10 (htU (.instantiable RX10 10) wd_1_13)
  obtain ⟨c11, i11, k11⟩ := u_known (C := RX11) (T := TX11) (N := 8) (n := 8) htU inuX11 (htU (.instantiable RX11 8) wd_1_1)
  obtain ⟨c12, i12, k12⟩ := u_known (C := RX12) (T := TX12) (N := 27) (n := 27) htU inuX12 (htU (.instantiable RX12 27) wd_1_4)
  obtain ⟨b0, e0⟩ := st_arr (hts (.arrayClass .int) (lwU _ wd_3_9)) (fun C h => by cases h)
  obtain ⟨b1, e1⟩ := st_arr (hts (.arrayClass .long) (lwU _ wd_6_1)) (fun C h => by cases h)
  obtain ⟨b2, e2⟩ := st_arA (hts (.arrayOver (.array .int)) (by decide +kernel))
  obtain ⟨b3, e3⟩ := st_arO (C := RX4) (hts (.arrayOver (.object RX4)) (by decide +kernel))
  obtain ⟨b4, e4⟩ := st_arO (C := RX8) (hts (.arrayOver (.object RX8)) (by decide +kernel))
  refine ⟨(fun k => if k = 0 then c0 else if k = 1 then c1 else if k = 2 then c2 else if k = 3 then c3 else if k = 4 then c4 else if k = 5 then c5 else if k = 6 then c6 else if k = 7 then c7 else if k = 8 then c8 else if k = 9 then c9 else if k = 10 then c10 else if k = 11 then c11 else c12, fun k => if k = 0 then i0 else if k = 1 then i1 else if k = 2 then i2 else if k = 3 then i3 else if k = 4 then i4 else if k = 5 then i5 else if k = 6 then i6 else if k = 7 then i7 else if k = 8 then i8 else if k = 9 then i9 else if k = 10 then i10 else if k = 11 then i11 else i12), fun k => if k = 0 then b0 else if k = 1 then b1 else if k = 2 then b2 else if k = 3 then b3 else b4, ?_, ?_⟩
  · intro k q hq
    match k, hq with
    | 0, hq => cases hq; exact k0
    | 1, hq => cases hq; exact k1
    | 2, hq => cases hq; exact k2
    | 3, hq => cases hq; exact k3
    | 4, hq => cases hq; exact k4
    | 5, hq => cases hq; exact k5
    | 6, hq => cases hq; exact k6
    | 7, hq => cases hq; exact k7
    | 8, hq => cases hq; exact k8
    | 9, hq => cases hq; exact k9
    | 10, hq => cases hq; exact k10
    | 11, hq => cases hq; exact k11
    | 12, hq => cases hq; exact k12
    | k + 13, hq => simp [vwCl] at hq
  · intro k q hq
    match k, hq with
    | 0, hq => cases hq; exact e0
    | 1, hq => cases hq; exact e1
    | 2, hq => cases hq; exact e2
    | 3, hq => cases hq; exact e3
    | 4, hq => cases hq; exact e4
    | k + 5, hq => simp [tyA] at hq
end ST
set_option maxHeartbeats 40000000 in
set_option maxRecDepth 100000 in
/-- THE LAW, from its entry, over what each call must keep -/
theorem whole_of {Rel : Nat → St → St → Prop} (hm : LawOK Rel) (hinit : Rel 0 uF0 uM0) {p : Program} {e : Env} {s : State} {m : MethodId} {below : List Frame} {meth : Method} {c : Code} (l : Launch) {b L : Nat} {xs : Nat → Int32} (hL : L ≤ 2048) (C0 : lw_At p s m meth c b L xs) : W p l e room_1 s m #[Value.ref b] below meth c s.heap [] 0 0 (lw_Z below #[Value.ref b] s) (entryFrame m ([Value.ref b] : List Value).toArray 4) := by
  obtain ⟨hx, hb, hr, hml, hown, hts, hX, hbl, hlocks, hgv⟩ := id C0
  have hb : c.code = cL_law := hb
  have hown : s.vm.findClass RL = some m.cls := hown
  have htU : ∀ w ∈ wsU, w.before #[Value.ref b] s = true := fun w hw => hts w (lwU w hw)
  obtain ⟨D, B, hK⟩ := st_K hts
  have hNs := st_nst hts hgv
  have hSt := st_stt hts hgv
  have S : CallFix p m c cL_law 4 s #[Value.ref b] wsU RL := ⟨hx, hb, hml, hown, htU⟩
  have hA : ∀ q : Nat, s.heap.size ≤ q → (fun q : Nat => s.heap.size ≤ q) q := fun _ h => h
  have O : wL D [] (fun q : Nat => s.heap.size ≤ q) s.heap s.heap [] := ⟨fun k q h => by simp at h, ⟨fun i j p q h => by simp at h, fun k q h => by simp at h⟩, va_S.rf⟩
  have hl := lv_entry ([.ref b]) (n := 4) (Nat.le_of_ble_eq_true rfl)
  rw [lg_entry_eq]
  generalize (lg_sl ([.ref b]) ++ List.replicate (4 - (lg_sl ([.ref b])).length) Slot.unset).toArray = ls at hl ⊢
  have hl : lv_has ls 4 [(0, .ref b)] := hl
  refine n_new (ci := 11) (fs := [.null, .null, .null, .null, .null, .null, .null, .int 0]) S hK O hA inuX11 tyX11 tyX11_ok wd_1_0 wd_1_1 wd_1_2 rfl (fun j hj => by rcases (show j = 0 ∨ j = 1 ∨ j = 2 ∨ j = 3 ∨ j = 4 ∨ j = 5 ∨ j = 6 ∨ j = 7 by omega) with rfl | rfl | rfl | rfl | rfl | rfl | rfl | rfl <;> rfl) (Nat.le_of_ble_eq_true rfl) (Nat.le_of_ble_eq_true rfl) dL_law_0 (fun q0 H O => ?_)
  have O : wL D [(q0, .inr (11, [.null, .null, .null, .null, .null, .null, .null, .int 0]))] (fun q : Nat => s.heap.size ≤ q) s.heap H _ := O
  refine lv_dup hx hb dL_law_3 rfl ?_
  refine n_callI (wr := []) (rest := [.ref q0]) S hK hNs O hA (c_X11_init (b := B)) lkI_L_9 rfl rfl ⟨Nat.le_of_ble_eq_true rfl, Nat.le_of_ble_eq_true rfl⟩ (Nat.le_of_ble_eq_true rfl) hl.1 ⟨Nat.le_of_ble_eq_true rfl, Nat.le_of_ble_eq_true rfl⟩ dL_law_4 (fun qF H locs O => ?_)
  have O : wL D (wG 46 (gF B (hq q0 qF)) (hq q0 qF) uF0) (fun q : Nat => s.heap.size ≤ q) s.heap H locs := O
  refine lv_astore_n (lv' := [(1, .ref q0), (0, .ref b)]) hx hb dL_law_7 rfl hl (by decide) rfl (fun ls hl => ?_)
  refine n_new (ci := 12) (fs := [.int 0, .null, .null, .null, .null, .null, .null, .int 0, .int 0, .null, .null, .null, .null, .null, .int 0, .null, .int 0, .int 0, .null, .null, .null, .null, .null, .null, .null, .int 0, .null]) S hK O hA inuX12 tyX12 tyX12_ok wd_1_3 wd_1_4 wd_1_5 rfl (fun j hj => by rcases (show j = 0 ∨ j = 1 ∨ j = 2 ∨ j = 3 ∨ j = 4 ∨ j = 5 ∨ j = 6 ∨ j = 7 ∨ j = 8 ∨ j = 9 ∨ j = 10 ∨ j = 11 ∨ j = 12 ∨ j = 13 ∨ j = 14 ∨ j = 15 ∨ j = 16 ∨ j = 17 ∨ j = 18 ∨ j = 19 ∨ j = 20 ∨ j = 21 ∨ j = 22 ∨ j = 23 ∨ j = 24 ∨ j = 25 ∨ j = 26 by omega) with rfl | rfl | rfl | rfl | rfl | rfl | rfl | rfl | rfl | rfl | rfl | rfl | rfl | rfl | rfl | rfl | rfl | rfl | rfl | rfl | rfl | rfl | rfl | rfl | rfl | rfl | rfl <;> rfl) (Nat.le_of_ble_eq_true rfl) (Nat.le_of_ble_eq_true rfl) dL_law_8 (fun q8 H O => ?_)
  refine lv_dup hx hb dL_law_11 rfl ?_
  refine n_callI (wr := wG 46 (gF B (hq q0 qF)) (hq q0 qF) uF0) (rest := [.ref q8]) S hK hNs O hA (c_X12_init (b := B)) lkI_L_12 rfl rfl ⟨Nat.le_of_ble_eq_true rfl, Nat.le_of_ble_eq_true rfl⟩ (Nat.le_of_ble_eq_true rfl) hl.1 ⟨Nat.le_of_ble_eq_true rfl, Nat.le_of_ble_eq_true rfl⟩ dL_law_12 (fun qM H locs O => ?_)
  refine lv_astore_n (lv' := [(2, .ref q8), (1, .ref q0), (0, .ref b)]) hx hb dL_law_15 rfl hl (by decide) rfl (fun ls hl => ?_)
  refine lv_iconst (v := 0) hx hb dL_law_16 (by decide) ?_
  refine lv_istore_n (lv' := [(3, .int 0), (2, .ref q8), (1, .ref q0), (0, .ref b)]) hx hb dL_law_17 rfl hl (by decide) rfl (fun ls hl => ?_)
  have hl2 : lv_has ls 4 [(0, .ref b), (1, .ref (hq q0 qF 0)), (2, .ref (hq q8 qM 0)), (3, .int (nI (4 * 0)))] := lv_sub hl [3, 2, 1, 0] rfl
  exact law_loop (D := D) (bF := B) (bM := B) (hF := hq q0 qF) (hM := hq q8 qM) hm ⟨Nat.le_of_ble_eq_true rfl, Nat.le_of_ble_eq_true rfl⟩ hL C0 htU (hK.sub [0, 2, 3, 4] rfl) (hK.sub [0, 1] rfl) hNs hSt 513 0 uF0 uM0 H locs ls (by omega) (by omega) (by omega) hinit (va_P_l O.1) (va_P_r O.1) O.2.1 O.2.2 hl2
