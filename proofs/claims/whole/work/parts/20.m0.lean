/-! the reference, methods: in done keep made refused job isJob set has close lay free -/
theorem lk_X12_99 : LkV RX12 99 yX12_keep cX12_keep 3 none 0 := ⟨wd_10_1, wd_10_2, wd_10_3, wd_1_5, wd_10_4, by decide +kernel⟩
theorem lk_X12_96 : LkV RX12 96 yX12_done cX12_done 2 (some .int) 1 := ⟨wd_10_6, wd_10_7, wd_10_8, wd_1_5, wd_10_9, by decide +kernel⟩
theorem lk_X12_78 : LkS RX12 78 yX12_in cX12_in 3 (some .boolean) 3 := ⟨wd_9_13, wd_9_14, wd_1_5, wd_9_15, by decide +kernel⟩
theorem lk_X12_89 : LkV RX12 89 yX12_refused cX12_refused 2 (some .int) 1 := ⟨wd_9_16, wd_9_17, wd_9_18, wd_1_5, wd_9_19, by decide +kernel⟩
theorem lk_X12_102 : LkV RX12 102 yX12_made cX12_made 3 (some .int) 2 := ⟨wd_9_21, wd_9_22, wd_9_23, wd_1_5, wd_10_0, by decide +kernel⟩
theorem lk_X12_106 : LkV RX12 106 yX12_isJob cX12_isJob 2 (some .boolean) 1 := ⟨wd_11_6, wd_11_7, wd_11_8, wd_1_5, wd_11_9, by decide +kernel⟩
theorem lk_X12_82 : LkS RX12 82 yX12_has cX12_has 2 (some .boolean) 2 := ⟨wd_12_11, wd_12_12, wd_1_5, wd_12_13, by decide +kernel⟩
theorem lk_X12_110 : LkV RX12 110 yX12_close cX12_close 3 none 0 := ⟨wd_12_7, wd_12_8, wd_12_9, wd_1_5, wd_12_10, by decide +kernel⟩
section PT
variable {p : Program} {l : Launch} {e : Env} {s : State} {m : MethodId} {args : Array Value} {below : List Frame} {meth : Method} {c : Code} {A : Nat → Prop} {D : va_G} {b : Nat → ClassId} {h : Nat → Nat}
-- FellersOrderModel.in(III)Z
abbrev rm_X12_in : Room := { frames := 0, cells := 0, slots := 0, locals := 0 }
def wp_X12_in (a0 : Int32) (a1 : Int32) (a2 : Int32) (u : St) (Post : Int32 → St → Prop) : Prop := ((a0 < a1) → (Post (0 : Int32) u)) ∧ ((¬ a0 < a1) → (((a2 < a0) → (Post (0 : Int32) u)) ∧ ((¬ a2 < a0) → (Post (1 : Int32) u))))
set_option maxHeartbeats 4000000 in
set_option maxRecDepth 100000 in
theorem c_X12_in {a0 : Int32} {a1 : Int32} {a2 : Int32} {l : Launch} {D : va_G} {b : Nat → ClassId} {h : Nat → Nat} {u : St} {Post : Int32 → St → Prop} (hw : wp_X12_in a0 a1 a2 u Post) : CtI l yX12_in cX12_in 3 (some .boolean) rm_X12_in D (tyM b) 21 (gM b h) h [.int a0, .int a1, .int a2] u Post := by
  refine CtI.of (plainFor_of_name (by decide)) (Nat.le_of_ble_eq_true rfl) ?_
  intro p e s m below meth c A ls X hA O hl
  have X : Cx p s m _ meth c cX12_in 3 (some .boolean) RX12 D (tyM b) A := X
  obtain ⟨⟨hx, hb, hml, hown, hts⟩, hK, hNs, hlocks, hr⟩ := id X
  have hl : lv_has ls 3 [(0, .int a0), (1, .int a1), (2, .int a2)] := hl
  unfold wp_X12_in at hw
  refine lv_iload_n hx hb dX12_in_0 rfl (lv_at hl 0 rfl) ?_
  refine lv_iload_n hx hb dX12_in_1 rfl (lv_at hl 1 rfl) ?_
  refine lv_icmp_lt (tgt := 14) hx hb dX12_in_2 (by decide) (fun c2 => ?_) (fun c2 => ?_)
  · have hw := hw.1 c2
    refine lv_iconst (v := 0) hx hb dX12_in_14 (by decide) ?_
    exact q_zret X O rfl hw dX12_in_15
  · have hw := hw.2 c2
    refine lv_iload_n hx hb dX12_in_5 rfl (lv_at hl 0 rfl) ?_
    refine lv_iload_n hx hb dX12_in_6 rfl (lv_at hl 2 rfl) ?_
    refine lv_icmp_gt (tgt := 14) hx hb dX12_in_7 (by decide) (fun c7 => ?_) (fun c7 => ?_)
    · have hw := hw.1 c7
      refine lv_iconst (v := 0) hx hb dX12_in_14 (by decide) ?_
      exact q_zret X O rfl hw dX12_in_15
    · have hw := hw.2 c7
      refine lv_iconst (v := 1) hx hb dX12_in_10 (by decide) ?_
      refine lv_goto (tgt := 15) hx hb dX12_in_11 (by decide) ?_
      exact q_zret X O rfl hw dX12_in_15
-- FellersOrderModel.done(I)I
abbrev rm_X12_done : Room := { frames := 0, cells := 0, slots := 0, locals := 0 }
def wp_X12_done (a1 : Int32) (u : St) (Post : Int32 → St → Prop) : Prop := Post a1 (su u 0 14 (0 : Int32))
set_option maxHeartbeats 4000000 in
set_option maxRecDepth 100000 in
theorem c_X12_done {a1 : Int32} {l : Launch} {D : va_G} {b : Nat → ClassId} {h : Nat → Nat} {u : St} {Post : Int32 → St → Prop} (hw : wp_X12_done a1 u Post) : CtI l yX12_done cX12_done 2 (some .int) rm_X12_done D (tyM b) 21 (gM b h) h [.ref (h 0), .int a1] u Post := by
  refine CtI.of (plainFor_of_name (by decide)) (Nat.le_of_ble_eq_true rfl) ?_
  intro p e s m below meth c A ls X hA O hl
  have X : Cx p s m _ meth c cX12_done 2 (some .int) RX12 D (tyM b) A := X
  obtain ⟨⟨hx, hb, hml, hown, hts⟩, hK, hNs, hlocks, hr⟩ := id X
  have hl : lv_has ls 2 [(0, .ref (h 0)), (1, .int a1)] := hl
  unfold wp_X12_done at hw
  refine lv_aload_n hx hb dX12_done_0 rfl (lv_at hl 0 rfl) ?_
  refine lv_iconst (v := 0) hx hb dX12_done_1 (by decide) ?_
  refine pt_X12_71 X O dX12_done_2 (fun H locs O => ?_)
  refine lv_iload_n hx hb dX12_done_5 rfl (lv_at hl 1 rfl) ?_
  exact q_iret X O hw dX12_done_6
-- FellersOrderModel.keep()V
abbrev rm_X12_keep : Room := { frames := 0, cells := 0, slots := 0, locals := 0 }
def wb_X12_keep_102 (Post : Int32 → St → Prop) (K102 : Int32 → St → Prop) (x1 : Int32) (u : St) : Prop := (((12 : Int32) ≤ x1) → (Post 0 (su u 0 8 ((u 0 8) + (1 : Int32))))) ∧ ((¬ (12 : Int32) ≤ x1) → (vp_in x1 12 ∧ (vp_in (((48 : Int32) * (u 0 8)) + ((4 : Int32) * x1)) 576 ∧ (vp_in x1 12 ∧ (vp_in ((((48 : Int32) * (u 0 8)) + ((4 : Int32) * x1)) + (1 : Int32)) 576 ∧ (vp_in x1 12 ∧ (vp_in ((((48 : Int32) * (u 0 8)) + ((4 : Int32) * x1)) + (2 : Int32)) 576 ∧ (vp_in x1 12 ∧ (vp_in ((((48 : Int32) * (u 0 8)) + ((4 : Int32) * x1)) + (3 : Int32)) 576 ∧ (K102 (x1 + 1) (su (su (su (su u 8 (Int32.toNatClampNeg (((48 : Int32) * (u 0 8)) + ((4 : Int32) * x1))) (u 1 (Int32.toNatClampNeg x1))) 8 (Int32.toNatClampNeg ((((48 : Int32) * (u 0 8)) + ((4 : Int32) * x1)) + (1 : Int32))) ((su u 8 (Int32.toNatClampNeg (((48 : Int32) * (u 0 8)) + ((4 : Int32) * x1))) (u 1 (Int32.toNatClampNeg x1))) 2 (Int32.toNatClampNeg x1))) 8 (Int32.toNatClampNeg ((((48 : Int32) * (u 0 8)) + ((4 : Int32) * x1)) + (2 : Int32))) ((su (su u 8 (Int32.toNatClampNeg (((48 : Int32) * (u 0 8)) + ((4 : Int32) * x1))) (u 1 (Int32.toNatClampNeg x1))) 8 (Int32.toNatClampNeg ((((48 : Int32) * (u 0 8)) + ((4 : Int32) * x1)) + (1 : Int32))) ((su u 8 (Int32.toNatClampNeg (((48 : Int32) * (u 0 8)) + ((4 : Int32) * x1))) (u 1 (Int32.toNatClampNeg x1))) 2 (Int32.toNatClampNeg x1))) 3 (Int32.toNatClampNeg x1))) 8 (Int32.toNatClampNeg ((((48 : Int32) * (u 0 8)) + ((4 : Int32) * x1)) + (3 : Int32))) ((su (su (su u 8 (Int32.toNatClampNeg (((48 : Int32) * (u 0 8)) + ((4 : Int32) * x1))) (u 1 (Int32.toNatClampNeg x1))) 8 (Int32.toNatClampNeg ((((48 : Int32) * (u 0 8)) + ((4 : Int32) * x1)) + (1 : Int32))) ((su u 8 (Int32.toNatClampNeg (((48 : Int32) * (u 0 8)) + ((4 : Int32) * x1))) (u 1 (Int32.toNatClampNeg x1))) 2 (Int32.toNatClampNeg x1))) 8 (Int32.toNatClampNeg ((((48 : Int32) * (u 0 8)) + ((4 : Int32) * x1)) + (2 : Int32))) ((su (su u 8 (Int32.toNatClampNeg (((48 : Int32) * (u 0 8)) + ((4 : Int32) * x1))) (u 1 (Int32.toNatClampNeg x1))) 8 (Int32.toNatClampNeg ((((48 : Int32) * (u 0 8)) + ((4 : Int32) * x1)) + (1 : Int32))) ((su u 8 (Int32.toNatClampNeg (((48 : Int32) * (u 0 8)) + ((4 : Int32) * x1))) (u 1 (Int32.toNatClampNeg x1))) 2 (Int32.toNatClampNeg x1))) 3 (Int32.toNatClampNeg x1))) 4 (Int32.toNatClampNeg x1)))))))))))))
set_option maxHeartbeats 4000000 in
set_option maxRecDepth 100000 in
theorem tb_X12_keep_102 (X : Cx p s m args meth c cX12_keep 3 none RX12 D (tyM b) A) (hA : ∀ q, s.heap.size ≤ q → A q) {Post : Int32 → St → Prop} {K102 : Int32 → St → Prop} (k102 : ∀ (x1 : Int32) (u : St) (H : Heap) (locs : List Loc) (ls : Array Slot), K102 x1 u → wO D 21 (gM b h) h u A s.heap H locs → lv_has ls 3 [(0, .ref (h 0)), (1, .int x1)] → W p l e rm_X12_keep s m args below meth c H locs 0 0 (MQ below (va_Qv (Post 0) (cB D (tyM b) 21 (gM b h) h A) A) args s 0 0 A) (F0 m 102 ls [])) : ∀ (x1 : Int32) (u : St) (H : Heap) (locs : List Loc) (ls : Array Slot), wb_X12_keep_102 Post K102 x1 u → wO D 21 (gM b h) h u A s.heap H locs → lv_has ls 3 [(0, .ref (h 0)), (1, .int x1)] → W p l e rm_X12_keep s m args below meth c H locs 0 0 (MQ below (va_Qv (Post 0) (cB D (tyM b) 21 (gM b h) h A) A) args s 0 0 A) (F0 m 102 ls []) := by
  obtain ⟨⟨hx, hb, hml, hown, hts⟩, hK, hNs, hlocks, hr⟩ := id X
  intro x1 u H locs ls hw O hl
  unfold wb_X12_keep_102 at hw
  refine lv_iload_n hx hb dX12_keep_102 rfl (lv_at hl 1 rfl) ?_
  refine lv_bipush (v := 12) hx hb dX12_keep_103 (by decide) ?_
  refine lv_icmp_ge (tgt := 180) hx hb dX12_keep_105 (by decide) (fun c105 => ?_) (fun c105 => ?_)
  · have hw := hw.1 c105
    refine lv_aload_n hx hb dX12_keep_180 rfl (lv_at hl 0 rfl) ?_
    refine lv_dup hx hb dX12_keep_181 rfl ?_
    refine gt_X12_86 X O dX12_keep_182 ?_
    refine lv_iconst (v := 1) hx hb dX12_keep_185 (by decide) ?_
    refine lv_iadd hx hb dX12_keep_186 ?_
    refine pt_X12_86 X O dX12_keep_187 (fun H locs O => ?_)
    exact q_vret X O hw dX12_keep_190
  · have hw := hw.2 c105
    refine lv_bipush (v := 48) hx hb dX12_keep_108 (by decide) ?_
    refine lv_aload_n hx hb dX12_keep_110 rfl (lv_at hl 0 rfl) ?_
    refine gt_X12_86 X O dX12_keep_111 ?_
    refine lv_imul hx hb dX12_keep_114 ?_
    refine lv_iconst (v := 4) hx hb dX12_keep_115 (by decide) ?_
    refine lv_iload_n hx hb dX12_keep_116 rfl (lv_at hl 1 rfl) ?_
    refine lv_imul hx hb dX12_keep_117 ?_
    refine lv_iadd hx hb dX12_keep_118 ?_
    refine lv_istore_n (lv' := [(2, .int (((48 : Int32) * (u 0 8)) + ((4 : Int32) * x1))), (0, .ref (h 0)), (1, .int x1)]) hx hb dX12_keep_119 rfl hl (by decide) rfl (fun ls hl => ?_)
    refine lv_aload_n hx hb dX12_keep_120 rfl (lv_at hl 1 rfl) ?_
    refine gt_X12_31 X O dX12_keep_121 ?_
    refine lv_iload_n hx hb dX12_keep_124 rfl (lv_at hl 0 rfl) ?_
    refine lv_aload_n hx hb dX12_keep_125 rfl (lv_at hl 1 rfl) ?_
    refine gt_X12_7 X O dX12_keep_126 ?_
    refine lv_iload_n hx hb dX12_keep_129 rfl (lv_at hl 2 rfl) ?_
    obtain ⟨i130, hw⟩ := hw
    refine q_ild X O 1 0 (by decide) rfl rfl i130 dX12_keep_130 ?_
    obtain ⟨i131, hw⟩ := hw
    refine q_ist X O 8 0 (by decide) (fun _ => rfl) rfl i131 dX12_keep_131 (fun H locs O => ?_)
    refine lv_aload_n hx hb dX12_keep_132 rfl (lv_at hl 1 rfl) ?_
    refine gt_X12_31 X O dX12_keep_133 ?_
    refine lv_iload_n hx hb dX12_keep_136 rfl (lv_at hl 0 rfl) ?_
    refine lv_iconst (v := 1) hx hb dX12_keep_137 (by decide) ?_
    refine lv_iadd hx hb dX12_keep_138 ?_
    refine lv_aload_n hx hb dX12_keep_139 rfl (lv_at hl 1 rfl) ?_
    refine gt_X12_13 X O dX12_keep_140 ?_
    refine lv_iload_n hx hb dX12_keep_143 rfl (lv_at hl 2 rfl) ?_
    obtain ⟨i144, hw⟩ := hw
    refine q_ild X O 2 0 (by decide) rfl rfl i144 dX12_keep_144 ?_
    obtain ⟨i145, hw⟩ := hw
    refine q_ist X O 8 0 (by decide) (fun _ => rfl) rfl i145 dX12_keep_145 (fun H locs O => ?_)
    refine lv_aload_n hx hb dX12_keep_146 rfl (lv_at hl 1 rfl) ?_
    refine gt_X12_31 X O dX12_keep_147 ?_
    refine lv_iload_n hx hb dX12_keep_150 rfl (lv_at hl 0 rfl) ?_
    refine lv_iconst (v := 2) hx hb dX12_keep_151 (by decide) ?_
    refine lv_iadd hx hb dX12_keep_152 ?_
    refine lv_aload_n hx hb dX12_keep_153 rfl (lv_at hl 1 rfl) ?_
    refine gt_X12_16 X O dX12_keep_154 ?_
    refine lv_iload_n hx hb dX12_keep_157 rfl (lv_at hl 2 rfl) ?_
    obtain ⟨i158, hw⟩ := hw
    refine q_ild X O 3 0 (by decide) rfl rfl i158 dX12_keep_158 ?_
    obtain ⟨i159, hw⟩ := hw
    refine q_ist X O 8 0 (by decide) (fun _ => rfl) rfl i159 dX12_keep_159 (fun H locs O => ?_)
    refine lv_aload_n hx hb dX12_keep_160 rfl (lv_at hl 1 rfl) ?_
    refine gt_X12_31 X O dX12_keep_161 ?_
    refine lv_iload_n hx hb dX12_keep_164 rfl (lv_at hl 0 rfl) ?_
    refine lv_iconst (v := 3) hx hb dX12_keep_165 (by decide) ?_
    refine lv_iadd hx hb dX12_keep_166 ?_
    refine lv_aload_n hx hb dX12_keep_167 rfl (lv_at hl 1 rfl) ?_
    refine gt_X12_19 X O dX12_keep_168 ?_
    refine lv_iload_n hx hb dX12_keep_171 rfl (lv_at hl 2 rfl) ?_
    obtain ⟨i172, hw⟩ := hw
    refine q_ild X O 4 0 (by decide) rfl rfl i172 dX12_keep_172 ?_
    obtain ⟨i173, hw⟩ := hw
    refine q_ist X O 8 0 (by decide) (fun _ => rfl) rfl i173 dX12_keep_173 (fun H locs O => ?_)
    refine lv_iinc (v := x1 + 1) (lv' := [(1, .int (x1 + 1)), (2, .int (((48 : Int32) * (u 0 8)) + ((4 : Int32) * x1))), (0, .ref (h 0))]) hx hb dX12_keep_174 hl (k := 2) rfl rfl (by decide) rfl (fun ls hl => ?_)
    refine lv_goto (tgt := 102) hx hb dX12_keep_177 (by decide) ?_
    exact k102 _ _ _ _ _ hw O (lv_sub hl [2, 0] rfl)
def wl_X12_keep_102 (Post : Int32 → St → Prop) : Nat → Int32 → St → Prop
  | 0 => fun _ _ => False
  | n + 1 => fun x1 u => wb_X12_keep_102 Post (wl_X12_keep_102 Post n) x1 u
set_option maxHeartbeats 4000000 in
set_option maxRecDepth 100000 in
theorem tl_X12_keep_102 (X : Cx p s m args meth c cX12_keep 3 none RX12 D (tyM b) A) (hA : ∀ q, s.heap.size ≤ q → A q) {Post : Int32 → St → Prop} : ∀ n : Nat, ∀ (x1 : Int32) (u : St) (H : Heap) (locs : List Loc) (ls : Array Slot), (wl_X12_keep_102 Post n) x1 u → wO D 21 (gM b h) h u A s.heap H locs → lv_has ls 3 [(0, .ref (h 0)), (1, .int x1)] → W p l e rm_X12_keep s m args below meth c H locs 0 0 (MQ below (va_Qv (Post 0) (cB D (tyM b) 21 (gM b h) h A) A) args s 0 0 A) (F0 m 102 ls []) := by
  intro n
  induction n with
  | zero => intro x1 u H locs ls hw; exact False.elim hw
  | succ n ih => intro x1 u H locs ls hw O hl; exact tb_X12_keep_102 X hA ih x1 u H locs ls hw O hl
def wb_X12_keep_45 (Post : Int32 → St → Prop) (K21 : Int32 → St → Prop) (K45 : Int32 → Int32 → St → Prop) (x1 : Int32) (x2 : Int32) (u : St) : Prop := (((48 : Int32) ≤ x2) → (K21 (x1 + 1) u)) ∧ ((¬ (48 : Int32) ≤ x2) → (vp_in (((48 : Int32) * (x1 + (1 : Int32))) + x2) 576 ∧ (vp_in (((48 : Int32) * x1) + x2) 576 ∧ (K45 x1 (x2 + 1) (su u 8 (Int32.toNatClampNeg (((48 : Int32) * x1) + x2)) (u 8 (Int32.toNatClampNeg (((48 : Int32) * (x1 + (1 : Int32))) + x2))))))))
set_option maxHeartbeats 4000000 in
set_option maxRecDepth 100000 in
theorem tb_X12_keep_45 (X : Cx p s m args meth c cX12_keep 3 none RX12 D (tyM b) A) (hA : ∀ q, s.heap.size ≤ q → A q) {Post : Int32 → St → Prop} {K21 : Int32 → St → Prop} (k21 : ∀ (x1 : Int32) (u : St) (H : Heap) (locs : List Loc) (ls : Array Slot), K21 x1 u → wO D 21 (gM b h) h u A s.heap H locs → lv_has ls 3 [(0, .ref (h 0)), (1, .int x1)] → W p l e rm_X12_keep s m args below meth c H locs 0 0 (MQ below (va_Qv (Post 0) (cB D (tyM b) 21 (gM b h) h A) A) args s 0 0 A) (F0 m 21 ls [])) {K45 : Int32 → Int32 → St → Prop} (k45 : ∀ (x1 : Int32) (x2 : Int32) (u : St) (H : Heap) (locs : List Loc) (ls : Array Slot), K45 x1 x2 u → wO D 21 (gM b h) h u A s.heap H locs → lv_has ls 3 [(0, .ref (h 0)), (1, .int x1), (2, .int x2)] → W p l e rm_X12_keep s m args below meth c H locs 0 0 (MQ below (va_Qv (Post 0) (cB D (tyM b) 21 (gM b h) h A) A) args s 0 0 A) (F0 m 45 ls [])) : ∀ (x1 : Int32) (x2 : Int32) (u : St) (H : Heap) (locs : List Loc) (ls : Array Slot), wb_X12_keep_45 Post K21 K45 x1 x2 u → wO D 21 (gM b h) h u A s.heap H locs → lv_has ls 3 [(0, .ref (h 0)), (1, .int x1), (2, .int x2)] → W p l e rm_X12_keep s m args below meth c H locs 0 0 (MQ below (va_Qv (Post 0) (cB D (tyM b) 21 (gM b h) h A) A) args s 0 0 A) (F0 m 45 ls []) := by
  obtain ⟨⟨hx, hb, hml, hown, hts⟩, hK, hNs, hlocks, hr⟩ := id X
  intro x1 x2 u H locs ls hw O hl
  unfold wb_X12_keep_45 at hw
  refine lv_iload_n hx hb dX12_keep_45 rfl (lv_at hl 2 rfl) ?_
  refine lv_bipush (v := 48) hx hb dX12_keep_46 (by decide) ?_
  refine lv_icmp_ge (tgt := 81) hx hb dX12_keep_48 (by decide) (fun c48 => ?_) (fun c48 => ?_)
  · have hw := hw.1 c48
    refine lv_iinc (v := x1 + 1) (lv' := [(1, .int (x1 + 1)), (0, .ref (h 0)), (2, .int x2)]) hx hb dX12_keep_81 hl (k := 1) rfl rfl (by decide) rfl (fun ls hl => ?_)
    refine lv_goto (tgt := 21) hx hb dX12_keep_84 (by decide) ?_
    exact k21 _ _ _ _ _ hw O (lv_sub hl [1, 0] rfl)
  · have hw := hw.2 c48
    refine lv_aload_n hx hb dX12_keep_51 rfl (lv_at hl 0 rfl) ?_
    refine gt_X12_31 X O dX12_keep_52 ?_
    refine lv_bipush (v := 48) hx hb dX12_keep_55 (by decide) ?_
    refine lv_iload_n hx hb dX12_keep_57 rfl (lv_at hl 1 rfl) ?_
    refine lv_imul hx hb dX12_keep_58 ?_
    refine lv_iload_n hx hb dX12_keep_59 rfl (lv_at hl 2 rfl) ?_
    refine lv_iadd hx hb dX12_keep_60 ?_
    refine lv_aload_n hx hb dX12_keep_61 rfl (lv_at hl 0 rfl) ?_
    refine gt_X12_31 X O dX12_keep_62 ?_
    refine lv_bipush (v := 48) hx hb dX12_keep_65 (by decide) ?_
    refine lv_iload_n hx hb dX12_keep_67 rfl (lv_at hl 1 rfl) ?_
    refine lv_iconst (v := 1) hx hb dX12_keep_68 (by decide) ?_
    refine lv_iadd hx hb dX12_keep_69 ?_
    refine lv_imul hx hb dX12_keep_70 ?_
    refine lv_iload_n hx hb dX12_keep_71 rfl (lv_at hl 2 rfl) ?_
    refine lv_iadd hx hb dX12_keep_72 ?_
    obtain ⟨i73, hw⟩ := hw
    refine q_ild X O 8 0 (by decide) rfl rfl i73 dX12_keep_73 ?_
    obtain ⟨i74, hw⟩ := hw
    refine q_ist X O 8 0 (by decide) (fun _ => rfl) rfl i74 dX12_keep_74 (fun H locs O => ?_)
    refine lv_iinc (v := x2 + 1) (lv' := [(2, .int (x2 + 1)), (0, .ref (h 0)), (1, .int x1)]) hx hb dX12_keep_75 hl (k := 2) rfl rfl (by decide) rfl (fun ls hl => ?_)
    refine lv_goto (tgt := 45) hx hb dX12_keep_78 (by decide) ?_
    exact k45 _ _ _ _ _ _ hw O (lv_sub hl [1, 2, 0] rfl)
def wl_X12_keep_45 (Post : Int32 → St → Prop) (K21 : Int32 → St → Prop) : Nat → Int32 → Int32 → St → Prop
  | 0 => fun _ _ _ => False
  | n + 1 => fun x1 x2 u => wb_X12_keep_45 Post K21 (wl_X12_keep_45 Post K21 n) x1 x2 u
set_option maxHeartbeats 4000000 in
set_option maxRecDepth 100000 in
theorem tl_X12_keep_45 (X : Cx p s m args meth c cX12_keep 3 none RX12 D (tyM b) A) (hA : ∀ q, s.heap.size ≤ q → A q) {Post : Int32 → St → Prop} {K21 : Int32 → St → Prop} (k21 : ∀ (x1 : Int32) (u : St) (H : Heap) (locs : List Loc) (ls : Array Slot), K21 x1 u → wO D 21 (gM b h) h u A s.heap H locs → lv_has ls 3 [(0, .ref (h 0)), (1, .int x1)] → W p l e rm_X12_keep s m args below meth c H locs 0 0 (MQ below (va_Qv (Post 0) (cB D (tyM b) 21 (gM b h) h A) A) args s 0 0 A) (F0 m 21 ls [])) : ∀ n : Nat, ∀ (x1 : Int32) (x2 : Int32) (u : St) (H : Heap) (locs : List Loc) (ls : Array Slot), (wl_X12_keep_45 Post K21 n) x1 x2 u → wO D 21 (gM b h) h u A s.heap H locs → lv_has ls 3 [(0, .ref (h 0)), (1, .int x1), (2, .int x2)] → W p l e rm_X12_keep s m args below meth c H locs 0 0 (MQ below (va_Qv (Post 0) (cB D (tyM b) 21 (gM b h) h A) A) args s 0 0 A) (F0 m 45 ls []) := by
  intro n
  induction n with
  | zero => intro x1 x2 u H locs ls hw; exact False.elim hw
  | succ n ih => intro x1 x2 u H locs ls hw O hl; exact tb_X12_keep_45 X hA k21 ih x1 x2 u H locs ls hw O hl
def wb_X12_keep_21 (Post : Int32 → St → Prop) (K21 : Int32 → St → Prop) (x1 : Int32) (u : St) : Prop := (((u 0 8) ≤ x1) → (vp_in (u 0 8) 12 ∧ (∃ n : Nat, wl_X12_keep_102 Post n (0 : Int32) (su u 7 (Int32.toNatClampNeg (u 0 8)) (u 0 0))))) ∧ ((¬ (u 0 8) ≤ x1) → (vp_in (x1 + (1 : Int32)) 12 ∧ (vp_in x1 12 ∧ (∃ n : Nat, wl_X12_keep_45 Post K21 n x1 (0 : Int32) (su u 7 (Int32.toNatClampNeg x1) (u 7 (Int32.toNatClampNeg (x1 + (1 : Int32)))))))))
set_option maxHeartbeats 4000000 in
set_option maxRecDepth 100000 in
theorem tb_X12_keep_21 (X : Cx p s m args meth c cX12_keep 3 none RX12 D (tyM b) A) (hA : ∀ q, s.heap.size ≤ q → A q) {Post : Int32 → St → Prop} {K21 : Int32 → St → Prop} (k21 : ∀ (x1 : Int32) (u : St) (H : Heap) (locs : List Loc) (ls : Array Slot), K21 x1 u → wO D 21 (gM b h) h u A s.heap H locs → lv_has ls 3 [(0, .ref (h 0)), (1, .int x1)] → W p l e rm_X12_keep s m args below meth c H locs 0 0 (MQ below (va_Qv (Post 0) (cB D (tyM b) 21 (gM b h) h A) A) args s 0 0 A) (F0 m 21 ls [])) : ∀ (x1 : Int32) (u : St) (H : Heap) (locs : List Loc) (ls : Array Slot), wb_X12_keep_21 Post K21 x1 u → wO D 21 (gM b h) h u A s.heap H locs → lv_has ls 3 [(0, .ref (h 0)), (1, .int x1)] → W p l e rm_X12_keep s m args below meth c H locs 0 0 (MQ below (va_Qv (Post 0) (cB D (tyM b) 21 (gM b h) h A) A) args s 0 0 A) (F0 m 21 ls []) := by
  obtain ⟨⟨hx, hb, hml, hown, hts⟩, hK, hNs, hlocks, hr⟩ := id X
  intro x1 u H locs ls hw O hl
  unfold wb_X12_keep_21 at hw
  refine lv_iload_n hx hb dX12_keep_21 rfl (lv_at hl 1 rfl) ?_
  refine lv_aload_n hx hb dX12_keep_22 rfl (lv_at hl 0 rfl) ?_
  refine gt_X12_86 X O dX12_keep_23 ?_
  refine lv_icmp_ge (tgt := 87) hx hb dX12_keep_26 (by decide) (fun c26 => ?_) (fun c26 => ?_)
  · have hw := hw.1 c26
    refine lv_aload_n hx hb dX12_keep_87 rfl (lv_at hl 0 rfl) ?_
    refine gt_X12_28 X O dX12_keep_88 ?_
    refine lv_aload_n hx hb dX12_keep_91 rfl (lv_at hl 0 rfl) ?_
    refine gt_X12_86 X O dX12_keep_92 ?_
    refine lv_aload_n hx hb dX12_keep_95 rfl (lv_at hl 0 rfl) ?_
    refine gt_X12_75 X O dX12_keep_96 ?_
    obtain ⟨i99, hw⟩ := hw
    refine q_ist X O 7 0 (by decide) (fun _ => rfl) rfl i99 dX12_keep_99 (fun H locs O => ?_)
    refine lv_iconst (v := 0) hx hb dX12_keep_100 (by decide) ?_
    refine lv_istore_n (lv' := [(1, .int (0 : Int32)), (0, .ref (h 0))]) hx hb dX12_keep_101 rfl hl (by decide) rfl (fun ls hl => ?_)
    obtain ⟨n, hw⟩ := hw
    exact tl_X12_keep_102 X hA n _ _ _ _ _ hw O (lv_sub hl [1, 0] rfl)
  · have hw := hw.2 c26
    refine lv_aload_n hx hb dX12_keep_29 rfl (lv_at hl 0 rfl) ?_
    refine gt_X12_28 X O dX12_keep_30 ?_
    refine lv_iload_n hx hb dX12_keep_33 rfl (lv_at hl 1 rfl) ?_
    refine lv_aload_n hx hb dX12_keep_34 rfl (lv_at hl 0 rfl) ?_
    refine gt_X12_28 X O dX12_keep_35 ?_
    refine lv_iload_n hx hb dX12_keep_38 rfl (lv_at hl 1 rfl) ?_
    refine lv_iconst (v := 1) hx hb dX12_keep_39 (by decide) ?_
    refine lv_iadd hx hb dX12_keep_40 ?_
    obtain ⟨i41, hw⟩ := hw
    refine q_ild X O 7 0 (by decide) rfl rfl i41 dX12_keep_41 ?_
    obtain ⟨i42, hw⟩ := hw
    refine q_ist X O 7 0 (by decide) (fun _ => rfl) rfl i42 dX12_keep_42 (fun H locs O => ?_)
    refine lv_iconst (v := 0) hx hb dX12_keep_43 (by decide) ?_
    refine lv_istore_n (lv' := [(2, .int (0 : Int32)), (0, .ref (h 0)), (1, .int x1)]) hx hb dX12_keep_44 rfl hl (by decide) rfl (fun ls hl => ?_)
    obtain ⟨n, hw⟩ := hw
    exact tl_X12_keep_45 X hA k21 n _ _ _ _ _ _ hw O (lv_sub hl [1, 2, 0] rfl)
def wl_X12_keep_21 (Post : Int32 → St → Prop) : Nat → Int32 → St → Prop
  | 0 => fun _ _ => False
  | n + 1 => fun x1 u => wb_X12_keep_21 Post (wl_X12_keep_21 Post n) x1 u
set_option maxHeartbeats 4000000 in
set_option maxRecDepth 100000 in
theorem tl_X12_keep_21 (X : Cx p s m args meth c cX12_keep 3 none RX12 D (tyM b) A) (hA : ∀ q, s.heap.size ≤ q → A q) {Post : Int32 → St → Prop} : ∀ n : Nat, ∀ (x1 : Int32) (u : St) (H : Heap) (locs : List Loc) (ls : Array Slot), (wl_X12_keep_21 Post n) x1 u → wO D 21 (gM b h) h u A s.heap H locs → lv_has ls 3 [(0, .ref (h 0)), (1, .int x1)] → W p l e rm_X12_keep s m args below meth c H locs 0 0 (MQ below (va_Qv (Post 0) (cB D (tyM b) 21 (gM b h) h A) A) args s 0 0 A) (F0 m 21 ls []) := by
  intro n
  induction n with
  | zero => intro x1 u H locs ls hw; exact False.elim hw
  | succ n ih => intro x1 u H locs ls hw O hl; exact tb_X12_keep_21 X hA ih x1 u H locs ls hw O hl
def wp_X12_keep (u : St) (Post : Int32 → St → Prop) : Prop := ((¬ (u 0 8) = (12 : Int32)) → (vp_in (u 0 8) 12 ∧ (∃ n : Nat, wl_X12_keep_102 Post n (0 : Int32) (su u 7 (Int32.toNatClampNeg (u 0 8)) (u 0 0))))) ∧ (((u 0 8) = (12 : Int32)) → (∃ n : Nat, wl_X12_keep_21 Post n (0 : Int32) (su u 0 8 ((u 0 8) - (1 : Int32)))))
set_option maxHeartbeats 4000000 in
set_option maxRecDepth 100000 in
theorem c_X12_keep {l : Launch} {D : va_G} {b : Nat → ClassId} {h : Nat → Nat} {u : St} {Post : Int32 → St → Prop} (hw : wp_X12_keep u Post) : CtV l yX12_keep cX12_keep 3 none rm_X12_keep D (tyM b) 21 (gM b h) h [.ref (h 0)] u Post := by
  refine CtV.of (plainFor_of_name (by decide)) (Nat.le_of_ble_eq_true rfl) ?_
  intro p e s m below meth c A ls X hA O hl
  have X : Cx p s m _ meth c cX12_keep 3 none RX12 D (tyM b) A := X
  obtain ⟨⟨hx, hb, hml, hown, hts⟩, hK, hNs, hlocks, hr⟩ := id X
  have hl : lv_has ls 3 [(0, .ref (h 0))] := hl
  unfold wp_X12_keep at hw
  refine lv_aload_n hx hb dX12_keep_0 rfl (lv_at hl 0 rfl) ?_
  refine gt_X12_86 X O dX12_keep_1 ?_
  refine lv_bipush (v := 12) hx hb dX12_keep_4 (by decide) ?_
  refine lv_icmp_ne (tgt := 87) hx hb dX12_keep_6 (by decide) (fun c6 => ?_) (fun c6 => ?_)
  · have hw := hw.1 c6
    refine lv_aload_n hx hb dX12_keep_87 rfl (lv_at hl 0 rfl) ?_
    refine gt_X12_28 X O dX12_keep_88 ?_
    refine lv_aload_n hx hb dX12_keep_91 rfl (lv_at hl 0 rfl) ?_
    refine gt_X12_86 X O dX12_keep_92 ?_
    refine lv_aload_n hx hb dX12_keep_95 rfl (lv_at hl 0 rfl) ?_
    refine gt_X12_75 X O dX12_keep_96 ?_
    obtain ⟨i99, hw⟩ := hw
    refine q_ist X O 7 0 (by decide) (fun _ => rfl) rfl i99 dX12_keep_99 (fun H locs O => ?_)
    refine lv_iconst (v := 0) hx hb dX12_keep_100 (by decide) ?_
    refine lv_istore_n (lv' := [(1, .int (0 : Int32)), (0, .ref (h 0))]) hx hb dX12_keep_101 rfl hl (by decide) rfl (fun ls hl => ?_)
    obtain ⟨n, hw⟩ := hw
    exact tl_X12_keep_102 X hA n _ _ _ _ _ hw O (lv_sub hl [1, 0] rfl)
  · have hw := hw.2 c6
    refine lv_aload_n hx hb dX12_keep_9 rfl (lv_at hl 0 rfl) ?_
    refine lv_dup hx hb dX12_keep_10 rfl ?_
    refine gt_X12_86 X O dX12_keep_11 ?_
    refine lv_iconst (v := 1) hx hb dX12_keep_14 (by decide) ?_
    refine lv_isub hx hb dX12_keep_15 ?_
    refine pt_X12_86 X O dX12_keep_16 (fun H locs O => ?_)
    refine lv_iconst (v := 0) hx hb dX12_keep_19 (by decide) ?_
    refine lv_istore_n (lv' := [(1, .int (0 : Int32)), (0, .ref (h 0))]) hx hb dX12_keep_20 rfl hl (by decide) rfl (fun ls hl => ?_)
    obtain ⟨n, hw⟩ := hw
    exact tl_X12_keep_21 X hA n _ _ _ _ _ hw O (lv_sub hl [1, 0] rfl)
-- FellersOrderModel.made(II)I
abbrev rm_X12_made : Room := { frames := 1, cells := 0, slots := 0, locals := 22 }
def wp_X12_made (a1 : Int32) (a2 : Int32) (u : St) (Post : Int32 → St → Prop) : Prop := wp_X12_keep u (fun _ u1 => vp_in (u1 0 0) 12 ∧ (vp_in ((su u1 1 (Int32.toNatClampNeg (u1 0 0)) a1) 0 0) 12 ∧ (vp_in ((su (su u1 1 (Int32.toNatClampNeg (u1 0 0)) a1) 2 (Int32.toNatClampNeg ((su u1 1 (Int32.toNatClampNeg (u1 0 0)) a1) 0 0)) a2) 0 0) 12 ∧ (vp_in ((su (su (su u1 1 (Int32.toNatClampNeg (u1 0 0)) a1) 2 (Int32.toNatClampNeg ((su u1 1 (Int32.toNatClampNeg (u1 0 0)) a1) 0 0)) a2) 3 (Int32.toNatClampNeg ((su (su u1 1 (Int32.toNatClampNeg (u1 0 0)) a1) 2 (Int32.toNatClampNeg ((su u1 1 (Int32.toNatClampNeg (u1 0 0)) a1) 0 0)) a2) 0 0)) (0 : Int32)) 0 0) 12 ∧ (wp_X12_done (((su (su (su (su (su u1 1 (Int32.toNatClampNeg (u1 0 0)) a1) 2 (Int32.toNatClampNeg ((su u1 1 (Int32.toNatClampNeg (u1 0 0)) a1) 0 0)) a2) 3 (Int32.toNatClampNeg ((su (su u1 1 (Int32.toNatClampNeg (u1 0 0)) a1) 2 (Int32.toNatClampNeg ((su u1 1 (Int32.toNatClampNeg (u1 0 0)) a1) 0 0)) a2) 0 0)) (0 : Int32)) 4 (Int32.toNatClampNeg ((su (su (su u1 1 (Int32.toNatClampNeg (u1 0 0)) a1) 2 (Int32.toNatClampNeg ((su u1 1 (Int32.toNatClampNeg (u1 0 0)) a1) 0 0)) a2) 3 (Int32.toNatClampNeg ((su (su u1 1 (Int32.toNatClampNeg (u1 0 0)) a1) 2 (Int32.toNatClampNeg ((su u1 1 (Int32.toNatClampNeg (u1 0 0)) a1) 0 0)) a2) 0 0)) (0 : Int32)) 0 0)) (0 : Int32)) 0 0 (((su (su (su (su u1 1 (Int32.toNatClampNeg (u1 0 0)) a1) 2 (Int32.toNatClampNeg ((su u1 1 (Int32.toNatClampNeg (u1 0 0)) a1) 0 0)) a2) 3 (Int32.toNatClampNeg ((su (su u1 1 (Int32.toNatClampNeg (u1 0 0)) a1) 2 (Int32.toNatClampNeg ((su u1 1 (Int32.toNatClampNeg (u1 0 0)) a1) 0 0)) a2) 0 0)) (0 : Int32)) 4 (Int32.toNatClampNeg ((su (su (su u1 1 (Int32.toNatClampNeg (u1 0 0)) a1) 2 (Int32.toNatClampNeg ((su u1 1 (Int32.toNatClampNeg (u1 0 0)) a1) 0 0)) a2) 3 (Int32.toNatClampNeg ((su (su u1 1 (Int32.toNatClampNeg (u1 0 0)) a1) 2 (Int32.toNatClampNeg ((su u1 1 (Int32.toNatClampNeg (u1 0 0)) a1) 0 0)) a2) 0 0)) (0 : Int32)) 0 0)) (0 : Int32)) 0 0) + (1 : Int32))) 0 0) - (1 : Int32)) (su (su (su (su (su u1 1 (Int32.toNatClampNeg (u1 0 0)) a1) 2 (Int32.toNatClampNeg ((su u1 1 (Int32.toNatClampNeg (u1 0 0)) a1) 0 0)) a2) 3 (Int32.toNatClampNeg ((su (su u1 1 (Int32.toNatClampNeg (u1 0 0)) a1) 2 (Int32.toNatClampNeg ((su u1 1 (Int32.toNatClampNeg (u1 0 0)) a1) 0 0)) a2) 0 0)) (0 : Int32)) 4 (Int32.toNatClampNeg ((su (su (su u1 1 (Int32.toNatClampNeg (u1 0 0)) a1) 2 (Int32.toNatClampNeg ((su u1 1 (Int32.toNatClampNeg (u1 0 0)) a1) 0 0)) a2) 3 (Int32.toNatClampNeg ((su (su u1 1 (Int32.toNatClampNeg (u1 0 0)) a1) 2 (Int32.toNatClampNeg ((su u1 1 (Int32.toNatClampNeg (u1 0 0)) a1) 0 0)) a2) 0 0)) (0 : Int32)) 0 0)) (0 : Int32)) 0 0 (((su (su (su (su u1 1 (Int32.toNatClampNeg (u1 0 0)) a1) 2 (Int32.toNatClampNeg ((su u1 1 (Int32.toNatClampNeg (u1 0 0)) a1) 0 0)) a2) 3 (Int32.toNatClampNeg ((su (su u1 1 (Int32.toNatClampNeg (u1 0 0)) a1) 2 (Int32.toNatClampNeg ((su u1 1 (Int32.toNatClampNeg (u1 0 0)) a1) 0 0)) a2) 0 0)) (0 : Int32)) 4 (Int32.toNatClampNeg ((su (su (su u1 1 (Int32.toNatClampNeg (u1 0 0)) a1) 2 (Int32.toNatClampNeg ((su u1 1 (Int32.toNatClampNeg (u1 0 0)) a1) 0 0)) a2) 3 (Int32.toNatClampNeg ((su (su u1 1 (Int32.toNatClampNeg (u1 0 0)) a1) 2 (Int32.toNatClampNeg ((su u1 1 (Int32.toNatClampNeg (u1 0 0)) a1) 0 0)) a2) 0 0)) (0 : Int32)) 0 0)) (0 : Int32)) 0 0) + (1 : Int32))) (fun r61 u61 => Post r61 u61))))))
set_option maxHeartbeats 4000000 in
set_option maxRecDepth 100000 in
theorem c_X12_made {a1 : Int32} {a2 : Int32} {l : Launch} {D : va_G} {b : Nat → ClassId} {h : Nat → Nat} {u : St} {Post : Int32 → St → Prop} (hw : wp_X12_made a1 a2 u Post) : CtI l yX12_made cX12_made 3 (some .int) rm_X12_made D (tyM b) 21 (gM b h) h [.ref (h 0), .int a1, .int a2] u Post := by
  refine CtI.of (plainFor_of_name (by decide)) (Nat.le_of_ble_eq_true rfl) ?_
  intro p e s m below meth c A ls X hA O hl
  have X : Cx p s m _ meth c cX12_made 3 (some .int) RX12 D (tyM b) A := X
  obtain ⟨⟨hx, hb, hml, hown, hts⟩, hK, hNs, hlocks, hr⟩ := id X
  have hl : lv_has ls 3 [(0, .ref (h 0)), (1, .int a1), (2, .int a2)] := hl
  unfold wp_X12_made at hw
  refine lv_aload_n hx hb dX12_made_0 rfl (lv_at hl 0 rfl) ?_
  refine q_cvv (rest := []) X O hA 0 (c_X12_keep hw) lk_X12_99 (by decide) rfl rfl rfl rfl rfl rfl ⟨Nat.le_of_ble_eq_true rfl, Nat.le_of_ble_eq_true rfl⟩ (Nat.le_of_ble_eq_true rfl) hl.1 ⟨Nat.zero_le _, Nat.zero_le _⟩ rfl dX12_made_1 (fun u1 H locs hw O => ?_)
  refine lv_aload_n hx hb dX12_made_4 rfl (lv_at hl 0 rfl) ?_
  refine gt_X12_7 X O dX12_made_5 ?_
  refine lv_aload_n hx hb dX12_made_8 rfl (lv_at hl 0 rfl) ?_
  refine gt_X12_75 X O dX12_made_9 ?_
  refine lv_iload_n hx hb dX12_made_12 rfl (lv_at hl 1 rfl) ?_
  obtain ⟨i13, hw⟩ := hw
  refine q_ist X O 1 0 (by decide) (fun _ => rfl) rfl i13 dX12_made_13 (fun H locs O => ?_)
  refine lv_aload_n hx hb dX12_made_14 rfl (lv_at hl 0 rfl) ?_
  refine gt_X12_13 X O dX12_made_15 ?_
  refine lv_aload_n hx hb dX12_made_18 rfl (lv_at hl 0 rfl) ?_
  refine gt_X12_75 X O dX12_made_19 ?_
  refine lv_iload_n hx hb dX12_made_22 rfl (lv_at hl 2 rfl) ?_
  obtain ⟨i23, hw⟩ := hw
  refine q_ist X O 2 0 (by decide) (fun _ => rfl) rfl i23 dX12_made_23 (fun H locs O => ?_)
  refine lv_aload_n hx hb dX12_made_24 rfl (lv_at hl 0 rfl) ?_
  refine gt_X12_16 X O dX12_made_25 ?_
  refine lv_aload_n hx hb dX12_made_28 rfl (lv_at hl 0 rfl) ?_
  refine gt_X12_75 X O dX12_made_29 ?_
  refine lv_iconst (v := 0) hx hb dX12_made_32 (by decide) ?_
  obtain ⟨i33, hw⟩ := hw
  refine q_ist X O 3 0 (by decide) (fun _ => rfl) rfl i33 dX12_made_33 (fun H locs O => ?_)
  refine lv_aload_n hx hb dX12_made_34 rfl (lv_at hl 0 rfl) ?_
  refine gt_X12_19 X O dX12_made_35 ?_
  refine lv_aload_n hx hb dX12_made_38 rfl (lv_at hl 0 rfl) ?_
  refine gt_X12_75 X O dX12_made_39 ?_
  refine lv_iconst (v := 0) hx hb dX12_made_42 (by decide) ?_
  obtain ⟨i43, hw⟩ := hw
  refine q_ist X O 4 0 (by decide) (fun _ => rfl) rfl i43 dX12_made_43 (fun H locs O => ?_)
  refine lv_aload_n hx hb dX12_made_44 rfl (lv_at hl 0 rfl) ?_
  refine lv_dup hx hb dX12_made_45 rfl ?_
  refine gt_X12_75 X O dX12_made_46 ?_
  refine lv_iconst (v := 1) hx hb dX12_made_49 (by decide) ?_
  refine lv_iadd hx hb dX12_made_50 ?_
  refine pt_X12_75 X O dX12_made_51 (fun H locs O => ?_)
  refine lv_aload_n hx hb dX12_made_54 rfl (lv_at hl 0 rfl) ?_
  refine lv_aload_n hx hb dX12_made_55 rfl (lv_at hl 0 rfl) ?_
  refine gt_X12_75 X O dX12_made_56 ?_
  refine lv_iconst (v := 1) hx hb dX12_made_59 (by decide) ?_
  refine lv_isub hx hb dX12_made_60 ?_
  refine q_civ (rest := []) X O hA 0 (c_X12_done hw) lk_X12_96 (by decide) rfl rfl rfl rfl rfl rfl ⟨Nat.le_of_ble_eq_true rfl, Nat.le_of_ble_eq_true rfl⟩ (Nat.le_of_ble_eq_true rfl) hl.1 ⟨Nat.zero_le _, Nat.zero_le _⟩ rfl dX12_made_61 (fun r61 u61 H locs hw O => ?_)
  exact q_iret X O hw dX12_made_64
-- FellersOrderModel.refused(I)I
abbrev rm_X12_refused : Room := { frames := 0, cells := 0, slots := 0, locals := 0 }
def wp_X12_refused (a1 : Int32) (u : St) (Post : Int32 → St → Prop) : Prop := Post (-1 : Int32) (su u 0 14 a1)
set_option maxHeartbeats 4000000 in
set_option maxRecDepth 100000 in
theorem c_X12_refused {a1 : Int32} {l : Launch} {D : va_G} {b : Nat → ClassId} {h : Nat → Nat} {u : St} {Post : Int32 → St → Prop} (hw : wp_X12_refused a1 u Post) : CtI l yX12_refused cX12_refused 2 (some .int) rm_X12_refused D (tyM b) 21 (gM b h) h [.ref (h 0), .int a1] u Post := by
  refine CtI.of (plainFor_of_name (by decide)) (Nat.le_of_ble_eq_true rfl) ?_
  intro p e s m below meth c A ls X hA O hl
  have X : Cx p s m _ meth c cX12_refused 2 (some .int) RX12 D (tyM b) A := X
  obtain ⟨⟨hx, hb, hml, hown, hts⟩, hK, hNs, hlocks, hr⟩ := id X
  have hl : lv_has ls 2 [(0, .ref (h 0)), (1, .int a1)] := hl
  unfold wp_X12_refused at hw
  refine lv_aload_n hx hb dX12_refused_0 rfl (lv_at hl 0 rfl) ?_
  refine lv_iload_n hx hb dX12_refused_1 rfl (lv_at hl 1 rfl) ?_
  refine pt_X12_71 X O dX12_refused_2 (fun H locs O => ?_)
  refine lv_iconst (v := -1) hx hb dX12_refused_5 (by decide) ?_
  exact q_iret X O hw dX12_refused_6
-- FellersOrderModel.job(II)I
abbrev rm_X12_job : Room := { frames := 2, cells := 0, slots := 0, locals := 44 }
def wp_X12_job (a1 : Int32) (a2 : Int32) (u : St) (Post : Int32 → St → Prop) : Prop := wp_X12_in a1 (1 : Int32) (100 : Int32) u (fun r4 u4 => ((r4 = 0) → (wp_X12_refused (1 : Int32) u4 (fun r22 u22 => Post r22 u22))) ∧ ((¬ r4 = 0) → (wp_X12_in a2 (0 : Int32) (100 : Int32) u4 (fun r14 u14 => ((¬ r14 = 0) → (((¬ (u14 0 0) = (12 : Int32)) → (wp_X12_made a1 a2 u14 (fun r46 u46 => Post r46 u46))) ∧ (((u14 0 0) = (12 : Int32)) → (wp_X12_refused (2 : Int32) u14 (fun r37 u37 => Post r37 u37))))) ∧ ((r14 = 0) → (wp_X12_refused (1 : Int32) u14 (fun r22 u22 => Post r22 u22)))))))
set_option maxHeartbeats 4000000 in
set_option maxRecDepth 100000 in
theorem c_X12_job {a1 : Int32} {a2 : Int32} {l : Launch} {D : va_G} {b : Nat → ClassId} {h : Nat → Nat} {u : St} {Post : Int32 → St → Prop} (hw : wp_X12_job a1 a2 u Post) : CtI l yX12_job cX12_job 3 (some .int) rm_X12_job D (tyM b) 21 (gM b h) h [.ref (h 0), .int a1, .int a2] u Post := by
  refine CtI.of (plainFor_of_name (by decide)) (Nat.le_of_ble_eq_true rfl) ?_
  intro p e s m below meth c A ls X hA O hl
  have X : Cx p s m _ meth c cX12_job 3 (some .int) RX12 D (tyM b) A := X
  obtain ⟨⟨hx, hb, hml, hown, hts⟩, hK, hNs, hlocks, hr⟩ := id X
  have hl : lv_has ls 3 [(0, .ref (h 0)), (1, .int a1), (2, .int a2)] := hl
  unfold wp_X12_job at hw
  refine lv_iload_n hx hb dX12_job_0 rfl (lv_at hl 1 rfl) ?_
  refine lv_iconst (v := 1) hx hb dX12_job_1 (by decide) ?_
  refine lv_bipush (v := 100) hx hb dX12_job_2 (by decide) ?_
  refine q_cis (rest := []) X O hA (c_X12_in hw) lk_X12_78 rfl rfl rfl ⟨Nat.le_of_ble_eq_true rfl, Nat.le_of_ble_eq_true rfl⟩ (Nat.le_of_ble_eq_true rfl) hl.1 ⟨Nat.zero_le _, Nat.zero_le _⟩ rfl dX12_job_4 (fun r4 u4 H locs hw O => ?_)
  refine lv_if_eq (tgt := 20) hx hb dX12_job_7 (by decide) (fun c7 => ?_) (fun c7 => ?_)
  · have hw := hw.1 c7
    refine lv_aload_n hx hb dX12_job_20 rfl (lv_at hl 0 rfl) ?_
    refine lv_iconst (v := 1) hx hb dX12_job_21 (by decide) ?_
    refine q_civ (rest := []) X O hA 0 (c_X12_refused hw) lk_X12_89 (by decide) rfl rfl rfl rfl rfl rfl ⟨Nat.le_of_ble_eq_true rfl, Nat.le_of_ble_eq_true rfl⟩ (Nat.le_of_ble_eq_true rfl) hl.1 ⟨Nat.zero_le _, Nat.zero_le _⟩ rfl dX12_job_22 (fun r22 u22 H locs hw O => ?_)
    exact q_iret X O hw dX12_job_25
  · have hw := hw.2 c7
    refine lv_iload_n hx hb dX12_job_10 rfl (lv_at hl 2 rfl) ?_
    refine lv_iconst (v := 0) hx hb dX12_job_11 (by decide) ?_
    refine lv_bipush (v := 100) hx hb dX12_job_12 (by decide) ?_
    refine q_cis (rest := []) X O hA (c_X12_in hw) lk_X12_78 rfl rfl rfl ⟨Nat.le_of_ble_eq_true rfl, Nat.le_of_ble_eq_true rfl⟩ (Nat.le_of_ble_eq_true rfl) hl.1 ⟨Nat.zero_le _, Nat.zero_le _⟩ rfl dX12_job_14 (fun r14 u14 H locs hw O => ?_)
    refine lv_if_ne (tgt := 26) hx hb dX12_job_17 (by decide) (fun c17 => ?_) (fun c17 => ?_)
    · have hw := hw.1 c17
      refine lv_aload_n hx hb dX12_job_26 rfl (lv_at hl 0 rfl) ?_
      refine gt_X12_75 X O dX12_job_27 ?_
      refine lv_bipush (v := 12) hx hb dX12_job_30 (by decide) ?_
      refine lv_icmp_ne (tgt := 43) hx hb dX12_job_32 (by decide) (fun c32 => ?_) (fun c32 => ?_)
      · have hw := hw.1 c32
        refine lv_aload_n hx hb dX12_job_43 rfl (lv_at hl 0 rfl) ?_
        refine lv_iload_n hx hb dX12_job_44 rfl (lv_at hl 1 rfl) ?_
        refine lv_iload_n hx hb dX12_job_45 rfl (lv_at hl 2 rfl) ?_
        refine q_civ (rest := []) X O hA 0 (c_X12_made hw) lk_X12_102 (by decide) rfl rfl rfl rfl rfl rfl ⟨Nat.le_of_ble_eq_true rfl, Nat.le_of_ble_eq_true rfl⟩ (Nat.le_of_ble_eq_true rfl) hl.1 ⟨Nat.zero_le _, Nat.zero_le _⟩ rfl dX12_job_46 (fun r46 u46 H locs hw O => ?_)
        exact q_iret X O hw dX12_job_49
      · have hw := hw.2 c32
        refine lv_aload_n hx hb dX12_job_35 rfl (lv_at hl 0 rfl) ?_
        refine lv_iconst (v := 2) hx hb dX12_job_36 (by decide) ?_
        refine q_civ (rest := []) X O hA 0 (c_X12_refused hw) lk_X12_89 (by decide) rfl rfl rfl rfl rfl rfl ⟨Nat.le_of_ble_eq_true rfl, Nat.le_of_ble_eq_true rfl⟩ (Nat.le_of_ble_eq_true rfl) hl.1 ⟨Nat.zero_le _, Nat.zero_le _⟩ rfl dX12_job_37 (fun r37 u37 H locs hw O => ?_)
        refine lv_goto (tgt := 49) hx hb dX12_job_40 (by decide) ?_
        exact q_iret X O hw dX12_job_49
    · have hw := hw.2 c17
      refine lv_aload_n hx hb dX12_job_20 rfl (lv_at hl 0 rfl) ?_
      refine lv_iconst (v := 1) hx hb dX12_job_21 (by decide) ?_
      refine q_civ (rest := []) X O hA 0 (c_X12_refused hw) lk_X12_89 (by decide) rfl rfl rfl rfl rfl rfl ⟨Nat.le_of_ble_eq_true rfl, Nat.le_of_ble_eq_true rfl⟩ (Nat.le_of_ble_eq_true rfl) hl.1 ⟨Nat.zero_le _, Nat.zero_le _⟩ rfl dX12_job_22 (fun r22 u22 H locs hw O => ?_)
      exact q_iret X O hw dX12_job_25
-- FellersOrderModel.isJob(I)Z
abbrev rm_X12_isJob : Room := { frames := 1, cells := 0, slots := 0, locals := 22 }
def wp_X12_isJob (a1 : Int32) (u : St) (Post : Int32 → St → Prop) : Prop := wp_X12_in a1 (0 : Int32) ((u 0 0) - (1 : Int32)) u (fun r8 u8 => (r8 = 0 ∨ r8 = 1) ∧ Post r8 u8)
set_option maxHeartbeats 4000000 in
set_option maxRecDepth 100000 in
theorem c_X12_isJob {a1 : Int32} {l : Launch} {D : va_G} {b : Nat → ClassId} {h : Nat → Nat} {u : St} {Post : Int32 → St → Prop} (hw : wp_X12_isJob a1 u Post) : CtI l yX12_isJob cX12_isJob 2 (some .boolean) rm_X12_isJob D (tyM b) 21 (gM b h) h [.ref (h 0), .int a1] u Post := by
  refine CtI.of (plainFor_of_name (by decide)) (Nat.le_of_ble_eq_true rfl) ?_
  intro p e s m below meth c A ls X hA O hl
  have X : Cx p s m _ meth c cX12_isJob 2 (some .boolean) RX12 D (tyM b) A := X
  obtain ⟨⟨hx, hb, hml, hown, hts⟩, hK, hNs, hlocks, hr⟩ := id X
  have hl : lv_has ls 2 [(0, .ref (h 0)), (1, .int a1)] := hl
  unfold wp_X12_isJob at hw
  refine lv_iload_n hx hb dX12_isJob_0 rfl (lv_at hl 1 rfl) ?_
  refine lv_iconst (v := 0) hx hb dX12_isJob_1 (by decide) ?_
  refine lv_aload_n hx hb dX12_isJob_2 rfl (lv_at hl 0 rfl) ?_
  refine gt_X12_75 X O dX12_isJob_3 ?_
  refine lv_iconst (v := 1) hx hb dX12_isJob_6 (by decide) ?_
  refine lv_isub hx hb dX12_isJob_7 ?_
  refine q_cis (rest := []) X O hA (c_X12_in hw) lk_X12_78 rfl rfl rfl ⟨Nat.le_of_ble_eq_true rfl, Nat.le_of_ble_eq_true rfl⟩ (Nat.le_of_ble_eq_true rfl) hl.1 ⟨Nat.zero_le _, Nat.zero_le _⟩ rfl dX12_isJob_8 (fun r8 u8 H locs hw O => ?_)
  exact q_zret X O (nb01 hw.1) hw.2 dX12_isJob_11
-- FellersOrderModel.set(III)I
abbrev rm_X12_set : Room := { frames := 2, cells := 0, slots := 0, locals := 43 }
def wb_X12_set_108 (Post : Int32 → St → Prop) (x1 : Int32) (x2 : Int32) (x3 : Int32) (t0 : Int32) (u : St) : Prop := ((¬ x2 = 0) → (((¬ x2 = (1 : Int32)) → (vp_in x1 12 ∧ (wp_X12_done t0 (su u 3 (Int32.toNatClampNeg x1) x3) (fun r149 u149 => Post r149 u149)))) ∧ ((x2 = (1 : Int32)) → (vp_in x1 12 ∧ (wp_X12_done t0 (su u 2 (Int32.toNatClampNeg x1) x3) (fun r149 u149 => Post r149 u149)))))) ∧ ((x2 = 0) → (vp_in x1 12 ∧ (wp_X12_done t0 (su u 1 (Int32.toNatClampNeg x1) x3) (fun r149 u149 => Post r149 u149))))
set_option maxHeartbeats 4000000 in
set_option maxRecDepth 100000 in
theorem tb_X12_set_108 (X : Cx p s m args meth c cX12_set 6 (some .int) RX12 D (tyM b) A) (hA : ∀ q, s.heap.size ≤ q → A q) {Post : Int32 → St → Prop} : ∀ (x1 : Int32) (x2 : Int32) (x3 : Int32) (t0 : Int32) (u : St) (H : Heap) (locs : List Loc) (ls : Array Slot), wb_X12_set_108 Post x1 x2 x3 t0 u → wO D 21 (gM b h) h u A s.heap H locs → lv_has ls 6 [(0, .ref (h 0)), (1, .int x1), (2, .int x2), (3, .int x3)] → W p l e rm_X12_set s m args below meth c H locs 0 0 (MQ below (va_Qi Post (cB D (tyM b) 21 (gM b h) h A) A) args s 0 0 A) (F0 m 108 ls [.int t0]) := by
  obtain ⟨⟨hx, hb, hml, hown, hts⟩, hK, hNs, hlocks, hr⟩ := id X
  intro x1 x2 x3 t0 u H locs ls hw O hl
  unfold wb_X12_set_108 at hw
  refine lv_istore (lv' := [(5, .int t0), (0, .ref (h 0)), (1, .int x1), (2, .int x2), (3, .int x3)]) hx hb dX12_set_108 hl (by decide) rfl (fun ls hl => ?_)
  refine lv_iload_n hx hb dX12_set_110 rfl (lv_at hl 3 rfl) ?_
  refine lv_if_ne (tgt := 124) hx hb dX12_set_111 (by decide) (fun c111 => ?_) (fun c111 => ?_)
  · have hw := hw.1 c111
    refine lv_iload_n hx hb dX12_set_124 rfl (lv_at hl 3 rfl) ?_
    refine lv_iconst (v := 1) hx hb dX12_set_125 (by decide) ?_
    refine lv_icmp_ne (tgt := 139) hx hb dX12_set_126 (by decide) (fun c126 => ?_) (fun c126 => ?_)
    · have hw := hw.1 c126
      refine lv_aload_n hx hb dX12_set_139 rfl (lv_at hl 1 rfl) ?_
      refine gt_X12_16 X O dX12_set_140 ?_
      refine lv_iload_n hx hb dX12_set_143 rfl (lv_at hl 2 rfl) ?_
      refine lv_iload_n hx hb dX12_set_144 rfl (lv_at hl 4 rfl) ?_
      obtain ⟨i145, hw⟩ := hw
      refine q_ist X O 3 0 (by decide) (fun _ => rfl) rfl i145 dX12_set_145 (fun H locs O => ?_)
      refine lv_aload_n hx hb dX12_set_146 rfl (lv_at hl 1 rfl) ?_
      refine lv_iload hx hb dX12_set_147 (lv_at hl 0 rfl) ?_
      refine q_civ (rest := []) X O hA 0 (c_X12_done hw) lk_X12_96 (by decide) rfl rfl rfl rfl rfl rfl ⟨Nat.le_of_ble_eq_true rfl, Nat.le_of_ble_eq_true rfl⟩ (Nat.le_of_ble_eq_true rfl) hl.1 ⟨Nat.zero_le _, Nat.zero_le _⟩ rfl dX12_set_149 (fun r149 u149 H locs hw O => ?_)
      exact q_iret X O hw dX12_set_152
    · have hw := hw.2 c126
      refine lv_aload_n hx hb dX12_set_129 rfl (lv_at hl 1 rfl) ?_
      refine gt_X12_13 X O dX12_set_130 ?_
      refine lv_iload_n hx hb dX12_set_133 rfl (lv_at hl 2 rfl) ?_
      refine lv_iload_n hx hb dX12_set_134 rfl (lv_at hl 4 rfl) ?_
      obtain ⟨i135, hw⟩ := hw
      refine q_ist X O 2 0 (by decide) (fun _ => rfl) rfl i135 dX12_set_135 (fun H locs O => ?_)
      refine lv_goto (tgt := 146) hx hb dX12_set_136 (by decide) ?_
      refine lv_aload_n hx hb dX12_set_146 rfl (lv_at hl 1 rfl) ?_
      refine lv_iload hx hb dX12_set_147 (lv_at hl 0 rfl) ?_
      refine q_civ (rest := []) X O hA 0 (c_X12_done hw) lk_X12_96 (by decide) rfl rfl rfl rfl rfl rfl ⟨Nat.le_of_ble_eq_true rfl, Nat.le_of_ble_eq_true rfl⟩ (Nat.le_of_ble_eq_true rfl) hl.1 ⟨Nat.zero_le _, Nat.zero_le _⟩ rfl dX12_set_149 (fun r149 u149 H locs hw O => ?_)
      exact q_iret X O hw dX12_set_152
  · have hw := hw.2 c111
    refine lv_aload_n hx hb dX12_set_114 rfl (lv_at hl 1 rfl) ?_
    refine gt_X12_7 X O dX12_set_115 ?_
    refine lv_iload_n hx hb dX12_set_118 rfl (lv_at hl 2 rfl) ?_
    refine lv_iload_n hx hb dX12_set_119 rfl (lv_at hl 4 rfl) ?_
    obtain ⟨i120, hw⟩ := hw
    refine q_ist X O 1 0 (by decide) (fun _ => rfl) rfl i120 dX12_set_120 (fun H locs O => ?_)
    refine lv_goto (tgt := 146) hx hb dX12_set_121 (by decide) ?_
    refine lv_aload_n hx hb dX12_set_146 rfl (lv_at hl 1 rfl) ?_
    refine lv_iload hx hb dX12_set_147 (lv_at hl 0 rfl) ?_
    refine q_civ (rest := []) X O hA 0 (c_X12_done hw) lk_X12_96 (by decide) rfl rfl rfl rfl rfl rfl ⟨Nat.le_of_ble_eq_true rfl, Nat.le_of_ble_eq_true rfl⟩ (Nat.le_of_ble_eq_true rfl) hl.1 ⟨Nat.zero_le _, Nat.zero_le _⟩ rfl dX12_set_149 (fun r149 u149 H locs hw O => ?_)
    exact q_iret X O hw dX12_set_152
def wb_X12_set_50 (Post : Int32 → St → Prop) (x1 : Int32) (x2 : Int32) (x3 : Int32) (t0 : Int32) (u : St) : Prop := wp_X12_isJob x1 u (fun r54 u54 => ((r54 = 0) → (wp_X12_refused (1 : Int32) u54 (fun r67 u67 => Post r67 u67))) ∧ ((¬ r54 = 0) → (((¬ t0 = 0) → (wp_X12_keep u54 (fun _ u72 => ((¬ x2 = 0) → (((¬ x2 = (1 : Int32)) → (vp_in x1 12 ∧ (wb_X12_set_108 Post x1 x2 x3 (u72 3 (Int32.toNatClampNeg x1)) u72))) ∧ ((x2 = (1 : Int32)) → (vp_in x1 12 ∧ (wb_X12_set_108 Post x1 x2 x3 (u72 2 (Int32.toNatClampNeg x1)) u72))))) ∧ ((x2 = 0) → (vp_in x1 12 ∧ (wb_X12_set_108 Post x1 x2 x3 (u72 1 (Int32.toNatClampNeg x1)) u72)))))) ∧ ((t0 = 0) → (wp_X12_refused (1 : Int32) u54 (fun r67 u67 => Post r67 u67))))))
set_option maxHeartbeats 4000000 in
set_option maxRecDepth 100000 in
theorem tb_X12_set_50 (X : Cx p s m args meth c cX12_set 6 (some .int) RX12 D (tyM b) A) (hA : ∀ q, s.heap.size ≤ q → A q) {Post : Int32 → St → Prop} : ∀ (x1 : Int32) (x2 : Int32) (x3 : Int32) (t0 : Int32) (u : St) (H : Heap) (locs : List Loc) (ls : Array Slot), wb_X12_set_50 Post x1 x2 x3 t0 u → wO D 21 (gM b h) h u A s.heap H locs → lv_has ls 6 [(0, .ref (h 0)), (1, .int x1), (2, .int x2), (3, .int x3)] → W p l e rm_X12_set s m args below meth c H locs 0 0 (MQ below (va_Qi Post (cB D (tyM b) 21 (gM b h) h A) A) args s 0 0 A) (F0 m 50 ls [.int t0]) := by
  obtain ⟨⟨hx, hb, hml, hown, hts⟩, hK, hNs, hlocks, hr⟩ := id X
  intro x1 x2 x3 t0 u H locs ls hw O hl
  unfold wb_X12_set_50 at hw
  refine lv_istore (lv' := [(4, .int t0), (0, .ref (h 0)), (1, .int x1), (2, .int x2), (3, .int x3)]) hx hb dX12_set_50 hl (by decide) rfl (fun ls hl => ?_)
  refine lv_aload_n hx hb dX12_set_52 rfl (lv_at hl 1 rfl) ?_
  refine lv_iload_n hx hb dX12_set_53 rfl (lv_at hl 2 rfl) ?_
  refine q_civ (rest := []) X O hA 0 (c_X12_isJob hw) lk_X12_106 (by decide) rfl rfl rfl rfl rfl rfl ⟨Nat.le_of_ble_eq_true rfl, Nat.le_of_ble_eq_true rfl⟩ (Nat.le_of_ble_eq_true rfl) hl.1 ⟨Nat.zero_le _, Nat.zero_le _⟩ rfl dX12_set_54 (fun r54 u54 H locs hw O => ?_)
  refine lv_if_eq (tgt := 65) hx hb dX12_set_57 (by decide) (fun c57 => ?_) (fun c57 => ?_)
  · have hw := hw.1 c57
    refine lv_aload_n hx hb dX12_set_65 rfl (lv_at hl 1 rfl) ?_
    refine lv_iconst (v := 1) hx hb dX12_set_66 (by decide) ?_
    refine q_civ (rest := []) X O hA 0 (c_X12_refused hw) lk_X12_89 (by decide) rfl rfl rfl rfl rfl rfl ⟨Nat.le_of_ble_eq_true rfl, Nat.le_of_ble_eq_true rfl⟩ (Nat.le_of_ble_eq_true rfl) hl.1 ⟨Nat.zero_le _, Nat.zero_le _⟩ rfl dX12_set_67 (fun r67 u67 H locs hw O => ?_)
    exact q_iret X O hw dX12_set_70
  · have hw := hw.2 c57
    refine lv_iload hx hb dX12_set_60 (lv_at hl 0 rfl) ?_
    refine lv_if_ne (tgt := 71) hx hb dX12_set_62 (by decide) (fun c62 => ?_) (fun c62 => ?_)
    · have hw := hw.1 c62
      refine lv_aload_n hx hb dX12_set_71 rfl (lv_at hl 1 rfl) ?_
      refine q_cvv (rest := []) X O hA 0 (c_X12_keep hw) lk_X12_99 (by decide) rfl rfl rfl rfl rfl rfl ⟨Nat.le_of_ble_eq_true rfl, Nat.le_of_ble_eq_true rfl⟩ (Nat.le_of_ble_eq_true rfl) hl.1 ⟨Nat.zero_le _, Nat.zero_le _⟩ rfl dX12_set_72 (fun u72 H locs hw O => ?_)
      refine lv_iload_n hx hb dX12_set_75 rfl (lv_at hl 3 rfl) ?_
      refine lv_if_ne (tgt := 88) hx hb dX12_set_76 (by decide) (fun c76 => ?_) (fun c76 => ?_)
      · have hw := hw.1 c76
        refine lv_iload_n hx hb dX12_set_88 rfl (lv_at hl 3 rfl) ?_
        refine lv_iconst (v := 1) hx hb dX12_set_89 (by decide) ?_
        refine lv_icmp_ne (tgt := 102) hx hb dX12_set_90 (by decide) (fun c90 => ?_) (fun c90 => ?_)
        · have hw := hw.1 c90
          refine lv_aload_n hx hb dX12_set_102 rfl (lv_at hl 1 rfl) ?_
          refine gt_X12_16 X O dX12_set_103 ?_
          refine lv_iload_n hx hb dX12_set_106 rfl (lv_at hl 2 rfl) ?_
          obtain ⟨i107, hw⟩ := hw
          refine q_ild X O 3 0 (by decide) rfl rfl i107 dX12_set_107 ?_
          exact tb_X12_set_108 X hA _ _ _ _ _ _ _ _ hw O (lv_sub hl [1, 2, 3, 4] rfl)
        · have hw := hw.2 c90
          refine lv_aload_n hx hb dX12_set_93 rfl (lv_at hl 1 rfl) ?_
          refine gt_X12_13 X O dX12_set_94 ?_
          refine lv_iload_n hx hb dX12_set_97 rfl (lv_at hl 2 rfl) ?_
          obtain ⟨i98, hw⟩ := hw
          refine q_ild X O 2 0 (by decide) rfl rfl i98 dX12_set_98 ?_
          refine lv_goto (tgt := 108) hx hb dX12_set_99 (by decide) ?_
          exact tb_X12_set_108 X hA _ _ _ _ _ _ _ _ hw O (lv_sub hl [1, 2, 3, 4] rfl)
      · have hw := hw.2 c76
        refine lv_aload_n hx hb dX12_set_79 rfl (lv_at hl 1 rfl) ?_
        refine gt_X12_7 X O dX12_set_80 ?_
        refine lv_iload_n hx hb dX12_set_83 rfl (lv_at hl 2 rfl) ?_
        obtain ⟨i84, hw⟩ := hw
        refine q_ild X O 1 0 (by decide) rfl rfl i84 dX12_set_84 ?_
        refine lv_goto (tgt := 108) hx hb dX12_set_85 (by decide) ?_
        exact tb_X12_set_108 X hA _ _ _ _ _ _ _ _ hw O (lv_sub hl [1, 2, 3, 4] rfl)
    · have hw := hw.2 c62
      refine lv_aload_n hx hb dX12_set_65 rfl (lv_at hl 1 rfl) ?_
      refine lv_iconst (v := 1) hx hb dX12_set_66 (by decide) ?_
      refine q_civ (rest := []) X O hA 0 (c_X12_refused hw) lk_X12_89 (by decide) rfl rfl rfl rfl rfl rfl ⟨Nat.le_of_ble_eq_true rfl, Nat.le_of_ble_eq_true rfl⟩ (Nat.le_of_ble_eq_true rfl) hl.1 ⟨Nat.zero_le _, Nat.zero_le _⟩ rfl dX12_set_67 (fun r67 u67 H locs hw O => ?_)
      exact q_iret X O hw dX12_set_70
def wb_X12_set_49 (Post : Int32 → St → Prop) (x1 : Int32) (x2 : Int32) (x3 : Int32) (u : St) : Prop := wb_X12_set_50 Post x1 x2 x3 (0 : Int32) u
set_option maxHeartbeats 4000000 in
set_option maxRecDepth 100000 in
theorem tb_X12_set_49 (X : Cx p s m args meth c cX12_set 6 (some .int) RX12 D (tyM b) A) (hA : ∀ q, s.heap.size ≤ q → A q) {Post : Int32 → St → Prop} : ∀ (x1 : Int32) (x2 : Int32) (x3 : Int32) (u : St) (H : Heap) (locs : List Loc) (ls : Array Slot), wb_X12_set_49 Post x1 x2 x3 u → wO D 21 (gM b h) h u A s.heap H locs → lv_has ls 6 [(0, .ref (h 0)), (1, .int x1), (2, .int x2), (3, .int x3)] → W p l e rm_X12_set s m args below meth c H locs 0 0 (MQ below (va_Qi Post (cB D (tyM b) 21 (gM b h) h A) A) args s 0 0 A) (F0 m 49 ls []) := by
  obtain ⟨⟨hx, hb, hml, hown, hts⟩, hK, hNs, hlocks, hr⟩ := id X
  intro x1 x2 x3 u H locs ls hw O hl
  unfold wb_X12_set_49 at hw
  refine lv_iconst (v := 0) hx hb dX12_set_49 (by decide) ?_
  exact tb_X12_set_50 X hA _ _ _ _ _ _ _ _ hw O (lv_sub hl [0, 1, 2, 3] rfl)
def wp_X12_set (a1 : Int32) (a2 : Int32) (a3 : Int32) (u : St) (Post : Int32 → St → Prop) : Prop := ((¬ a2 = 0) → (((¬ a2 = (1 : Int32)) → (((¬ a2 = (2 : Int32)) → (wb_X12_set_49 Post a1 a2 a3 u)) ∧ ((a2 = (2 : Int32)) → (wp_X12_in a3 (0 : Int32) (500 : Int32) u (fun r39 u39 => ((r39 = 0) → (wb_X12_set_49 Post a1 a2 a3 u39)) ∧ ((¬ r39 = 0) → (wb_X12_set_50 Post a1 a2 a3 (1 : Int32) u39))))))) ∧ ((a2 = (1 : Int32)) → (wp_X12_in a3 (0 : Int32) (100 : Int32) u (fun r23 u23 => wb_X12_set_50 Post a1 a2 a3 r23 u23))))) ∧ ((a2 = 0) → (wp_X12_in a3 (1 : Int32) (100 : Int32) u (fun r8 u8 => wb_X12_set_50 Post a1 a2 a3 r8 u8)))
set_option maxHeartbeats 4000000 in
set_option maxRecDepth 100000 in
theorem c_X12_set {a1 : Int32} {a2 : Int32} {a3 : Int32} {l : Launch} {D : va_G} {b : Nat → ClassId} {h : Nat → Nat} {u : St} {Post : Int32 → St → Prop} (hw : wp_X12_set a1 a2 a3 u Post) : CtI l yX12_set cX12_set 6 (some .int) rm_X12_set D (tyM b) 21 (gM b h) h [.ref (h 0), .int a1, .int a2, .int a3] u Post := by
  refine CtI.of (plainFor_of_name (by decide)) (Nat.le_of_ble_eq_true rfl) ?_
  intro p e s m below meth c A ls X hA O hl
  have X : Cx p s m _ meth c cX12_set 6 (some .int) RX12 D (tyM b) A := X
  obtain ⟨⟨hx, hb, hml, hown, hts⟩, hK, hNs, hlocks, hr⟩ := id X
  have hl : lv_has ls 6 [(0, .ref (h 0)), (1, .int a1), (2, .int a2), (3, .int a3)] := hl
  unfold wp_X12_set at hw
  refine lv_iload_n hx hb dX12_set_0 rfl (lv_at hl 2 rfl) ?_
  refine lv_if_ne (tgt := 14) hx hb dX12_set_1 (by decide) (fun c1 => ?_) (fun c1 => ?_)
  · have hw := hw.1 c1
    refine lv_iload_n hx hb dX12_set_14 rfl (lv_at hl 2 rfl) ?_
    refine lv_iconst (v := 1) hx hb dX12_set_15 (by decide) ?_
    refine lv_icmp_ne (tgt := 29) hx hb dX12_set_16 (by decide) (fun c16 => ?_) (fun c16 => ?_)
    · have hw := hw.1 c16
      refine lv_iload_n hx hb dX12_set_29 rfl (lv_at hl 2 rfl) ?_
      refine lv_iconst (v := 2) hx hb dX12_set_30 (by decide) ?_
      refine lv_icmp_ne (tgt := 49) hx hb dX12_set_31 (by decide) (fun c31 => ?_) (fun c31 => ?_)
      · have hw := hw.1 c31
        exact tb_X12_set_49 X hA _ _ _ _ _ _ _ hw O (lv_sub hl [0, 1, 2, 3] rfl)
      · have hw := hw.2 c31
        refine lv_iload_n hx hb dX12_set_34 rfl (lv_at hl 3 rfl) ?_
        refine lv_iconst (v := 0) hx hb dX12_set_35 (by decide) ?_
        refine lv_sipush (v := 500) hx hb dX12_set_36 (by decide) ?_
        refine q_cis (rest := []) X O hA (c_X12_in hw) lk_X12_78 rfl rfl rfl ⟨Nat.le_of_ble_eq_true rfl, Nat.le_of_ble_eq_true rfl⟩ (Nat.le_of_ble_eq_true rfl) hl.1 ⟨Nat.zero_le _, Nat.zero_le _⟩ rfl dX12_set_39 (fun r39 u39 H locs hw O => ?_)
        refine lv_if_eq (tgt := 49) hx hb dX12_set_42 (by decide) (fun c42 => ?_) (fun c42 => ?_)
        · have hw := hw.1 c42
          exact tb_X12_set_49 X hA _ _ _ _ _ _ _ hw O (lv_sub hl [0, 1, 2, 3] rfl)
        · have hw := hw.2 c42
          refine lv_iconst (v := 1) hx hb dX12_set_45 (by decide) ?_
          refine lv_goto (tgt := 50) hx hb dX12_set_46 (by decide) ?_
          exact tb_X12_set_50 X hA _ _ _ _ _ _ _ _ hw O (lv_sub hl [0, 1, 2, 3] rfl)
    · have hw := hw.2 c16
      refine lv_iload_n hx hb dX12_set_19 rfl (lv_at hl 3 rfl) ?_
      refine lv_iconst (v := 0) hx hb dX12_set_20 (by decide) ?_
      refine lv_bipush (v := 100) hx hb dX12_set_21 (by decide) ?_
      refine q_cis (rest := []) X O hA (c_X12_in hw) lk_X12_78 rfl rfl rfl ⟨Nat.le_of_ble_eq_true rfl, Nat.le_of_ble_eq_true rfl⟩ (Nat.le_of_ble_eq_true rfl) hl.1 ⟨Nat.zero_le _, Nat.zero_le _⟩ rfl dX12_set_23 (fun r23 u23 H locs hw O => ?_)
      refine lv_goto (tgt := 50) hx hb dX12_set_26 (by decide) ?_
      exact tb_X12_set_50 X hA _ _ _ _ _ _ _ _ hw O (lv_sub hl [0, 1, 2, 3] rfl)
  · have hw := hw.2 c1
    refine lv_iload_n hx hb dX12_set_4 rfl (lv_at hl 3 rfl) ?_
    refine lv_iconst (v := 1) hx hb dX12_set_5 (by decide) ?_
    refine lv_bipush (v := 100) hx hb dX12_set_6 (by decide) ?_
    refine q_cis (rest := []) X O hA (c_X12_in hw) lk_X12_78 rfl rfl rfl ⟨Nat.le_of_ble_eq_true rfl, Nat.le_of_ble_eq_true rfl⟩ (Nat.le_of_ble_eq_true rfl) hl.1 ⟨Nat.zero_le _, Nat.zero_le _⟩ rfl dX12_set_8 (fun r8 u8 H locs hw O => ?_)
    refine lv_goto (tgt := 50) hx hb dX12_set_11 (by decide) ?_
    exact tb_X12_set_50 X hA _ _ _ _ _ _ _ _ hw O (lv_sub hl [0, 1, 2, 3] rfl)
-- FellersOrderModel.has(II)Z
abbrev rm_X12_has : Room := { frames := 0, cells := 0, slots := 0, locals := 0 }
def wp_X12_has (a0 : Int32) (a1 : Int32) (u : St) (Post : Int32 → St → Prop) : Prop := ((¬ ((a0 >>> (a1 &&& 31)) &&& (1 : Int32)) = (1 : Int32)) → (Post (0 : Int32) u)) ∧ ((((a0 >>> (a1 &&& 31)) &&& (1 : Int32)) = (1 : Int32)) → (Post (1 : Int32) u))
set_option maxHeartbeats 4000000 in
set_option maxRecDepth 100000 in
theorem c_X12_has {a0 : Int32} {a1 : Int32} {l : Launch} {D : va_G} {b : Nat → ClassId} {h : Nat → Nat} {u : St} {Post : Int32 → St → Prop} (hw : wp_X12_has a0 a1 u Post) : CtI l yX12_has cX12_has 2 (some .boolean) rm_X12_has D (tyM b) 21 (gM b h) h [.int a0, .int a1] u Post := by
  refine CtI.of (plainFor_of_name (by decide)) (Nat.le_of_ble_eq_true rfl) ?_
  intro p e s m below meth c A ls X hA O hl
  have X : Cx p s m _ meth c cX12_has 2 (some .boolean) RX12 D (tyM b) A := X
  obtain ⟨⟨hx, hb, hml, hown, hts⟩, hK, hNs, hlocks, hr⟩ := id X
  have hl : lv_has ls 2 [(0, .int a0), (1, .int a1)] := hl
  unfold wp_X12_has at hw
  refine lv_iload_n hx hb dX12_has_0 rfl (lv_at hl 0 rfl) ?_
  refine lv_iload_n hx hb dX12_has_1 rfl (lv_at hl 1 rfl) ?_
  refine lv_ishr hx hb dX12_has_2 ?_
  refine lv_iconst (v := 1) hx hb dX12_has_3 (by decide) ?_
  refine lv_iand hx hb dX12_has_4 ?_
  refine lv_iconst (v := 1) hx hb dX12_has_5 (by decide) ?_
  refine lv_icmp_ne (tgt := 13) hx hb dX12_has_6 (by decide) (fun c6 => ?_) (fun c6 => ?_)
  · have hw := hw.1 c6
    refine lv_iconst (v := 0) hx hb dX12_has_13 (by decide) ?_
    exact q_zret X O rfl hw dX12_has_14
  · have hw := hw.2 c6
    refine lv_iconst (v := 1) hx hb dX12_has_9 (by decide) ?_
    refine lv_goto (tgt := 14) hx hb dX12_has_10 (by decide) ?_
    exact q_zret X O rfl hw dX12_has_14
-- FellersOrderModel.close()V
abbrev rm_X12_close : Room := { frames := 1, cells := 0, slots := 0, locals := 21 }
def wb_X12_close_40 (Post : Int32 → St → Prop) (K30 : Int32 → St → Prop) (K40 : Int32 → Int32 → St → Prop) (x1 : Int32) (x2 : Int32) (u : St) : Prop := (((u 0 0) ≤ x2) → (K30 (x1 + 1) u)) ∧ ((¬ (u 0 0) ≤ x2) → (vp_in x2 12 ∧ (vp_in x2 12 ∧ (wp_X12_has (u 5 (Int32.toNatClampNeg x2)) x1 u (fun r62 u62 => ((r62 = 0) → (vp_in x2 12 ∧ (K40 x1 (x2 + 1) (su u62 5 (Int32.toNatClampNeg x2) ((u 5 (Int32.toNatClampNeg x2)) ||| (0 : Int32)))))) ∧ ((¬ r62 = 0) → (vp_in x1 12 ∧ (vp_in x2 12 ∧ (K40 x1 (x2 + 1) (su u62 5 (Int32.toNatClampNeg x2) ((u 5 (Int32.toNatClampNeg x2)) ||| (u62 5 (Int32.toNatClampNeg x1)))))))))))))
set_option maxHeartbeats 4000000 in
set_option maxRecDepth 100000 in
theorem tb_X12_close_40 (X : Cx p s m args meth c cX12_close 3 none RX12 D (tyM b) A) (hA : ∀ q, s.heap.size ≤ q → A q) {Post : Int32 → St → Prop} {K30 : Int32 → St → Prop} (k30 : ∀ (x1 : Int32) (u : St) (H : Heap) (locs : List Loc) (ls : Array Slot), K30 x1 u → wO D 21 (gM b h) h u A s.heap H locs → lv_has ls 3 [(0, .ref (h 0)), (1, .int x1)] → W p l e rm_X12_close s m args below meth c H locs 0 0 (MQ below (va_Qv (Post 0) (cB D (tyM b) 21 (gM b h) h A) A) args s 0 0 A) (F0 m 30 ls [])) {K40 : Int32 → Int32 → St → Prop} (k40 : ∀ (x1 : Int32) (x2 : Int32) (u : St) (H : Heap) (locs : List Loc) (ls : Array Slot), K40 x1 x2 u → wO D 21 (gM b h) h u A s.heap H locs → lv_has ls 3 [(0, .ref (h 0)), (1, .int x1), (2, .int x2)] → W p l e rm_X12_close s m args below meth c H locs 0 0 (MQ below (va_Qv (Post 0) (cB D (tyM b) 21 (gM b h) h A) A) args s 0 0 A) (F0 m 40 ls [])) : ∀ (x1 : Int32) (x2 : Int32) (u : St) (H : Heap) (locs : List Loc) (ls : Array Slot), wb_X12_close_40 Post K30 K40 x1 x2 u → wO D 21 (gM b h) h u A s.heap H locs → lv_has ls 3 [(0, .ref (h 0)), (1, .int x1), (2, .int x2)] → W p l e rm_X12_close s m args below meth c H locs 0 0 (MQ below (va_Qv (Post 0) (cB D (tyM b) 21 (gM b h) h A) A) args s 0 0 A) (F0 m 40 ls []) := by
  obtain ⟨⟨hx, hb, hml, hown, hts⟩, hK, hNs, hlocks, hr⟩ := id X
  intro x1 x2 u H locs ls hw O hl
  unfold wb_X12_close_40 at hw
  refine lv_iload_n hx hb dX12_close_40 rfl (lv_at hl 2 rfl) ?_
  refine lv_aload_n hx hb dX12_close_41 rfl (lv_at hl 0 rfl) ?_
  refine gt_X12_75 X O dX12_close_42 ?_
  refine lv_icmp_ge (tgt := 86) hx hb dX12_close_45 (by decide) (fun c45 => ?_) (fun c45 => ?_)
  · have hw := hw.1 c45
    refine lv_iinc (v := x1 + 1) (lv' := [(1, .int (x1 + 1)), (0, .ref (h 0)), (2, .int x2)]) hx hb dX12_close_86 hl (k := 1) rfl rfl (by decide) rfl (fun ls hl => ?_)
    refine lv_goto (tgt := 30) hx hb dX12_close_89 (by decide) ?_
    exact k30 _ _ _ _ _ hw O (lv_sub hl [1, 0] rfl)
  · have hw := hw.2 c45
    refine lv_aload_n hx hb dX12_close_48 rfl (lv_at hl 0 rfl) ?_
    refine gt_X12_22 X O dX12_close_49 ?_
    refine lv_iload_n hx hb dX12_close_52 rfl (lv_at hl 2 rfl) ?_
    refine lv_dup2_11 hx hb dX12_close_53 rfl rfl ?_
    obtain ⟨i54, hw⟩ := hw
    refine q_ild X O 5 0 (by decide) rfl rfl i54 dX12_close_54 ?_
    refine lv_aload_n hx hb dX12_close_55 rfl (lv_at hl 0 rfl) ?_
    refine gt_X12_22 X O dX12_close_56 ?_
    refine lv_iload_n hx hb dX12_close_59 rfl (lv_at hl 2 rfl) ?_
    obtain ⟨i60, hw⟩ := hw
    refine q_ild X O 5 0 (by decide) rfl rfl i60 dX12_close_60 ?_
    refine lv_iload_n hx hb dX12_close_61 rfl (lv_at hl 1 rfl) ?_
    refine q_cis (rest := [.int (u 5 (Int32.toNatClampNeg x2)), .int x2, .ref (h 5)]) X O hA (c_X12_has hw) lk_X12_82 rfl rfl rfl ⟨Nat.le_of_ble_eq_true rfl, Nat.le_of_ble_eq_true rfl⟩ (Nat.le_of_ble_eq_true rfl) hl.1 ⟨Nat.zero_le _, Nat.zero_le _⟩ rfl dX12_close_62 (fun r62 u62 H locs hw O => ?_)
    refine lv_if_eq (tgt := 77) hx hb dX12_close_65 (by decide) (fun c65 => ?_) (fun c65 => ?_)
    · have hw := hw.1 c65
      refine lv_iconst (v := 0) hx hb dX12_close_77 (by decide) ?_
      refine lv_ior hx hb dX12_close_78 ?_
      obtain ⟨i79, hw⟩ := hw
      refine q_ist X O 5 0 (by decide) (fun _ => rfl) rfl i79 dX12_close_79 (fun H locs O => ?_)
      refine lv_iinc (v := x2 + 1) (lv' := [(2, .int (x2 + 1)), (0, .ref (h 0)), (1, .int x1)]) hx hb dX12_close_80 hl (k := 2) rfl rfl (by decide) rfl (fun ls hl => ?_)
      refine lv_goto (tgt := 40) hx hb dX12_close_83 (by decide) ?_
      exact k40 _ _ _ _ _ _ hw O (lv_sub hl [1, 2, 0] rfl)
    · have hw := hw.2 c65
      refine lv_aload_n hx hb dX12_close_68 rfl (lv_at hl 0 rfl) ?_
      refine gt_X12_22 X O dX12_close_69 ?_
      refine lv_iload_n hx hb dX12_close_72 rfl (lv_at hl 1 rfl) ?_
      obtain ⟨i73, hw⟩ := hw
      refine q_ild X O 5 0 (by decide) rfl rfl i73 dX12_close_73 ?_
      refine lv_goto (tgt := 78) hx hb dX12_close_74 (by decide) ?_
      refine lv_ior hx hb dX12_close_78 ?_
      obtain ⟨i79, hw⟩ := hw
      refine q_ist X O 5 0 (by decide) (fun _ => rfl) rfl i79 dX12_close_79 (fun H locs O => ?_)
      refine lv_iinc (v := x2 + 1) (lv' := [(2, .int (x2 + 1)), (0, .ref (h 0)), (1, .int x1)]) hx hb dX12_close_80 hl (k := 2) rfl rfl (by decide) rfl (fun ls hl => ?_)
      refine lv_goto (tgt := 40) hx hb dX12_close_83 (by decide) ?_
      exact k40 _ _ _ _ _ _ hw O (lv_sub hl [1, 2, 0] rfl)
def wl_X12_close_40 (Post : Int32 → St → Prop) (K30 : Int32 → St → Prop) : Nat → Int32 → Int32 → St → Prop
  | 0 => fun _ _ _ => False
  | n + 1 => fun x1 x2 u => wb_X12_close_40 Post K30 (wl_X12_close_40 Post K30 n) x1 x2 u
set_option maxHeartbeats 4000000 in
set_option maxRecDepth 100000 in
theorem tl_X12_close_40 (X : Cx p s m args meth c cX12_close 3 none RX12 D (tyM b) A) (hA : ∀ q, s.heap.size ≤ q → A q) {Post : Int32 → St → Prop} {K30 : Int32 → St → Prop} (k30 : ∀ (x1 : Int32) (u : St) (H : Heap) (locs : List Loc) (ls : Array Slot), K30 x1 u → wO D 21 (gM b h) h u A s.heap H locs → lv_has ls 3 [(0, .ref (h 0)), (1, .int x1)] → W p l e rm_X12_close s m args below meth c H locs 0 0 (MQ below (va_Qv (Post 0) (cB D (tyM b) 21 (gM b h) h A) A) args s 0 0 A) (F0 m 30 ls [])) : ∀ n : Nat, ∀ (x1 : Int32) (x2 : Int32) (u : St) (H : Heap) (locs : List Loc) (ls : Array Slot), (wl_X12_close_40 Post K30 n) x1 x2 u → wO D 21 (gM b h) h u A s.heap H locs → lv_has ls 3 [(0, .ref (h 0)), (1, .int x1), (2, .int x2)] → W p l e rm_X12_close s m args below meth c H locs 0 0 (MQ below (va_Qv (Post 0) (cB D (tyM b) 21 (gM b h) h A) A) args s 0 0 A) (F0 m 40 ls []) := by
  intro n
  induction n with
  | zero => intro x1 x2 u H locs ls hw; exact False.elim hw
  | succ n ih => intro x1 x2 u H locs ls hw O hl; exact tb_X12_close_40 X hA k30 ih x1 x2 u H locs ls hw O hl
def wb_X12_close_30 (Post : Int32 → St → Prop) (K30 : Int32 → St → Prop) (x1 : Int32) (u : St) : Prop := (((u 0 0) ≤ x1) → (Post 0 u)) ∧ ((¬ (u 0 0) ≤ x1) → (∃ n : Nat, wl_X12_close_40 Post K30 n x1 (0 : Int32) u))
set_option maxHeartbeats 4000000 in
set_option maxRecDepth 100000 in
theorem tb_X12_close_30 (X : Cx p s m args meth c cX12_close 3 none RX12 D (tyM b) A) (hA : ∀ q, s.heap.size ≤ q → A q) {Post : Int32 → St → Prop} {K30 : Int32 → St → Prop} (k30 : ∀ (x1 : Int32) (u : St) (H : Heap) (locs : List Loc) (ls : Array Slot), K30 x1 u → wO D 21 (gM b h) h u A s.heap H locs → lv_has ls 3 [(0, .ref (h 0)), (1, .int x1)] → W p l e rm_X12_close s m args below meth c H locs 0 0 (MQ below (va_Qv (Post 0) (cB D (tyM b) 21 (gM b h) h A) A) args s 0 0 A) (F0 m 30 ls [])) : ∀ (x1 : Int32) (u : St) (H : Heap) (locs : List Loc) (ls : Array Slot), wb_X12_close_30 Post K30 x1 u → wO D 21 (gM b h) h u A s.heap H locs → lv_has ls 3 [(0, .ref (h 0)), (1, .int x1)] → W p l e rm_X12_close s m args below meth c H locs 0 0 (MQ below (va_Qv (Post 0) (cB D (tyM b) 21 (gM b h) h A) A) args s 0 0 A) (F0 m 30 ls []) := by
  obtain ⟨⟨hx, hb, hml, hown, hts⟩, hK, hNs, hlocks, hr⟩ := id X
  intro x1 u H locs ls hw O hl
  unfold wb_X12_close_30 at hw
  refine lv_iload_n hx hb dX12_close_30 rfl (lv_at hl 1 rfl) ?_
  refine lv_aload_n hx hb dX12_close_31 rfl (lv_at hl 0 rfl) ?_
  refine gt_X12_75 X O dX12_close_32 ?_
  refine lv_icmp_ge (tgt := 92) hx hb dX12_close_35 (by decide) (fun c35 => ?_) (fun c35 => ?_)
  · have hw := hw.1 c35
    exact q_vret X O hw dX12_close_92
  · have hw := hw.2 c35
    refine lv_iconst (v := 0) hx hb dX12_close_38 (by decide) ?_
    refine lv_istore_n (lv' := [(2, .int (0 : Int32)), (0, .ref (h 0)), (1, .int x1)]) hx hb dX12_close_39 rfl hl (by decide) rfl (fun ls hl => ?_)
    obtain ⟨n, hw⟩ := hw
    exact tl_X12_close_40 X hA k30 n _ _ _ _ _ _ hw O (lv_sub hl [1, 2, 0] rfl)
def wl_X12_close_30 (Post : Int32 → St → Prop) : Nat → Int32 → St → Prop
  | 0 => fun _ _ => False
  | n + 1 => fun x1 u => wb_X12_close_30 Post (wl_X12_close_30 Post n) x1 u
set_option maxHeartbeats 4000000 in
set_option maxRecDepth 100000 in
theorem tl_X12_close_30 (X : Cx p s m args meth c cX12_close 3 none RX12 D (tyM b) A) (hA : ∀ q, s.heap.size ≤ q → A q) {Post : Int32 → St → Prop} : ∀ n : Nat, ∀ (x1 : Int32) (u : St) (H : Heap) (locs : List Loc) (ls : Array Slot), (wl_X12_close_30 Post n) x1 u → wO D 21 (gM b h) h u A s.heap H locs → lv_has ls 3 [(0, .ref (h 0)), (1, .int x1)] → W p l e rm_X12_close s m args below meth c H locs 0 0 (MQ below (va_Qv (Post 0) (cB D (tyM b) 21 (gM b h) h A) A) args s 0 0 A) (F0 m 30 ls []) := by
  intro n
  induction n with
  | zero => intro x1 u H locs ls hw; exact False.elim hw
  | succ n ih => intro x1 u H locs ls hw O hl; exact tb_X12_close_30 X hA ih x1 u H locs ls hw O hl
def wb_X12_close_2 (Post : Int32 → St → Prop) (K2 : Int32 → St → Prop) (x1 : Int32) (u : St) : Prop := (((u 0 0) ≤ x1) → (∃ n : Nat, wl_X12_close_30 Post n (0 : Int32) u)) ∧ ((¬ (u 0 0) ≤ x1) → (vp_in x1 12 ∧ (vp_in x1 12 ∧ (K2 (x1 + 1) (su u 5 (Int32.toNatClampNeg x1) (u 4 (Int32.toNatClampNeg x1)))))))
set_option maxHeartbeats 4000000 in
set_option maxRecDepth 100000 in
theorem tb_X12_close_2 (X : Cx p s m args meth c cX12_close 3 none RX12 D (tyM b) A) (hA : ∀ q, s.heap.size ≤ q → A q) {Post : Int32 → St → Prop} {K2 : Int32 → St → Prop} (k2 : ∀ (x1 : Int32) (u : St) (H : Heap) (locs : List Loc) (ls : Array Slot), K2 x1 u → wO D 21 (gM b h) h u A s.heap H locs → lv_has ls 3 [(0, .ref (h 0)), (1, .int x1)] → W p l e rm_X12_close s m args below meth c H locs 0 0 (MQ below (va_Qv (Post 0) (cB D (tyM b) 21 (gM b h) h A) A) args s 0 0 A) (F0 m 2 ls [])) : ∀ (x1 : Int32) (u : St) (H : Heap) (locs : List Loc) (ls : Array Slot), wb_X12_close_2 Post K2 x1 u → wO D 21 (gM b h) h u A s.heap H locs → lv_has ls 3 [(0, .ref (h 0)), (1, .int x1)] → W p l e rm_X12_close s m args below meth c H locs 0 0 (MQ below (va_Qv (Post 0) (cB D (tyM b) 21 (gM b h) h A) A) args s 0 0 A) (F0 m 2 ls []) := by
  obtain ⟨⟨hx, hb, hml, hown, hts⟩, hK, hNs, hlocks, hr⟩ := id X
  intro x1 u H locs ls hw O hl
  unfold wb_X12_close_2 at hw
  refine lv_iload_n hx hb dX12_close_2 rfl (lv_at hl 1 rfl) ?_
  refine lv_aload_n hx hb dX12_close_3 rfl (lv_at hl 0 rfl) ?_
  refine gt_X12_75 X O dX12_close_4 ?_
  refine lv_icmp_ge (tgt := 28) hx hb dX12_close_7 (by decide) (fun c7 => ?_) (fun c7 => ?_)
  · have hw := hw.1 c7
    refine lv_iconst (v := 0) hx hb dX12_close_28 (by decide) ?_
    refine lv_istore_n (lv' := [(1, .int (0 : Int32)), (0, .ref (h 0))]) hx hb dX12_close_29 rfl hl (by decide) rfl (fun ls hl => ?_)
    obtain ⟨n, hw⟩ := hw
    exact tl_X12_close_30 X hA n _ _ _ _ _ hw O (lv_sub hl [1, 0] rfl)
  · have hw := hw.2 c7
    refine lv_aload_n hx hb dX12_close_10 rfl (lv_at hl 0 rfl) ?_
    refine gt_X12_22 X O dX12_close_11 ?_
    refine lv_iload_n hx hb dX12_close_14 rfl (lv_at hl 1 rfl) ?_
    refine lv_aload_n hx hb dX12_close_15 rfl (lv_at hl 0 rfl) ?_
    refine gt_X12_19 X O dX12_close_16 ?_
    refine lv_iload_n hx hb dX12_close_19 rfl (lv_at hl 1 rfl) ?_
    obtain ⟨i20, hw⟩ := hw
    refine q_ild X O 4 0 (by decide) rfl rfl i20 dX12_close_20 ?_
    obtain ⟨i21, hw⟩ := hw
    refine q_ist X O 5 0 (by decide) (fun _ => rfl) rfl i21 dX12_close_21 (fun H locs O => ?_)
    refine lv_iinc (v := x1 + 1) (lv' := [(1, .int (x1 + 1)), (0, .ref (h 0))]) hx hb dX12_close_22 hl (k := 1) rfl rfl (by decide) rfl (fun ls hl => ?_)
    refine lv_goto (tgt := 2) hx hb dX12_close_25 (by decide) ?_
    exact k2 _ _ _ _ _ hw O (lv_sub hl [1, 0] rfl)
def wl_X12_close_2 (Post : Int32 → St → Prop) : Nat → Int32 → St → Prop
  | 0 => fun _ _ => False
  | n + 1 => fun x1 u => wb_X12_close_2 Post (wl_X12_close_2 Post n) x1 u
set_option maxHeartbeats 4000000 in
set_option maxRecDepth 100000 in
theorem tl_X12_close_2 (X : Cx p s m args meth c cX12_close 3 none RX12 D (tyM b) A) (hA : ∀ q, s.heap.size ≤ q → A q) {Post : Int32 → St → Prop} : ∀ n : Nat, ∀ (x1 : Int32) (u : St) (H : Heap) (locs : List Loc) (ls : Array Slot), (wl_X12_close_2 Post n) x1 u → wO D 21 (gM b h) h u A s.heap H locs → lv_has ls 3 [(0, .ref (h 0)), (1, .int x1)] → W p l e rm_X12_close s m args below meth c H locs 0 0 (MQ below (va_Qv (Post 0) (cB D (tyM b) 21 (gM b h) h A) A) args s 0 0 A) (F0 m 2 ls []) := by
  intro n
  induction n with
  | zero => intro x1 u H locs ls hw; exact False.elim hw
  | succ n ih => intro x1 u H locs ls hw O hl; exact tb_X12_close_2 X hA ih x1 u H locs ls hw O hl
def wp_X12_close (u : St) (Post : Int32 → St → Prop) : Prop := ∃ n : Nat, wl_X12_close_2 Post n (0 : Int32) u
set_option maxHeartbeats 4000000 in
set_option maxRecDepth 100000 in
theorem c_X12_close {l : Launch} {D : va_G} {b : Nat → ClassId} {h : Nat → Nat} {u : St} {Post : Int32 → St → Prop} (hw : wp_X12_close u Post) : CtV l yX12_close cX12_close 3 none rm_X12_close D (tyM b) 21 (gM b h) h [.ref (h 0)] u Post := by
  refine CtV.of (plainFor_of_name (by decide)) (Nat.le_of_ble_eq_true rfl) ?_
  intro p e s m below meth c A ls X hA O hl
  have X : Cx p s m _ meth c cX12_close 3 none RX12 D (tyM b) A := X
  obtain ⟨⟨hx, hb, hml, hown, hts⟩, hK, hNs, hlocks, hr⟩ := id X
  have hl : lv_has ls 3 [(0, .ref (h 0))] := hl
  unfold wp_X12_close at hw
  refine lv_iconst (v := 0) hx hb dX12_close_0 (by decide) ?_
  refine lv_istore_n (lv' := [(1, .int (0 : Int32)), (0, .ref (h 0))]) hx hb dX12_close_1 rfl hl (by decide) rfl (fun ls hl => ?_)
  obtain ⟨n, hw⟩ := hw
  exact tl_X12_close_2 X hA n _ _ _ _ _ hw O (lv_sub hl [1, 0] rfl)
-- FellersOrderModel.lay(II)I
abbrev rm_X12_lay : Room := { frames := 2, cells := 0, slots := 0, locals := 43 }
def wp_X12_lay (a1 : Int32) (a2 : Int32) (u : St) (Post : Int32 → St → Prop) : Prop := wp_X12_isJob a1 u (fun r2 u2 => ((r2 = 0) → (wp_X12_refused (1 : Int32) u2 (fun r18 u18 => Post r18 u18))) ∧ ((¬ r2 = 0) → (wp_X12_isJob a2 u2 (fun r10 u10 => ((¬ r10 = 0) → (wp_X12_close u10 (fun _ u23 => ((a1 = a2) → (wp_X12_refused (3 : Int32) u23 (fun r59 u59 => Post r59 u59))) ∧ ((¬ a1 = a2) → (vp_in a2 12 ∧ (wp_X12_has (u23 4 (Int32.toNatClampNeg a2)) a1 u23 (fun r38 u38 => ((¬ r38 = 0) → (wp_X12_refused (3 : Int32) u38 (fun r59 u59 => Post r59 u59))) ∧ ((r38 = 0) → (vp_in a1 12 ∧ (wp_X12_has (u38 5 (Int32.toNatClampNeg a1)) a2 u38 (fun r51 u51 => ((r51 = 0) → (wp_X12_keep u51 (fun _ u64 => vp_in a2 12 ∧ (vp_in a2 12 ∧ (wp_X12_done (1 : Int32) (su u64 4 (Int32.toNatClampNeg a2) ((u64 4 (Int32.toNatClampNeg a2)) ||| ((1 : Int32) <<< (a1 &&& 31)))) (fun r81 u81 => Post r81 u81)))))) ∧ ((¬ r51 = 0) → (wp_X12_refused (3 : Int32) u51 (fun r59 u59 => Post r59 u59)))))))))))))) ∧ ((r10 = 0) → (wp_X12_refused (1 : Int32) u10 (fun r18 u18 => Post r18 u18)))))))
set_option maxHeartbeats 4000000 in
set_option maxRecDepth 100000 in
theorem c_X12_lay {a1 : Int32} {a2 : Int32} {l : Launch} {D : va_G} {b : Nat → ClassId} {h : Nat → Nat} {u : St} {Post : Int32 → St → Prop} (hw : wp_X12_lay a1 a2 u Post) : CtI l yX12_lay cX12_lay 3 (some .int) rm_X12_lay D (tyM b) 21 (gM b h) h [.ref (h 0), .int a1, .int a2] u Post := by
  refine CtI.of (plainFor_of_name (by decide)) (Nat.le_of_ble_eq_true rfl) ?_
  intro p e s m below meth c A ls X hA O hl
  have X : Cx p s m _ meth c cX12_lay 3 (some .int) RX12 D (tyM b) A := X
  obtain ⟨⟨hx, hb, hml, hown, hts⟩, hK, hNs, hlocks, hr⟩ := id X
  have hl : lv_has ls 3 [(0, .ref (h 0)), (1, .int a1), (2, .int a2)] := hl
  unfold wp_X12_lay at hw
  refine lv_aload_n hx hb dX12_lay_0 rfl (lv_at hl 0 rfl) ?_
  refine lv_iload_n hx hb dX12_lay_1 rfl (lv_at hl 1 rfl) ?_
  refine q_civ (rest := []) X O hA 0 (c_X12_isJob hw) lk_X12_106 (by decide) rfl rfl rfl rfl rfl rfl ⟨Nat.le_of_ble_eq_true rfl, Nat.le_of_ble_eq_true rfl⟩ (Nat.le_of_ble_eq_true rfl) hl.1 ⟨Nat.zero_le _, Nat.zero_le _⟩ rfl dX12_lay_2 (fun r2 u2 H locs hw O => ?_)
  refine lv_if_eq (tgt := 16) hx hb dX12_lay_5 (by decide) (fun c5 => ?_) (fun c5 => ?_)
  · have hw := hw.1 c5
    refine lv_aload_n hx hb dX12_lay_16 rfl (lv_at hl 0 rfl) ?_
    refine lv_iconst (v := 1) hx hb dX12_lay_17 (by decide) ?_
    refine q_civ (rest := []) X O hA 0 (c_X12_refused hw) lk_X12_89 (by decide) rfl rfl rfl rfl rfl rfl ⟨Nat.le_of_ble_eq_true rfl, Nat.le_of_ble_eq_true rfl⟩ (Nat.le_of_ble_eq_true rfl) hl.1 ⟨Nat.zero_le _, Nat.zero_le _⟩ rfl dX12_lay_18 (fun r18 u18 H locs hw O => ?_)
    exact q_iret X O hw dX12_lay_21
  · have hw := hw.2 c5
    refine lv_aload_n hx hb dX12_lay_8 rfl (lv_at hl 0 rfl) ?_
    refine lv_iload_n hx hb dX12_lay_9 rfl (lv_at hl 2 rfl) ?_
    refine q_civ (rest := []) X O hA 0 (c_X12_isJob hw) lk_X12_106 (by decide) rfl rfl rfl rfl rfl rfl ⟨Nat.le_of_ble_eq_true rfl, Nat.le_of_ble_eq_true rfl⟩ (Nat.le_of_ble_eq_true rfl) hl.1 ⟨Nat.zero_le _, Nat.zero_le _⟩ rfl dX12_lay_10 (fun r10 u10 H locs hw O => ?_)
    refine lv_if_ne (tgt := 22) hx hb dX12_lay_13 (by decide) (fun c13 => ?_) (fun c13 => ?_)
    · have hw := hw.1 c13
      refine lv_aload_n hx hb dX12_lay_22 rfl (lv_at hl 0 rfl) ?_
      refine q_cvv (rest := []) X O hA 0 (c_X12_close hw) lk_X12_110 (by decide) rfl rfl rfl rfl rfl rfl ⟨Nat.le_of_ble_eq_true rfl, Nat.le_of_ble_eq_true rfl⟩ (Nat.le_of_ble_eq_true rfl) hl.1 ⟨Nat.zero_le _, Nat.zero_le _⟩ rfl dX12_lay_23 (fun u23 H locs hw O => ?_)
      refine lv_iload_n hx hb dX12_lay_26 rfl (lv_at hl 1 rfl) ?_
      refine lv_iload_n hx hb dX12_lay_27 rfl (lv_at hl 2 rfl) ?_
      refine lv_icmp_eq (tgt := 57) hx hb dX12_lay_28 (by decide) (fun c28 => ?_) (fun c28 => ?_)
      · have hw := hw.1 c28
        refine lv_aload_n hx hb dX12_lay_57 rfl (lv_at hl 0 rfl) ?_
        refine lv_iconst (v := 3) hx hb dX12_lay_58 (by decide) ?_
        refine q_civ (rest := []) X O hA 0 (c_X12_refused hw) lk_X12_89 (by decide) rfl rfl rfl rfl rfl rfl ⟨Nat.le_of_ble_eq_true rfl, Nat.le_of_ble_eq_true rfl⟩ (Nat.le_of_ble_eq_true rfl) hl.1 ⟨Nat.zero_le _, Nat.zero_le _⟩ rfl dX12_lay_59 (fun r59 u59 H locs hw O => ?_)
        exact q_iret X O hw dX12_lay_62
      · have hw := hw.2 c28
        refine lv_aload_n hx hb dX12_lay_31 rfl (lv_at hl 0 rfl) ?_
        refine gt_X12_19 X O dX12_lay_32 ?_
        refine lv_iload_n hx hb dX12_lay_35 rfl (lv_at hl 2 rfl) ?_
        obtain ⟨i36, hw⟩ := hw
        refine q_ild X O 4 0 (by decide) rfl rfl i36 dX12_lay_36 ?_
        refine lv_iload_n hx hb dX12_lay_37 rfl (lv_at hl 1 rfl) ?_
        refine q_cis (rest := []) X O hA (c_X12_has hw) lk_X12_82 rfl rfl rfl ⟨Nat.le_of_ble_eq_true rfl, Nat.le_of_ble_eq_true rfl⟩ (Nat.le_of_ble_eq_true rfl) hl.1 ⟨Nat.zero_le _, Nat.zero_le _⟩ rfl dX12_lay_38 (fun r38 u38 H locs hw O => ?_)
        refine lv_if_ne (tgt := 57) hx hb dX12_lay_41 (by decide) (fun c41 => ?_) (fun c41 => ?_)
        · have hw := hw.1 c41
          refine lv_aload_n hx hb dX12_lay_57 rfl (lv_at hl 0 rfl) ?_
          refine lv_iconst (v := 3) hx hb dX12_lay_58 (by decide) ?_
          refine q_civ (rest := []) X O hA 0 (c_X12_refused hw) lk_X12_89 (by decide) rfl rfl rfl rfl rfl rfl ⟨Nat.le_of_ble_eq_true rfl, Nat.le_of_ble_eq_true rfl⟩ (Nat.le_of_ble_eq_true rfl) hl.1 ⟨Nat.zero_le _, Nat.zero_le _⟩ rfl dX12_lay_59 (fun r59 u59 H locs hw O => ?_)
          exact q_iret X O hw dX12_lay_62
        · have hw := hw.2 c41
          refine lv_aload_n hx hb dX12_lay_44 rfl (lv_at hl 0 rfl) ?_
          refine gt_X12_22 X O dX12_lay_45 ?_
          refine lv_iload_n hx hb dX12_lay_48 rfl (lv_at hl 1 rfl) ?_
          obtain ⟨i49, hw⟩ := hw
          refine q_ild X O 5 0 (by decide) rfl rfl i49 dX12_lay_49 ?_
          refine lv_iload_n hx hb dX12_lay_50 rfl (lv_at hl 2 rfl) ?_
          refine q_cis (rest := []) X O hA (c_X12_has hw) lk_X12_82 rfl rfl rfl ⟨Nat.le_of_ble_eq_true rfl, Nat.le_of_ble_eq_true rfl⟩ (Nat.le_of_ble_eq_true rfl) hl.1 ⟨Nat.zero_le _, Nat.zero_le _⟩ rfl dX12_lay_51 (fun r51 u51 H locs hw O => ?_)
          refine lv_if_eq (tgt := 63) hx hb dX12_lay_54 (by decide) (fun c54 => ?_) (fun c54 => ?_)
          · have hw := hw.1 c54
            refine lv_aload_n hx hb dX12_lay_63 rfl (lv_at hl 0 rfl) ?_
            refine q_cvv (rest := []) X O hA 0 (c_X12_keep hw) lk_X12_99 (by decide) rfl rfl rfl rfl rfl rfl ⟨Nat.le_of_ble_eq_true rfl, Nat.le_of_ble_eq_true rfl⟩ (Nat.le_of_ble_eq_true rfl) hl.1 ⟨Nat.zero_le _, Nat.zero_le _⟩ rfl dX12_lay_64 (fun u64 H locs hw O => ?_)
            refine lv_aload_n hx hb dX12_lay_67 rfl (lv_at hl 0 rfl) ?_
            refine gt_X12_19 X O dX12_lay_68 ?_
            refine lv_iload_n hx hb dX12_lay_71 rfl (lv_at hl 2 rfl) ?_
            refine lv_dup2_11 hx hb dX12_lay_72 rfl rfl ?_
            obtain ⟨i73, hw⟩ := hw
            refine q_ild X O 4 0 (by decide) rfl rfl i73 dX12_lay_73 ?_
            refine lv_iconst (v := 1) hx hb dX12_lay_74 (by decide) ?_
            refine lv_iload_n hx hb dX12_lay_75 rfl (lv_at hl 1 rfl) ?_
            refine lv_ishl hx hb dX12_lay_76 ?_
            refine lv_ior hx hb dX12_lay_77 ?_
            obtain ⟨i78, hw⟩ := hw
            refine q_ist X O 4 0 (by decide) (fun _ => rfl) rfl i78 dX12_lay_78 (fun H locs O => ?_)
            refine lv_aload_n hx hb dX12_lay_79 rfl (lv_at hl 0 rfl) ?_
            refine lv_iconst (v := 1) hx hb dX12_lay_80 (by decide) ?_
            refine q_civ (rest := []) X O hA 0 (c_X12_done hw) lk_X12_96 (by decide) rfl rfl rfl rfl rfl rfl ⟨Nat.le_of_ble_eq_true rfl, Nat.le_of_ble_eq_true rfl⟩ (Nat.le_of_ble_eq_true rfl) hl.1 ⟨Nat.zero_le _, Nat.zero_le _⟩ rfl dX12_lay_81 (fun r81 u81 H locs hw O => ?_)
            exact q_iret X O hw dX12_lay_84
          · have hw := hw.2 c54
            refine lv_aload_n hx hb dX12_lay_57 rfl (lv_at hl 0 rfl) ?_
            refine lv_iconst (v := 3) hx hb dX12_lay_58 (by decide) ?_
            refine q_civ (rest := []) X O hA 0 (c_X12_refused hw) lk_X12_89 (by decide) rfl rfl rfl rfl rfl rfl ⟨Nat.le_of_ble_eq_true rfl, Nat.le_of_ble_eq_true rfl⟩ (Nat.le_of_ble_eq_true rfl) hl.1 ⟨Nat.zero_le _, Nat.zero_le _⟩ rfl dX12_lay_59 (fun r59 u59 H locs hw O => ?_)
            exact q_iret X O hw dX12_lay_62
    · have hw := hw.2 c13
      refine lv_aload_n hx hb dX12_lay_16 rfl (lv_at hl 0 rfl) ?_
      refine lv_iconst (v := 1) hx hb dX12_lay_17 (by decide) ?_
      refine q_civ (rest := []) X O hA 0 (c_X12_refused hw) lk_X12_89 (by decide) rfl rfl rfl rfl rfl rfl ⟨Nat.le_of_ble_eq_true rfl, Nat.le_of_ble_eq_true rfl⟩ (Nat.le_of_ble_eq_true rfl) hl.1 ⟨Nat.zero_le _, Nat.zero_le _⟩ rfl dX12_lay_18 (fun r18 u18 H locs hw O => ?_)
      exact q_iret X O hw dX12_lay_21
-- FellersOrderModel.free(II)I
abbrev rm_X12_free : Room := { frames := 2, cells := 0, slots := 0, locals := 43 }
def wp_X12_free (a1 : Int32) (a2 : Int32) (u : St) (Post : Int32 → St → Prop) : Prop := wp_X12_isJob a1 u (fun r2 u2 => ((r2 = 0) → (wp_X12_refused (1 : Int32) u2 (fun r18 u18 => Post r18 u18))) ∧ ((¬ r2 = 0) → (wp_X12_isJob a2 u2 (fun r10 u10 => ((¬ r10 = 0) → (vp_in a2 12 ∧ (wp_X12_has (u10 4 (Int32.toNatClampNeg a2)) a1 u10 (fun r29 u29 => ((¬ r29 = 0) → (wp_X12_keep u29 (fun _ u42 => vp_in a2 12 ∧ (vp_in a2 12 ∧ (wp_X12_done (1 : Int32) (su u42 4 (Int32.toNatClampNeg a2) ((u42 4 (Int32.toNatClampNeg a2)) &&& (((1 : Int32) <<< (a1 &&& 31)) ^^^ (-1 : Int32)))) (fun r61 u61 => Post r61 u61)))))) ∧ ((r29 = 0) → (wp_X12_refused (3 : Int32) u29 (fun r37 u37 => Post r37 u37))))))) ∧ ((r10 = 0) → (wp_X12_refused (1 : Int32) u10 (fun r18 u18 => Post r18 u18)))))))
set_option maxHeartbeats 4000000 in
set_option maxRecDepth 100000 in
theorem c_X12_free {a1 : Int32} {a2 : Int32} {l : Launch} {D : va_G} {b : Nat → ClassId} {h : Nat → Nat} {u : St} {Post : Int32 → St → Prop} (hw : wp_X12_free a1 a2 u Post) : CtI l yX12_free cX12_free 3 (some .int) rm_X12_free D (tyM b) 21 (gM b h) h [.ref (h 0), .int a1, .int a2] u Post := by
  refine CtI.of (plainFor_of_name (by decide)) (Nat.le_of_ble_eq_true rfl) ?_
  intro p e s m below meth c A ls X hA O hl
  have X : Cx p s m _ meth c cX12_free 3 (some .int) RX12 D (tyM b) A := X
  obtain ⟨⟨hx, hb, hml, hown, hts⟩, hK, hNs, hlocks, hr⟩ := id X
  have hl : lv_has ls 3 [(0, .ref (h 0)), (1, .int a1), (2, .int a2)] := hl
  unfold wp_X12_free at hw
  refine lv_aload_n hx hb dX12_free_0 rfl (lv_at hl 0 rfl) ?_
  refine lv_iload_n hx hb dX12_free_1 rfl (lv_at hl 1 rfl) ?_
  refine q_civ (rest := []) X O hA 0 (c_X12_isJob hw) lk_X12_106 (by decide) rfl rfl rfl rfl rfl rfl ⟨Nat.le_of_ble_eq_true rfl, Nat.le_of_ble_eq_true rfl⟩ (Nat.le_of_ble_eq_true rfl) hl.1 ⟨Nat.zero_le _, Nat.zero_le _⟩ rfl dX12_free_2 (fun r2 u2 H locs hw O => ?_)
  refine lv_if_eq (tgt := 16) hx hb dX12_free_5 (by decide) (fun c5 => ?_) (fun c5 => ?_)
  · have hw := hw.1 c5
    refine lv_aload_n hx hb dX12_free_16 rfl (lv_at hl 0 rfl) ?_
    refine lv_iconst (v := 1) hx hb dX12_free_17 (by decide) ?_
    refine q_civ (rest := []) X O hA 0 (c_X12_refused hw) lk_X12_89 (by decide) rfl rfl rfl rfl rfl rfl ⟨Nat.le_of_ble_eq_true rfl, Nat.le_of_ble_eq_true rfl⟩ (Nat.le_of_ble_eq_true rfl) hl.1 ⟨Nat.zero_le _, Nat.zero_le _⟩ rfl dX12_free_18 (fun r18 u18 H locs hw O => ?_)
    exact q_iret X O hw dX12_free_21
  · have hw := hw.2 c5
    refine lv_aload_n hx hb dX12_free_8 rfl (lv_at hl 0 rfl) ?_
    refine lv_iload_n hx hb dX12_free_9 rfl (lv_at hl 2 rfl) ?_
    refine q_civ (rest := []) X O hA 0 (c_X12_isJob hw) lk_X12_106 (by decide) rfl rfl rfl rfl rfl rfl ⟨Nat.le_of_ble_eq_true rfl, Nat.le_of_ble_eq_true rfl⟩ (Nat.le_of_ble_eq_true rfl) hl.1 ⟨Nat.zero_le _, Nat.zero_le _⟩ rfl dX12_free_10 (fun r10 u10 H locs hw O => ?_)
    refine lv_if_ne (tgt := 22) hx hb dX12_free_13 (by decide) (fun c13 => ?_) (fun c13 => ?_)
    · have hw := hw.1 c13
      refine lv_aload_n hx hb dX12_free_22 rfl (lv_at hl 0 rfl) ?_
      refine gt_X12_19 X O dX12_free_23 ?_
      refine lv_iload_n hx hb dX12_free_26 rfl (lv_at hl 2 rfl) ?_
      obtain ⟨i27, hw⟩ := hw
      refine q_ild X O 4 0 (by decide) rfl rfl i27 dX12_free_27 ?_
      refine lv_iload_n hx hb dX12_free_28 rfl (lv_at hl 1 rfl) ?_
      refine q_cis (rest := []) X O hA (c_X12_has hw) lk_X12_82 rfl rfl rfl ⟨Nat.le_of_ble_eq_true rfl, Nat.le_of_ble_eq_true rfl⟩ (Nat.le_of_ble_eq_true rfl) hl.1 ⟨Nat.zero_le _, Nat.zero_le _⟩ rfl dX12_free_29 (fun r29 u29 H locs hw O => ?_)
      refine lv_if_ne (tgt := 41) hx hb dX12_free_32 (by decide) (fun c32 => ?_) (fun c32 => ?_)
      · have hw := hw.1 c32
        refine lv_aload_n hx hb dX12_free_41 rfl (lv_at hl 0 rfl) ?_
        refine q_cvv (rest := []) X O hA 0 (c_X12_keep hw) lk_X12_99 (by decide) rfl rfl rfl rfl rfl rfl ⟨Nat.le_of_ble_eq_true rfl, Nat.le_of_ble_eq_true rfl⟩ (Nat.le_of_ble_eq_true rfl) hl.1 ⟨Nat.zero_le _, Nat.zero_le _⟩ rfl dX12_free_42 (fun u42 H locs hw O => ?_)
        refine lv_aload_n hx hb dX12_free_45 rfl (lv_at hl 0 rfl) ?_
        refine gt_X12_19 X O dX12_free_46 ?_
        refine lv_iload_n hx hb dX12_free_49 rfl (lv_at hl 2 rfl) ?_
        refine lv_dup2_11 hx hb dX12_free_50 rfl rfl ?_
        obtain ⟨i51, hw⟩ := hw
        refine q_ild X O 4 0 (by decide) rfl rfl i51 dX12_free_51 ?_
        refine lv_iconst (v := 1) hx hb dX12_free_52 (by decide) ?_
        refine lv_iload_n hx hb dX12_free_53 rfl (lv_at hl 1 rfl) ?_
        refine lv_ishl hx hb dX12_free_54 ?_
        refine lv_iconst (v := -1) hx hb dX12_free_55 (by decide) ?_
        refine lv_ixor hx hb dX12_free_56 ?_
        refine lv_iand hx hb dX12_free_57 ?_
        obtain ⟨i58, hw⟩ := hw
        refine q_ist X O 4 0 (by decide) (fun _ => rfl) rfl i58 dX12_free_58 (fun H locs O => ?_)
        refine lv_aload_n hx hb dX12_free_59 rfl (lv_at hl 0 rfl) ?_
        refine lv_iconst (v := 1) hx hb dX12_free_60 (by decide) ?_
        refine q_civ (rest := []) X O hA 0 (c_X12_done hw) lk_X12_96 (by decide) rfl rfl rfl rfl rfl rfl ⟨Nat.le_of_ble_eq_true rfl, Nat.le_of_ble_eq_true rfl⟩ (Nat.le_of_ble_eq_true rfl) hl.1 ⟨Nat.zero_le _, Nat.zero_le _⟩ rfl dX12_free_61 (fun r61 u61 H locs hw O => ?_)
        exact q_iret X O hw dX12_free_64
      · have hw := hw.2 c32
        refine lv_aload_n hx hb dX12_free_35 rfl (lv_at hl 0 rfl) ?_
        refine lv_iconst (v := 3) hx hb dX12_free_36 (by decide) ?_
        refine q_civ (rest := []) X O hA 0 (c_X12_refused hw) lk_X12_89 (by decide) rfl rfl rfl rfl rfl rfl ⟨Nat.le_of_ble_eq_true rfl, Nat.le_of_ble_eq_true rfl⟩ (Nat.le_of_ble_eq_true rfl) hl.1 ⟨Nat.zero_le _, Nat.zero_le _⟩ rfl dX12_free_37 (fun r37 u37 H locs hw O => ?_)
        exact q_iret X O hw dX12_free_40
    · have hw := hw.2 c13
      refine lv_aload_n hx hb dX12_free_16 rfl (lv_at hl 0 rfl) ?_
      refine lv_iconst (v := 1) hx hb dX12_free_17 (by decide) ?_
      refine q_civ (rest := []) X O hA 0 (c_X12_refused hw) lk_X12_89 (by decide) rfl rfl rfl rfl rfl rfl ⟨Nat.le_of_ble_eq_true rfl, Nat.le_of_ble_eq_true rfl⟩ (Nat.le_of_ble_eq_true rfl) hl.1 ⟨Nat.zero_le _, Nat.zero_le _⟩ rfl dX12_free_18 (fun r18 u18 H locs hw O => ?_)
      exact q_iret X O hw dX12_free_21
end PT
