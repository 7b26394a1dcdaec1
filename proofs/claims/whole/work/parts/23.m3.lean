/-! the reference, methods: yard look least best many fixed apart four series shows turned -/
theorem lk_X12_142 : LkV RX12 142 yX12_yard cX12_yard 4 none 1 := ⟨wd_27_2, wd_27_3, wd_27_4, wd_1_5, wd_27_5, by decide +kernel⟩
theorem lk_X12_146 : LkV RX12 146 yX12_layAll cX12_layAll 5 none 0 := ⟨wd_27_6, wd_27_7, wd_27_8, wd_1_5, wd_27_9, by decide +kernel⟩
theorem lk_X12_149 : LkV RX12 149 yX12_look cX12_look 1 none 0 := ⟨wd_26_22, wd_26_23, wd_27_0, wd_1_5, wd_27_1, by decide +kernel⟩
theorem lk_X12_191 : LkV RX12 191 yX12_apart cX12_apart 3 (some .boolean) 2 := ⟨wd_30_15, wd_30_16, wd_30_17, wd_1_5, wd_30_18, by decide +kernel⟩
theorem lk_X12_194 : LkV RX12 194 yX12_four cX12_four 6 (some .int) 0 := ⟨wd_30_11, wd_30_12, wd_30_13, wd_1_5, wd_30_14, by decide +kernel⟩
section PT
variable {p : Program} {l : Launch} {e : Env} {s : State} {m : MethodId} {args : Array Value} {below : List Frame} {meth : Method} {c : Code} {A : Nat → Prop} {D : va_G} {b : Nat → ClassId} {h : Nat → Nat}
-- FellersOrderModel.yard(Z)V
abbrev rm_X12_yard : Room := { frames := 2, cells := 0, slots := 0, locals := 43 }
def wb_X12_yard_86 (Post : Int32 → St → Prop) (K6 : Int32 → Int32 → St → Prop) (K86 : Int32 → Int32 → Int32 → St → Prop) (x1 : Int32) (x2 : Int32) (x3 : Int32) (u : St) : Prop := ((x1 = 0) → (K6 x1 (x2 + 1) u)) ∧ ((¬ x1 = 0) → ((((u 0 0) ≤ x3) → (K6 x1 (x2 + 1) u)) ∧ ((¬ (u 0 0) ≤ x3) → (vp_in x2 12 ∧ (vp_in x3 12 ∧ (wp_X12_has (u 5 (Int32.toNatClampNeg x3)) x2 u (fun r112 u112 => ((r112 = 0) → (vp_in x2 12 ∧ (K86 x1 x2 (x3 + 1) (su u112 19 (Int32.toNatClampNeg x2) ((u 19 (Int32.toNatClampNeg x2)) ||| (0 : Int32)))))) ∧ ((¬ r112 = 0) → (vp_in x2 12 ∧ (K86 x1 x2 (x3 + 1) (su u112 19 (Int32.toNatClampNeg x2) ((u 19 (Int32.toNatClampNeg x2)) ||| ((1 : Int32) <<< (x3 &&& 31))))))))))))))
set_option maxHeartbeats 4000000 in
set_option maxRecDepth 100000 in
theorem tb_X12_yard_86 (X : Cx p s m args meth c cX12_yard 4 none RX12 D (tyM b) A) (hA : ∀ q, s.heap.size ≤ q → A q) {Post : Int32 → St → Prop} {K6 : Int32 → Int32 → St → Prop} (k6 : ∀ (x1 : Int32) (x2 : Int32) (u : St) (H : Heap) (locs : List Loc) (ls : Array Slot), K6 x1 x2 u → wO D 21 (gM b h) h u A s.heap H locs → lv_has ls 4 [(0, .ref (h 0)), (1, .int x1), (2, .int x2)] → W p l e rm_X12_yard s m args below meth c H locs 0 0 (MQ below (va_Qv (Post 0) (cB D (tyM b) 21 (gM b h) h A) A) args s 0 0 A) (F0 m 6 ls [])) {K86 : Int32 → Int32 → Int32 → St → Prop} (k86 : ∀ (x1 : Int32) (x2 : Int32) (x3 : Int32) (u : St) (H : Heap) (locs : List Loc) (ls : Array Slot), K86 x1 x2 x3 u → wO D 21 (gM b h) h u A s.heap H locs → lv_has ls 4 [(0, .ref (h 0)), (1, .int x1), (2, .int x2), (3, .int x3)] → W p l e rm_X12_yard s m args below meth c H locs 0 0 (MQ below (va_Qv (Post 0) (cB D (tyM b) 21 (gM b h) h A) A) args s 0 0 A) (F0 m 86 ls [])) : ∀ (x1 : Int32) (x2 : Int32) (x3 : Int32) (u : St) (H : Heap) (locs : List Loc) (ls : Array Slot), wb_X12_yard_86 Post K6 K86 x1 x2 x3 u → wO D 21 (gM b h) h u A s.heap H locs → lv_has ls 4 [(0, .ref (h 0)), (1, .int x1), (2, .int x2), (3, .int x3)] → W p l e rm_X12_yard s m args below meth c H locs 0 0 (MQ below (va_Qv (Post 0) (cB D (tyM b) 21 (gM b h) h A) A) args s 0 0 A) (F0 m 86 ls []) := by
  obtain ⟨⟨hx, hb, hml, hown, hts⟩, hK, hNs, hlocks, hr⟩ := id X
  intro x1 x2 x3 u H locs ls hw O hl
  unfold wb_X12_yard_86 at hw
  refine lv_iload_n hx hb dX12_yard_86 rfl (lv_at hl 1 rfl) ?_
  refine lv_if_eq (tgt := 133) hx hb dX12_yard_87 (by decide) (fun c87 => ?_) (fun c87 => ?_)
  · have hw := hw.1 c87
    refine lv_iinc (v := x2 + 1) (lv' := [(2, .int (x2 + 1)), (0, .ref (h 0)), (1, .int x1), (3, .int x3)]) hx hb dX12_yard_133 hl (k := 2) rfl rfl (by decide) rfl (fun ls hl => ?_)
    refine lv_goto (tgt := 6) hx hb dX12_yard_136 (by decide) ?_
    exact k6 _ _ _ _ _ _ hw O (lv_sub hl [1, 2, 0] rfl)
  · have hw := hw.2 c87
    refine lv_iload_n hx hb dX12_yard_90 rfl (lv_at hl 3 rfl) ?_
    refine lv_aload_n hx hb dX12_yard_91 rfl (lv_at hl 0 rfl) ?_
    refine gt_X12_75 X O dX12_yard_92 ?_
    refine lv_icmp_ge (tgt := 133) hx hb dX12_yard_95 (by decide) (fun c95 => ?_) (fun c95 => ?_)
    · have hw := hw.1 c95
      refine lv_iinc (v := x2 + 1) (lv' := [(2, .int (x2 + 1)), (0, .ref (h 0)), (1, .int x1), (3, .int x3)]) hx hb dX12_yard_133 hl (k := 2) rfl rfl (by decide) rfl (fun ls hl => ?_)
      refine lv_goto (tgt := 6) hx hb dX12_yard_136 (by decide) ?_
      exact k6 _ _ _ _ _ _ hw O (lv_sub hl [1, 2, 0] rfl)
    · have hw := hw.2 c95
      refine lv_aload_n hx hb dX12_yard_98 rfl (lv_at hl 0 rfl) ?_
      refine gt_X12_65 X O dX12_yard_99 ?_
      refine lv_iload_n hx hb dX12_yard_102 rfl (lv_at hl 2 rfl) ?_
      refine lv_dup2_11 hx hb dX12_yard_103 rfl rfl ?_
      obtain ⟨i104, hw⟩ := hw
      refine q_ild X O 19 0 (by decide) rfl rfl i104 dX12_yard_104 ?_
      refine lv_aload_n hx hb dX12_yard_105 rfl (lv_at hl 0 rfl) ?_
      refine gt_X12_22 X O dX12_yard_106 ?_
      refine lv_iload_n hx hb dX12_yard_109 rfl (lv_at hl 3 rfl) ?_
      obtain ⟨i110, hw⟩ := hw
      refine q_ild X O 5 0 (by decide) rfl rfl i110 dX12_yard_110 ?_
      refine lv_iload_n hx hb dX12_yard_111 rfl (lv_at hl 2 rfl) ?_
      refine q_cis (rest := [.int (u 19 (Int32.toNatClampNeg x2)), .int x2, .ref (h 19)]) X O hA (c_X12_has hw) lk_X12_82 rfl rfl rfl ⟨Nat.le_of_ble_eq_true rfl, Nat.le_of_ble_eq_true rfl⟩ (Nat.le_of_ble_eq_true rfl) hl.1 ⟨Nat.zero_le _, Nat.zero_le _⟩ rfl dX12_yard_112 (fun r112 u112 H locs hw O => ?_)
      refine lv_if_eq (tgt := 124) hx hb dX12_yard_115 (by decide) (fun c115 => ?_) (fun c115 => ?_)
      · have hw := hw.1 c115
        refine lv_iconst (v := 0) hx hb dX12_yard_124 (by decide) ?_
        refine lv_ior hx hb dX12_yard_125 ?_
        obtain ⟨i126, hw⟩ := hw
        refine q_ist X O 19 0 (by decide) (fun _ => rfl) rfl i126 dX12_yard_126 (fun H locs O => ?_)
        refine lv_iinc (v := x3 + 1) (lv' := [(3, .int (x3 + 1)), (0, .ref (h 0)), (1, .int x1), (2, .int x2)]) hx hb dX12_yard_127 hl (k := 3) rfl rfl (by decide) rfl (fun ls hl => ?_)
        refine lv_goto (tgt := 86) hx hb dX12_yard_130 (by decide) ?_
        exact k86 _ _ _ _ _ _ _ hw O (lv_sub hl [1, 2, 3, 0] rfl)
      · have hw := hw.2 c115
        refine lv_iconst (v := 1) hx hb dX12_yard_118 (by decide) ?_
        refine lv_iload_n hx hb dX12_yard_119 rfl (lv_at hl 3 rfl) ?_
        refine lv_ishl hx hb dX12_yard_120 ?_
        refine lv_goto (tgt := 125) hx hb dX12_yard_121 (by decide) ?_
        refine lv_ior hx hb dX12_yard_125 ?_
        obtain ⟨i126, hw⟩ := hw
        refine q_ist X O 19 0 (by decide) (fun _ => rfl) rfl i126 dX12_yard_126 (fun H locs O => ?_)
        refine lv_iinc (v := x3 + 1) (lv' := [(3, .int (x3 + 1)), (0, .ref (h 0)), (1, .int x1), (2, .int x2)]) hx hb dX12_yard_127 hl (k := 3) rfl rfl (by decide) rfl (fun ls hl => ?_)
        refine lv_goto (tgt := 86) hx hb dX12_yard_130 (by decide) ?_
        exact k86 _ _ _ _ _ _ _ hw O (lv_sub hl [1, 2, 3, 0] rfl)
def wl_X12_yard_86 (Post : Int32 → St → Prop) (K6 : Int32 → Int32 → St → Prop) : Nat → Int32 → Int32 → Int32 → St → Prop
  | 0 => fun _ _ _ _ => False
  | n + 1 => fun x1 x2 x3 u => wb_X12_yard_86 Post K6 (wl_X12_yard_86 Post K6 n) x1 x2 x3 u
set_option maxHeartbeats 4000000 in
set_option maxRecDepth 100000 in
theorem tl_X12_yard_86 (X : Cx p s m args meth c cX12_yard 4 none RX12 D (tyM b) A) (hA : ∀ q, s.heap.size ≤ q → A q) {Post : Int32 → St → Prop} {K6 : Int32 → Int32 → St → Prop} (k6 : ∀ (x1 : Int32) (x2 : Int32) (u : St) (H : Heap) (locs : List Loc) (ls : Array Slot), K6 x1 x2 u → wO D 21 (gM b h) h u A s.heap H locs → lv_has ls 4 [(0, .ref (h 0)), (1, .int x1), (2, .int x2)] → W p l e rm_X12_yard s m args below meth c H locs 0 0 (MQ below (va_Qv (Post 0) (cB D (tyM b) 21 (gM b h) h A) A) args s 0 0 A) (F0 m 6 ls [])) : ∀ n : Nat, ∀ (x1 : Int32) (x2 : Int32) (x3 : Int32) (u : St) (H : Heap) (locs : List Loc) (ls : Array Slot), (wl_X12_yard_86 Post K6 n) x1 x2 x3 u → wO D 21 (gM b h) h u A s.heap H locs → lv_has ls 4 [(0, .ref (h 0)), (1, .int x1), (2, .int x2), (3, .int x3)] → W p l e rm_X12_yard s m args below meth c H locs 0 0 (MQ below (va_Qv (Post 0) (cB D (tyM b) 21 (gM b h) h A) A) args s 0 0 A) (F0 m 86 ls []) := by
  intro n
  induction n with
  | zero => intro x1 x2 x3 u H locs ls hw; exact False.elim hw
  | succ n ih => intro x1 x2 x3 u H locs ls hw O hl; exact tb_X12_yard_86 X hA k6 ih x1 x2 x3 u H locs ls hw O hl
def wb_X12_yard_63 (Post : Int32 → St → Prop) (K6 : Int32 → Int32 → St → Prop) (x1 : Int32) (x2 : Int32) (t0 : Int32) (t1 : Int32) (u : St) : Prop := vp_in t1 12 ∧ (((x1 = 0) → (vp_in x2 12 ∧ (vp_in x2 12 ∧ (∃ n : Nat, wl_X12_yard_86 Post K6 n x1 x2 (0 : Int32) (su (su u 18 (Int32.toNatClampNeg t1) t0) 19 (Int32.toNatClampNeg x2) ((su u 18 (Int32.toNatClampNeg t1) t0) 5 (Int32.toNatClampNeg x2))))))) ∧ ((¬ x1 = 0) → (vp_in x2 12 ∧ (∃ n : Nat, wl_X12_yard_86 Post K6 n x1 x2 (0 : Int32) (su (su u 18 (Int32.toNatClampNeg t1) t0) 19 (Int32.toNatClampNeg x2) (0 : Int32))))))
set_option maxHeartbeats 4000000 in
set_option maxRecDepth 100000 in
theorem tb_X12_yard_63 (X : Cx p s m args meth c cX12_yard 4 none RX12 D (tyM b) A) (hA : ∀ q, s.heap.size ≤ q → A q) {Post : Int32 → St → Prop} {K6 : Int32 → Int32 → St → Prop} (k6 : ∀ (x1 : Int32) (x2 : Int32) (u : St) (H : Heap) (locs : List Loc) (ls : Array Slot), K6 x1 x2 u → wO D 21 (gM b h) h u A s.heap H locs → lv_has ls 4 [(0, .ref (h 0)), (1, .int x1), (2, .int x2)] → W p l e rm_X12_yard s m args below meth c H locs 0 0 (MQ below (va_Qv (Post 0) (cB D (tyM b) 21 (gM b h) h A) A) args s 0 0 A) (F0 m 6 ls [])) : ∀ (x1 : Int32) (x2 : Int32) (t0 : Int32) (t1 : Int32) (u : St) (H : Heap) (locs : List Loc) (ls : Array Slot), wb_X12_yard_63 Post K6 x1 x2 t0 t1 u → wO D 21 (gM b h) h u A s.heap H locs → lv_has ls 4 [(0, .ref (h 0)), (1, .int x1), (2, .int x2)] → W p l e rm_X12_yard s m args below meth c H locs 0 0 (MQ below (va_Qv (Post 0) (cB D (tyM b) 21 (gM b h) h A) A) args s 0 0 A) (F0 m 63 ls [.int t0, .int t1, .ref (h 18)]) := by
  obtain ⟨⟨hx, hb, hml, hown, hts⟩, hK, hNs, hlocks, hr⟩ := id X
  intro x1 x2 t0 t1 u H locs ls hw O hl
  unfold wb_X12_yard_63 at hw
  obtain ⟨i63, hw⟩ := hw
  refine q_ist X O 18 0 (by decide) (fun _ => rfl) rfl i63 dX12_yard_63 (fun H locs O => ?_)
  refine lv_aload_n hx hb dX12_yard_64 rfl (lv_at hl 0 rfl) ?_
  refine gt_X12_65 X O dX12_yard_65 ?_
  refine lv_iload_n hx hb dX12_yard_68 rfl (lv_at hl 2 rfl) ?_
  refine lv_iload_n hx hb dX12_yard_69 rfl (lv_at hl 1 rfl) ?_
  refine lv_if_eq (tgt := 77) hx hb dX12_yard_70 (by decide) (fun c70 => ?_) (fun c70 => ?_)
  · have hw := hw.1 c70
    refine lv_aload_n hx hb dX12_yard_77 rfl (lv_at hl 0 rfl) ?_
    refine gt_X12_22 X O dX12_yard_78 ?_
    refine lv_iload_n hx hb dX12_yard_81 rfl (lv_at hl 2 rfl) ?_
    obtain ⟨i82, hw⟩ := hw
    refine q_ild X O 5 0 (by decide) rfl rfl i82 dX12_yard_82 ?_
    obtain ⟨i83, hw⟩ := hw
    refine q_ist X O 19 0 (by decide) (fun _ => rfl) rfl i83 dX12_yard_83 (fun H locs O => ?_)
    refine lv_iconst (v := 0) hx hb dX12_yard_84 (by decide) ?_
    refine lv_istore_n (lv' := [(3, .int (0 : Int32)), (0, .ref (h 0)), (1, .int x1), (2, .int x2)]) hx hb dX12_yard_85 rfl hl (by decide) rfl (fun ls hl => ?_)
    obtain ⟨n, hw⟩ := hw
    exact tl_X12_yard_86 X hA k6 n _ _ _ _ _ _ _ hw O (lv_sub hl [1, 2, 3, 0] rfl)
  · have hw := hw.2 c70
    refine lv_iconst (v := 0) hx hb dX12_yard_73 (by decide) ?_
    refine lv_goto (tgt := 83) hx hb dX12_yard_74 (by decide) ?_
    obtain ⟨i83, hw⟩ := hw
    refine q_ist X O 19 0 (by decide) (fun _ => rfl) rfl i83 dX12_yard_83 (fun H locs O => ?_)
    refine lv_iconst (v := 0) hx hb dX12_yard_84 (by decide) ?_
    refine lv_istore_n (lv' := [(3, .int (0 : Int32)), (0, .ref (h 0)), (1, .int x1), (2, .int x2)]) hx hb dX12_yard_85 rfl hl (by decide) rfl (fun ls hl => ?_)
    obtain ⟨n, hw⟩ := hw
    exact tl_X12_yard_86 X hA k6 n _ _ _ _ _ _ _ hw O (lv_sub hl [1, 2, 3, 0] rfl)
def wb_X12_yard_38 (Post : Int32 → St → Prop) (K6 : Int32 → Int32 → St → Prop) (x1 : Int32) (x2 : Int32) (t0 : Int32) (t1 : Int32) (u : St) : Prop := vp_in t1 12 ∧ (((x1 = 0) → (vp_in x2 12 ∧ (wb_X12_yard_63 Post K6 x1 x2 ((su u 17 (Int32.toNatClampNeg t1) t0) 2 (Int32.toNatClampNeg x2)) x2 (su u 17 (Int32.toNatClampNeg t1) t0)))) ∧ ((¬ x1 = 0) → (vp_in x2 12 ∧ (wb_X12_yard_63 Post K6 x1 x2 ((su u 17 (Int32.toNatClampNeg t1) t0) 1 (Int32.toNatClampNeg x2)) x2 (su u 17 (Int32.toNatClampNeg t1) t0)))))
set_option maxHeartbeats 4000000 in
set_option maxRecDepth 100000 in
theorem tb_X12_yard_38 (X : Cx p s m args meth c cX12_yard 4 none RX12 D (tyM b) A) (hA : ∀ q, s.heap.size ≤ q → A q) {Post : Int32 → St → Prop} {K6 : Int32 → Int32 → St → Prop} (k6 : ∀ (x1 : Int32) (x2 : Int32) (u : St) (H : Heap) (locs : List Loc) (ls : Array Slot), K6 x1 x2 u → wO D 21 (gM b h) h u A s.heap H locs → lv_has ls 4 [(0, .ref (h 0)), (1, .int x1), (2, .int x2)] → W p l e rm_X12_yard s m args below meth c H locs 0 0 (MQ below (va_Qv (Post 0) (cB D (tyM b) 21 (gM b h) h A) A) args s 0 0 A) (F0 m 6 ls [])) : ∀ (x1 : Int32) (x2 : Int32) (t0 : Int32) (t1 : Int32) (u : St) (H : Heap) (locs : List Loc) (ls : Array Slot), wb_X12_yard_38 Post K6 x1 x2 t0 t1 u → wO D 21 (gM b h) h u A s.heap H locs → lv_has ls 4 [(0, .ref (h 0)), (1, .int x1), (2, .int x2)] → W p l e rm_X12_yard s m args below meth c H locs 0 0 (MQ below (va_Qv (Post 0) (cB D (tyM b) 21 (gM b h) h A) A) args s 0 0 A) (F0 m 38 ls [.int t0, .int t1, .ref (h 17)]) := by
  obtain ⟨⟨hx, hb, hml, hown, hts⟩, hK, hNs, hlocks, hr⟩ := id X
  intro x1 x2 t0 t1 u H locs ls hw O hl
  unfold wb_X12_yard_38 at hw
  obtain ⟨i38, hw⟩ := hw
  refine q_ist X O 17 0 (by decide) (fun _ => rfl) rfl i38 dX12_yard_38 (fun H locs O => ?_)
  refine lv_aload_n hx hb dX12_yard_39 rfl (lv_at hl 0 rfl) ?_
  refine gt_X12_62 X O dX12_yard_40 ?_
  refine lv_iload_n hx hb dX12_yard_43 rfl (lv_at hl 2 rfl) ?_
  refine lv_iload_n hx hb dX12_yard_44 rfl (lv_at hl 1 rfl) ?_
  refine lv_if_eq (tgt := 57) hx hb dX12_yard_45 (by decide) (fun c45 => ?_) (fun c45 => ?_)
  · have hw := hw.1 c45
    refine lv_aload_n hx hb dX12_yard_57 rfl (lv_at hl 0 rfl) ?_
    refine gt_X12_13 X O dX12_yard_58 ?_
    refine lv_iload_n hx hb dX12_yard_61 rfl (lv_at hl 2 rfl) ?_
    obtain ⟨i62, hw⟩ := hw
    refine q_ild X O 2 0 (by decide) rfl rfl i62 dX12_yard_62 ?_
    exact tb_X12_yard_63 X hA k6 _ _ _ _ _ _ _ _ hw O (lv_sub hl [0, 1, 2] rfl)
  · have hw := hw.2 c45
    refine lv_aload_n hx hb dX12_yard_48 rfl (lv_at hl 0 rfl) ?_
    refine gt_X12_7 X O dX12_yard_49 ?_
    refine lv_iload_n hx hb dX12_yard_52 rfl (lv_at hl 2 rfl) ?_
    obtain ⟨i53, hw⟩ := hw
    refine q_ild X O 1 0 (by decide) rfl rfl i53 dX12_yard_53 ?_
    refine lv_goto (tgt := 63) hx hb dX12_yard_54 (by decide) ?_
    exact tb_X12_yard_63 X hA k6 _ _ _ _ _ _ _ _ hw O (lv_sub hl [0, 1, 2] rfl)
def wb_X12_yard_6 (Post : Int32 → St → Prop) (K6 : Int32 → Int32 → St → Prop) (x1 : Int32) (x2 : Int32) (u : St) : Prop := (((u 0 0) ≤ x2) → (Post 0 u)) ∧ ((¬ (u 0 0) ≤ x2) → (((x1 = 0) → (vp_in x2 12 ∧ (wb_X12_yard_38 Post K6 x1 x2 (u 1 (Int32.toNatClampNeg x2)) x2 u))) ∧ ((¬ x1 = 0) → (vp_in x2 12 ∧ (wb_X12_yard_38 Post K6 x1 x2 (u 2 (Int32.toNatClampNeg x2)) x2 u)))))
set_option maxHeartbeats 4000000 in
set_option maxRecDepth 100000 in
theorem tb_X12_yard_6 (X : Cx p s m args meth c cX12_yard 4 none RX12 D (tyM b) A) (hA : ∀ q, s.heap.size ≤ q → A q) {Post : Int32 → St → Prop} {K6 : Int32 → Int32 → St → Prop} (k6 : ∀ (x1 : Int32) (x2 : Int32) (u : St) (H : Heap) (locs : List Loc) (ls : Array Slot), K6 x1 x2 u → wO D 21 (gM b h) h u A s.heap H locs → lv_has ls 4 [(0, .ref (h 0)), (1, .int x1), (2, .int x2)] → W p l e rm_X12_yard s m args below meth c H locs 0 0 (MQ below (va_Qv (Post 0) (cB D (tyM b) 21 (gM b h) h A) A) args s 0 0 A) (F0 m 6 ls [])) : ∀ (x1 : Int32) (x2 : Int32) (u : St) (H : Heap) (locs : List Loc) (ls : Array Slot), wb_X12_yard_6 Post K6 x1 x2 u → wO D 21 (gM b h) h u A s.heap H locs → lv_has ls 4 [(0, .ref (h 0)), (1, .int x1), (2, .int x2)] → W p l e rm_X12_yard s m args below meth c H locs 0 0 (MQ below (va_Qv (Post 0) (cB D (tyM b) 21 (gM b h) h A) A) args s 0 0 A) (F0 m 6 ls []) := by
  obtain ⟨⟨hx, hb, hml, hown, hts⟩, hK, hNs, hlocks, hr⟩ := id X
  intro x1 x2 u H locs ls hw O hl
  unfold wb_X12_yard_6 at hw
  refine lv_iload_n hx hb dX12_yard_6 rfl (lv_at hl 2 rfl) ?_
  refine lv_aload_n hx hb dX12_yard_7 rfl (lv_at hl 0 rfl) ?_
  refine gt_X12_75 X O dX12_yard_8 ?_
  refine lv_icmp_ge (tgt := 139) hx hb dX12_yard_11 (by decide) (fun c11 => ?_) (fun c11 => ?_)
  · have hw := hw.1 c11
    exact q_vret X O hw dX12_yard_139
  · have hw := hw.2 c11
    refine lv_aload_n hx hb dX12_yard_14 rfl (lv_at hl 0 rfl) ?_
    refine gt_X12_59 X O dX12_yard_15 ?_
    refine lv_iload_n hx hb dX12_yard_18 rfl (lv_at hl 2 rfl) ?_
    refine lv_iload_n hx hb dX12_yard_19 rfl (lv_at hl 1 rfl) ?_
    refine lv_if_eq (tgt := 32) hx hb dX12_yard_20 (by decide) (fun c20 => ?_) (fun c20 => ?_)
    · have hw := hw.1 c20
      refine lv_aload_n hx hb dX12_yard_32 rfl (lv_at hl 0 rfl) ?_
      refine gt_X12_7 X O dX12_yard_33 ?_
      refine lv_iload_n hx hb dX12_yard_36 rfl (lv_at hl 2 rfl) ?_
      obtain ⟨i37, hw⟩ := hw
      refine q_ild X O 1 0 (by decide) rfl rfl i37 dX12_yard_37 ?_
      exact tb_X12_yard_38 X hA k6 _ _ _ _ _ _ _ _ hw O (lv_sub hl [0, 1, 2] rfl)
    · have hw := hw.2 c20
      refine lv_aload_n hx hb dX12_yard_23 rfl (lv_at hl 0 rfl) ?_
      refine gt_X12_13 X O dX12_yard_24 ?_
      refine lv_iload_n hx hb dX12_yard_27 rfl (lv_at hl 2 rfl) ?_
      obtain ⟨i28, hw⟩ := hw
      refine q_ild X O 2 0 (by decide) rfl rfl i28 dX12_yard_28 ?_
      refine lv_goto (tgt := 38) hx hb dX12_yard_29 (by decide) ?_
      exact tb_X12_yard_38 X hA k6 _ _ _ _ _ _ _ _ hw O (lv_sub hl [0, 1, 2] rfl)
def wl_X12_yard_6 (Post : Int32 → St → Prop) : Nat → Int32 → Int32 → St → Prop
  | 0 => fun _ _ _ => False
  | n + 1 => fun x1 x2 u => wb_X12_yard_6 Post (wl_X12_yard_6 Post n) x1 x2 u
set_option maxHeartbeats 4000000 in
set_option maxRecDepth 100000 in
theorem tl_X12_yard_6 (X : Cx p s m args meth c cX12_yard 4 none RX12 D (tyM b) A) (hA : ∀ q, s.heap.size ≤ q → A q) {Post : Int32 → St → Prop} : ∀ n : Nat, ∀ (x1 : Int32) (x2 : Int32) (u : St) (H : Heap) (locs : List Loc) (ls : Array Slot), (wl_X12_yard_6 Post n) x1 x2 u → wO D 21 (gM b h) h u A s.heap H locs → lv_has ls 4 [(0, .ref (h 0)), (1, .int x1), (2, .int x2)] → W p l e rm_X12_yard s m args below meth c H locs 0 0 (MQ below (va_Qv (Post 0) (cB D (tyM b) 21 (gM b h) h A) A) args s 0 0 A) (F0 m 6 ls []) := by
  intro n
  induction n with
  | zero => intro x1 x2 u H locs ls hw; exact False.elim hw
  | succ n ih => intro x1 x2 u H locs ls hw O hl; exact tb_X12_yard_6 X hA ih x1 x2 u H locs ls hw O hl
def wp_X12_yard (a1 : Int32) (u : St) (Post : Int32 → St → Prop) : Prop := wp_X12_close u (fun _ u1 => ∃ n : Nat, wl_X12_yard_6 Post n a1 (0 : Int32) u1)
set_option maxHeartbeats 4000000 in
set_option maxRecDepth 100000 in
theorem c_X12_yard {a1 : Int32} {l : Launch} {D : va_G} {b : Nat → ClassId} {h : Nat → Nat} {u : St} {Post : Int32 → St → Prop} (hw : wp_X12_yard a1 u Post) : CtV l yX12_yard cX12_yard 4 none rm_X12_yard D (tyM b) 21 (gM b h) h [.ref (h 0), .int a1] u Post := by
  refine CtV.of (plainFor_of_name (by decide)) (Nat.le_of_ble_eq_true rfl) ?_
  intro p e s m below meth c A ls X hA O hl
  have X : Cx p s m _ meth c cX12_yard 4 none RX12 D (tyM b) A := X
  obtain ⟨⟨hx, hb, hml, hown, hts⟩, hK, hNs, hlocks, hr⟩ := id X
  have hl : lv_has ls 4 [(0, .ref (h 0)), (1, .int a1)] := hl
  unfold wp_X12_yard at hw
  refine lv_aload_n hx hb dX12_yard_0 rfl (lv_at hl 0 rfl) ?_
  refine q_cvv (rest := []) X O hA 0 (c_X12_close hw) lk_X12_110 (by decide) rfl rfl rfl rfl rfl rfl ⟨Nat.le_of_ble_eq_true rfl, Nat.le_of_ble_eq_true rfl⟩ (Nat.le_of_ble_eq_true rfl) hl.1 ⟨Nat.zero_le _, Nat.zero_le _⟩ rfl dX12_yard_1 (fun u1 H locs hw O => ?_)
  refine lv_iconst (v := 0) hx hb dX12_yard_4 (by decide) ?_
  refine lv_istore_n (lv' := [(2, .int (0 : Int32)), (0, .ref (h 0)), (1, .int a1)]) hx hb dX12_yard_5 rfl hl (by decide) rfl (fun ls hl => ?_)
  obtain ⟨n, hw⟩ := hw
  exact tl_X12_yard_6 X hA n _ _ _ _ _ _ hw O (lv_sub hl [1, 2, 0] rfl)
-- FellersOrderModel.look()V
abbrev rm_X12_look : Room := { frames := 3, cells := 0, slots := 0, locals := 66 }
def wp_X12_look (u : St) (Post : Int32 → St → Prop) : Prop := wp_X12_yard (0 : Int32) u (fun _ u2 => wp_X12_layAll u2 (fun _ u6 => Post 0 u6))
set_option maxHeartbeats 4000000 in
set_option maxRecDepth 100000 in
theorem c_X12_look {l : Launch} {D : va_G} {b : Nat → ClassId} {h : Nat → Nat} {u : St} {Post : Int32 → St → Prop} (hw : wp_X12_look u Post) : CtV l yX12_look cX12_look 1 none rm_X12_look D (tyM b) 21 (gM b h) h [.ref (h 0)] u Post := by
  refine CtV.of (plainFor_of_name (by decide)) (Nat.le_of_ble_eq_true rfl) ?_
  intro p e s m below meth c A ls X hA O hl
  have X : Cx p s m _ meth c cX12_look 1 none RX12 D (tyM b) A := X
  obtain ⟨⟨hx, hb, hml, hown, hts⟩, hK, hNs, hlocks, hr⟩ := id X
  have hl : lv_has ls 1 [(0, .ref (h 0))] := hl
  unfold wp_X12_look at hw
  refine lv_aload_n hx hb dX12_look_0 rfl (lv_at hl 0 rfl) ?_
  refine lv_iconst (v := 0) hx hb dX12_look_1 (by decide) ?_
  refine q_cvv (rest := []) X O hA 0 (c_X12_yard hw) lk_X12_142 (by decide) rfl rfl rfl rfl rfl rfl ⟨Nat.le_of_ble_eq_true rfl, Nat.le_of_ble_eq_true rfl⟩ (Nat.le_of_ble_eq_true rfl) hl.1 ⟨Nat.zero_le _, Nat.zero_le _⟩ rfl dX12_look_2 (fun u2 H locs hw O => ?_)
  refine lv_aload_n hx hb dX12_look_5 rfl (lv_at hl 0 rfl) ?_
  refine q_cvv (rest := []) X O hA 0 (c_X12_layAll hw) lk_X12_146 (by decide) rfl rfl rfl rfl rfl rfl ⟨Nat.le_of_ble_eq_true rfl, Nat.le_of_ble_eq_true rfl⟩ (Nat.le_of_ble_eq_true rfl) hl.1 ⟨Nat.zero_le _, Nat.zero_le _⟩ rfl dX12_look_6 (fun u6 H locs hw O => ?_)
  exact q_vret X O hw dX12_look_9
-- FellersOrderModel.least()I
abbrev rm_X12_least : Room := { frames := 4, cells := 0, slots := 0, locals := 86 }
def wp_X12_least (u : St) (Post : Int32 → St → Prop) : Prop := wp_X12_look u (fun _ u1 => wp_X12_all u1 (fun r9 u9 => vp_in r9 4096 ∧ (Post (u9 14 (Int32.toNatClampNeg r9)) u9)))
set_option maxHeartbeats 4000000 in
set_option maxRecDepth 100000 in
theorem c_X12_least {l : Launch} {D : va_G} {b : Nat → ClassId} {h : Nat → Nat} {u : St} {Post : Int32 → St → Prop} (hw : wp_X12_least u Post) : CtI l yX12_least cX12_least 1 (some .int) rm_X12_least D (tyM b) 21 (gM b h) h [.ref (h 0)] u Post := by
  refine CtI.of (plainFor_of_name (by decide)) (Nat.le_of_ble_eq_true rfl) ?_
  intro p e s m below meth c A ls X hA O hl
  have X : Cx p s m _ meth c cX12_least 1 (some .int) RX12 D (tyM b) A := X
  obtain ⟨⟨hx, hb, hml, hown, hts⟩, hK, hNs, hlocks, hr⟩ := id X
  have hl : lv_has ls 1 [(0, .ref (h 0))] := hl
  unfold wp_X12_least at hw
  refine lv_aload_n hx hb dX12_least_0 rfl (lv_at hl 0 rfl) ?_
  refine q_cvv (rest := []) X O hA 0 (c_X12_look hw) lk_X12_149 (by decide) rfl rfl rfl rfl rfl rfl ⟨Nat.le_of_ble_eq_true rfl, Nat.le_of_ble_eq_true rfl⟩ (Nat.le_of_ble_eq_true rfl) hl.1 ⟨Nat.zero_le _, Nat.zero_le _⟩ rfl dX12_least_1 (fun u1 H locs hw O => ?_)
  refine lv_aload_n hx hb dX12_least_4 rfl (lv_at hl 0 rfl) ?_
  refine gt_X12_50 X O dX12_least_5 ?_
  refine lv_aload_n hx hb dX12_least_8 rfl (lv_at hl 0 rfl) ?_
  refine q_civ (rest := [.ref (h 14)]) X O hA 0 (c_X12_all hw) lk_X12_134 (by decide) rfl rfl rfl rfl rfl rfl ⟨Nat.le_of_ble_eq_true rfl, Nat.le_of_ble_eq_true rfl⟩ (Nat.le_of_ble_eq_true rfl) hl.1 ⟨Nat.zero_le _, Nat.zero_le _⟩ rfl dX12_least_9 (fun r9 u9 H locs hw O => ?_)
  obtain ⟨i12, hw⟩ := hw
  refine q_ild X O 14 0 (by decide) rfl rfl i12 dX12_least_12 ?_
  exact q_iret X O hw dX12_least_13
-- FellersOrderModel.best(I)I
abbrev rm_X12_best : Room := { frames := 4, cells := 0, slots := 0, locals := 86 }
def wb_X12_best_156 (Post : Int32 → St → Prop) (x1 : Int32) (x3 : Int32) (u : St) : Prop := wp_X12_in x1 (0 : Int32) ((u 0 0) - (1 : Int32)) u (fun r164 u164 => ((r164 = 0) → (Post (-1 : Int32) u164)) ∧ ((¬ r164 = 0) → (Post x3 u164)))
set_option maxHeartbeats 4000000 in
set_option maxRecDepth 100000 in
theorem tb_X12_best_156 (X : Cx p s m args meth c cX12_best 8 (some .int) RX12 D (tyM b) A) (hA : ∀ q, s.heap.size ≤ q → A q) {Post : Int32 → St → Prop} : ∀ (x1 : Int32) (x3 : Int32) (u : St) (H : Heap) (locs : List Loc) (ls : Array Slot), wb_X12_best_156 Post x1 x3 u → wO D 21 (gM b h) h u A s.heap H locs → lv_has ls 8 [(0, .ref (h 0)), (1, .int x1), (3, .int x3)] → W p l e rm_X12_best s m args below meth c H locs 0 0 (MQ below (va_Qi Post (cB D (tyM b) 21 (gM b h) h A) A) args s 0 0 A) (F0 m 156 ls []) := by
  obtain ⟨⟨hx, hb, hml, hown, hts⟩, hK, hNs, hlocks, hr⟩ := id X
  intro x1 x3 u H locs ls hw O hl
  unfold wb_X12_best_156 at hw
  refine lv_iload_n hx hb dX12_best_156 rfl (lv_at hl 1 rfl) ?_
  refine lv_iconst (v := 0) hx hb dX12_best_157 (by decide) ?_
  refine lv_aload_n hx hb dX12_best_158 rfl (lv_at hl 0 rfl) ?_
  refine gt_X12_75 X O dX12_best_159 ?_
  refine lv_iconst (v := 1) hx hb dX12_best_162 (by decide) ?_
  refine lv_isub hx hb dX12_best_163 ?_
  refine q_cis (rest := []) X O hA (c_X12_in hw) lk_X12_78 rfl rfl rfl ⟨Nat.le_of_ble_eq_true rfl, Nat.le_of_ble_eq_true rfl⟩ (Nat.le_of_ble_eq_true rfl) hl.1 ⟨Nat.zero_le _, Nat.zero_le _⟩ rfl dX12_best_164 (fun r164 u164 H locs hw O => ?_)
  refine lv_if_eq (tgt := 174) hx hb dX12_best_167 (by decide) (fun c167 => ?_) (fun c167 => ?_)
  · have hw := hw.1 c167
    refine lv_iconst (v := -1) hx hb dX12_best_174 (by decide) ?_
    exact q_iret X O hw dX12_best_175
  · have hw := hw.2 c167
    refine lv_iload_n hx hb dX12_best_170 rfl (lv_at hl 2 rfl) ?_
    refine lv_goto (tgt := 175) hx hb dX12_best_171 (by decide) ?_
    exact q_iret X O hw dX12_best_175
def wb_X12_best_124 (Post : Int32 → St → Prop) (K11 : Int32 → Int32 → Int32 → Int32 → St → Prop) (K36 : Int32 → Int32 → Int32 → Int32 → Int32 → St → Prop) (x1 : Int32) (x2 : Int32) (x3 : Int32) (x4 : Int32) (x5 : Int32) (t0 : Int32) (u : St) : Prop := ((t0 = 0) → (K36 x1 x2 x3 x4 (x5 + (-1)) u)) ∧ ((¬ t0 = 0) → (K36 x1 x2 x5 x4 (x5 + (-1)) u))
set_option maxHeartbeats 4000000 in
set_option maxRecDepth 100000 in
theorem tb_X12_best_124 (X : Cx p s m args meth c cX12_best 8 (some .int) RX12 D (tyM b) A) (hA : ∀ q, s.heap.size ≤ q → A q) {Post : Int32 → St → Prop} {K11 : Int32 → Int32 → Int32 → Int32 → St → Prop} (k11 : ∀ (x1 : Int32) (x2 : Int32) (x3 : Int32) (x4 : Int32) (u : St) (H : Heap) (locs : List Loc) (ls : Array Slot), K11 x1 x2 x3 x4 u → wO D 21 (gM b h) h u A s.heap H locs → lv_has ls 8 [(0, .ref (h 0)), (1, .int x1), (2, .int x2), (3, .int x3), (4, .int x4)] → W p l e rm_X12_best s m args below meth c H locs 0 0 (MQ below (va_Qi Post (cB D (tyM b) 21 (gM b h) h A) A) args s 0 0 A) (F0 m 11 ls [])) {K36 : Int32 → Int32 → Int32 → Int32 → Int32 → St → Prop} (k36 : ∀ (x1 : Int32) (x2 : Int32) (x3 : Int32) (x4 : Int32) (x5 : Int32) (u : St) (H : Heap) (locs : List Loc) (ls : Array Slot), K36 x1 x2 x3 x4 x5 u → wO D 21 (gM b h) h u A s.heap H locs → lv_has ls 8 [(0, .ref (h 0)), (1, .int x1), (2, .int x2), (3, .int x3), (4, .int x4), (5, .int x5)] → W p l e rm_X12_best s m args below meth c H locs 0 0 (MQ below (va_Qi Post (cB D (tyM b) 21 (gM b h) h A) A) args s 0 0 A) (F0 m 36 ls [])) : ∀ (x1 : Int32) (x2 : Int32) (x3 : Int32) (x4 : Int32) (x5 : Int32) (t0 : Int32) (u : St) (H : Heap) (locs : List Loc) (ls : Array Slot), wb_X12_best_124 Post K11 K36 x1 x2 x3 x4 x5 t0 u → wO D 21 (gM b h) h u A s.heap H locs → lv_has ls 8 [(0, .ref (h 0)), (1, .int x1), (2, .int x2), (3, .int x3), (4, .int x4), (5, .int x5)] → W p l e rm_X12_best s m args below meth c H locs 0 0 (MQ below (va_Qi Post (cB D (tyM b) 21 (gM b h) h A) A) args s 0 0 A) (F0 m 124 ls [.int t0]) := by
  obtain ⟨⟨hx, hb, hml, hown, hts⟩, hK, hNs, hlocks, hr⟩ := id X
  intro x1 x2 x3 x4 x5 t0 u H locs ls hw O hl
  unfold wb_X12_best_124 at hw
  refine lv_istore (lv' := [(7, .int t0), (0, .ref (h 0)), (1, .int x1), (2, .int x2), (3, .int x3), (4, .int x4), (5, .int x5)]) hx hb dX12_best_124 hl (by decide) rfl (fun ls hl => ?_)
  refine lv_iload hx hb dX12_best_126 (lv_at hl 0 rfl) ?_
  refine lv_if_eq (tgt := 136) hx hb dX12_best_128 (by decide) (fun c128 => ?_) (fun c128 => ?_)
  · have hw := hw.1 c128
    refine lv_iload_n hx hb dX12_best_136 rfl (lv_at hl 4 rfl) ?_
    refine lv_istore_n (lv' := [(3, .int x3), (7, .int t0), (0, .ref (h 0)), (1, .int x1), (2, .int x2), (4, .int x4), (5, .int x5)]) hx hb dX12_best_137 rfl hl (by decide) rfl (fun ls hl => ?_)
    refine lv_iinc (v := x5 + (-1)) (lv' := [(5, .int (x5 + (-1))), (3, .int x3), (7, .int t0), (0, .ref (h 0)), (1, .int x1), (2, .int x2), (4, .int x4)]) hx hb dX12_best_138 hl (k := 6) rfl rfl (by decide) rfl (fun ls hl => ?_)
    refine lv_goto (tgt := 36) hx hb dX12_best_141 (by decide) ?_
    exact k36 _ _ _ _ _ _ _ _ _ hw O (lv_sub hl [3, 4, 5, 1, 6, 0] rfl)
  · have hw := hw.2 c128
    refine lv_iload hx hb dX12_best_131 (lv_at hl 6 rfl) ?_
    refine lv_goto (tgt := 137) hx hb dX12_best_133 (by decide) ?_
    refine lv_istore_n (lv' := [(3, .int x5), (7, .int t0), (0, .ref (h 0)), (1, .int x1), (2, .int x2), (4, .int x4), (5, .int x5)]) hx hb dX12_best_137 rfl hl (by decide) rfl (fun ls hl => ?_)
    refine lv_iinc (v := x5 + (-1)) (lv' := [(5, .int (x5 + (-1))), (3, .int x5), (7, .int t0), (0, .ref (h 0)), (1, .int x1), (2, .int x2), (4, .int x4)]) hx hb dX12_best_138 hl (k := 6) rfl rfl (by decide) rfl (fun ls hl => ?_)
    refine lv_goto (tgt := 36) hx hb dX12_best_141 (by decide) ?_
    exact k36 _ _ _ _ _ _ _ _ _ hw O (lv_sub hl [3, 4, 5, 1, 6, 0] rfl)
def wb_X12_best_123 (Post : Int32 → St → Prop) (K11 : Int32 → Int32 → Int32 → Int32 → St → Prop) (K36 : Int32 → Int32 → Int32 → Int32 → Int32 → St → Prop) (x1 : Int32) (x2 : Int32) (x3 : Int32) (x4 : Int32) (x5 : Int32) (u : St) : Prop := wb_X12_best_124 Post K11 K36 x1 x2 x3 x4 x5 (0 : Int32) u
set_option maxHeartbeats 4000000 in
set_option maxRecDepth 100000 in
theorem tb_X12_best_123 (X : Cx p s m args meth c cX12_best 8 (some .int) RX12 D (tyM b) A) (hA : ∀ q, s.heap.size ≤ q → A q) {Post : Int32 → St → Prop} {K11 : Int32 → Int32 → Int32 → Int32 → St → Prop} (k11 : ∀ (x1 : Int32) (x2 : Int32) (x3 : Int32) (x4 : Int32) (u : St) (H : Heap) (locs : List Loc) (ls : Array Slot), K11 x1 x2 x3 x4 u → wO D 21 (gM b h) h u A s.heap H locs → lv_has ls 8 [(0, .ref (h 0)), (1, .int x1), (2, .int x2), (3, .int x3), (4, .int x4)] → W p l e rm_X12_best s m args below meth c H locs 0 0 (MQ below (va_Qi Post (cB D (tyM b) 21 (gM b h) h A) A) args s 0 0 A) (F0 m 11 ls [])) {K36 : Int32 → Int32 → Int32 → Int32 → Int32 → St → Prop} (k36 : ∀ (x1 : Int32) (x2 : Int32) (x3 : Int32) (x4 : Int32) (x5 : Int32) (u : St) (H : Heap) (locs : List Loc) (ls : Array Slot), K36 x1 x2 x3 x4 x5 u → wO D 21 (gM b h) h u A s.heap H locs → lv_has ls 8 [(0, .ref (h 0)), (1, .int x1), (2, .int x2), (3, .int x3), (4, .int x4), (5, .int x5)] → W p l e rm_X12_best s m args below meth c H locs 0 0 (MQ below (va_Qi Post (cB D (tyM b) 21 (gM b h) h A) A) args s 0 0 A) (F0 m 36 ls [])) : ∀ (x1 : Int32) (x2 : Int32) (x3 : Int32) (x4 : Int32) (x5 : Int32) (u : St) (H : Heap) (locs : List Loc) (ls : Array Slot), wb_X12_best_123 Post K11 K36 x1 x2 x3 x4 x5 u → wO D 21 (gM b h) h u A s.heap H locs → lv_has ls 8 [(0, .ref (h 0)), (1, .int x1), (2, .int x2), (3, .int x3), (4, .int x4), (5, .int x5)] → W p l e rm_X12_best s m args below meth c H locs 0 0 (MQ below (va_Qi Post (cB D (tyM b) 21 (gM b h) h A) A) args s 0 0 A) (F0 m 123 ls []) := by
  obtain ⟨⟨hx, hb, hml, hown, hts⟩, hK, hNs, hlocks, hr⟩ := id X
  intro x1 x2 x3 x4 x5 u H locs ls hw O hl
  unfold wb_X12_best_123 at hw
  refine lv_iconst (v := 0) hx hb dX12_best_123 (by decide) ?_
  exact tb_X12_best_124 X hA k11 k36 _ _ _ _ _ _ _ _ _ _ hw O (lv_sub hl [0, 1, 2, 3, 4, 5] rfl)
def wb_X12_best_69 (Post : Int32 → St → Prop) (K11 : Int32 → Int32 → Int32 → Int32 → St → Prop) (K36 : Int32 → Int32 → Int32 → Int32 → Int32 → St → Prop) (x1 : Int32) (x2 : Int32) (x3 : Int32) (x4 : Int32) (x5 : Int32) (t0 : Int32) (u : St) : Prop := ((t0 = 0) → (wb_X12_best_123 Post K11 K36 x1 x2 x3 x4 x5 u)) ∧ ((¬ t0 = 0) → (vp_in x5 12 ∧ (vp_in x2 4096 ∧ (vp_in x5 12 ∧ (vp_in (x2 ||| ((1 : Int32) <<< (x5 &&& 31))) 4096 ∧ (vp_in x2 4096 ∧ (((¬ (((u 18 (Int32.toNatClampNeg x5)) * ((u 13 (Int32.toNatClampNeg x2)) + (u 17 (Int32.toNatClampNeg x5)))) + (u 16 (Int32.toNatClampNeg (x2 ||| ((1 : Int32) <<< (x5 &&& 31)))))) = (u 16 (Int32.toNatClampNeg x2))) → (wb_X12_best_123 Post K11 K36 x1 x2 x3 x4 x5 u)) ∧ (((((u 18 (Int32.toNatClampNeg x5)) * ((u 13 (Int32.toNatClampNeg x2)) + (u 17 (Int32.toNatClampNeg x5)))) + (u 16 (Int32.toNatClampNeg (x2 ||| ((1 : Int32) <<< (x5 &&& 31)))))) = (u 16 (Int32.toNatClampNeg x2))) → (wb_X12_best_124 Post K11 K36 x1 x2 x3 x4 x5 (1 : Int32) u)))))))))
set_option maxHeartbeats 4000000 in
set_option maxRecDepth 100000 in
theorem tb_X12_best_69 (X : Cx p s m args meth c cX12_best 8 (some .int) RX12 D (tyM b) A) (hA : ∀ q, s.heap.size ≤ q → A q) {Post : Int32 → St → Prop} {K11 : Int32 → Int32 → Int32 → Int32 → St → Prop} (k11 : ∀ (x1 : Int32) (x2 : Int32) (x3 : Int32) (x4 : Int32) (u : St) (H : Heap) (locs : List Loc) (ls : Array Slot), K11 x1 x2 x3 x4 u → wO D 21 (gM b h) h u A s.heap H locs → lv_has ls 8 [(0, .ref (h 0)), (1, .int x1), (2, .int x2), (3, .int x3), (4, .int x4)] → W p l e rm_X12_best s m args below meth c H locs 0 0 (MQ below (va_Qi Post (cB D (tyM b) 21 (gM b h) h A) A) args s 0 0 A) (F0 m 11 ls [])) {K36 : Int32 → Int32 → Int32 → Int32 → Int32 → St → Prop} (k36 : ∀ (x1 : Int32) (x2 : Int32) (x3 : Int32) (x4 : Int32) (x5 : Int32) (u : St) (H : Heap) (locs : List Loc) (ls : Array Slot), K36 x1 x2 x3 x4 x5 u → wO D 21 (gM b h) h u A s.heap H locs → lv_has ls 8 [(0, .ref (h 0)), (1, .int x1), (2, .int x2), (3, .int x3), (4, .int x4), (5, .int x5)] → W p l e rm_X12_best s m args below meth c H locs 0 0 (MQ below (va_Qi Post (cB D (tyM b) 21 (gM b h) h A) A) args s 0 0 A) (F0 m 36 ls [])) : ∀ (x1 : Int32) (x2 : Int32) (x3 : Int32) (x4 : Int32) (x5 : Int32) (t0 : Int32) (u : St) (H : Heap) (locs : List Loc) (ls : Array Slot), wb_X12_best_69 Post K11 K36 x1 x2 x3 x4 x5 t0 u → wO D 21 (gM b h) h u A s.heap H locs → lv_has ls 8 [(0, .ref (h 0)), (1, .int x1), (2, .int x2), (3, .int x3), (4, .int x4), (5, .int x5)] → W p l e rm_X12_best s m args below meth c H locs 0 0 (MQ below (va_Qi Post (cB D (tyM b) 21 (gM b h) h A) A) args s 0 0 A) (F0 m 69 ls [.int t0]) := by
  obtain ⟨⟨hx, hb, hml, hown, hts⟩, hK, hNs, hlocks, hr⟩ := id X
  intro x1 x2 x3 x4 x5 t0 u H locs ls hw O hl
  unfold wb_X12_best_69 at hw
  refine lv_istore (lv' := [(6, .int t0), (0, .ref (h 0)), (1, .int x1), (2, .int x2), (3, .int x3), (4, .int x4), (5, .int x5)]) hx hb dX12_best_69 hl (by decide) rfl (fun ls hl => ?_)
  refine lv_iload hx hb dX12_best_71 (lv_at hl 0 rfl) ?_
  refine lv_if_eq (tgt := 123) hx hb dX12_best_73 (by decide) (fun c73 => ?_) (fun c73 => ?_)
  · have hw := hw.1 c73
    exact tb_X12_best_123 X hA k11 k36 _ _ _ _ _ _ _ _ _ hw O (lv_sub hl [1, 2, 3, 4, 5, 6] rfl)
  · have hw := hw.2 c73
    refine lv_aload_n hx hb dX12_best_76 rfl (lv_at hl 1 rfl) ?_
    refine gt_X12_62 X O dX12_best_77 ?_
    refine lv_iload hx hb dX12_best_80 (lv_at hl 6 rfl) ?_
    obtain ⟨i82, hw⟩ := hw
    refine q_ild X O 18 0 (by decide) rfl rfl i82 dX12_best_82 ?_
    refine lv_aload_n hx hb dX12_best_83 rfl (lv_at hl 1 rfl) ?_
    refine gt_X12_47 X O dX12_best_84 ?_
    refine lv_iload_n hx hb dX12_best_87 rfl (lv_at hl 3 rfl) ?_
    obtain ⟨i88, hw⟩ := hw
    refine q_ild X O 13 0 (by decide) rfl rfl i88 dX12_best_88 ?_
    refine lv_aload_n hx hb dX12_best_89 rfl (lv_at hl 1 rfl) ?_
    refine gt_X12_59 X O dX12_best_90 ?_
    refine lv_iload hx hb dX12_best_93 (lv_at hl 6 rfl) ?_
    obtain ⟨i95, hw⟩ := hw
    refine q_ild X O 17 0 (by decide) rfl rfl i95 dX12_best_95 ?_
    refine lv_iadd hx hb dX12_best_96 ?_
    refine lv_imul hx hb dX12_best_97 ?_
    refine lv_aload_n hx hb dX12_best_98 rfl (lv_at hl 1 rfl) ?_
    refine gt_X12_56 X O dX12_best_99 ?_
    refine lv_iload_n hx hb dX12_best_102 rfl (lv_at hl 3 rfl) ?_
    refine lv_iconst (v := 1) hx hb dX12_best_103 (by decide) ?_
    refine lv_iload hx hb dX12_best_104 (lv_at hl 6 rfl) ?_
    refine lv_ishl hx hb dX12_best_106 ?_
    refine lv_ior hx hb dX12_best_107 ?_
    obtain ⟨i108, hw⟩ := hw
    refine q_ild X O 16 0 (by decide) rfl rfl i108 dX12_best_108 ?_
    refine lv_iadd hx hb dX12_best_109 ?_
    refine lv_aload_n hx hb dX12_best_110 rfl (lv_at hl 1 rfl) ?_
    refine gt_X12_56 X O dX12_best_111 ?_
    refine lv_iload_n hx hb dX12_best_114 rfl (lv_at hl 3 rfl) ?_
    obtain ⟨i115, hw⟩ := hw
    refine q_ild X O 16 0 (by decide) rfl rfl i115 dX12_best_115 ?_
    refine lv_icmp_ne (tgt := 123) hx hb dX12_best_116 (by decide) (fun c116 => ?_) (fun c116 => ?_)
    · have hw := hw.1 c116
      exact tb_X12_best_123 X hA k11 k36 _ _ _ _ _ _ _ _ _ hw O (lv_sub hl [1, 2, 3, 4, 5, 6] rfl)
    · have hw := hw.2 c116
      refine lv_iconst (v := 1) hx hb dX12_best_119 (by decide) ?_
      refine lv_goto (tgt := 124) hx hb dX12_best_120 (by decide) ?_
      exact tb_X12_best_124 X hA k11 k36 _ _ _ _ _ _ _ _ _ _ hw O (lv_sub hl [1, 2, 3, 4, 5, 6] rfl)
def wb_X12_best_68 (Post : Int32 → St → Prop) (K11 : Int32 → Int32 → Int32 → Int32 → St → Prop) (K36 : Int32 → Int32 → Int32 → Int32 → Int32 → St → Prop) (x1 : Int32) (x2 : Int32) (x3 : Int32) (x4 : Int32) (x5 : Int32) (u : St) : Prop := wb_X12_best_69 Post K11 K36 x1 x2 x3 x4 x5 (0 : Int32) u
set_option maxHeartbeats 4000000 in
set_option maxRecDepth 100000 in
theorem tb_X12_best_68 (X : Cx p s m args meth c cX12_best 8 (some .int) RX12 D (tyM b) A) (hA : ∀ q, s.heap.size ≤ q → A q) {Post : Int32 → St → Prop} {K11 : Int32 → Int32 → Int32 → Int32 → St → Prop} (k11 : ∀ (x1 : Int32) (x2 : Int32) (x3 : Int32) (x4 : Int32) (u : St) (H : Heap) (locs : List Loc) (ls : Array Slot), K11 x1 x2 x3 x4 u → wO D 21 (gM b h) h u A s.heap H locs → lv_has ls 8 [(0, .ref (h 0)), (1, .int x1), (2, .int x2), (3, .int x3), (4, .int x4)] → W p l e rm_X12_best s m args below meth c H locs 0 0 (MQ below (va_Qi Post (cB D (tyM b) 21 (gM b h) h A) A) args s 0 0 A) (F0 m 11 ls [])) {K36 : Int32 → Int32 → Int32 → Int32 → Int32 → St → Prop} (k36 : ∀ (x1 : Int32) (x2 : Int32) (x3 : Int32) (x4 : Int32) (x5 : Int32) (u : St) (H : Heap) (locs : List Loc) (ls : Array Slot), K36 x1 x2 x3 x4 x5 u → wO D 21 (gM b h) h u A s.heap H locs → lv_has ls 8 [(0, .ref (h 0)), (1, .int x1), (2, .int x2), (3, .int x3), (4, .int x4), (5, .int x5)] → W p l e rm_X12_best s m args below meth c H locs 0 0 (MQ below (va_Qi Post (cB D (tyM b) 21 (gM b h) h A) A) args s 0 0 A) (F0 m 36 ls [])) : ∀ (x1 : Int32) (x2 : Int32) (x3 : Int32) (x4 : Int32) (x5 : Int32) (u : St) (H : Heap) (locs : List Loc) (ls : Array Slot), wb_X12_best_68 Post K11 K36 x1 x2 x3 x4 x5 u → wO D 21 (gM b h) h u A s.heap H locs → lv_has ls 8 [(0, .ref (h 0)), (1, .int x1), (2, .int x2), (3, .int x3), (4, .int x4), (5, .int x5)] → W p l e rm_X12_best s m args below meth c H locs 0 0 (MQ below (va_Qi Post (cB D (tyM b) 21 (gM b h) h A) A) args s 0 0 A) (F0 m 68 ls []) := by
  obtain ⟨⟨hx, hb, hml, hown, hts⟩, hK, hNs, hlocks, hr⟩ := id X
  intro x1 x2 x3 x4 x5 u H locs ls hw O hl
  unfold wb_X12_best_68 at hw
  refine lv_iconst (v := 0) hx hb dX12_best_68 (by decide) ?_
  exact tb_X12_best_69 X hA k11 k36 _ _ _ _ _ _ _ _ _ _ hw O (lv_sub hl [0, 1, 2, 3, 4, 5] rfl)
def wb_X12_best_36 (Post : Int32 → St → Prop) (K11 : Int32 → Int32 → Int32 → Int32 → St → Prop) (K36 : Int32 → Int32 → Int32 → Int32 → Int32 → St → Prop) (x1 : Int32) (x2 : Int32) (x3 : Int32) (x4 : Int32) (x5 : Int32) (u : St) : Prop := ((x5 < 0) → (K11 x1 (x2 ||| ((1 : Int32) <<< (x3 &&& 31))) x3 (x4 + 1) u)) ∧ ((¬ x5 < 0) → (wp_X12_has x2 x5 u (fun r44 u44 => ((¬ r44 = 0) → (wb_X12_best_68 Post K11 K36 x1 x2 x3 x4 x5 u44)) ∧ ((r44 = 0) → (vp_in x5 12 ∧ (((¬ ((u44 19 (Int32.toNatClampNeg x5)) &&& (x2 ^^^ (-1 : Int32))) = 0) → (wb_X12_best_68 Post K11 K36 x1 x2 x3 x4 x5 u44)) ∧ ((((u44 19 (Int32.toNatClampNeg x5)) &&& (x2 ^^^ (-1 : Int32))) = 0) → (wb_X12_best_69 Post K11 K36 x1 x2 x3 x4 x5 (1 : Int32) u44))))))))
set_option maxHeartbeats 4000000 in
set_option maxRecDepth 100000 in
theorem tb_X12_best_36 (X : Cx p s m args meth c cX12_best 8 (some .int) RX12 D (tyM b) A) (hA : ∀ q, s.heap.size ≤ q → A q) {Post : Int32 → St → Prop} {K11 : Int32 → Int32 → Int32 → Int32 → St → Prop} (k11 : ∀ (x1 : Int32) (x2 : Int32) (x3 : Int32) (x4 : Int32) (u : St) (H : Heap) (locs : List Loc) (ls : Array Slot), K11 x1 x2 x3 x4 u → wO D 21 (gM b h) h u A s.heap H locs → lv_has ls 8 [(0, .ref (h 0)), (1, .int x1), (2, .int x2), (3, .int x3), (4, .int x4)] → W p l e rm_X12_best s m args below meth c H locs 0 0 (MQ below (va_Qi Post (cB D (tyM b) 21 (gM b h) h A) A) args s 0 0 A) (F0 m 11 ls [])) {K36 : Int32 → Int32 → Int32 → Int32 → Int32 → St → Prop} (k36 : ∀ (x1 : Int32) (x2 : Int32) (x3 : Int32) (x4 : Int32) (x5 : Int32) (u : St) (H : Heap) (locs : List Loc) (ls : Array Slot), K36 x1 x2 x3 x4 x5 u → wO D 21 (gM b h) h u A s.heap H locs → lv_has ls 8 [(0, .ref (h 0)), (1, .int x1), (2, .int x2), (3, .int x3), (4, .int x4), (5, .int x5)] → W p l e rm_X12_best s m args below meth c H locs 0 0 (MQ below (va_Qi Post (cB D (tyM b) 21 (gM b h) h A) A) args s 0 0 A) (F0 m 36 ls [])) : ∀ (x1 : Int32) (x2 : Int32) (x3 : Int32) (x4 : Int32) (x5 : Int32) (u : St) (H : Heap) (locs : List Loc) (ls : Array Slot), wb_X12_best_36 Post K11 K36 x1 x2 x3 x4 x5 u → wO D 21 (gM b h) h u A s.heap H locs → lv_has ls 8 [(0, .ref (h 0)), (1, .int x1), (2, .int x2), (3, .int x3), (4, .int x4), (5, .int x5)] → W p l e rm_X12_best s m args below meth c H locs 0 0 (MQ below (va_Qi Post (cB D (tyM b) 21 (gM b h) h A) A) args s 0 0 A) (F0 m 36 ls []) := by
  obtain ⟨⟨hx, hb, hml, hown, hts⟩, hK, hNs, hlocks, hr⟩ := id X
  intro x1 x2 x3 x4 x5 u H locs ls hw O hl
  unfold wb_X12_best_36 at hw
  refine lv_iload hx hb dX12_best_36 (lv_at hl 5 rfl) ?_
  refine lv_if_lt (tgt := 144) hx hb dX12_best_38 (by decide) (fun c38 => ?_) (fun c38 => ?_)
  · have hw := hw.1 c38
    refine lv_iload_n hx hb dX12_best_144 rfl (lv_at hl 2 rfl) ?_
    refine lv_iconst (v := 1) hx hb dX12_best_145 (by decide) ?_
    refine lv_iload_n hx hb dX12_best_146 rfl (lv_at hl 3 rfl) ?_
    refine lv_ishl hx hb dX12_best_147 ?_
    refine lv_ior hx hb dX12_best_148 ?_
    refine lv_istore_n (lv' := [(2, .int (x2 ||| ((1 : Int32) <<< (x3 &&& 31)))), (0, .ref (h 0)), (1, .int x1), (3, .int x3), (4, .int x4), (5, .int x5)]) hx hb dX12_best_149 rfl hl (by decide) rfl (fun ls hl => ?_)
    refine lv_iinc (v := x4 + 1) (lv' := [(4, .int (x4 + 1)), (2, .int (x2 ||| ((1 : Int32) <<< (x3 &&& 31)))), (0, .ref (h 0)), (1, .int x1), (3, .int x3), (5, .int x5)]) hx hb dX12_best_150 hl (k := 4) rfl rfl (by decide) rfl (fun ls hl => ?_)
    refine lv_goto (tgt := 11) hx hb dX12_best_153 (by decide) ?_
    exact k11 _ _ _ _ _ _ _ _ hw O (lv_sub hl [2, 3, 1, 4, 0] rfl)
  · have hw := hw.2 c38
    refine lv_iload_n hx hb dX12_best_41 rfl (lv_at hl 2 rfl) ?_
    refine lv_iload hx hb dX12_best_42 (lv_at hl 5 rfl) ?_
    refine q_cis (rest := []) X O hA (c_X12_has hw) lk_X12_82 rfl rfl rfl ⟨Nat.le_of_ble_eq_true rfl, Nat.le_of_ble_eq_true rfl⟩ (Nat.le_of_ble_eq_true rfl) hl.1 ⟨Nat.zero_le _, Nat.zero_le _⟩ rfl dX12_best_44 (fun r44 u44 H locs hw O => ?_)
    refine lv_if_ne (tgt := 68) hx hb dX12_best_47 (by decide) (fun c47 => ?_) (fun c47 => ?_)
    · have hw := hw.1 c47
      exact tb_X12_best_68 X hA k11 k36 _ _ _ _ _ _ _ _ _ hw O (lv_sub hl [0, 1, 2, 3, 4, 5] rfl)
    · have hw := hw.2 c47
      refine lv_aload_n hx hb dX12_best_50 rfl (lv_at hl 0 rfl) ?_
      refine gt_X12_65 X O dX12_best_51 ?_
      refine lv_iload hx hb dX12_best_54 (lv_at hl 5 rfl) ?_
      obtain ⟨i56, hw⟩ := hw
      refine q_ild X O 19 0 (by decide) rfl rfl i56 dX12_best_56 ?_
      refine lv_iload_n hx hb dX12_best_57 rfl (lv_at hl 2 rfl) ?_
      refine lv_iconst (v := -1) hx hb dX12_best_58 (by decide) ?_
      refine lv_ixor hx hb dX12_best_59 ?_
      refine lv_iand hx hb dX12_best_60 ?_
      refine lv_if_ne (tgt := 68) hx hb dX12_best_61 (by decide) (fun c61 => ?_) (fun c61 => ?_)
      · have hw := hw.1 c61
        exact tb_X12_best_68 X hA k11 k36 _ _ _ _ _ _ _ _ _ hw O (lv_sub hl [0, 1, 2, 3, 4, 5] rfl)
      · have hw := hw.2 c61
        refine lv_iconst (v := 1) hx hb dX12_best_64 (by decide) ?_
        refine lv_goto (tgt := 69) hx hb dX12_best_65 (by decide) ?_
        exact tb_X12_best_69 X hA k11 k36 _ _ _ _ _ _ _ _ _ _ hw O (lv_sub hl [0, 1, 2, 3, 4, 5] rfl)
def wl_X12_best_36 (Post : Int32 → St → Prop) (K11 : Int32 → Int32 → Int32 → Int32 → St → Prop) : Nat → Int32 → Int32 → Int32 → Int32 → Int32 → St → Prop
  | 0 => fun _ _ _ _ _ _ => False
  | n + 1 => fun x1 x2 x3 x4 x5 u => wb_X12_best_36 Post K11 (wl_X12_best_36 Post K11 n) x1 x2 x3 x4 x5 u
set_option maxHeartbeats 4000000 in
set_option maxRecDepth 100000 in
theorem tl_X12_best_36 (X : Cx p s m args meth c cX12_best 8 (some .int) RX12 D (tyM b) A) (hA : ∀ q, s.heap.size ≤ q → A q) {Post : Int32 → St → Prop} {K11 : Int32 → Int32 → Int32 → Int32 → St → Prop} (k11 : ∀ (x1 : Int32) (x2 : Int32) (x3 : Int32) (x4 : Int32) (u : St) (H : Heap) (locs : List Loc) (ls : Array Slot), K11 x1 x2 x3 x4 u → wO D 21 (gM b h) h u A s.heap H locs → lv_has ls 8 [(0, .ref (h 0)), (1, .int x1), (2, .int x2), (3, .int x3), (4, .int x4)] → W p l e rm_X12_best s m args below meth c H locs 0 0 (MQ below (va_Qi Post (cB D (tyM b) 21 (gM b h) h A) A) args s 0 0 A) (F0 m 11 ls [])) : ∀ n : Nat, ∀ (x1 : Int32) (x2 : Int32) (x3 : Int32) (x4 : Int32) (x5 : Int32) (u : St) (H : Heap) (locs : List Loc) (ls : Array Slot), (wl_X12_best_36 Post K11 n) x1 x2 x3 x4 x5 u → wO D 21 (gM b h) h u A s.heap H locs → lv_has ls 8 [(0, .ref (h 0)), (1, .int x1), (2, .int x2), (3, .int x3), (4, .int x4), (5, .int x5)] → W p l e rm_X12_best s m args below meth c H locs 0 0 (MQ below (va_Qi Post (cB D (tyM b) 21 (gM b h) h A) A) args s 0 0 A) (F0 m 36 ls []) := by
  intro n
  induction n with
  | zero => intro x1 x2 x3 x4 x5 u H locs ls hw; exact False.elim hw
  | succ n ih => intro x1 x2 x3 x4 x5 u H locs ls hw O hl; exact tb_X12_best_36 X hA k11 ih x1 x2 x3 x4 x5 u H locs ls hw O hl
def wb_X12_best_11 (Post : Int32 → St → Prop) (K11 : Int32 → Int32 → Int32 → Int32 → St → Prop) (x1 : Int32) (x2 : Int32) (x3 : Int32) (x4 : Int32) (u : St) : Prop := ((x1 < x4) → (wb_X12_best_156 Post x1 x3 u)) ∧ ((¬ x1 < x4) → ((((u 0 0) ≤ x4) → (wb_X12_best_156 Post x1 x3 u)) ∧ ((¬ (u 0 0) ≤ x4) → (∃ n : Nat, wl_X12_best_36 Post K11 n x1 x2 (-1 : Int32) x4 ((u 0 0) - (1 : Int32)) u))))
set_option maxHeartbeats 4000000 in
set_option maxRecDepth 100000 in
theorem tb_X12_best_11 (X : Cx p s m args meth c cX12_best 8 (some .int) RX12 D (tyM b) A) (hA : ∀ q, s.heap.size ≤ q → A q) {Post : Int32 → St → Prop} {K11 : Int32 → Int32 → Int32 → Int32 → St → Prop} (k11 : ∀ (x1 : Int32) (x2 : Int32) (x3 : Int32) (x4 : Int32) (u : St) (H : Heap) (locs : List Loc) (ls : Array Slot), K11 x1 x2 x3 x4 u → wO D 21 (gM b h) h u A s.heap H locs → lv_has ls 8 [(0, .ref (h 0)), (1, .int x1), (2, .int x2), (3, .int x3), (4, .int x4)] → W p l e rm_X12_best s m args below meth c H locs 0 0 (MQ below (va_Qi Post (cB D (tyM b) 21 (gM b h) h A) A) args s 0 0 A) (F0 m 11 ls [])) : ∀ (x1 : Int32) (x2 : Int32) (x3 : Int32) (x4 : Int32) (u : St) (H : Heap) (locs : List Loc) (ls : Array Slot), wb_X12_best_11 Post K11 x1 x2 x3 x4 u → wO D 21 (gM b h) h u A s.heap H locs → lv_has ls 8 [(0, .ref (h 0)), (1, .int x1), (2, .int x2), (3, .int x3), (4, .int x4)] → W p l e rm_X12_best s m args below meth c H locs 0 0 (MQ below (va_Qi Post (cB D (tyM b) 21 (gM b h) h A) A) args s 0 0 A) (F0 m 11 ls []) := by
  obtain ⟨⟨hx, hb, hml, hown, hts⟩, hK, hNs, hlocks, hr⟩ := id X
  intro x1 x2 x3 x4 u H locs ls hw O hl
  unfold wb_X12_best_11 at hw
  refine lv_iload hx hb dX12_best_11 (lv_at hl 4 rfl) ?_
  refine lv_iload_n hx hb dX12_best_13 rfl (lv_at hl 1 rfl) ?_
  refine lv_icmp_gt (tgt := 156) hx hb dX12_best_14 (by decide) (fun c14 => ?_) (fun c14 => ?_)
  · have hw := hw.1 c14
    exact tb_X12_best_156 X hA _ _ _ _ _ _ hw O (lv_sub hl [0, 1, 3] rfl)
  · have hw := hw.2 c14
    refine lv_iload hx hb dX12_best_17 (lv_at hl 4 rfl) ?_
    refine lv_aload_n hx hb dX12_best_19 rfl (lv_at hl 0 rfl) ?_
    refine gt_X12_75 X O dX12_best_20 ?_
    refine lv_icmp_ge (tgt := 156) hx hb dX12_best_23 (by decide) (fun c23 => ?_) (fun c23 => ?_)
    · have hw := hw.1 c23
      exact tb_X12_best_156 X hA _ _ _ _ _ _ hw O (lv_sub hl [0, 1, 3] rfl)
    · have hw := hw.2 c23
      refine lv_iconst (v := -1) hx hb dX12_best_26 (by decide) ?_
      refine lv_istore_n (lv' := [(3, .int (-1 : Int32)), (0, .ref (h 0)), (1, .int x1), (2, .int x2), (4, .int x4)]) hx hb dX12_best_27 rfl hl (by decide) rfl (fun ls hl => ?_)
      refine lv_aload_n hx hb dX12_best_28 rfl (lv_at hl 1 rfl) ?_
      refine gt_X12_75 X O dX12_best_29 ?_
      refine lv_iconst (v := 1) hx hb dX12_best_32 (by decide) ?_
      refine lv_isub hx hb dX12_best_33 ?_
      refine lv_istore (lv' := [(5, .int ((u 0 0) - (1 : Int32))), (3, .int (-1 : Int32)), (0, .ref (h 0)), (1, .int x1), (2, .int x2), (4, .int x4)]) hx hb dX12_best_34 hl (by decide) rfl (fun ls hl => ?_)
      obtain ⟨n, hw⟩ := hw
      exact tl_X12_best_36 X hA k11 n _ _ _ _ _ _ _ _ _ hw O (lv_sub hl [2, 3, 4, 1, 5, 0] rfl)
def wl_X12_best_11 (Post : Int32 → St → Prop) : Nat → Int32 → Int32 → Int32 → Int32 → St → Prop
  | 0 => fun _ _ _ _ _ => False
  | n + 1 => fun x1 x2 x3 x4 u => wb_X12_best_11 Post (wl_X12_best_11 Post n) x1 x2 x3 x4 u
set_option maxHeartbeats 4000000 in
set_option maxRecDepth 100000 in
theorem tl_X12_best_11 (X : Cx p s m args meth c cX12_best 8 (some .int) RX12 D (tyM b) A) (hA : ∀ q, s.heap.size ≤ q → A q) {Post : Int32 → St → Prop} : ∀ n : Nat, ∀ (x1 : Int32) (x2 : Int32) (x3 : Int32) (x4 : Int32) (u : St) (H : Heap) (locs : List Loc) (ls : Array Slot), (wl_X12_best_11 Post n) x1 x2 x3 x4 u → wO D 21 (gM b h) h u A s.heap H locs → lv_has ls 8 [(0, .ref (h 0)), (1, .int x1), (2, .int x2), (3, .int x3), (4, .int x4)] → W p l e rm_X12_best s m args below meth c H locs 0 0 (MQ below (va_Qi Post (cB D (tyM b) 21 (gM b h) h A) A) args s 0 0 A) (F0 m 11 ls []) := by
  intro n
  induction n with
  | zero => intro x1 x2 x3 x4 u H locs ls hw; exact False.elim hw
  | succ n ih => intro x1 x2 x3 x4 u H locs ls hw O hl; exact tb_X12_best_11 X hA ih x1 x2 x3 x4 u H locs ls hw O hl
def wp_X12_best (a1 : Int32) (u : St) (Post : Int32 → St → Prop) : Prop := wp_X12_look u (fun _ u1 => ∃ n : Nat, wl_X12_best_11 Post n a1 (0 : Int32) (-1 : Int32) (0 : Int32) u1)
set_option maxHeartbeats 4000000 in
set_option maxRecDepth 100000 in
theorem c_X12_best {a1 : Int32} {l : Launch} {D : va_G} {b : Nat → ClassId} {h : Nat → Nat} {u : St} {Post : Int32 → St → Prop} (hw : wp_X12_best a1 u Post) : CtI l yX12_best cX12_best 8 (some .int) rm_X12_best D (tyM b) 21 (gM b h) h [.ref (h 0), .int a1] u Post := by
  refine CtI.of (plainFor_of_name (by decide)) (Nat.le_of_ble_eq_true rfl) ?_
  intro p e s m below meth c A ls X hA O hl
  have X : Cx p s m _ meth c cX12_best 8 (some .int) RX12 D (tyM b) A := X
  obtain ⟨⟨hx, hb, hml, hown, hts⟩, hK, hNs, hlocks, hr⟩ := id X
  have hl : lv_has ls 8 [(0, .ref (h 0)), (1, .int a1)] := hl
  unfold wp_X12_best at hw
  refine lv_aload_n hx hb dX12_best_0 rfl (lv_at hl 0 rfl) ?_
  refine q_cvv (rest := []) X O hA 0 (c_X12_look hw) lk_X12_149 (by decide) rfl rfl rfl rfl rfl rfl ⟨Nat.le_of_ble_eq_true rfl, Nat.le_of_ble_eq_true rfl⟩ (Nat.le_of_ble_eq_true rfl) hl.1 ⟨Nat.zero_le _, Nat.zero_le _⟩ rfl dX12_best_1 (fun u1 H locs hw O => ?_)
  refine lv_iconst (v := 0) hx hb dX12_best_4 (by decide) ?_
  refine lv_istore_n (lv' := [(2, .int (0 : Int32)), (0, .ref (h 0)), (1, .int a1)]) hx hb dX12_best_5 rfl hl (by decide) rfl (fun ls hl => ?_)
  refine lv_iconst (v := -1) hx hb dX12_best_6 (by decide) ?_
  refine lv_istore_n (lv' := [(3, .int (-1 : Int32)), (2, .int (0 : Int32)), (0, .ref (h 0)), (1, .int a1)]) hx hb dX12_best_7 rfl hl (by decide) rfl (fun ls hl => ?_)
  refine lv_iconst (v := 0) hx hb dX12_best_8 (by decide) ?_
  refine lv_istore (lv' := [(4, .int (0 : Int32)), (3, .int (-1 : Int32)), (2, .int (0 : Int32)), (0, .ref (h 0)), (1, .int a1)]) hx hb dX12_best_9 hl (by decide) rfl (fun ls hl => ?_)
  obtain ⟨n, hw⟩ := hw
  exact tl_X12_best_11 X hA n _ _ _ _ _ _ _ _ hw O (lv_sub hl [3, 4, 2, 1, 0] rfl)
-- FellersOrderModel.many()I
abbrev rm_X12_many : Room := { frames := 4, cells := 0, slots := 0, locals := 86 }
def wp_X12_many (u : St) (Post : Int32 → St → Prop) : Prop := wp_X12_look u (fun _ u1 => wp_X12_all u1 (fun r9 u9 => vp_in r9 4096 ∧ (Post (u9 15 (Int32.toNatClampNeg r9)) u9)))
set_option maxHeartbeats 4000000 in
set_option maxRecDepth 100000 in
theorem c_X12_many {l : Launch} {D : va_G} {b : Nat → ClassId} {h : Nat → Nat} {u : St} {Post : Int32 → St → Prop} (hw : wp_X12_many u Post) : CtI l yX12_many cX12_many 1 (some .int) rm_X12_many D (tyM b) 21 (gM b h) h [.ref (h 0)] u Post := by
  refine CtI.of (plainFor_of_name (by decide)) (Nat.le_of_ble_eq_true rfl) ?_
  intro p e s m below meth c A ls X hA O hl
  have X : Cx p s m _ meth c cX12_many 1 (some .int) RX12 D (tyM b) A := X
  obtain ⟨⟨hx, hb, hml, hown, hts⟩, hK, hNs, hlocks, hr⟩ := id X
  have hl : lv_has ls 1 [(0, .ref (h 0))] := hl
  unfold wp_X12_many at hw
  refine lv_aload_n hx hb dX12_many_0 rfl (lv_at hl 0 rfl) ?_
  refine q_cvv (rest := []) X O hA 0 (c_X12_look hw) lk_X12_149 (by decide) rfl rfl rfl rfl rfl rfl ⟨Nat.le_of_ble_eq_true rfl, Nat.le_of_ble_eq_true rfl⟩ (Nat.le_of_ble_eq_true rfl) hl.1 ⟨Nat.zero_le _, Nat.zero_le _⟩ rfl dX12_many_1 (fun u1 H locs hw O => ?_)
  refine lv_aload_n hx hb dX12_many_4 rfl (lv_at hl 0 rfl) ?_
  refine gt_X12_53 X O dX12_many_5 ?_
  refine lv_aload_n hx hb dX12_many_8 rfl (lv_at hl 0 rfl) ?_
  refine q_civ (rest := [.ref (h 15)]) X O hA 0 (c_X12_all hw) lk_X12_134 (by decide) rfl rfl rfl rfl rfl rfl ⟨Nat.le_of_ble_eq_true rfl, Nat.le_of_ble_eq_true rfl⟩ (Nat.le_of_ble_eq_true rfl) hl.1 ⟨Nat.zero_le _, Nat.zero_le _⟩ rfl dX12_many_9 (fun r9 u9 H locs hw O => ?_)
  obtain ⟨i12, hw⟩ := hw
  refine q_ild X O 15 0 (by decide) rfl rfl i12 dX12_many_12 ?_
  exact q_iret X O hw dX12_many_13
-- FellersOrderModel.fixed(II)I
abbrev rm_X12_fixed : Room := { frames := 4, cells := 0, slots := 0, locals := 86 }
def wb_X12_fixed_88 (Post : Int32 → St → Prop) (K32 : Int32 → Int32 → Int32 → Int32 → St → Prop) (x1 : Int32) (x2 : Int32) (x3 : Int32) (x4 : Int32) (t0 : Int32) (u : St) : Prop := ((x3 = 0) → (K32 x1 x2 (0 : Int32) (x4 + 1) u)) ∧ ((¬ x3 = 0) → (((t0 = 0) → (K32 x1 x2 (1 : Int32) (x4 + 1) u)) ∧ ((¬ t0 = 0) → (vp_in x4 4096 ∧ (vp_in x4 4096 ∧ (wp_X12_all u (fun r119 u119 => vp_in r119 4096 ∧ (((((u 14 (Int32.toNatClampNeg x4)) + (u 16 (Int32.toNatClampNeg x4))) = (u119 14 (Int32.toNatClampNeg r119))) → (K32 x1 x2 (0 : Int32) (x4 + 1) u119)) ∧ ((¬ ((u 14 (Int32.toNatClampNeg x4)) + (u 16 (Int32.toNatClampNeg x4))) = (u119 14 (Int32.toNatClampNeg r119))) → (K32 x1 x2 (1 : Int32) (x4 + 1) u119))))))))))
set_option maxHeartbeats 4000000 in
set_option maxRecDepth 100000 in
theorem tb_X12_fixed_88 (X : Cx p s m args meth c cX12_fixed 6 (some .int) RX12 D (tyM b) A) (hA : ∀ q, s.heap.size ≤ q → A q) {Post : Int32 → St → Prop} {K32 : Int32 → Int32 → Int32 → Int32 → St → Prop} (k32 : ∀ (x1 : Int32) (x2 : Int32) (x3 : Int32) (x4 : Int32) (u : St) (H : Heap) (locs : List Loc) (ls : Array Slot), K32 x1 x2 x3 x4 u → wO D 21 (gM b h) h u A s.heap H locs → lv_has ls 6 [(0, .ref (h 0)), (1, .int x1), (2, .int x2), (3, .int x3), (4, .int x4)] → W p l e rm_X12_fixed s m args below meth c H locs 0 0 (MQ below (va_Qi Post (cB D (tyM b) 21 (gM b h) h A) A) args s 0 0 A) (F0 m 32 ls [])) : ∀ (x1 : Int32) (x2 : Int32) (x3 : Int32) (x4 : Int32) (t0 : Int32) (u : St) (H : Heap) (locs : List Loc) (ls : Array Slot), wb_X12_fixed_88 Post K32 x1 x2 x3 x4 t0 u → wO D 21 (gM b h) h u A s.heap H locs → lv_has ls 6 [(0, .ref (h 0)), (1, .int x1), (2, .int x2), (3, .int x3), (4, .int x4)] → W p l e rm_X12_fixed s m args below meth c H locs 0 0 (MQ below (va_Qi Post (cB D (tyM b) 21 (gM b h) h A) A) args s 0 0 A) (F0 m 88 ls [.int t0]) := by
  obtain ⟨⟨hx, hb, hml, hown, hts⟩, hK, hNs, hlocks, hr⟩ := id X
  intro x1 x2 x3 x4 t0 u H locs ls hw O hl
  unfold wb_X12_fixed_88 at hw
  refine lv_istore (lv' := [(5, .int t0), (0, .ref (h 0)), (1, .int x1), (2, .int x2), (3, .int x3), (4, .int x4)]) hx hb dX12_fixed_88 hl (by decide) rfl (fun ls hl => ?_)
  refine lv_iload_n hx hb dX12_fixed_90 rfl (lv_at hl 4 rfl) ?_
  refine lv_if_eq (tgt := 130) hx hb dX12_fixed_91 (by decide) (fun c91 => ?_) (fun c91 => ?_)
  · have hw := hw.1 c91
    refine lv_iconst (v := 0) hx hb dX12_fixed_130 (by decide) ?_
    refine lv_istore_n (lv' := [(3, .int (0 : Int32)), (5, .int t0), (0, .ref (h 0)), (1, .int x1), (2, .int x2), (4, .int x4)]) hx hb dX12_fixed_131 rfl hl (by decide) rfl (fun ls hl => ?_)
    refine lv_iinc (v := x4 + 1) (lv' := [(4, .int (x4 + 1)), (3, .int (0 : Int32)), (5, .int t0), (0, .ref (h 0)), (1, .int x1), (2, .int x2)]) hx hb dX12_fixed_132 hl (k := 5) rfl rfl (by decide) rfl (fun ls hl => ?_)
    refine lv_goto (tgt := 32) hx hb dX12_fixed_135 (by decide) ?_
    exact k32 _ _ _ _ _ _ _ _ hw O (lv_sub hl [3, 4, 5, 1, 0] rfl)
  · have hw := hw.2 c91
    refine lv_iload hx hb dX12_fixed_94 (lv_at hl 0 rfl) ?_
    refine lv_if_eq (tgt := 126) hx hb dX12_fixed_96 (by decide) (fun c96 => ?_) (fun c96 => ?_)
    · have hw := hw.1 c96
      refine lv_iconst (v := 1) hx hb dX12_fixed_126 (by decide) ?_
      refine lv_goto (tgt := 131) hx hb dX12_fixed_127 (by decide) ?_
      refine lv_istore_n (lv' := [(3, .int (1 : Int32)), (5, .int t0), (0, .ref (h 0)), (1, .int x1), (2, .int x2), (4, .int x4)]) hx hb dX12_fixed_131 rfl hl (by decide) rfl (fun ls hl => ?_)
      refine lv_iinc (v := x4 + 1) (lv' := [(4, .int (x4 + 1)), (3, .int (1 : Int32)), (5, .int t0), (0, .ref (h 0)), (1, .int x1), (2, .int x2)]) hx hb dX12_fixed_132 hl (k := 5) rfl rfl (by decide) rfl (fun ls hl => ?_)
      refine lv_goto (tgt := 32) hx hb dX12_fixed_135 (by decide) ?_
      exact k32 _ _ _ _ _ _ _ _ hw O (lv_sub hl [3, 4, 5, 1, 0] rfl)
    · have hw := hw.2 c96
      refine lv_aload_n hx hb dX12_fixed_99 rfl (lv_at hl 1 rfl) ?_
      refine gt_X12_50 X O dX12_fixed_100 ?_
      refine lv_iload hx hb dX12_fixed_103 (lv_at hl 5 rfl) ?_
      obtain ⟨i105, hw⟩ := hw
      refine q_ild X O 14 0 (by decide) rfl rfl i105 dX12_fixed_105 ?_
      refine lv_aload_n hx hb dX12_fixed_106 rfl (lv_at hl 1 rfl) ?_
      refine gt_X12_56 X O dX12_fixed_107 ?_
      refine lv_iload hx hb dX12_fixed_110 (lv_at hl 5 rfl) ?_
      obtain ⟨i112, hw⟩ := hw
      refine q_ild X O 16 0 (by decide) rfl rfl i112 dX12_fixed_112 ?_
      refine lv_iadd hx hb dX12_fixed_113 ?_
      refine lv_aload_n hx hb dX12_fixed_114 rfl (lv_at hl 1 rfl) ?_
      refine gt_X12_50 X O dX12_fixed_115 ?_
      refine lv_aload_n hx hb dX12_fixed_118 rfl (lv_at hl 1 rfl) ?_
      refine q_civ (rest := [.ref (h 14), .int ((u 14 (Int32.toNatClampNeg x4)) + (u 16 (Int32.toNatClampNeg x4)))]) X O hA 0 (c_X12_all hw) lk_X12_134 (by decide) rfl rfl rfl rfl rfl rfl ⟨Nat.le_of_ble_eq_true rfl, Nat.le_of_ble_eq_true rfl⟩ (Nat.le_of_ble_eq_true rfl) hl.1 ⟨Nat.zero_le _, Nat.zero_le _⟩ rfl dX12_fixed_119 (fun r119 u119 H locs hw O => ?_)
      obtain ⟨i122, hw⟩ := hw
      refine q_ild X O 14 0 (by decide) rfl rfl i122 dX12_fixed_122 ?_
      refine lv_icmp_eq (tgt := 130) hx hb dX12_fixed_123 (by decide) (fun c123 => ?_) (fun c123 => ?_)
      · have hw := hw.1 c123
        refine lv_iconst (v := 0) hx hb dX12_fixed_130 (by decide) ?_
        refine lv_istore_n (lv' := [(3, .int (0 : Int32)), (5, .int t0), (0, .ref (h 0)), (1, .int x1), (2, .int x2), (4, .int x4)]) hx hb dX12_fixed_131 rfl hl (by decide) rfl (fun ls hl => ?_)
        refine lv_iinc (v := x4 + 1) (lv' := [(4, .int (x4 + 1)), (3, .int (0 : Int32)), (5, .int t0), (0, .ref (h 0)), (1, .int x1), (2, .int x2)]) hx hb dX12_fixed_132 hl (k := 5) rfl rfl (by decide) rfl (fun ls hl => ?_)
        refine lv_goto (tgt := 32) hx hb dX12_fixed_135 (by decide) ?_
        exact k32 _ _ _ _ _ _ _ _ hw O (lv_sub hl [3, 4, 5, 1, 0] rfl)
      · have hw := hw.2 c123
        refine lv_iconst (v := 1) hx hb dX12_fixed_126 (by decide) ?_
        refine lv_goto (tgt := 131) hx hb dX12_fixed_127 (by decide) ?_
        refine lv_istore_n (lv' := [(3, .int (1 : Int32)), (5, .int t0), (0, .ref (h 0)), (1, .int x1), (2, .int x2), (4, .int x4)]) hx hb dX12_fixed_131 rfl hl (by decide) rfl (fun ls hl => ?_)
        refine lv_iinc (v := x4 + 1) (lv' := [(4, .int (x4 + 1)), (3, .int (1 : Int32)), (5, .int t0), (0, .ref (h 0)), (1, .int x1), (2, .int x2)]) hx hb dX12_fixed_132 hl (k := 5) rfl rfl (by decide) rfl (fun ls hl => ?_)
        refine lv_goto (tgt := 32) hx hb dX12_fixed_135 (by decide) ?_
        exact k32 _ _ _ _ _ _ _ _ hw O (lv_sub hl [3, 4, 5, 1, 0] rfl)
def wb_X12_fixed_87 (Post : Int32 → St → Prop) (K32 : Int32 → Int32 → Int32 → Int32 → St → Prop) (x1 : Int32) (x2 : Int32) (x3 : Int32) (x4 : Int32) (u : St) : Prop := wb_X12_fixed_88 Post K32 x1 x2 x3 x4 (0 : Int32) u
set_option maxHeartbeats 4000000 in
set_option maxRecDepth 100000 in
theorem tb_X12_fixed_87 (X : Cx p s m args meth c cX12_fixed 6 (some .int) RX12 D (tyM b) A) (hA : ∀ q, s.heap.size ≤ q → A q) {Post : Int32 → St → Prop} {K32 : Int32 → Int32 → Int32 → Int32 → St → Prop} (k32 : ∀ (x1 : Int32) (x2 : Int32) (x3 : Int32) (x4 : Int32) (u : St) (H : Heap) (locs : List Loc) (ls : Array Slot), K32 x1 x2 x3 x4 u → wO D 21 (gM b h) h u A s.heap H locs → lv_has ls 6 [(0, .ref (h 0)), (1, .int x1), (2, .int x2), (3, .int x3), (4, .int x4)] → W p l e rm_X12_fixed s m args below meth c H locs 0 0 (MQ below (va_Qi Post (cB D (tyM b) 21 (gM b h) h A) A) args s 0 0 A) (F0 m 32 ls [])) : ∀ (x1 : Int32) (x2 : Int32) (x3 : Int32) (x4 : Int32) (u : St) (H : Heap) (locs : List Loc) (ls : Array Slot), wb_X12_fixed_87 Post K32 x1 x2 x3 x4 u → wO D 21 (gM b h) h u A s.heap H locs → lv_has ls 6 [(0, .ref (h 0)), (1, .int x1), (2, .int x2), (3, .int x3), (4, .int x4)] → W p l e rm_X12_fixed s m args below meth c H locs 0 0 (MQ below (va_Qi Post (cB D (tyM b) 21 (gM b h) h A) A) args s 0 0 A) (F0 m 87 ls []) := by
  obtain ⟨⟨hx, hb, hml, hown, hts⟩, hK, hNs, hlocks, hr⟩ := id X
  intro x1 x2 x3 x4 u H locs ls hw O hl
  unfold wb_X12_fixed_87 at hw
  refine lv_iconst (v := 0) hx hb dX12_fixed_87 (by decide) ?_
  exact tb_X12_fixed_88 X hA k32 _ _ _ _ _ _ _ _ _ hw O (lv_sub hl [0, 1, 2, 3, 4] rfl)
def wb_X12_fixed_32 (Post : Int32 → St → Prop) (K32 : Int32 → Int32 → Int32 → Int32 → St → Prop) (x1 : Int32) (x2 : Int32) (x3 : Int32) (x4 : Int32) (u : St) : Prop := wp_X12_all u (fun r35 u35 => ((r35 < x4) → (((x3 = 0) → (Post (0 : Int32) u35)) ∧ ((¬ x3 = 0) → (Post (1 : Int32) u35)))) ∧ ((¬ r35 < x4) → (wp_X12_has x4 x2 u35 (fun r44 u44 => ((r44 = 0) → (wb_X12_fixed_87 Post K32 x1 x2 x3 x4 u44)) ∧ ((¬ r44 = 0) → (wp_X12_has x4 x1 u44 (fun r53 u53 => ((¬ r53 = 0) → (wb_X12_fixed_87 Post K32 x1 x2 x3 x4 u53)) ∧ ((r53 = 0) → (vp_in x4 4096 ∧ ((((2000000000 : Int32) ≤ (u53 14 (Int32.toNatClampNeg x4))) → (wb_X12_fixed_87 Post K32 x1 x2 x3 x4 u53)) ∧ ((¬ (2000000000 : Int32) ≤ (u53 14 (Int32.toNatClampNeg x4))) → (vp_in x4 4096 ∧ ((((2000000000 : Int32) ≤ (u53 16 (Int32.toNatClampNeg x4))) → (wb_X12_fixed_87 Post K32 x1 x2 x3 x4 u53)) ∧ ((¬ (2000000000 : Int32) ≤ (u53 16 (Int32.toNatClampNeg x4))) → (wb_X12_fixed_88 Post K32 x1 x2 x3 x4 (1 : Int32) u53)))))))))))))))
set_option maxHeartbeats 4000000 in
set_option maxRecDepth 100000 in
theorem tb_X12_fixed_32 (X : Cx p s m args meth c cX12_fixed 6 (some .int) RX12 D (tyM b) A) (hA : ∀ q, s.heap.size ≤ q → A q) {Post : Int32 → St → Prop} {K32 : Int32 → Int32 → Int32 → Int32 → St → Prop} (k32 : ∀ (x1 : Int32) (x2 : Int32) (x3 : Int32) (x4 : Int32) (u : St) (H : Heap) (locs : List Loc) (ls : Array Slot), K32 x1 x2 x3 x4 u → wO D 21 (gM b h) h u A s.heap H locs → lv_has ls 6 [(0, .ref (h 0)), (1, .int x1), (2, .int x2), (3, .int x3), (4, .int x4)] → W p l e rm_X12_fixed s m args below meth c H locs 0 0 (MQ below (va_Qi Post (cB D (tyM b) 21 (gM b h) h A) A) args s 0 0 A) (F0 m 32 ls [])) : ∀ (x1 : Int32) (x2 : Int32) (x3 : Int32) (x4 : Int32) (u : St) (H : Heap) (locs : List Loc) (ls : Array Slot), wb_X12_fixed_32 Post K32 x1 x2 x3 x4 u → wO D 21 (gM b h) h u A s.heap H locs → lv_has ls 6 [(0, .ref (h 0)), (1, .int x1), (2, .int x2), (3, .int x3), (4, .int x4)] → W p l e rm_X12_fixed s m args below meth c H locs 0 0 (MQ below (va_Qi Post (cB D (tyM b) 21 (gM b h) h A) A) args s 0 0 A) (F0 m 32 ls []) := by
  obtain ⟨⟨hx, hb, hml, hown, hts⟩, hK, hNs, hlocks, hr⟩ := id X
  intro x1 x2 x3 x4 u H locs ls hw O hl
  unfold wb_X12_fixed_32 at hw
  refine lv_iload hx hb dX12_fixed_32 (lv_at hl 4 rfl) ?_
  refine lv_aload_n hx hb dX12_fixed_34 rfl (lv_at hl 0 rfl) ?_
  refine q_civ (rest := [.int x4]) X O hA 0 (c_X12_all hw) lk_X12_134 (by decide) rfl rfl rfl rfl rfl rfl ⟨Nat.le_of_ble_eq_true rfl, Nat.le_of_ble_eq_true rfl⟩ (Nat.le_of_ble_eq_true rfl) hl.1 ⟨Nat.zero_le _, Nat.zero_le _⟩ rfl dX12_fixed_35 (fun r35 u35 H locs hw O => ?_)
  refine lv_icmp_gt (tgt := 138) hx hb dX12_fixed_38 (by decide) (fun c38 => ?_) (fun c38 => ?_)
  · have hw := hw.1 c38
    refine lv_iload_n hx hb dX12_fixed_138 rfl (lv_at hl 3 rfl) ?_
    refine lv_if_eq (tgt := 146) hx hb dX12_fixed_139 (by decide) (fun c139 => ?_) (fun c139 => ?_)
    · have hw := hw.1 c139
      refine lv_iconst (v := 0) hx hb dX12_fixed_146 (by decide) ?_
      exact q_iret X O hw dX12_fixed_147
    · have hw := hw.2 c139
      refine lv_iconst (v := 1) hx hb dX12_fixed_142 (by decide) ?_
      refine lv_goto (tgt := 147) hx hb dX12_fixed_143 (by decide) ?_
      exact q_iret X O hw dX12_fixed_147
  · have hw := hw.2 c38
    refine lv_iload hx hb dX12_fixed_41 (lv_at hl 4 rfl) ?_
    refine lv_iload_n hx hb dX12_fixed_43 rfl (lv_at hl 2 rfl) ?_
    refine q_cis (rest := []) X O hA (c_X12_has hw) lk_X12_82 rfl rfl rfl ⟨Nat.le_of_ble_eq_true rfl, Nat.le_of_ble_eq_true rfl⟩ (Nat.le_of_ble_eq_true rfl) hl.1 ⟨Nat.zero_le _, Nat.zero_le _⟩ rfl dX12_fixed_44 (fun r44 u44 H locs hw O => ?_)
    refine lv_if_eq (tgt := 87) hx hb dX12_fixed_47 (by decide) (fun c47 => ?_) (fun c47 => ?_)
    · have hw := hw.1 c47
      exact tb_X12_fixed_87 X hA k32 _ _ _ _ _ _ _ _ hw O (lv_sub hl [0, 1, 2, 3, 4] rfl)
    · have hw := hw.2 c47
      refine lv_iload hx hb dX12_fixed_50 (lv_at hl 4 rfl) ?_
      refine lv_iload_n hx hb dX12_fixed_52 rfl (lv_at hl 1 rfl) ?_
      refine q_cis (rest := []) X O hA (c_X12_has hw) lk_X12_82 rfl rfl rfl ⟨Nat.le_of_ble_eq_true rfl, Nat.le_of_ble_eq_true rfl⟩ (Nat.le_of_ble_eq_true rfl) hl.1 ⟨Nat.zero_le _, Nat.zero_le _⟩ rfl dX12_fixed_53 (fun r53 u53 H locs hw O => ?_)
      refine lv_if_ne (tgt := 87) hx hb dX12_fixed_56 (by decide) (fun c56 => ?_) (fun c56 => ?_)
      · have hw := hw.1 c56
        exact tb_X12_fixed_87 X hA k32 _ _ _ _ _ _ _ _ hw O (lv_sub hl [0, 1, 2, 3, 4] rfl)
      · have hw := hw.2 c56
        refine lv_aload_n hx hb dX12_fixed_59 rfl (lv_at hl 0 rfl) ?_
        refine gt_X12_50 X O dX12_fixed_60 ?_
        refine lv_iload hx hb dX12_fixed_63 (lv_at hl 4 rfl) ?_
        obtain ⟨i65, hw⟩ := hw
        refine q_ild X O 14 0 (by decide) rfl rfl i65 dX12_fixed_65 ?_
        refine lv_ldc (v := 2000000000) hx hb hown (hts _ wd_27_10) dX12_fixed_66 ?_
        refine lv_icmp_ge (tgt := 87) hx hb dX12_fixed_68 (by decide) (fun c68 => ?_) (fun c68 => ?_)
        · have hw := hw.1 c68
          exact tb_X12_fixed_87 X hA k32 _ _ _ _ _ _ _ _ hw O (lv_sub hl [0, 1, 2, 3, 4] rfl)
        · have hw := hw.2 c68
          refine lv_aload_n hx hb dX12_fixed_71 rfl (lv_at hl 0 rfl) ?_
          refine gt_X12_56 X O dX12_fixed_72 ?_
          refine lv_iload hx hb dX12_fixed_75 (lv_at hl 4 rfl) ?_
          obtain ⟨i77, hw⟩ := hw
          refine q_ild X O 16 0 (by decide) rfl rfl i77 dX12_fixed_77 ?_
          refine lv_ldc (v := 2000000000) hx hb hown (hts _ wd_27_10) dX12_fixed_78 ?_
          refine lv_icmp_ge (tgt := 87) hx hb dX12_fixed_80 (by decide) (fun c80 => ?_) (fun c80 => ?_)
          · have hw := hw.1 c80
            exact tb_X12_fixed_87 X hA k32 _ _ _ _ _ _ _ _ hw O (lv_sub hl [0, 1, 2, 3, 4] rfl)
          · have hw := hw.2 c80
            refine lv_iconst (v := 1) hx hb dX12_fixed_83 (by decide) ?_
            refine lv_goto (tgt := 88) hx hb dX12_fixed_84 (by decide) ?_
            exact tb_X12_fixed_88 X hA k32 _ _ _ _ _ _ _ _ _ hw O (lv_sub hl [0, 1, 2, 3, 4] rfl)
def wl_X12_fixed_32 (Post : Int32 → St → Prop) : Nat → Int32 → Int32 → Int32 → Int32 → St → Prop
  | 0 => fun _ _ _ _ _ => False
  | n + 1 => fun x1 x2 x3 x4 u => wb_X12_fixed_32 Post (wl_X12_fixed_32 Post n) x1 x2 x3 x4 u
set_option maxHeartbeats 4000000 in
set_option maxRecDepth 100000 in
theorem tl_X12_fixed_32 (X : Cx p s m args meth c cX12_fixed 6 (some .int) RX12 D (tyM b) A) (hA : ∀ q, s.heap.size ≤ q → A q) {Post : Int32 → St → Prop} : ∀ n : Nat, ∀ (x1 : Int32) (x2 : Int32) (x3 : Int32) (x4 : Int32) (u : St) (H : Heap) (locs : List Loc) (ls : Array Slot), (wl_X12_fixed_32 Post n) x1 x2 x3 x4 u → wO D 21 (gM b h) h u A s.heap H locs → lv_has ls 6 [(0, .ref (h 0)), (1, .int x1), (2, .int x2), (3, .int x3), (4, .int x4)] → W p l e rm_X12_fixed s m args below meth c H locs 0 0 (MQ below (va_Qi Post (cB D (tyM b) 21 (gM b h) h A) A) args s 0 0 A) (F0 m 32 ls []) := by
  intro n
  induction n with
  | zero => intro x1 x2 x3 x4 u H locs ls hw; exact False.elim hw
  | succ n ih => intro x1 x2 x3 x4 u H locs ls hw O hl; exact tb_X12_fixed_32 X hA ih x1 x2 x3 x4 u H locs ls hw O hl
def wp_X12_fixed (a1 : Int32) (a2 : Int32) (u : St) (Post : Int32 → St → Prop) : Prop := wp_X12_isJob a1 u (fun r2 u2 => ((r2 = 0) → (Post (-1 : Int32) u2)) ∧ ((¬ r2 = 0) → (wp_X12_isJob a2 u2 (fun r10 u10 => ((r10 = 0) → (Post (-1 : Int32) u10)) ∧ ((¬ r10 = 0) → (((¬ a1 = a2) → (wp_X12_look u10 (fun _ u24 => ∃ n : Nat, wl_X12_fixed_32 Post n a1 a2 (1 : Int32) (0 : Int32) u24))) ∧ ((a1 = a2) → (Post (-1 : Int32) u10))))))))
set_option maxHeartbeats 4000000 in
set_option maxRecDepth 100000 in
theorem c_X12_fixed {a1 : Int32} {a2 : Int32} {l : Launch} {D : va_G} {b : Nat → ClassId} {h : Nat → Nat} {u : St} {Post : Int32 → St → Prop} (hw : wp_X12_fixed a1 a2 u Post) : CtI l yX12_fixed cX12_fixed 6 (some .int) rm_X12_fixed D (tyM b) 21 (gM b h) h [.ref (h 0), .int a1, .int a2] u Post := by
  refine CtI.of (plainFor_of_name (by decide)) (Nat.le_of_ble_eq_true rfl) ?_
  intro p e s m below meth c A ls X hA O hl
  have X : Cx p s m _ meth c cX12_fixed 6 (some .int) RX12 D (tyM b) A := X
  obtain ⟨⟨hx, hb, hml, hown, hts⟩, hK, hNs, hlocks, hr⟩ := id X
  have hl : lv_has ls 6 [(0, .ref (h 0)), (1, .int a1), (2, .int a2)] := hl
  unfold wp_X12_fixed at hw
  refine lv_aload_n hx hb dX12_fixed_0 rfl (lv_at hl 0 rfl) ?_
  refine lv_iload_n hx hb dX12_fixed_1 rfl (lv_at hl 1 rfl) ?_
  refine q_civ (rest := []) X O hA 0 (c_X12_isJob hw) lk_X12_106 (by decide) rfl rfl rfl rfl rfl rfl ⟨Nat.le_of_ble_eq_true rfl, Nat.le_of_ble_eq_true rfl⟩ (Nat.le_of_ble_eq_true rfl) hl.1 ⟨Nat.zero_le _, Nat.zero_le _⟩ rfl dX12_fixed_2 (fun r2 u2 H locs hw O => ?_)
  refine lv_if_eq (tgt := 21) hx hb dX12_fixed_5 (by decide) (fun c5 => ?_) (fun c5 => ?_)
  · have hw := hw.1 c5
    refine lv_iconst (v := -1) hx hb dX12_fixed_21 (by decide) ?_
    exact q_iret X O hw dX12_fixed_22
  · have hw := hw.2 c5
    refine lv_aload_n hx hb dX12_fixed_8 rfl (lv_at hl 0 rfl) ?_
    refine lv_iload_n hx hb dX12_fixed_9 rfl (lv_at hl 2 rfl) ?_
    refine q_civ (rest := []) X O hA 0 (c_X12_isJob hw) lk_X12_106 (by decide) rfl rfl rfl rfl rfl rfl ⟨Nat.le_of_ble_eq_true rfl, Nat.le_of_ble_eq_true rfl⟩ (Nat.le_of_ble_eq_true rfl) hl.1 ⟨Nat.zero_le _, Nat.zero_le _⟩ rfl dX12_fixed_10 (fun r10 u10 H locs hw O => ?_)
    refine lv_if_eq (tgt := 21) hx hb dX12_fixed_13 (by decide) (fun c13 => ?_) (fun c13 => ?_)
    · have hw := hw.1 c13
      refine lv_iconst (v := -1) hx hb dX12_fixed_21 (by decide) ?_
      exact q_iret X O hw dX12_fixed_22
    · have hw := hw.2 c13
      refine lv_iload_n hx hb dX12_fixed_16 rfl (lv_at hl 1 rfl) ?_
      refine lv_iload_n hx hb dX12_fixed_17 rfl (lv_at hl 2 rfl) ?_
      refine lv_icmp_ne (tgt := 23) hx hb dX12_fixed_18 (by decide) (fun c18 => ?_) (fun c18 => ?_)
      · have hw := hw.1 c18
        refine lv_aload_n hx hb dX12_fixed_23 rfl (lv_at hl 0 rfl) ?_
        refine q_cvv (rest := []) X O hA 0 (c_X12_look hw) lk_X12_149 (by decide) rfl rfl rfl rfl rfl rfl ⟨Nat.le_of_ble_eq_true rfl, Nat.le_of_ble_eq_true rfl⟩ (Nat.le_of_ble_eq_true rfl) hl.1 ⟨Nat.zero_le _, Nat.zero_le _⟩ rfl dX12_fixed_24 (fun u24 H locs hw O => ?_)
        refine lv_iconst (v := 1) hx hb dX12_fixed_27 (by decide) ?_
        refine lv_istore_n (lv' := [(3, .int (1 : Int32)), (0, .ref (h 0)), (1, .int a1), (2, .int a2)]) hx hb dX12_fixed_28 rfl hl (by decide) rfl (fun ls hl => ?_)
        refine lv_iconst (v := 0) hx hb dX12_fixed_29 (by decide) ?_
        refine lv_istore (lv' := [(4, .int (0 : Int32)), (3, .int (1 : Int32)), (0, .ref (h 0)), (1, .int a1), (2, .int a2)]) hx hb dX12_fixed_30 hl (by decide) rfl (fun ls hl => ?_)
        obtain ⟨n, hw⟩ := hw
        exact tl_X12_fixed_32 X hA n _ _ _ _ _ _ _ _ hw O (lv_sub hl [2, 3, 4, 1, 0] rfl)
      · have hw := hw.2 c18
        refine lv_iconst (v := -1) hx hb dX12_fixed_21 (by decide) ?_
        exact q_iret X O hw dX12_fixed_22
-- FellersOrderModel.apart(II)Z
abbrev rm_X12_apart : Room := { frames := 1, cells := 0, slots := 0, locals := 21 }
def wp_X12_apart (a1 : Int32) (a2 : Int32) (u : St) (Post : Int32 → St → Prop) : Prop := ((a1 = a2) → (Post (0 : Int32) u)) ∧ ((¬ a1 = a2) → (vp_in a1 12 ∧ (wp_X12_has (u 5 (Int32.toNatClampNeg a1)) a2 u (fun r12 u12 => ((¬ r12 = 0) → (Post (0 : Int32) u12)) ∧ ((r12 = 0) → (vp_in a2 12 ∧ (wp_X12_has (u12 5 (Int32.toNatClampNeg a2)) a1 u12 (fun r25 u25 => ((¬ r25 = 0) → (Post (0 : Int32) u25)) ∧ ((r25 = 0) → (Post (1 : Int32) u25))))))))))
set_option maxHeartbeats 4000000 in
set_option maxRecDepth 100000 in
theorem c_X12_apart {a1 : Int32} {a2 : Int32} {l : Launch} {D : va_G} {b : Nat → ClassId} {h : Nat → Nat} {u : St} {Post : Int32 → St → Prop} (hw : wp_X12_apart a1 a2 u Post) : CtI l yX12_apart cX12_apart 3 (some .boolean) rm_X12_apart D (tyM b) 21 (gM b h) h [.ref (h 0), .int a1, .int a2] u Post := by
  refine CtI.of (plainFor_of_name (by decide)) (Nat.le_of_ble_eq_true rfl) ?_
  intro p e s m below meth c A ls X hA O hl
  have X : Cx p s m _ meth c cX12_apart 3 (some .boolean) RX12 D (tyM b) A := X
  obtain ⟨⟨hx, hb, hml, hown, hts⟩, hK, hNs, hlocks, hr⟩ := id X
  have hl : lv_has ls 3 [(0, .ref (h 0)), (1, .int a1), (2, .int a2)] := hl
  unfold wp_X12_apart at hw
  refine lv_iload_n hx hb dX12_apart_0 rfl (lv_at hl 1 rfl) ?_
  refine lv_iload_n hx hb dX12_apart_1 rfl (lv_at hl 2 rfl) ?_
  refine lv_icmp_eq (tgt := 35) hx hb dX12_apart_2 (by decide) (fun c2 => ?_) (fun c2 => ?_)
  · have hw := hw.1 c2
    refine lv_iconst (v := 0) hx hb dX12_apart_35 (by decide) ?_
    exact q_zret X O rfl hw dX12_apart_36
  · have hw := hw.2 c2
    refine lv_aload_n hx hb dX12_apart_5 rfl (lv_at hl 0 rfl) ?_
    refine gt_X12_22 X O dX12_apart_6 ?_
    refine lv_iload_n hx hb dX12_apart_9 rfl (lv_at hl 1 rfl) ?_
    obtain ⟨i10, hw⟩ := hw
    refine q_ild X O 5 0 (by decide) rfl rfl i10 dX12_apart_10 ?_
    refine lv_iload_n hx hb dX12_apart_11 rfl (lv_at hl 2 rfl) ?_
    refine q_cis (rest := []) X O hA (c_X12_has hw) lk_X12_82 rfl rfl rfl ⟨Nat.le_of_ble_eq_true rfl, Nat.le_of_ble_eq_true rfl⟩ (Nat.le_of_ble_eq_true rfl) hl.1 ⟨Nat.zero_le _, Nat.zero_le _⟩ rfl dX12_apart_12 (fun r12 u12 H locs hw O => ?_)
    refine lv_if_ne (tgt := 35) hx hb dX12_apart_15 (by decide) (fun c15 => ?_) (fun c15 => ?_)
    · have hw := hw.1 c15
      refine lv_iconst (v := 0) hx hb dX12_apart_35 (by decide) ?_
      exact q_zret X O rfl hw dX12_apart_36
    · have hw := hw.2 c15
      refine lv_aload_n hx hb dX12_apart_18 rfl (lv_at hl 0 rfl) ?_
      refine gt_X12_22 X O dX12_apart_19 ?_
      refine lv_iload_n hx hb dX12_apart_22 rfl (lv_at hl 2 rfl) ?_
      obtain ⟨i23, hw⟩ := hw
      refine q_ild X O 5 0 (by decide) rfl rfl i23 dX12_apart_23 ?_
      refine lv_iload_n hx hb dX12_apart_24 rfl (lv_at hl 1 rfl) ?_
      refine q_cis (rest := []) X O hA (c_X12_has hw) lk_X12_82 rfl rfl rfl ⟨Nat.le_of_ble_eq_true rfl, Nat.le_of_ble_eq_true rfl⟩ (Nat.le_of_ble_eq_true rfl) hl.1 ⟨Nat.zero_le _, Nat.zero_le _⟩ rfl dX12_apart_25 (fun r25 u25 H locs hw O => ?_)
      refine lv_if_ne (tgt := 35) hx hb dX12_apart_28 (by decide) (fun c28 => ?_) (fun c28 => ?_)
      · have hw := hw.1 c28
        refine lv_iconst (v := 0) hx hb dX12_apart_35 (by decide) ?_
        exact q_zret X O rfl hw dX12_apart_36
      · have hw := hw.2 c28
        refine lv_iconst (v := 1) hx hb dX12_apart_31 (by decide) ?_
        refine lv_goto (tgt := 36) hx hb dX12_apart_32 (by decide) ?_
        exact q_zret X O rfl hw dX12_apart_36
-- FellersOrderModel.four()I
abbrev rm_X12_four : Room := { frames := 2, cells := 0, slots := 0, locals := 43 }
def wb_X12_four_120 (Post : Int32 → St → Prop) (K6 : Int32 → St → Prop) (K16 : Int32 → Int32 → St → Prop) (K26 : Int32 → Int32 → Int32 → St → Prop) (K37 : Int32 → Int32 → Int32 → Int32 → St → Prop) (x1 : Int32) (x2 : Int32) (x3 : Int32) (x4 : Int32) (t0 : Int32) (u : St) : Prop := ((t0 = 0) → (K37 x1 x2 x3 (x4 + 1) u)) ∧ ((¬ t0 = 0) → (Post (((x1 ||| (x2 <<< ((4 : Int32) &&& 31))) ||| (x3 <<< ((8 : Int32) &&& 31))) ||| (x4 <<< ((12 : Int32) &&& 31))) u))
set_option maxHeartbeats 4000000 in
set_option maxRecDepth 100000 in
theorem tb_X12_four_120 (X : Cx p s m args meth c cX12_four 6 (some .int) RX12 D (tyM b) A) (hA : ∀ q, s.heap.size ≤ q → A q) {Post : Int32 → St → Prop} {K6 : Int32 → St → Prop} (k6 : ∀ (x1 : Int32) (u : St) (H : Heap) (locs : List Loc) (ls : Array Slot), K6 x1 u → wO D 21 (gM b h) h u A s.heap H locs → lv_has ls 6 [(0, .ref (h 0)), (1, .int x1)] → W p l e rm_X12_four s m args below meth c H locs 0 0 (MQ below (va_Qi Post (cB D (tyM b) 21 (gM b h) h A) A) args s 0 0 A) (F0 m 6 ls [])) {K16 : Int32 → Int32 → St → Prop} (k16 : ∀ (x1 : Int32) (x2 : Int32) (u : St) (H : Heap) (locs : List Loc) (ls : Array Slot), K16 x1 x2 u → wO D 21 (gM b h) h u A s.heap H locs → lv_has ls 6 [(0, .ref (h 0)), (1, .int x1), (2, .int x2)] → W p l e rm_X12_four s m args below meth c H locs 0 0 (MQ below (va_Qi Post (cB D (tyM b) 21 (gM b h) h A) A) args s 0 0 A) (F0 m 16 ls [])) {K26 : Int32 → Int32 → Int32 → St → Prop} (k26 : ∀ (x1 : Int32) (x2 : Int32) (x3 : Int32) (u : St) (H : Heap) (locs : List Loc) (ls : Array Slot), K26 x1 x2 x3 u → wO D 21 (gM b h) h u A s.heap H locs → lv_has ls 6 [(0, .ref (h 0)), (1, .int x1), (2, .int x2), (3, .int x3)] → W p l e rm_X12_four s m args below meth c H locs 0 0 (MQ below (va_Qi Post (cB D (tyM b) 21 (gM b h) h A) A) args s 0 0 A) (F0 m 26 ls [])) {K37 : Int32 → Int32 → Int32 → Int32 → St → Prop} (k37 : ∀ (x1 : Int32) (x2 : Int32) (x3 : Int32) (x4 : Int32) (u : St) (H : Heap) (locs : List Loc) (ls : Array Slot), K37 x1 x2 x3 x4 u → wO D 21 (gM b h) h u A s.heap H locs → lv_has ls 6 [(0, .ref (h 0)), (1, .int x1), (2, .int x2), (3, .int x3), (4, .int x4)] → W p l e rm_X12_four s m args below meth c H locs 0 0 (MQ below (va_Qi Post (cB D (tyM b) 21 (gM b h) h A) A) args s 0 0 A) (F0 m 37 ls [])) : ∀ (x1 : Int32) (x2 : Int32) (x3 : Int32) (x4 : Int32) (t0 : Int32) (u : St) (H : Heap) (locs : List Loc) (ls : Array Slot), wb_X12_four_120 Post K6 K16 K26 K37 x1 x2 x3 x4 t0 u → wO D 21 (gM b h) h u A s.heap H locs → lv_has ls 6 [(0, .ref (h 0)), (1, .int x1), (2, .int x2), (3, .int x3), (4, .int x4)] → W p l e rm_X12_four s m args below meth c H locs 0 0 (MQ below (va_Qi Post (cB D (tyM b) 21 (gM b h) h A) A) args s 0 0 A) (F0 m 120 ls [.int t0]) := by
  obtain ⟨⟨hx, hb, hml, hown, hts⟩, hK, hNs, hlocks, hr⟩ := id X
  intro x1 x2 x3 x4 t0 u H locs ls hw O hl
  unfold wb_X12_four_120 at hw
  refine lv_istore (lv' := [(5, .int t0), (0, .ref (h 0)), (1, .int x1), (2, .int x2), (3, .int x3), (4, .int x4)]) hx hb dX12_four_120 hl (by decide) rfl (fun ls hl => ?_)
  refine lv_iload hx hb dX12_four_122 (lv_at hl 0 rfl) ?_
  refine lv_if_eq (tgt := 144) hx hb dX12_four_124 (by decide) (fun c124 => ?_) (fun c124 => ?_)
  · have hw := hw.1 c124
    refine lv_iinc (v := x4 + 1) (lv' := [(4, .int (x4 + 1)), (5, .int t0), (0, .ref (h 0)), (1, .int x1), (2, .int x2), (3, .int x3)]) hx hb dX12_four_144 hl (k := 5) rfl rfl (by decide) rfl (fun ls hl => ?_)
    refine lv_goto (tgt := 37) hx hb dX12_four_147 (by decide) ?_
    exact k37 _ _ _ _ _ _ _ _ hw O (lv_sub hl [2, 3, 4, 5, 0] rfl)
  · have hw := hw.2 c124
    refine lv_iload_n hx hb dX12_four_127 rfl (lv_at hl 2 rfl) ?_
    refine lv_iload_n hx hb dX12_four_128 rfl (lv_at hl 3 rfl) ?_
    refine lv_iconst (v := 4) hx hb dX12_four_129 (by decide) ?_
    refine lv_ishl hx hb dX12_four_130 ?_
    refine lv_ior hx hb dX12_four_131 ?_
    refine lv_iload_n hx hb dX12_four_132 rfl (lv_at hl 4 rfl) ?_
    refine lv_bipush (v := 8) hx hb dX12_four_133 (by decide) ?_
    refine lv_ishl hx hb dX12_four_135 ?_
    refine lv_ior hx hb dX12_four_136 ?_
    refine lv_iload hx hb dX12_four_137 (lv_at hl 5 rfl) ?_
    refine lv_bipush (v := 12) hx hb dX12_four_139 (by decide) ?_
    refine lv_ishl hx hb dX12_four_141 ?_
    refine lv_ior hx hb dX12_four_142 ?_
    exact q_iret X O hw dX12_four_143
def wb_X12_four_119 (Post : Int32 → St → Prop) (K6 : Int32 → St → Prop) (K16 : Int32 → Int32 → St → Prop) (K26 : Int32 → Int32 → Int32 → St → Prop) (K37 : Int32 → Int32 → Int32 → Int32 → St → Prop) (x1 : Int32) (x2 : Int32) (x3 : Int32) (x4 : Int32) (u : St) : Prop := wb_X12_four_120 Post K6 K16 K26 K37 x1 x2 x3 x4 (0 : Int32) u
set_option maxHeartbeats 4000000 in
set_option maxRecDepth 100000 in
theorem tb_X12_four_119 (X : Cx p s m args meth c cX12_four 6 (some .int) RX12 D (tyM b) A) (hA : ∀ q, s.heap.size ≤ q → A q) {Post : Int32 → St → Prop} {K6 : Int32 → St → Prop} (k6 : ∀ (x1 : Int32) (u : St) (H : Heap) (locs : List Loc) (ls : Array Slot), K6 x1 u → wO D 21 (gM b h) h u A s.heap H locs → lv_has ls 6 [(0, .ref (h 0)), (1, .int x1)] → W p l e rm_X12_four s m args below meth c H locs 0 0 (MQ below (va_Qi Post (cB D (tyM b) 21 (gM b h) h A) A) args s 0 0 A) (F0 m 6 ls [])) {K16 : Int32 → Int32 → St → Prop} (k16 : ∀ (x1 : Int32) (x2 : Int32) (u : St) (H : Heap) (locs : List Loc) (ls : Array Slot), K16 x1 x2 u → wO D 21 (gM b h) h u A s.heap H locs → lv_has ls 6 [(0, .ref (h 0)), (1, .int x1), (2, .int x2)] → W p l e rm_X12_four s m args below meth c H locs 0 0 (MQ below (va_Qi Post (cB D (tyM b) 21 (gM b h) h A) A) args s 0 0 A) (F0 m 16 ls [])) {K26 : Int32 → Int32 → Int32 → St → Prop} (k26 : ∀ (x1 : Int32) (x2 : Int32) (x3 : Int32) (u : St) (H : Heap) (locs : List Loc) (ls : Array Slot), K26 x1 x2 x3 u → wO D 21 (gM b h) h u A s.heap H locs → lv_has ls 6 [(0, .ref (h 0)), (1, .int x1), (2, .int x2), (3, .int x3)] → W p l e rm_X12_four s m args below meth c H locs 0 0 (MQ below (va_Qi Post (cB D (tyM b) 21 (gM b h) h A) A) args s 0 0 A) (F0 m 26 ls [])) {K37 : Int32 → Int32 → Int32 → Int32 → St → Prop} (k37 : ∀ (x1 : Int32) (x2 : Int32) (x3 : Int32) (x4 : Int32) (u : St) (H : Heap) (locs : List Loc) (ls : Array Slot), K37 x1 x2 x3 x4 u → wO D 21 (gM b h) h u A s.heap H locs → lv_has ls 6 [(0, .ref (h 0)), (1, .int x1), (2, .int x2), (3, .int x3), (4, .int x4)] → W p l e rm_X12_four s m args below meth c H locs 0 0 (MQ below (va_Qi Post (cB D (tyM b) 21 (gM b h) h A) A) args s 0 0 A) (F0 m 37 ls [])) : ∀ (x1 : Int32) (x2 : Int32) (x3 : Int32) (x4 : Int32) (u : St) (H : Heap) (locs : List Loc) (ls : Array Slot), wb_X12_four_119 Post K6 K16 K26 K37 x1 x2 x3 x4 u → wO D 21 (gM b h) h u A s.heap H locs → lv_has ls 6 [(0, .ref (h 0)), (1, .int x1), (2, .int x2), (3, .int x3), (4, .int x4)] → W p l e rm_X12_four s m args below meth c H locs 0 0 (MQ below (va_Qi Post (cB D (tyM b) 21 (gM b h) h A) A) args s 0 0 A) (F0 m 119 ls []) := by
  obtain ⟨⟨hx, hb, hml, hown, hts⟩, hK, hNs, hlocks, hr⟩ := id X
  intro x1 x2 x3 x4 u H locs ls hw O hl
  unfold wb_X12_four_119 at hw
  refine lv_iconst (v := 0) hx hb dX12_four_119 (by decide) ?_
  exact tb_X12_four_120 X hA k6 k16 k26 k37 _ _ _ _ _ _ _ _ _ hw O (lv_sub hl [0, 1, 2, 3, 4] rfl)
def wb_X12_four_37 (Post : Int32 → St → Prop) (K6 : Int32 → St → Prop) (K16 : Int32 → Int32 → St → Prop) (K26 : Int32 → Int32 → Int32 → St → Prop) (K37 : Int32 → Int32 → Int32 → Int32 → St → Prop) (x1 : Int32) (x2 : Int32) (x3 : Int32) (x4 : Int32) (u : St) : Prop := (((u 0 0) ≤ x4) → (K26 x1 x2 (x3 + 1) u)) ∧ ((¬ (u 0 0) ≤ x4) → (vp_in x3 12 ∧ (wp_X12_has (u 5 (Int32.toNatClampNeg x3)) x1 u (fun r53 u53 => ((r53 = 0) → (wb_X12_four_119 Post K6 K16 K26 K37 x1 x2 x3 x4 u53)) ∧ ((¬ r53 = 0) → (vp_in x3 12 ∧ (wp_X12_has (u53 5 (Int32.toNatClampNeg x3)) x2 u53 (fun r66 u66 => ((r66 = 0) → (wb_X12_four_119 Post K6 K16 K26 K37 x1 x2 x3 x4 u66)) ∧ ((¬ r66 = 0) → (vp_in x4 12 ∧ (wp_X12_has (u66 5 (Int32.toNatClampNeg x4)) x2 u66 (fun r80 u80 => ((r80 = 0) → (wb_X12_four_119 Post K6 K16 K26 K37 x1 x2 x3 x4 u80)) ∧ ((¬ r80 = 0) → (wp_X12_apart x1 x2 u80 (fun r89 u89 => ((r89 = 0) → (wb_X12_four_119 Post K6 K16 K26 K37 x1 x2 x3 x4 u89)) ∧ ((¬ r89 = 0) → (wp_X12_apart x1 x4 u89 (fun r99 u99 => ((r99 = 0) → (wb_X12_four_119 Post K6 K16 K26 K37 x1 x2 x3 x4 u99)) ∧ ((¬ r99 = 0) → (wp_X12_apart x3 x4 u99 (fun r109 u109 => ((r109 = 0) → (wb_X12_four_119 Post K6 K16 K26 K37 x1 x2 x3 x4 u109)) ∧ ((¬ r109 = 0) → (wb_X12_four_120 Post K6 K16 K26 K37 x1 x2 x3 x4 (1 : Int32) u109)))))))))))))))))))))))
set_option maxHeartbeats 4000000 in
set_option maxRecDepth 100000 in
theorem tb_X12_four_37 (X : Cx p s m args meth c cX12_four 6 (some .int) RX12 D (tyM b) A) (hA : ∀ q, s.heap.size ≤ q → A q) {Post : Int32 → St → Prop} {K6 : Int32 → St → Prop} (k6 : ∀ (x1 : Int32) (u : St) (H : Heap) (locs : List Loc) (ls : Array Slot), K6 x1 u → wO D 21 (gM b h) h u A s.heap H locs → lv_has ls 6 [(0, .ref (h 0)), (1, .int x1)] → W p l e rm_X12_four s m args below meth c H locs 0 0 (MQ below (va_Qi Post (cB D (tyM b) 21 (gM b h) h A) A) args s 0 0 A) (F0 m 6 ls [])) {K16 : Int32 → Int32 → St → Prop} (k16 : ∀ (x1 : Int32) (x2 : Int32) (u : St) (H : Heap) (locs : List Loc) (ls : Array Slot), K16 x1 x2 u → wO D 21 (gM b h) h u A s.heap H locs → lv_has ls 6 [(0, .ref (h 0)), (1, .int x1), (2, .int x2)] → W p l e rm_X12_four s m args below meth c H locs 0 0 (MQ below (va_Qi Post (cB D (tyM b) 21 (gM b h) h A) A) args s 0 0 A) (F0 m 16 ls [])) {K26 : Int32 → Int32 → Int32 → St → Prop} (k26 : ∀ (x1 : Int32) (x2 : Int32) (x3 : Int32) (u : St) (H : Heap) (locs : List Loc) (ls : Array Slot), K26 x1 x2 x3 u → wO D 21 (gM b h) h u A s.heap H locs → lv_has ls 6 [(0, .ref (h 0)), (1, .int x1), (2, .int x2), (3, .int x3)] → W p l e rm_X12_four s m args below meth c H locs 0 0 (MQ below (va_Qi Post (cB D (tyM b) 21 (gM b h) h A) A) args s 0 0 A) (F0 m 26 ls [])) {K37 : Int32 → Int32 → Int32 → Int32 → St → Prop} (k37 : ∀ (x1 : Int32) (x2 : Int32) (x3 : Int32) (x4 : Int32) (u : St) (H : Heap) (locs : List Loc) (ls : Array Slot), K37 x1 x2 x3 x4 u → wO D 21 (gM b h) h u A s.heap H locs → lv_has ls 6 [(0, .ref (h 0)), (1, .int x1), (2, .int x2), (3, .int x3), (4, .int x4)] → W p l e rm_X12_four s m args below meth c H locs 0 0 (MQ below (va_Qi Post (cB D (tyM b) 21 (gM b h) h A) A) args s 0 0 A) (F0 m 37 ls [])) : ∀ (x1 : Int32) (x2 : Int32) (x3 : Int32) (x4 : Int32) (u : St) (H : Heap) (locs : List Loc) (ls : Array Slot), wb_X12_four_37 Post K6 K16 K26 K37 x1 x2 x3 x4 u → wO D 21 (gM b h) h u A s.heap H locs → lv_has ls 6 [(0, .ref (h 0)), (1, .int x1), (2, .int x2), (3, .int x3), (4, .int x4)] → W p l e rm_X12_four s m args below meth c H locs 0 0 (MQ below (va_Qi Post (cB D (tyM b) 21 (gM b h) h A) A) args s 0 0 A) (F0 m 37 ls []) := by
  obtain ⟨⟨hx, hb, hml, hown, hts⟩, hK, hNs, hlocks, hr⟩ := id X
  intro x1 x2 x3 x4 u H locs ls hw O hl
  unfold wb_X12_four_37 at hw
  refine lv_iload hx hb dX12_four_37 (lv_at hl 4 rfl) ?_
  refine lv_aload_n hx hb dX12_four_39 rfl (lv_at hl 0 rfl) ?_
  refine gt_X12_75 X O dX12_four_40 ?_
  refine lv_icmp_ge (tgt := 150) hx hb dX12_four_43 (by decide) (fun c43 => ?_) (fun c43 => ?_)
  · have hw := hw.1 c43
    refine lv_iinc (v := x3 + 1) (lv' := [(3, .int (x3 + 1)), (0, .ref (h 0)), (1, .int x1), (2, .int x2), (4, .int x4)]) hx hb dX12_four_150 hl (k := 3) rfl rfl (by decide) rfl (fun ls hl => ?_)
    refine lv_goto (tgt := 26) hx hb dX12_four_153 (by decide) ?_
    exact k26 _ _ _ _ _ _ _ hw O (lv_sub hl [1, 2, 3, 0] rfl)
  · have hw := hw.2 c43
    refine lv_aload_n hx hb dX12_four_46 rfl (lv_at hl 0 rfl) ?_
    refine gt_X12_22 X O dX12_four_47 ?_
    refine lv_iload_n hx hb dX12_four_50 rfl (lv_at hl 3 rfl) ?_
    obtain ⟨i51, hw⟩ := hw
    refine q_ild X O 5 0 (by decide) rfl rfl i51 dX12_four_51 ?_
    refine lv_iload_n hx hb dX12_four_52 rfl (lv_at hl 1 rfl) ?_
    refine q_cis (rest := []) X O hA (c_X12_has hw) lk_X12_82 rfl rfl rfl ⟨Nat.le_of_ble_eq_true rfl, Nat.le_of_ble_eq_true rfl⟩ (Nat.le_of_ble_eq_true rfl) hl.1 ⟨Nat.zero_le _, Nat.zero_le _⟩ rfl dX12_four_53 (fun r53 u53 H locs hw O => ?_)
    refine lv_if_eq (tgt := 119) hx hb dX12_four_56 (by decide) (fun c56 => ?_) (fun c56 => ?_)
    · have hw := hw.1 c56
      exact tb_X12_four_119 X hA k6 k16 k26 k37 _ _ _ _ _ _ _ _ hw O (lv_sub hl [0, 1, 2, 3, 4] rfl)
    · have hw := hw.2 c56
      refine lv_aload_n hx hb dX12_four_59 rfl (lv_at hl 0 rfl) ?_
      refine gt_X12_22 X O dX12_four_60 ?_
      refine lv_iload_n hx hb dX12_four_63 rfl (lv_at hl 3 rfl) ?_
      obtain ⟨i64, hw⟩ := hw
      refine q_ild X O 5 0 (by decide) rfl rfl i64 dX12_four_64 ?_
      refine lv_iload_n hx hb dX12_four_65 rfl (lv_at hl 2 rfl) ?_
      refine q_cis (rest := []) X O hA (c_X12_has hw) lk_X12_82 rfl rfl rfl ⟨Nat.le_of_ble_eq_true rfl, Nat.le_of_ble_eq_true rfl⟩ (Nat.le_of_ble_eq_true rfl) hl.1 ⟨Nat.zero_le _, Nat.zero_le _⟩ rfl dX12_four_66 (fun r66 u66 H locs hw O => ?_)
      refine lv_if_eq (tgt := 119) hx hb dX12_four_69 (by decide) (fun c69 => ?_) (fun c69 => ?_)
      · have hw := hw.1 c69
        exact tb_X12_four_119 X hA k6 k16 k26 k37 _ _ _ _ _ _ _ _ hw O (lv_sub hl [0, 1, 2, 3, 4] rfl)
      · have hw := hw.2 c69
        refine lv_aload_n hx hb dX12_four_72 rfl (lv_at hl 0 rfl) ?_
        refine gt_X12_22 X O dX12_four_73 ?_
        refine lv_iload hx hb dX12_four_76 (lv_at hl 4 rfl) ?_
        obtain ⟨i78, hw⟩ := hw
        refine q_ild X O 5 0 (by decide) rfl rfl i78 dX12_four_78 ?_
        refine lv_iload_n hx hb dX12_four_79 rfl (lv_at hl 2 rfl) ?_
        refine q_cis (rest := []) X O hA (c_X12_has hw) lk_X12_82 rfl rfl rfl ⟨Nat.le_of_ble_eq_true rfl, Nat.le_of_ble_eq_true rfl⟩ (Nat.le_of_ble_eq_true rfl) hl.1 ⟨Nat.zero_le _, Nat.zero_le _⟩ rfl dX12_four_80 (fun r80 u80 H locs hw O => ?_)
        refine lv_if_eq (tgt := 119) hx hb dX12_four_83 (by decide) (fun c83 => ?_) (fun c83 => ?_)
        · have hw := hw.1 c83
          exact tb_X12_four_119 X hA k6 k16 k26 k37 _ _ _ _ _ _ _ _ hw O (lv_sub hl [0, 1, 2, 3, 4] rfl)
        · have hw := hw.2 c83
          refine lv_aload_n hx hb dX12_four_86 rfl (lv_at hl 0 rfl) ?_
          refine lv_iload_n hx hb dX12_four_87 rfl (lv_at hl 1 rfl) ?_
          refine lv_iload_n hx hb dX12_four_88 rfl (lv_at hl 2 rfl) ?_
          refine q_civ (rest := []) X O hA 0 (c_X12_apart hw) lk_X12_191 (by decide) rfl rfl rfl rfl rfl rfl ⟨Nat.le_of_ble_eq_true rfl, Nat.le_of_ble_eq_true rfl⟩ (Nat.le_of_ble_eq_true rfl) hl.1 ⟨Nat.zero_le _, Nat.zero_le _⟩ rfl dX12_four_89 (fun r89 u89 H locs hw O => ?_)
          refine lv_if_eq (tgt := 119) hx hb dX12_four_92 (by decide) (fun c92 => ?_) (fun c92 => ?_)
          · have hw := hw.1 c92
            exact tb_X12_four_119 X hA k6 k16 k26 k37 _ _ _ _ _ _ _ _ hw O (lv_sub hl [0, 1, 2, 3, 4] rfl)
          · have hw := hw.2 c92
            refine lv_aload_n hx hb dX12_four_95 rfl (lv_at hl 0 rfl) ?_
            refine lv_iload_n hx hb dX12_four_96 rfl (lv_at hl 1 rfl) ?_
            refine lv_iload hx hb dX12_four_97 (lv_at hl 4 rfl) ?_
            refine q_civ (rest := []) X O hA 0 (c_X12_apart hw) lk_X12_191 (by decide) rfl rfl rfl rfl rfl rfl ⟨Nat.le_of_ble_eq_true rfl, Nat.le_of_ble_eq_true rfl⟩ (Nat.le_of_ble_eq_true rfl) hl.1 ⟨Nat.zero_le _, Nat.zero_le _⟩ rfl dX12_four_99 (fun r99 u99 H locs hw O => ?_)
            refine lv_if_eq (tgt := 119) hx hb dX12_four_102 (by decide) (fun c102 => ?_) (fun c102 => ?_)
            · have hw := hw.1 c102
              exact tb_X12_four_119 X hA k6 k16 k26 k37 _ _ _ _ _ _ _ _ hw O (lv_sub hl [0, 1, 2, 3, 4] rfl)
            · have hw := hw.2 c102
              refine lv_aload_n hx hb dX12_four_105 rfl (lv_at hl 0 rfl) ?_
              refine lv_iload_n hx hb dX12_four_106 rfl (lv_at hl 3 rfl) ?_
              refine lv_iload hx hb dX12_four_107 (lv_at hl 4 rfl) ?_
              refine q_civ (rest := []) X O hA 0 (c_X12_apart hw) lk_X12_191 (by decide) rfl rfl rfl rfl rfl rfl ⟨Nat.le_of_ble_eq_true rfl, Nat.le_of_ble_eq_true rfl⟩ (Nat.le_of_ble_eq_true rfl) hl.1 ⟨Nat.zero_le _, Nat.zero_le _⟩ rfl dX12_four_109 (fun r109 u109 H locs hw O => ?_)
              refine lv_if_eq (tgt := 119) hx hb dX12_four_112 (by decide) (fun c112 => ?_) (fun c112 => ?_)
              · have hw := hw.1 c112
                exact tb_X12_four_119 X hA k6 k16 k26 k37 _ _ _ _ _ _ _ _ hw O (lv_sub hl [0, 1, 2, 3, 4] rfl)
              · have hw := hw.2 c112
                refine lv_iconst (v := 1) hx hb dX12_four_115 (by decide) ?_
                refine lv_goto (tgt := 120) hx hb dX12_four_116 (by decide) ?_
                exact tb_X12_four_120 X hA k6 k16 k26 k37 _ _ _ _ _ _ _ _ _ hw O (lv_sub hl [0, 1, 2, 3, 4] rfl)
def wl_X12_four_37 (Post : Int32 → St → Prop) (K6 : Int32 → St → Prop) (K16 : Int32 → Int32 → St → Prop) (K26 : Int32 → Int32 → Int32 → St → Prop) : Nat → Int32 → Int32 → Int32 → Int32 → St → Prop
  | 0 => fun _ _ _ _ _ => False
  | n + 1 => fun x1 x2 x3 x4 u => wb_X12_four_37 Post K6 K16 K26 (wl_X12_four_37 Post K6 K16 K26 n) x1 x2 x3 x4 u
set_option maxHeartbeats 4000000 in
set_option maxRecDepth 100000 in
theorem tl_X12_four_37 (X : Cx p s m args meth c cX12_four 6 (some .int) RX12 D (tyM b) A) (hA : ∀ q, s.heap.size ≤ q → A q) {Post : Int32 → St → Prop} {K6 : Int32 → St → Prop} (k6 : ∀ (x1 : Int32) (u : St) (H : Heap) (locs : List Loc) (ls : Array Slot), K6 x1 u → wO D 21 (gM b h) h u A s.heap H locs → lv_has ls 6 [(0, .ref (h 0)), (1, .int x1)] → W p l e rm_X12_four s m args below meth c H locs 0 0 (MQ below (va_Qi Post (cB D (tyM b) 21 (gM b h) h A) A) args s 0 0 A) (F0 m 6 ls [])) {K16 : Int32 → Int32 → St → Prop} (k16 : ∀ (x1 : Int32) (x2 : Int32) (u : St) (H : Heap) (locs : List Loc) (ls : Array Slot), K16 x1 x2 u → wO D 21 (gM b h) h u A s.heap H locs → lv_has ls 6 [(0, .ref (h 0)), (1, .int x1), (2, .int x2)] → W p l e rm_X12_four s m args below meth c H locs 0 0 (MQ below (va_Qi Post (cB D (tyM b) 21 (gM b h) h A) A) args s 0 0 A) (F0 m 16 ls [])) {K26 : Int32 → Int32 → Int32 → St → Prop} (k26 : ∀ (x1 : Int32) (x2 : Int32) (x3 : Int32) (u : St) (H : Heap) (locs : List Loc) (ls : Array Slot), K26 x1 x2 x3 u → wO D 21 (gM b h) h u A s.heap H locs → lv_has ls 6 [(0, .ref (h 0)), (1, .int x1), (2, .int x2), (3, .int x3)] → W p l e rm_X12_four s m args below meth c H locs 0 0 (MQ below (va_Qi Post (cB D (tyM b) 21 (gM b h) h A) A) args s 0 0 A) (F0 m 26 ls [])) : ∀ n : Nat, ∀ (x1 : Int32) (x2 : Int32) (x3 : Int32) (x4 : Int32) (u : St) (H : Heap) (locs : List Loc) (ls : Array Slot), (wl_X12_four_37 Post K6 K16 K26 n) x1 x2 x3 x4 u → wO D 21 (gM b h) h u A s.heap H locs → lv_has ls 6 [(0, .ref (h 0)), (1, .int x1), (2, .int x2), (3, .int x3), (4, .int x4)] → W p l e rm_X12_four s m args below meth c H locs 0 0 (MQ below (va_Qi Post (cB D (tyM b) 21 (gM b h) h A) A) args s 0 0 A) (F0 m 37 ls []) := by
  intro n
  induction n with
  | zero => intro x1 x2 x3 x4 u H locs ls hw; exact False.elim hw
  | succ n ih => intro x1 x2 x3 x4 u H locs ls hw O hl; exact tb_X12_four_37 X hA k6 k16 k26 ih x1 x2 x3 x4 u H locs ls hw O hl
def wb_X12_four_26 (Post : Int32 → St → Prop) (K6 : Int32 → St → Prop) (K16 : Int32 → Int32 → St → Prop) (K26 : Int32 → Int32 → Int32 → St → Prop) (x1 : Int32) (x2 : Int32) (x3 : Int32) (u : St) : Prop := (((u 0 0) ≤ x3) → (K16 x1 (x2 + 1) u)) ∧ ((¬ (u 0 0) ≤ x3) → (∃ n : Nat, wl_X12_four_37 Post K6 K16 K26 n x1 x2 x3 (0 : Int32) u))
set_option maxHeartbeats 4000000 in
set_option maxRecDepth 100000 in
theorem tb_X12_four_26 (X : Cx p s m args meth c cX12_four 6 (some .int) RX12 D (tyM b) A) (hA : ∀ q, s.heap.size ≤ q → A q) {Post : Int32 → St → Prop} {K6 : Int32 → St → Prop} (k6 : ∀ (x1 : Int32) (u : St) (H : Heap) (locs : List Loc) (ls : Array Slot), K6 x1 u → wO D 21 (gM b h) h u A s.heap H locs → lv_has ls 6 [(0, .ref (h 0)), (1, .int x1)] → W p l e rm_X12_four s m args below meth c H locs 0 0 (MQ below (va_Qi Post (cB D (tyM b) 21 (gM b h) h A) A) args s 0 0 A) (F0 m 6 ls [])) {K16 : Int32 → Int32 → St → Prop} (k16 : ∀ (x1 : Int32) (x2 : Int32) (u : St) (H : Heap) (locs : List Loc) (ls : Array Slot), K16 x1 x2 u → wO D 21 (gM b h) h u A s.heap H locs → lv_has ls 6 [(0, .ref (h 0)), (1, .int x1), (2, .int x2)] → W p l e rm_X12_four s m args below meth c H locs 0 0 (MQ below (va_Qi Post (cB D (tyM b) 21 (gM b h) h A) A) args s 0 0 A) (F0 m 16 ls [])) {K26 : Int32 → Int32 → Int32 → St → Prop} (k26 : ∀ (x1 : Int32) (x2 : Int32) (x3 : Int32) (u : St) (H : Heap) (locs : List Loc) (ls : Array Slot), K26 x1 x2 x3 u → wO D 21 (gM b h) h u A s.heap H locs → lv_has ls 6 [(0, .ref (h 0)), (1, .int x1), (2, .int x2), (3, .int x3)] → W p l e rm_X12_four s m args below meth c H locs 0 0 (MQ below (va_Qi Post (cB D (tyM b) 21 (gM b h) h A) A) args s 0 0 A) (F0 m 26 ls [])) : ∀ (x1 : Int32) (x2 : Int32) (x3 : Int32) (u : St) (H : Heap) (locs : List Loc) (ls : Array Slot), wb_X12_four_26 Post K6 K16 K26 x1 x2 x3 u → wO D 21 (gM b h) h u A s.heap H locs → lv_has ls 6 [(0, .ref (h 0)), (1, .int x1), (2, .int x2), (3, .int x3)] → W p l e rm_X12_four s m args below meth c H locs 0 0 (MQ below (va_Qi Post (cB D (tyM b) 21 (gM b h) h A) A) args s 0 0 A) (F0 m 26 ls []) := by
  obtain ⟨⟨hx, hb, hml, hown, hts⟩, hK, hNs, hlocks, hr⟩ := id X
  intro x1 x2 x3 u H locs ls hw O hl
  unfold wb_X12_four_26 at hw
  refine lv_iload_n hx hb dX12_four_26 rfl (lv_at hl 3 rfl) ?_
  refine lv_aload_n hx hb dX12_four_27 rfl (lv_at hl 0 rfl) ?_
  refine gt_X12_75 X O dX12_four_28 ?_
  refine lv_icmp_ge (tgt := 156) hx hb dX12_four_31 (by decide) (fun c31 => ?_) (fun c31 => ?_)
  · have hw := hw.1 c31
    refine lv_iinc (v := x2 + 1) (lv' := [(2, .int (x2 + 1)), (0, .ref (h 0)), (1, .int x1), (3, .int x3)]) hx hb dX12_four_156 hl (k := 2) rfl rfl (by decide) rfl (fun ls hl => ?_)
    refine lv_goto (tgt := 16) hx hb dX12_four_159 (by decide) ?_
    exact k16 _ _ _ _ _ _ hw O (lv_sub hl [1, 2, 0] rfl)
  · have hw := hw.2 c31
    refine lv_iconst (v := 0) hx hb dX12_four_34 (by decide) ?_
    refine lv_istore (lv' := [(4, .int (0 : Int32)), (0, .ref (h 0)), (1, .int x1), (2, .int x2), (3, .int x3)]) hx hb dX12_four_35 hl (by decide) rfl (fun ls hl => ?_)
    obtain ⟨n, hw⟩ := hw
    exact tl_X12_four_37 X hA k6 k16 k26 n _ _ _ _ _ _ _ _ hw O (lv_sub hl [1, 2, 3, 4, 0] rfl)
def wl_X12_four_26 (Post : Int32 → St → Prop) (K6 : Int32 → St → Prop) (K16 : Int32 → Int32 → St → Prop) : Nat → Int32 → Int32 → Int32 → St → Prop
  | 0 => fun _ _ _ _ => False
  | n + 1 => fun x1 x2 x3 u => wb_X12_four_26 Post K6 K16 (wl_X12_four_26 Post K6 K16 n) x1 x2 x3 u
set_option maxHeartbeats 4000000 in
set_option maxRecDepth 100000 in
theorem tl_X12_four_26 (X : Cx p s m args meth c cX12_four 6 (some .int) RX12 D (tyM b) A) (hA : ∀ q, s.heap.size ≤ q → A q) {Post : Int32 → St → Prop} {K6 : Int32 → St → Prop} (k6 : ∀ (x1 : Int32) (u : St) (H : Heap) (locs : List Loc) (ls : Array Slot), K6 x1 u → wO D 21 (gM b h) h u A s.heap H locs → lv_has ls 6 [(0, .ref (h 0)), (1, .int x1)] → W p l e rm_X12_four s m args below meth c H locs 0 0 (MQ below (va_Qi Post (cB D (tyM b) 21 (gM b h) h A) A) args s 0 0 A) (F0 m 6 ls [])) {K16 : Int32 → Int32 → St → Prop} (k16 : ∀ (x1 : Int32) (x2 : Int32) (u : St) (H : Heap) (locs : List Loc) (ls : Array Slot), K16 x1 x2 u → wO D 21 (gM b h) h u A s.heap H locs → lv_has ls 6 [(0, .ref (h 0)), (1, .int x1), (2, .int x2)] → W p l e rm_X12_four s m args below meth c H locs 0 0 (MQ below (va_Qi Post (cB D (tyM b) 21 (gM b h) h A) A) args s 0 0 A) (F0 m 16 ls [])) : ∀ n : Nat, ∀ (x1 : Int32) (x2 : Int32) (x3 : Int32) (u : St) (H : Heap) (locs : List Loc) (ls : Array Slot), (wl_X12_four_26 Post K6 K16 n) x1 x2 x3 u → wO D 21 (gM b h) h u A s.heap H locs → lv_has ls 6 [(0, .ref (h 0)), (1, .int x1), (2, .int x2), (3, .int x3)] → W p l e rm_X12_four s m args below meth c H locs 0 0 (MQ below (va_Qi Post (cB D (tyM b) 21 (gM b h) h A) A) args s 0 0 A) (F0 m 26 ls []) := by
  intro n
  induction n with
  | zero => intro x1 x2 x3 u H locs ls hw; exact False.elim hw
  | succ n ih => intro x1 x2 x3 u H locs ls hw O hl; exact tb_X12_four_26 X hA k6 k16 ih x1 x2 x3 u H locs ls hw O hl
def wb_X12_four_16 (Post : Int32 → St → Prop) (K6 : Int32 → St → Prop) (K16 : Int32 → Int32 → St → Prop) (x1 : Int32) (x2 : Int32) (u : St) : Prop := (((u 0 0) ≤ x2) → (K6 (x1 + 1) u)) ∧ ((¬ (u 0 0) ≤ x2) → (∃ n : Nat, wl_X12_four_26 Post K6 K16 n x1 x2 (0 : Int32) u))
set_option maxHeartbeats 4000000 in
set_option maxRecDepth 100000 in
theorem tb_X12_four_16 (X : Cx p s m args meth c cX12_four 6 (some .int) RX12 D (tyM b) A) (hA : ∀ q, s.heap.size ≤ q → A q) {Post : Int32 → St → Prop} {K6 : Int32 → St → Prop} (k6 : ∀ (x1 : Int32) (u : St) (H : Heap) (locs : List Loc) (ls : Array Slot), K6 x1 u → wO D 21 (gM b h) h u A s.heap H locs → lv_has ls 6 [(0, .ref (h 0)), (1, .int x1)] → W p l e rm_X12_four s m args below meth c H locs 0 0 (MQ below (va_Qi Post (cB D (tyM b) 21 (gM b h) h A) A) args s 0 0 A) (F0 m 6 ls [])) {K16 : Int32 → Int32 → St → Prop} (k16 : ∀ (x1 : Int32) (x2 : Int32) (u : St) (H : Heap) (locs : List Loc) (ls : Array Slot), K16 x1 x2 u → wO D 21 (gM b h) h u A s.heap H locs → lv_has ls 6 [(0, .ref (h 0)), (1, .int x1), (2, .int x2)] → W p l e rm_X12_four s m args below meth c H locs 0 0 (MQ below (va_Qi Post (cB D (tyM b) 21 (gM b h) h A) A) args s 0 0 A) (F0 m 16 ls [])) : ∀ (x1 : Int32) (x2 : Int32) (u : St) (H : Heap) (locs : List Loc) (ls : Array Slot), wb_X12_four_16 Post K6 K16 x1 x2 u → wO D 21 (gM b h) h u A s.heap H locs → lv_has ls 6 [(0, .ref (h 0)), (1, .int x1), (2, .int x2)] → W p l e rm_X12_four s m args below meth c H locs 0 0 (MQ below (va_Qi Post (cB D (tyM b) 21 (gM b h) h A) A) args s 0 0 A) (F0 m 16 ls []) := by
  obtain ⟨⟨hx, hb, hml, hown, hts⟩, hK, hNs, hlocks, hr⟩ := id X
  intro x1 x2 u H locs ls hw O hl
  unfold wb_X12_four_16 at hw
  refine lv_iload_n hx hb dX12_four_16 rfl (lv_at hl 2 rfl) ?_
  refine lv_aload_n hx hb dX12_four_17 rfl (lv_at hl 0 rfl) ?_
  refine gt_X12_75 X O dX12_four_18 ?_
  refine lv_icmp_ge (tgt := 162) hx hb dX12_four_21 (by decide) (fun c21 => ?_) (fun c21 => ?_)
  · have hw := hw.1 c21
    refine lv_iinc (v := x1 + 1) (lv' := [(1, .int (x1 + 1)), (0, .ref (h 0)), (2, .int x2)]) hx hb dX12_four_162 hl (k := 1) rfl rfl (by decide) rfl (fun ls hl => ?_)
    refine lv_goto (tgt := 6) hx hb dX12_four_165 (by decide) ?_
    exact k6 _ _ _ _ _ hw O (lv_sub hl [1, 0] rfl)
  · have hw := hw.2 c21
    refine lv_iconst (v := 0) hx hb dX12_four_24 (by decide) ?_
    refine lv_istore_n (lv' := [(3, .int (0 : Int32)), (0, .ref (h 0)), (1, .int x1), (2, .int x2)]) hx hb dX12_four_25 rfl hl (by decide) rfl (fun ls hl => ?_)
    obtain ⟨n, hw⟩ := hw
    exact tl_X12_four_26 X hA k6 k16 n _ _ _ _ _ _ _ hw O (lv_sub hl [1, 2, 3, 0] rfl)
def wl_X12_four_16 (Post : Int32 → St → Prop) (K6 : Int32 → St → Prop) : Nat → Int32 → Int32 → St → Prop
  | 0 => fun _ _ _ => False
  | n + 1 => fun x1 x2 u => wb_X12_four_16 Post K6 (wl_X12_four_16 Post K6 n) x1 x2 u
set_option maxHeartbeats 4000000 in
set_option maxRecDepth 100000 in
theorem tl_X12_four_16 (X : Cx p s m args meth c cX12_four 6 (some .int) RX12 D (tyM b) A) (hA : ∀ q, s.heap.size ≤ q → A q) {Post : Int32 → St → Prop} {K6 : Int32 → St → Prop} (k6 : ∀ (x1 : Int32) (u : St) (H : Heap) (locs : List Loc) (ls : Array Slot), K6 x1 u → wO D 21 (gM b h) h u A s.heap H locs → lv_has ls 6 [(0, .ref (h 0)), (1, .int x1)] → W p l e rm_X12_four s m args below meth c H locs 0 0 (MQ below (va_Qi Post (cB D (tyM b) 21 (gM b h) h A) A) args s 0 0 A) (F0 m 6 ls [])) : ∀ n : Nat, ∀ (x1 : Int32) (x2 : Int32) (u : St) (H : Heap) (locs : List Loc) (ls : Array Slot), (wl_X12_four_16 Post K6 n) x1 x2 u → wO D 21 (gM b h) h u A s.heap H locs → lv_has ls 6 [(0, .ref (h 0)), (1, .int x1), (2, .int x2)] → W p l e rm_X12_four s m args below meth c H locs 0 0 (MQ below (va_Qi Post (cB D (tyM b) 21 (gM b h) h A) A) args s 0 0 A) (F0 m 16 ls []) := by
  intro n
  induction n with
  | zero => intro x1 x2 u H locs ls hw; exact False.elim hw
  | succ n ih => intro x1 x2 u H locs ls hw O hl; exact tb_X12_four_16 X hA k6 ih x1 x2 u H locs ls hw O hl
def wb_X12_four_6 (Post : Int32 → St → Prop) (K6 : Int32 → St → Prop) (x1 : Int32) (u : St) : Prop := (((u 0 0) ≤ x1) → (Post (-1 : Int32) u)) ∧ ((¬ (u 0 0) ≤ x1) → (∃ n : Nat, wl_X12_four_16 Post K6 n x1 (0 : Int32) u))
set_option maxHeartbeats 4000000 in
set_option maxRecDepth 100000 in
theorem tb_X12_four_6 (X : Cx p s m args meth c cX12_four 6 (some .int) RX12 D (tyM b) A) (hA : ∀ q, s.heap.size ≤ q → A q) {Post : Int32 → St → Prop} {K6 : Int32 → St → Prop} (k6 : ∀ (x1 : Int32) (u : St) (H : Heap) (locs : List Loc) (ls : Array Slot), K6 x1 u → wO D 21 (gM b h) h u A s.heap H locs → lv_has ls 6 [(0, .ref (h 0)), (1, .int x1)] → W p l e rm_X12_four s m args below meth c H locs 0 0 (MQ below (va_Qi Post (cB D (tyM b) 21 (gM b h) h A) A) args s 0 0 A) (F0 m 6 ls [])) : ∀ (x1 : Int32) (u : St) (H : Heap) (locs : List Loc) (ls : Array Slot), wb_X12_four_6 Post K6 x1 u → wO D 21 (gM b h) h u A s.heap H locs → lv_has ls 6 [(0, .ref (h 0)), (1, .int x1)] → W p l e rm_X12_four s m args below meth c H locs 0 0 (MQ below (va_Qi Post (cB D (tyM b) 21 (gM b h) h A) A) args s 0 0 A) (F0 m 6 ls []) := by
  obtain ⟨⟨hx, hb, hml, hown, hts⟩, hK, hNs, hlocks, hr⟩ := id X
  intro x1 u H locs ls hw O hl
  unfold wb_X12_four_6 at hw
  refine lv_iload_n hx hb dX12_four_6 rfl (lv_at hl 1 rfl) ?_
  refine lv_aload_n hx hb dX12_four_7 rfl (lv_at hl 0 rfl) ?_
  refine gt_X12_75 X O dX12_four_8 ?_
  refine lv_icmp_ge (tgt := 168) hx hb dX12_four_11 (by decide) (fun c11 => ?_) (fun c11 => ?_)
  · have hw := hw.1 c11
    refine lv_iconst (v := -1) hx hb dX12_four_168 (by decide) ?_
    exact q_iret X O hw dX12_four_169
  · have hw := hw.2 c11
    refine lv_iconst (v := 0) hx hb dX12_four_14 (by decide) ?_
    refine lv_istore_n (lv' := [(2, .int (0 : Int32)), (0, .ref (h 0)), (1, .int x1)]) hx hb dX12_four_15 rfl hl (by decide) rfl (fun ls hl => ?_)
    obtain ⟨n, hw⟩ := hw
    exact tl_X12_four_16 X hA k6 n _ _ _ _ _ _ hw O (lv_sub hl [1, 2, 0] rfl)
def wl_X12_four_6 (Post : Int32 → St → Prop) : Nat → Int32 → St → Prop
  | 0 => fun _ _ => False
  | n + 1 => fun x1 u => wb_X12_four_6 Post (wl_X12_four_6 Post n) x1 u
set_option maxHeartbeats 4000000 in
set_option maxRecDepth 100000 in
theorem tl_X12_four_6 (X : Cx p s m args meth c cX12_four 6 (some .int) RX12 D (tyM b) A) (hA : ∀ q, s.heap.size ≤ q → A q) {Post : Int32 → St → Prop} : ∀ n : Nat, ∀ (x1 : Int32) (u : St) (H : Heap) (locs : List Loc) (ls : Array Slot), (wl_X12_four_6 Post n) x1 u → wO D 21 (gM b h) h u A s.heap H locs → lv_has ls 6 [(0, .ref (h 0)), (1, .int x1)] → W p l e rm_X12_four s m args below meth c H locs 0 0 (MQ below (va_Qi Post (cB D (tyM b) 21 (gM b h) h A) A) args s 0 0 A) (F0 m 6 ls []) := by
  intro n
  induction n with
  | zero => intro x1 u H locs ls hw; exact False.elim hw
  | succ n ih => intro x1 u H locs ls hw O hl; exact tb_X12_four_6 X hA ih x1 u H locs ls hw O hl
def wp_X12_four (u : St) (Post : Int32 → St → Prop) : Prop := wp_X12_close u (fun _ u1 => ∃ n : Nat, wl_X12_four_6 Post n (0 : Int32) u1)
set_option maxHeartbeats 4000000 in
set_option maxRecDepth 100000 in
theorem c_X12_four {l : Launch} {D : va_G} {b : Nat → ClassId} {h : Nat → Nat} {u : St} {Post : Int32 → St → Prop} (hw : wp_X12_four u Post) : CtI l yX12_four cX12_four 6 (some .int) rm_X12_four D (tyM b) 21 (gM b h) h [.ref (h 0)] u Post := by
  refine CtI.of (plainFor_of_name (by decide)) (Nat.le_of_ble_eq_true rfl) ?_
  intro p e s m below meth c A ls X hA O hl
  have X : Cx p s m _ meth c cX12_four 6 (some .int) RX12 D (tyM b) A := X
  obtain ⟨⟨hx, hb, hml, hown, hts⟩, hK, hNs, hlocks, hr⟩ := id X
  have hl : lv_has ls 6 [(0, .ref (h 0))] := hl
  unfold wp_X12_four at hw
  refine lv_aload_n hx hb dX12_four_0 rfl (lv_at hl 0 rfl) ?_
  refine q_cvv (rest := []) X O hA 0 (c_X12_close hw) lk_X12_110 (by decide) rfl rfl rfl rfl rfl rfl ⟨Nat.le_of_ble_eq_true rfl, Nat.le_of_ble_eq_true rfl⟩ (Nat.le_of_ble_eq_true rfl) hl.1 ⟨Nat.zero_le _, Nat.zero_le _⟩ rfl dX12_four_1 (fun u1 H locs hw O => ?_)
  refine lv_iconst (v := 0) hx hb dX12_four_4 (by decide) ?_
  refine lv_istore_n (lv' := [(1, .int (0 : Int32)), (0, .ref (h 0))]) hx hb dX12_four_5 rfl hl (by decide) rfl (fun ls hl => ?_)
  obtain ⟨n, hw⟩ := hw
  exact tl_X12_four_6 X hA n _ _ _ _ _ hw O (lv_sub hl [1, 0] rfl)
-- FellersOrderModel.series()I
abbrev rm_X12_series : Room := { frames := 3, cells := 0, slots := 0, locals := 68 }
def wp_X12_series (u : St) (Post : Int32 → St → Prop) : Prop := wp_X12_four u (fun r1 u1 => ((¬ r1 = (-1 : Int32)) → (Post (0 : Int32) u1)) ∧ ((r1 = (-1 : Int32)) → (Post (1 : Int32) u1)))
set_option maxHeartbeats 4000000 in
set_option maxRecDepth 100000 in
theorem c_X12_series {l : Launch} {D : va_G} {b : Nat → ClassId} {h : Nat → Nat} {u : St} {Post : Int32 → St → Prop} (hw : wp_X12_series u Post) : CtI l yX12_series cX12_series 1 (some .int) rm_X12_series D (tyM b) 21 (gM b h) h [.ref (h 0)] u Post := by
  refine CtI.of (plainFor_of_name (by decide)) (Nat.le_of_ble_eq_true rfl) ?_
  intro p e s m below meth c A ls X hA O hl
  have X : Cx p s m _ meth c cX12_series 1 (some .int) RX12 D (tyM b) A := X
  obtain ⟨⟨hx, hb, hml, hown, hts⟩, hK, hNs, hlocks, hr⟩ := id X
  have hl : lv_has ls 1 [(0, .ref (h 0))] := hl
  unfold wp_X12_series at hw
  refine lv_aload_n hx hb dX12_series_0 rfl (lv_at hl 0 rfl) ?_
  refine q_civ (rest := []) X O hA 0 (c_X12_four hw) lk_X12_194 (by decide) rfl rfl rfl rfl rfl rfl ⟨Nat.le_of_ble_eq_true rfl, Nat.le_of_ble_eq_true rfl⟩ (Nat.le_of_ble_eq_true rfl) hl.1 ⟨Nat.zero_le _, Nat.zero_le _⟩ rfl dX12_series_1 (fun r1 u1 H locs hw O => ?_)
  refine lv_iconst (v := -1) hx hb dX12_series_4 (by decide) ?_
  refine lv_icmp_ne (tgt := 12) hx hb dX12_series_5 (by decide) (fun c5 => ?_) (fun c5 => ?_)
  · have hw := hw.1 c5
    refine lv_iconst (v := 0) hx hb dX12_series_12 (by decide) ?_
    exact q_iret X O hw dX12_series_13
  · have hw := hw.2 c5
    refine lv_iconst (v := 1) hx hb dX12_series_8 (by decide) ?_
    refine lv_goto (tgt := 13) hx hb dX12_series_9 (by decide) ?_
    exact q_iret X O hw dX12_series_13
-- FellersOrderModel.shows(I)I
abbrev rm_X12_shows : Room := { frames := 3, cells := 0, slots := 0, locals := 68 }
def wp_X12_shows (a1 : Int32) (u : St) (Post : Int32 → St → Prop) : Prop := wp_X12_four u (fun r1 u1 => ((r1 = (-1 : Int32)) → (Post (-1 : Int32) u1)) ∧ ((¬ r1 = (-1 : Int32)) → (wp_X12_in a1 (0 : Int32) (3 : Int32) u1 (fun r13 u13 => ((¬ r13 = 0) → (Post ((r1 >>> (((4 : Int32) * a1) &&& 31)) &&& (15 : Int32)) u13)) ∧ ((r13 = 0) → (Post (-1 : Int32) u13))))))
set_option maxHeartbeats 4000000 in
set_option maxRecDepth 100000 in
theorem c_X12_shows {a1 : Int32} {l : Launch} {D : va_G} {b : Nat → ClassId} {h : Nat → Nat} {u : St} {Post : Int32 → St → Prop} (hw : wp_X12_shows a1 u Post) : CtI l yX12_shows cX12_shows 3 (some .int) rm_X12_shows D (tyM b) 21 (gM b h) h [.ref (h 0), .int a1] u Post := by
  refine CtI.of (plainFor_of_name (by decide)) (Nat.le_of_ble_eq_true rfl) ?_
  intro p e s m below meth c A ls X hA O hl
  have X : Cx p s m _ meth c cX12_shows 3 (some .int) RX12 D (tyM b) A := X
  obtain ⟨⟨hx, hb, hml, hown, hts⟩, hK, hNs, hlocks, hr⟩ := id X
  have hl : lv_has ls 3 [(0, .ref (h 0)), (1, .int a1)] := hl
  unfold wp_X12_shows at hw
  refine lv_aload_n hx hb dX12_shows_0 rfl (lv_at hl 0 rfl) ?_
  refine q_civ (rest := []) X O hA 0 (c_X12_four hw) lk_X12_194 (by decide) rfl rfl rfl rfl rfl rfl ⟨Nat.le_of_ble_eq_true rfl, Nat.le_of_ble_eq_true rfl⟩ (Nat.le_of_ble_eq_true rfl) hl.1 ⟨Nat.zero_le _, Nat.zero_le _⟩ rfl dX12_shows_1 (fun r1 u1 H locs hw O => ?_)
  refine lv_istore_n (lv' := [(2, .int r1), (0, .ref (h 0)), (1, .int a1)]) hx hb dX12_shows_4 rfl hl (by decide) rfl (fun ls hl => ?_)
  refine lv_iload_n hx hb dX12_shows_5 rfl (lv_at hl 0 rfl) ?_
  refine lv_iconst (v := -1) hx hb dX12_shows_6 (by decide) ?_
  refine lv_icmp_eq (tgt := 19) hx hb dX12_shows_7 (by decide) (fun c7 => ?_) (fun c7 => ?_)
  · have hw := hw.1 c7
    refine lv_iconst (v := -1) hx hb dX12_shows_19 (by decide) ?_
    refine lv_goto (tgt := 31) hx hb dX12_shows_20 (by decide) ?_
    exact q_iret X O hw dX12_shows_31
  · have hw := hw.2 c7
    refine lv_iload_n hx hb dX12_shows_10 rfl (lv_at hl 2 rfl) ?_
    refine lv_iconst (v := 0) hx hb dX12_shows_11 (by decide) ?_
    refine lv_iconst (v := 3) hx hb dX12_shows_12 (by decide) ?_
    refine q_cis (rest := []) X O hA (c_X12_in hw) lk_X12_78 rfl rfl rfl ⟨Nat.le_of_ble_eq_true rfl, Nat.le_of_ble_eq_true rfl⟩ (Nat.le_of_ble_eq_true rfl) hl.1 ⟨Nat.zero_le _, Nat.zero_le _⟩ rfl dX12_shows_13 (fun r13 u13 H locs hw O => ?_)
    refine lv_if_ne (tgt := 23) hx hb dX12_shows_16 (by decide) (fun c16 => ?_) (fun c16 => ?_)
    · have hw := hw.1 c16
      refine lv_iload_n hx hb dX12_shows_23 rfl (lv_at hl 0 rfl) ?_
      refine lv_iconst (v := 4) hx hb dX12_shows_24 (by decide) ?_
      refine lv_iload_n hx hb dX12_shows_25 rfl (lv_at hl 2 rfl) ?_
      refine lv_imul hx hb dX12_shows_26 ?_
      refine lv_ishr hx hb dX12_shows_27 ?_
      refine lv_bipush (v := 15) hx hb dX12_shows_28 (by decide) ?_
      refine lv_iand hx hb dX12_shows_30 ?_
      exact q_iret X O hw dX12_shows_31
    · have hw := hw.2 c16
      refine lv_iconst (v := -1) hx hb dX12_shows_19 (by decide) ?_
      refine lv_goto (tgt := 31) hx hb dX12_shows_20 (by decide) ?_
      exact q_iret X O hw dX12_shows_31
-- FellersOrderModel.turned()I
abbrev rm_X12_turned : Room := { frames := 3, cells := 0, slots := 0, locals := 66 }
def wb_X12_turned_2 (Post : Int32 → St → Prop) (K2 : Int32 → St → Prop) (x1 : Int32) (u : St) : Prop := (((u 0 0) ≤ x1) → (wp_X12_yard (1 : Int32) u (fun _ u29 => wp_X12_layAll u29 (fun _ u33 => wp_X12_all u33 (fun r41 u41 => vp_in r41 4096 ∧ (Post (u41 14 (Int32.toNatClampNeg r41)) u41)))))) ∧ ((¬ (u 0 0) ≤ x1) → (vp_in x1 12 ∧ (((¬ (u 2 (Int32.toNatClampNeg x1)) = 0) → (K2 (x1 + 1) u)) ∧ (((u 2 (Int32.toNatClampNeg x1)) = 0) → (Post (-1 : Int32) u)))))
set_option maxHeartbeats 4000000 in
set_option maxRecDepth 100000 in
theorem tb_X12_turned_2 (X : Cx p s m args meth c cX12_turned 2 (some .int) RX12 D (tyM b) A) (hA : ∀ q, s.heap.size ≤ q → A q) {Post : Int32 → St → Prop} {K2 : Int32 → St → Prop} (k2 : ∀ (x1 : Int32) (u : St) (H : Heap) (locs : List Loc) (ls : Array Slot), K2 x1 u → wO D 21 (gM b h) h u A s.heap H locs → lv_has ls 2 [(0, .ref (h 0)), (1, .int x1)] → W p l e rm_X12_turned s m args below meth c H locs 0 0 (MQ below (va_Qi Post (cB D (tyM b) 21 (gM b h) h A) A) args s 0 0 A) (F0 m 2 ls [])) : ∀ (x1 : Int32) (u : St) (H : Heap) (locs : List Loc) (ls : Array Slot), wb_X12_turned_2 Post K2 x1 u → wO D 21 (gM b h) h u A s.heap H locs → lv_has ls 2 [(0, .ref (h 0)), (1, .int x1)] → W p l e rm_X12_turned s m args below meth c H locs 0 0 (MQ below (va_Qi Post (cB D (tyM b) 21 (gM b h) h A) A) args s 0 0 A) (F0 m 2 ls []) := by
  obtain ⟨⟨hx, hb, hml, hown, hts⟩, hK, hNs, hlocks, hr⟩ := id X
  intro x1 u H locs ls hw O hl
  unfold wb_X12_turned_2 at hw
  refine lv_iload_n hx hb dX12_turned_2 rfl (lv_at hl 1 rfl) ?_
  refine lv_aload_n hx hb dX12_turned_3 rfl (lv_at hl 0 rfl) ?_
  refine gt_X12_75 X O dX12_turned_4 ?_
  refine lv_icmp_ge (tgt := 27) hx hb dX12_turned_7 (by decide) (fun c7 => ?_) (fun c7 => ?_)
  · have hw := hw.1 c7
    refine lv_aload_n hx hb dX12_turned_27 rfl (lv_at hl 0 rfl) ?_
    refine lv_iconst (v := 1) hx hb dX12_turned_28 (by decide) ?_
    refine q_cvv (rest := []) X O hA 0 (c_X12_yard hw) lk_X12_142 (by decide) rfl rfl rfl rfl rfl rfl ⟨Nat.le_of_ble_eq_true rfl, Nat.le_of_ble_eq_true rfl⟩ (Nat.le_of_ble_eq_true rfl) hl.1 ⟨Nat.zero_le _, Nat.zero_le _⟩ rfl dX12_turned_29 (fun u29 H locs hw O => ?_)
    refine lv_aload_n hx hb dX12_turned_32 rfl (lv_at hl 0 rfl) ?_
    refine q_cvv (rest := []) X O hA 0 (c_X12_layAll hw) lk_X12_146 (by decide) rfl rfl rfl rfl rfl rfl ⟨Nat.le_of_ble_eq_true rfl, Nat.le_of_ble_eq_true rfl⟩ (Nat.le_of_ble_eq_true rfl) hl.1 ⟨Nat.zero_le _, Nat.zero_le _⟩ rfl dX12_turned_33 (fun u33 H locs hw O => ?_)
    refine lv_aload_n hx hb dX12_turned_36 rfl (lv_at hl 0 rfl) ?_
    refine gt_X12_50 X O dX12_turned_37 ?_
    refine lv_aload_n hx hb dX12_turned_40 rfl (lv_at hl 0 rfl) ?_
    refine q_civ (rest := [.ref (h 14)]) X O hA 0 (c_X12_all hw) lk_X12_134 (by decide) rfl rfl rfl rfl rfl rfl ⟨Nat.le_of_ble_eq_true rfl, Nat.le_of_ble_eq_true rfl⟩ (Nat.le_of_ble_eq_true rfl) hl.1 ⟨Nat.zero_le _, Nat.zero_le _⟩ rfl dX12_turned_41 (fun r41 u41 H locs hw O => ?_)
    obtain ⟨i44, hw⟩ := hw
    refine q_ild X O 14 0 (by decide) rfl rfl i44 dX12_turned_44 ?_
    exact q_iret X O hw dX12_turned_45
  · have hw := hw.2 c7
    refine lv_aload_n hx hb dX12_turned_10 rfl (lv_at hl 0 rfl) ?_
    refine gt_X12_13 X O dX12_turned_11 ?_
    refine lv_iload_n hx hb dX12_turned_14 rfl (lv_at hl 1 rfl) ?_
    obtain ⟨i15, hw⟩ := hw
    refine q_ild X O 2 0 (by decide) rfl rfl i15 dX12_turned_15 ?_
    refine lv_if_ne (tgt := 21) hx hb dX12_turned_16 (by decide) (fun c16 => ?_) (fun c16 => ?_)
    · have hw := hw.1 c16
      refine lv_iinc (v := x1 + 1) (lv' := [(1, .int (x1 + 1)), (0, .ref (h 0))]) hx hb dX12_turned_21 hl (k := 1) rfl rfl (by decide) rfl (fun ls hl => ?_)
      refine lv_goto (tgt := 2) hx hb dX12_turned_24 (by decide) ?_
      exact k2 _ _ _ _ _ hw O (lv_sub hl [1, 0] rfl)
    · have hw := hw.2 c16
      refine lv_iconst (v := -1) hx hb dX12_turned_19 (by decide) ?_
      exact q_iret X O hw dX12_turned_20
def wl_X12_turned_2 (Post : Int32 → St → Prop) : Nat → Int32 → St → Prop
  | 0 => fun _ _ => False
  | n + 1 => fun x1 u => wb_X12_turned_2 Post (wl_X12_turned_2 Post n) x1 u
set_option maxHeartbeats 4000000 in
set_option maxRecDepth 100000 in
theorem tl_X12_turned_2 (X : Cx p s m args meth c cX12_turned 2 (some .int) RX12 D (tyM b) A) (hA : ∀ q, s.heap.size ≤ q → A q) {Post : Int32 → St → Prop} : ∀ n : Nat, ∀ (x1 : Int32) (u : St) (H : Heap) (locs : List Loc) (ls : Array Slot), (wl_X12_turned_2 Post n) x1 u → wO D 21 (gM b h) h u A s.heap H locs → lv_has ls 2 [(0, .ref (h 0)), (1, .int x1)] → W p l e rm_X12_turned s m args below meth c H locs 0 0 (MQ below (va_Qi Post (cB D (tyM b) 21 (gM b h) h A) A) args s 0 0 A) (F0 m 2 ls []) := by
  intro n
  induction n with
  | zero => intro x1 u H locs ls hw; exact False.elim hw
  | succ n ih => intro x1 u H locs ls hw O hl; exact tb_X12_turned_2 X hA ih x1 u H locs ls hw O hl
def wp_X12_turned (u : St) (Post : Int32 → St → Prop) : Prop := ∃ n : Nat, wl_X12_turned_2 Post n (0 : Int32) u
set_option maxHeartbeats 4000000 in
set_option maxRecDepth 100000 in
theorem c_X12_turned {l : Launch} {D : va_G} {b : Nat → ClassId} {h : Nat → Nat} {u : St} {Post : Int32 → St → Prop} (hw : wp_X12_turned u Post) : CtI l yX12_turned cX12_turned 2 (some .int) rm_X12_turned D (tyM b) 21 (gM b h) h [.ref (h 0)] u Post := by
  refine CtI.of (plainFor_of_name (by decide)) (Nat.le_of_ble_eq_true rfl) ?_
  intro p e s m below meth c A ls X hA O hl
  have X : Cx p s m _ meth c cX12_turned 2 (some .int) RX12 D (tyM b) A := X
  obtain ⟨⟨hx, hb, hml, hown, hts⟩, hK, hNs, hlocks, hr⟩ := id X
  have hl : lv_has ls 2 [(0, .ref (h 0))] := hl
  unfold wp_X12_turned at hw
  refine lv_iconst (v := 0) hx hb dX12_turned_0 (by decide) ?_
  refine lv_istore_n (lv' := [(1, .int (0 : Int32)), (0, .ref (h 0))]) hx hb dX12_turned_1 rfl hl (by decide) rfl (fun ls hl => ?_)
  obtain ⟨n, hw⟩ := hw
  exact tl_X12_turned_2 X hA n _ _ _ _ _ hw O (lv_sub hl [1, 0] rfl)
end PT
