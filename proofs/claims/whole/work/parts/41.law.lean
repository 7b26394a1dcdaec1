/-! The law: what each of its calls rests on, and its loop. -/
def Ok_job (Rel : Nat → St → St → Prop) : Prop := ∀ (k : Nat) (a1 : Int32) (a2 : Int32) (uF uM : St), k < 512 → Rel k uF uM → wp_X11_job a1 a2 uF (fun r uF2 => wp_X12_job a1 a2 uM (fun r2 uM2 => r = r2 ∧ Rel (k + 1) uF2 uM2))
def Ok_set (Rel : Nat → St → St → Prop) : Prop := ∀ (k : Nat) (a1 : Int32) (a2 : Int32) (a3 : Int32) (uF uM : St), k < 512 → Rel k uF uM → wp_X11_set a1 a2 a3 uF (fun r uF2 => wp_X12_set a1 a2 a3 uM (fun r2 uM2 => r = r2 ∧ Rel (k + 1) uF2 uM2))
def Ok_lay (Rel : Nat → St → St → Prop) : Prop := ∀ (k : Nat) (a1 : Int32) (a2 : Int32) (uF uM : St), k < 512 → Rel k uF uM → wp_X11_lay a1 a2 uF (fun r uF2 => wp_X12_lay a1 a2 uM (fun r2 uM2 => r = r2 ∧ Rel (k + 1) uF2 uM2))
def Ok_free (Rel : Nat → St → St → Prop) : Prop := ∀ (k : Nat) (a1 : Int32) (a2 : Int32) (uF uM : St), k < 512 → Rel k uF uM → wp_X11_free a1 a2 uF (fun r uF2 => wp_X12_free a1 a2 uM (fun r2 uM2 => r = r2 ∧ Rel (k + 1) uF2 uM2))
def Ok_put (Rel : Nat → St → St → Prop) : Prop := ∀ (k : Nat) (a1 : Int32) (uF uM : St), k < 512 → Rel k uF uM → wp_X11_put a1 uF (fun r uF2 => wp_X12_put a1 uM (fun r2 uM2 => r = r2 ∧ Rel (k + 1) uF2 uM2))
def Ok_clear (Rel : Nat → St → St → Prop) : Prop := ∀ (k : Nat) (uF uM : St), k < 512 → Rel k uF uM → wp_X11_clear uF (fun r uF2 => wp_X12_clear uM (fun r2 uM2 => r = r2 ∧ Rel (k + 1) uF2 uM2))
def Ok_told (Rel : Nat → St → St → Prop) : Prop := ∀ (k : Nat) (a1 : Int32) (a2 : Int32) (uF uM : St), k < 512 → Rel k uF uM → wp_X11_told a1 a2 uF (fun r uF2 => wp_X12_told a1 a2 uM (fun r2 uM2 => r = r2 ∧ Rel (k + 1) uF2 uM2))
def Ok_ahead (Rel : Nat → St → St → Prop) : Prop := ∀ (k : Nat) (a1 : Int32) (a2 : Int32) (uF uM : St), k < 512 → Rel k uF uM → wp_X11_ahead a1 a2 uF (fun r uF2 => wp_X12_ahead a1 a2 uM (fun r2 uM2 => r = r2 ∧ Rel (k + 1) uF2 uM2))
def Ok_count (Rel : Nat → St → St → Prop) : Prop := ∀ (k : Nat) (a1 : Int32) (uF uM : St), k < 512 → Rel k uF uM → wp_X11_count a1 uF (fun r uF2 => wp_X12_count a1 uM (fun r2 uM2 => r = r2 ∧ Rel (k + 1) uF2 uM2))
def Ok_keeps (Rel : Nat → St → St → Prop) : Prop := ∀ (k : Nat) (uF uM : St), k < 512 → Rel k uF uM → wp_X11_keeps uF (fun r uF2 => wp_X12_keeps uM (fun r2 uM2 => r = r2 ∧ Rel (k + 1) uF2 uM2))
def Ok_why (Rel : Nat → St → St → Prop) : Prop := ∀ (k : Nat) (a1 : Int32) (uF uM : St), k < 512 → Rel k uF uM → wp_X11_why a1 uF (fun r uF2 => wp_X12_why a1 uM (fun r2 uM2 => r = r2 ∧ Rel (k + 1) uF2 uM2))
def Ok_cost (Rel : Nat → St → St → Prop) : Prop := ∀ (k : Nat) (uF uM : St), k < 512 → Rel k uF uM → wp_X11_cost uF (fun r uF2 => wp_X12_cost uM (fun r2 uM2 => r = r2 ∧ Rel (k + 1) uF2 uM2))
def Ok_swap (Rel : Nat → St → St → Prop) : Prop := ∀ (k : Nat) (a1 : Int32) (uF uM : St), k < 512 → Rel k uF uM → wp_X11_swap a1 uF (fun r uF2 => wp_X12_swap a1 uM (fun r2 uM2 => r = r2 ∧ Rel (k + 1) uF2 uM2))
def Ok_block (Rel : Nat → St → St → Prop) : Prop := ∀ (k : Nat) (a1 : Int32) (a2 : Int32) (uF uM : St), k < 512 → Rel k uF uM → wp_X11_block a1 a2 uF (fun r uF2 => wp_X12_block a1 a2 uM (fun r2 uM2 => r = r2 ∧ Rel (k + 1) uF2 uM2))
def Ok_least (Rel : Nat → St → St → Prop) : Prop := ∀ (k : Nat) (uF uM : St), k < 512 → Rel k uF uM → wp_X11_least uF (fun r uF2 => wp_X12_least uM (fun r2 uM2 => r = r2 ∧ Rel (k + 1) uF2 uM2))
def Ok_best (Rel : Nat → St → St → Prop) : Prop := ∀ (k : Nat) (a1 : Int32) (uF uM : St), k < 512 → Rel k uF uM → wp_X11_best a1 uF (fun r uF2 => wp_X12_best a1 uM (fun r2 uM2 => r = r2 ∧ Rel (k + 1) uF2 uM2))
def Ok_many (Rel : Nat → St → St → Prop) : Prop := ∀ (k : Nat) (uF uM : St), k < 512 → Rel k uF uM → wp_X11_many uF (fun r uF2 => wp_X12_many uM (fun r2 uM2 => r = r2 ∧ Rel (k + 1) uF2 uM2))
def Ok_fixed (Rel : Nat → St → St → Prop) : Prop := ∀ (k : Nat) (a1 : Int32) (a2 : Int32) (uF uM : St), k < 512 → Rel k uF uM → wp_X11_fixed a1 a2 uF (fun r uF2 => wp_X12_fixed a1 a2 uM (fun r2 uM2 => r = r2 ∧ Rel (k + 1) uF2 uM2))
def Ok_series (Rel : Nat → St → St → Prop) : Prop := ∀ (k : Nat) (uF uM : St), k < 512 → Rel k uF uM → wp_X11_series uF (fun r uF2 => wp_X12_series uM (fun r2 uM2 => r = r2 ∧ Rel (k + 1) uF2 uM2))
def Ok_shows (Rel : Nat → St → St → Prop) : Prop := ∀ (k : Nat) (a1 : Int32) (uF uM : St), k < 512 → Rel k uF uM → wp_X11_shows a1 uF (fun r uF2 => wp_X12_shows a1 uM (fun r2 uM2 => r = r2 ∧ Rel (k + 1) uF2 uM2))
def Ok_turned (Rel : Nat → St → St → Prop) : Prop := ∀ (k : Nat) (uF uM : St), k < 512 → Rel k uF uM → wp_X11_turned uF (fun r uF2 => wp_X12_turned uM (fun r2 uM2 => r = r2 ∧ Rel (k + 1) uF2 uM2))
def Ok_act (Rel : Nat → St → St → Prop) : Prop := ∀ (k : Nat) (a1 : Int32) (a2 : Int32) (a3 : Int32) (uF uM : St), k < 512 → Rel k uF uM → wp_X11_act a1 a2 a3 uF (fun r uF2 => wp_X12_act a1 a2 a3 uM (fun r2 uM2 => r = r2 ∧ Rel (k + 1) uF2 uM2))
def Ok_trace (Rel : Nat → St → St → Prop) : Prop := ∀ (k : Nat) (a1 : Int32) (uF uM : St), k < 512 → Rel k uF uM → wp_X11_trace a1 uF (fun r uF2 => wp_X12_trace a1 uM (fun r2 uM2 => r = r2 ∧ Rel (k + 1) uF2 uM2))
def Ok_sheet (Rel : Nat → St → St → Prop) : Prop := ∀ (k : Nat) (a1 : Int32) (a2 : Int32) (a3 : Int32) (uF uM : St), k < 512 → Rel k uF uM → wp_X11_sheet a1 a2 a3 uF (fun r uF2 => wp_X12_sheet a1 a2 a3 uM (fun r2 uM2 => r = r2 ∧ Rel (k + 1) uF2 uM2))
def Ok_cell (Rel : Nat → St → St → Prop) : Prop := ∀ (k : Nat) (a1 : Int32) (a2 : Int32) (a3 : Int32) (uF uM : St), k < 512 → Rel k uF uM → wp_X11_cell a1 a2 a3 uF (fun r uF2 => wp_X12_cell a1 a2 a3 uM (fun r2 uM2 => r = r2 ∧ Rel (k + 1) uF2 uM2))
def Ok_fromSheet (Rel : Nat → St → St → Prop) : Prop := ∀ (k : Nat) (a1 : Int32) (a2 : Int32) (a3 : Int32) (uF uM : St), k < 512 → Rel k uF uM → wp_X11_fromSheet a1 a2 a3 uF (fun r uF2 => wp_X12_fromSheet a1 a2 a3 uM (fun r2 uM2 => r = r2 ∧ Rel (k + 1) uF2 uM2))
def Ok_forge (Rel : Nat → St → St → Prop) : Prop := ∀ (k : Nat) (a1 : Int32) (a2 : Int32) (a3 : Int32) (uF uM : St), k < 512 → Rel k uF uM → wp_X11_forge a1 a2 a3 uF (fun r uF2 => wp_X12_forge a1 a2 a3 uM (fun r2 uM2 => r = r2 ∧ Rel (k + 1) uF2 uM2))
def Ok_undo (Rel : Nat → St → St → Prop) : Prop := ∀ (k : Nat) (uF uM : St), k < 512 → Rel k uF uM → wp_X11_undo uF (fun r uF2 => wp_X12_undo uM (fun r2 uM2 => r = r2 ∧ Rel (k + 1) uF2 uM2))
def Ok_status (Rel : Nat → St → St → Prop) : Prop := ∀ (k : Nat) (uF uM : St), k < 512 → Rel k uF uM → wp_X11_status uF (fun r uF2 => wp_X12_status uM (fun r2 uM2 => r = r2 ∧ Rel (k + 1) uF2 uM2))
def LawOK (Rel : Nat → St → St → Prop) : Prop := Ok_job Rel ∧ Ok_set Rel ∧ Ok_lay Rel ∧ Ok_free Rel ∧ Ok_put Rel ∧ Ok_clear Rel ∧ Ok_told Rel ∧ Ok_ahead Rel ∧ Ok_count Rel ∧ Ok_keeps Rel ∧ Ok_why Rel ∧ Ok_cost Rel ∧ Ok_swap Rel ∧ Ok_block Rel ∧ Ok_least Rel ∧ Ok_best Rel ∧ Ok_many Rel ∧ Ok_fixed Rel ∧ Ok_series Rel ∧ Ok_shows Rel ∧ Ok_turned Rel ∧ Ok_act Rel ∧ Ok_trace Rel ∧ Ok_sheet Rel ∧ Ok_cell Rel ∧ Ok_fromSheet Rel ∧ Ok_forge Rel ∧ Ok_undo Rel ∧ Ok_status Rel ∧ ∀ (k : Nat) (uF uM : St), Rel k uF uM → Rel (k + 1) uF uM
theorem lk_L_13 : LkV RL 13 yX11_job cX11_job 3 (some .int) 2 := ⟨wd_6_12, wd_6_13, wd_6_14, wd_1_2, wd_6_15, by decide +kernel⟩
theorem lk_L_17 : LkV RL 17 yX12_job cX12_job 3 (some .int) 2 := ⟨wd_9_8, wd_9_9, wd_9_10, wd_1_5, wd_9_11, by decide +kernel⟩
theorem lk_L_18 : LkV RL 18 yX11_set cX11_set 5 (some .int) 3 := ⟨wd_10_10, wd_10_11, wd_10_12, wd_1_2, wd_10_13, by decide +kernel⟩
theorem lk_L_22 : LkV RL 22 yX12_set cX12_set 6 (some .int) 3 := ⟨wd_11_2, wd_11_3, wd_11_4, wd_1_5, wd_11_5, by decide +kernel⟩
theorem lk_L_23 : LkV RL 23 yX11_lay cX11_lay 3 (some .int) 2 := ⟨wd_11_10, wd_11_11, wd_11_12, wd_1_2, wd_11_13, by decide +kernel⟩
theorem lk_L_26 : LkV RL 26 yX12_lay cX12_lay 3 (some .int) 2 := ⟨wd_12_3, wd_12_4, wd_12_5, wd_1_5, wd_12_6, by decide +kernel⟩
theorem lk_L_27 : LkV RL 27 yX11_free cX11_free 3 (some .int) 2 := ⟨wd_12_14, wd_12_15, wd_12_16, wd_1_2, wd_12_17, by decide +kernel⟩
theorem lk_L_30 : LkV RL 30 yX12_free cX12_free 3 (some .int) 2 := ⟨wd_12_22, wd_12_23, wd_13_0, wd_1_5, wd_13_1, by decide +kernel⟩
theorem lk_L_31 : LkV RL 31 yX11_put cX11_put 2 (some .int) 1 := ⟨wd_13_2, wd_13_3, wd_13_4, wd_1_2, wd_13_5, by decide +kernel⟩
theorem lk_L_35 : LkV RL 35 yX12_put cX12_put 2 (some .int) 1 := ⟨wd_13_19, wd_13_20, wd_13_21, wd_1_5, wd_13_22, by decide +kernel⟩
theorem lk_L_36 : LkV RL 36 yX11_clear cX11_clear 2 (some .int) 0 := ⟨wd_14_4, wd_14_5, wd_14_6, wd_1_2, wd_14_7, by decide +kernel⟩
theorem lk_L_40 : LkV RL 40 yX12_clear cX12_clear 2 (some .int) 0 := ⟨wd_14_12, wd_14_13, wd_14_14, wd_1_5, wd_14_15, by decide +kernel⟩
theorem lk_L_41 : LkV RL 41 yX11_told cX11_told 3 (some .int) 2 := ⟨wd_14_16, wd_14_17, wd_14_18, wd_1_2, wd_14_19, by decide +kernel⟩
theorem lk_L_44 : LkV RL 44 yX12_told cX12_told 3 (some .int) 2 := ⟨wd_17_2, wd_17_3, wd_17_4, wd_1_5, wd_17_5, by decide +kernel⟩
theorem lk_L_45 : LkV RL 45 yX11_ahead cX11_ahead 3 (some .int) 2 := ⟨wd_18_22, wd_18_23, wd_19_0, wd_1_2, wd_19_1, by decide +kernel⟩
theorem lk_L_48 : LkV RL 48 yX12_ahead cX12_ahead 3 (some .int) 2 := ⟨wd_19_5, wd_19_6, wd_19_7, wd_1_5, wd_19_8, by decide +kernel⟩
theorem lk_L_49 : LkV RL 49 yX11_count cX11_count 2 (some .int) 1 := ⟨wd_19_9, wd_19_10, wd_19_11, wd_1_2, wd_19_12, by decide +kernel⟩
theorem lk_L_52 : LkV RL 52 yX12_count cX12_count 2 (some .int) 1 := ⟨wd_20_13, wd_20_14, wd_20_15, wd_1_5, wd_20_16, by decide +kernel⟩
theorem lk_L_53 : LkV RL 53 yX11_keeps cX11_keeps 1 (some .int) 0 := ⟨wd_21_2, wd_21_3, wd_21_4, wd_1_2, wd_21_5, by decide +kernel⟩
theorem lk_L_56 : LkV RL 56 yX12_keeps cX12_keeps 1 (some .int) 0 := ⟨wd_22_0, wd_22_1, wd_22_2, wd_1_5, wd_22_3, by decide +kernel⟩
theorem lk_L_57 : LkV RL 57 yX11_why cX11_why 4 (some .int) 1 := ⟨wd_22_9, wd_22_10, wd_22_11, wd_1_2, wd_22_12, by decide +kernel⟩
theorem lk_L_60 : LkV RL 60 yX12_why cX12_why 3 (some .int) 1 := ⟨wd_22_22, wd_22_23, wd_23_0, wd_1_5, wd_23_1, by decide +kernel⟩
theorem lk_L_61 : LkV RL 61 yX11_cost cX11_cost 1 (some .int) 0 := ⟨wd_23_5, wd_23_6, wd_23_7, wd_1_2, wd_23_8, by decide +kernel⟩
theorem lk_L_64 : LkV RL 64 yX12_cost cX12_cost 5 (some .int) 0 := ⟨wd_23_15, wd_23_16, wd_23_17, wd_1_5, wd_23_18, by decide +kernel⟩
theorem lk_L_65 : LkV RL 65 yX11_swap cX11_swap 4 (some .int) 1 := ⟨wd_23_19, wd_23_20, wd_23_21, wd_1_2, wd_23_22, by decide +kernel⟩
theorem lk_L_68 : LkV RL 68 yX12_swap cX12_swap 4 (some .int) 1 := ⟨wd_24_4, wd_24_5, wd_24_6, wd_1_5, wd_24_7, by decide +kernel⟩
theorem lk_L_69 : LkV RL 69 yX11_block cX11_block 4 (some .int) 2 := ⟨wd_24_14, wd_24_15, wd_24_16, wd_1_2, wd_24_17, by decide +kernel⟩
theorem lk_L_72 : LkV RL 72 yX12_block cX12_block 3 (some .int) 2 := ⟨wd_25_0, wd_25_1, wd_25_2, wd_1_5, wd_25_3, by decide +kernel⟩
theorem lk_L_73 : LkV RL 73 yX11_least cX11_least 1 (some .int) 0 := ⟨wd_25_4, wd_25_5, wd_25_6, wd_1_2, wd_25_7, by decide +kernel⟩
theorem lk_L_76 : LkV RL 76 yX12_least cX12_least 1 (some .int) 0 := ⟨wd_26_18, wd_26_19, wd_26_20, wd_1_5, wd_26_21, by decide +kernel⟩
theorem lk_L_77 : LkV RL 77 yX11_best cX11_best 2 (some .int) 1 := ⟨wd_27_15, wd_27_16, wd_27_17, wd_1_2, wd_27_18, by decide +kernel⟩
theorem lk_L_80 : LkV RL 80 yX12_best cX12_best 8 (some .int) 1 := ⟨wd_27_23, wd_28_0, wd_28_1, wd_1_5, wd_28_2, by decide +kernel⟩
theorem lk_L_81 : LkV RL 81 yX11_many cX11_many 1 (some .int) 0 := ⟨wd_28_3, wd_28_4, wd_28_5, wd_1_2, wd_28_6, by decide +kernel⟩
theorem lk_L_84 : LkV RL 84 yX12_many cX12_many 1 (some .int) 0 := ⟨wd_28_11, wd_28_12, wd_28_13, wd_1_5, wd_28_14, by decide +kernel⟩
theorem lk_L_85 : LkV RL 85 yX11_fixed cX11_fixed 3 (some .int) 2 := ⟨wd_28_15, wd_28_16, wd_28_17, wd_1_2, wd_28_18, by decide +kernel⟩
theorem lk_L_88 : LkV RL 88 yX12_fixed cX12_fixed 6 (some .int) 2 := ⟨wd_29_11, wd_29_12, wd_29_13, wd_1_5, wd_29_14, by decide +kernel⟩
theorem lk_L_89 : LkV RL 89 yX11_series cX11_series 1 (some .int) 0 := ⟨wd_29_15, wd_29_16, wd_29_17, wd_1_2, wd_29_18, by decide +kernel⟩
theorem lk_L_92 : LkV RL 92 yX12_series cX12_series 1 (some .int) 0 := ⟨wd_30_7, wd_30_8, wd_30_9, wd_1_5, wd_30_10, by decide +kernel⟩
theorem lk_L_93 : LkV RL 93 yX11_shows cX11_shows 3 (some .int) 1 := ⟨wd_30_19, wd_30_20, wd_30_21, wd_1_2, wd_30_22, by decide +kernel⟩
theorem lk_L_96 : LkV RL 96 yX12_shows cX12_shows 3 (some .int) 1 := ⟨wd_31_2, wd_31_3, wd_31_4, wd_1_5, wd_31_5, by decide +kernel⟩
theorem lk_L_97 : LkV RL 97 yX11_turned cX11_turned 2 (some .int) 0 := ⟨wd_31_6, wd_31_7, wd_31_8, wd_1_2, wd_31_9, by decide +kernel⟩
theorem lk_L_100 : LkV RL 100 yX12_turned cX12_turned 2 (some .int) 0 := ⟨wd_31_10, wd_31_11, wd_31_12, wd_1_5, wd_31_13, by decide +kernel⟩
theorem lk_L_101 : LkV RL 101 yX11_act cX11_act 5 (some .int) 3 := ⟨wd_31_14, wd_31_15, wd_31_16, wd_1_2, wd_31_17, by decide +kernel⟩
theorem lk_L_104 : LkV RL 104 yX12_act cX12_act 5 (some .int) 3 := ⟨wd_35_19, wd_35_20, wd_35_21, wd_1_5, wd_35_22, by decide +kernel⟩
theorem lk_L_105 : LkV RL 105 yX11_trace cX11_trace 2 (some .int) 1 := ⟨wd_37_11, wd_37_12, wd_37_13, wd_1_2, wd_37_14, by decide +kernel⟩
theorem lk_L_108 : LkV RL 108 yX12_trace cX12_trace 2 (some .int) 1 := ⟨wd_37_19, wd_37_20, wd_37_21, wd_1_5, wd_37_22, by decide +kernel⟩
theorem lk_L_109 : LkV RL 109 yX11_sheet cX11_sheet 4 (some .int) 3 := ⟨wd_37_23, wd_38_0, wd_38_1, wd_1_2, wd_38_2, by decide +kernel⟩
theorem lk_L_112 : LkV RL 112 yX12_sheet cX12_sheet 5 (some .int) 3 := ⟨wd_38_15, wd_38_16, wd_38_17, wd_1_5, wd_38_18, by decide +kernel⟩
theorem lk_L_113 : LkV RL 113 yX11_cell cX11_cell 5 (some .int) 3 := ⟨wd_38_19, wd_38_20, wd_38_21, wd_1_2, wd_38_22, by decide +kernel⟩
theorem lk_L_116 : LkV RL 116 yX12_cell cX12_cell 4 (some .int) 3 := ⟨wd_39_11, wd_39_12, wd_39_13, wd_1_5, wd_39_14, by decide +kernel⟩
theorem lk_L_117 : LkV RL 117 yX11_fromSheet cX11_fromSheet 8 (some .int) 3 := ⟨wd_39_15, wd_39_16, wd_39_17, wd_1_2, wd_39_18, by decide +kernel⟩
theorem lk_L_120 : LkV RL 120 yX12_fromSheet cX12_fromSheet 8 (some .int) 3 := ⟨wd_40_8, wd_40_9, wd_40_10, wd_1_5, wd_40_11, by decide +kernel⟩
theorem lk_L_121 : LkV RL 121 yX11_forge cX11_forge 5 (some .int) 3 := ⟨wd_40_13, wd_40_14, wd_40_15, wd_1_2, wd_40_16, by decide +kernel⟩
theorem lk_L_124 : LkV RL 124 yX12_forge cX12_forge 5 (some .int) 3 := ⟨wd_41_19, wd_41_20, wd_41_21, wd_1_5, wd_41_22, by decide +kernel⟩
theorem lk_L_125 : LkV RL 125 yX11_undo cX11_undo 1 (some .int) 0 := ⟨wd_42_7, wd_42_8, wd_42_9, wd_1_2, wd_42_10, by decide +kernel⟩
theorem lk_L_128 : LkV RL 128 yX12_undo cX12_undo 3 (some .int) 0 := ⟨wd_42_22, wd_42_23, wd_43_0, wd_1_5, wd_43_1, by decide +kernel⟩
theorem lk_L_129 : LkV RL 129 yX11_status cX11_status 1 (some .int) 0 := ⟨wd_43_2, wd_43_3, wd_43_4, wd_1_2, wd_43_5, by decide +kernel⟩
theorem lk_L_132 : LkV RL 132 yX12_status cX12_status 1 (some .int) 0 := ⟨wd_43_6, wd_43_7, wd_43_8, wd_1_5, wd_43_9, by decide +kernel⟩
theorem sc_in {t L k : Nat} (h : 4 * t + k < L) (hL : L ≤ 2048) : vp_in (nI (4 * t) + nI k) L := by
  rw [nI_add]
  exact vp_in_nI h (by omega)
theorem sc_lt {t L : Nat} (hL : L ≤ 2048) (h : ¬ Int32.ofNat L - 4 < nI (4 * t)) (ht : 4 * t ≤ L) : 4 * t + 4 ≤ L := by
  refine Nat.le_of_not_lt fun q => h ?_
  have e : Int32.ofNat L - 4 = nI L - nI 4 := rfl
  rw [e, Int32.lt_iff_toInt_lt, pk_sub_toInt (by omega) (by omega), nI_toInt (by omega)]
  omega
theorem sc_and (x : Int32) : True := trivial
section LW
variable {p : Program} {l : Launch} {e : Env} {s : State} {m : MethodId} {below : List Frame} {meth : Method} {c : Code}
set_option maxHeartbeats 40000000 in
set_option maxRecDepth 100000 in
theorem law_loop {Rel : Nat → St → St → Prop} (hm : LawOK Rel) {b L : Nat} {xs : Nat → Int32} {D : va_G} {bF bM : Nat → ClassId} {hF hM : Nat → Nat} {nc ns : Nat} (hnc : nc ≤ 600000 ∧ ns ≤ 7302250) (hL : L ≤ 2048) (C0 : lw_At p s m meth c b L xs) (htU : ∀ w ∈ wsU, w.before #[Value.ref b] s = true) (hKF : va_K D vwCl (tyF bF) s) (hKM : va_K D vwCl (tyM bM) s) (hNs : Nst s) (hSt : Stt (fun q : Nat => s.heap.size ≤ q) s s.heap) :
    ∀ (n t : Nat) (uF uM : St) (H : Heap) (locs : List Loc) (ls : Array Slot), t ≤ 512 → 4 * t ≤ L → 513 ≤ t + n → Rel t uF uM → va_P D vwCl (wG 46 (gF bF hF) hF uF) H → va_P D vwCl (wG 21 (gM bM hM) hM uM) H → va_D (fun q : Nat => s.heap.size ≤ q) (wG 46 (gF bF hF) hF uF ++ wG 21 (gM bM hM) hM uM) → va_S (fun q : Nat => s.heap.size ≤ q) s.heap H locs → lv_has ls 4 [(0, .ref b), (1, .ref (hF 0)), (2, .ref (hM 0)), (3, .int (nI (4 * t)))] → W p l e room_1 s m #[Value.ref b] below meth c H locs nc ns (lw_Z below #[Value.ref b] s) (F0 m 18 ls []) := by
  obtain ⟨hx, hb, hr, hml, hown, hts, hX, hbl, hlocks, hgv⟩ := C0
  have hb : c.code = cL_law := hb
  have hown : s.vm.findClass RL = some m.cls := hown
  have hA : ∀ q : Nat, s.heap.size ≤ q → (fun q : Nat => s.heap.size ≤ q) q := fun _ h => h
  have hbA : ¬ (fun q : Nat => s.heap.size ≤ q) b := Nat.not_le.mpr hbl
  have S : CallFix p m c cL_law 4 s #[Value.ref b] wsU RL := ⟨hx, hb, hml, hown, htU⟩
  intro n
  induction n with
  | zero =>
    intro t uF uM H locs ls h1 h2 h3
    exact absurd h3 (by omega)
  | succ n ih =>
    intro t uF uM H locs ls ht1 ht2 ht3 hRel hPF hPM hD hS hl
    refine lv_iload_n hx hb dL_law_18 rfl (lv_at hl 3 rfl) ?_
    refine lv_aload_n hx hb dL_law_19 rfl (lv_at hl 0 rfl) ?_
    refine va_slen hx hb hX hbl hbA hS dL_law_20 ?_
    refine lv_iconst (v := 4) hx hb dL_law_21 (by decide) ?_
    refine lv_isub hx hb dL_law_22 ?_
    refine lv_icmp_gt (tgt := 937) hx hb dL_law_23 (by decide) (fun c23 => ?_) (fun c23 => ?_)
    · refine lv_iconst (v := 1) hx hb dL_law_937 (by decide) ?_
      refine va_forget (fun q hq => hS.2.2 q hq) ?_
      refine W.widen (k := 600000) (n := 7302250) hnc.1 hnc.2 ?_
      exact lw_ret hx hb hr hlocks dL_law_938
    have h4 : 4 * t + 4 ≤ L := sc_lt hL c23 ht2
    have htl : t < 512 := by omega
    have k0 : vp_in (nI (4 * t)) L := vp_in_nI (by omega) (by omega)
    have k1 : vp_in (nI (4 * t) + 1) L := sc_in (k := 1) (by omega) hL
    have k2 : vp_in (nI (4 * t) + 2) L := sc_in (k := 2) (by omega) hL
    have k3 : vp_in (nI (4 * t) + 3) L := sc_in (k := 3) (by omega) hL
    have hend : ∀ (uF uM : St) (H : Heap) (locs : List Loc), Rel (t + 1) uF uM → va_P D vwCl (wG 46 (gF bF hF) hF uF) H → va_P D vwCl (wG 21 (gM bM hM) hM uM) H → va_D (fun q : Nat => s.heap.size ≤ q) (wG 46 (gF bF hF) hF uF ++ wG 21 (gM bM hM) hM uM) → va_S (fun q : Nat => s.heap.size ≤ q) s.heap H locs → W p l e room_1 s m #[Value.ref b] below meth c H locs nc ns (lw_Z below #[Value.ref b] s) (F0 m 931 ls []) := by
      intro uF uM H locs hRel hPF hPM hD hS
      refine lv_iinc (v := nI (4 * (t + 1))) (lv' := [(3, .int (nI (4 * (t + 1)))), (0, .ref b), (1, .ref (hF 0)), (2, .ref (hM 0))]) hx hb dL_law_931 hl (k := 3) rfl (by show nI (4 * t) + nI 4 = _; rw [nI_add]; rfl) (by decide) rfl (fun ls hl => ?_)
      refine lv_goto (tgt := 18) hx hb dL_law_934 (by decide) ?_
      exact ih (t + 1) uF uM H locs ls (by omega) (by omega) (by omega) hRel hPF hPM hD hS (lv_sub hl [1, 2, 3, 0] rfl)
    refine lv_aload_n hx hb dL_law_26 rfl (lv_at hl 0 rfl) ?_
    refine lv_iload_n hx hb dL_law_27 rfl (lv_at hl 3 rfl) ?_
    refine va_sld hx hb hX hbl hbA hS k0 dL_law_28 ?_
    refine lv_bipush (v := 31) hx hb dL_law_29 (by decide) ?_
    refine lv_iand hx hb dL_law_31 ?_
    refine lv_topi (fun op eop => ?_)
    by_cases s0 : op = 0
    · refine lv_tableIn (off := 132) (tgt := 164) hx hb dL_law_32 (by rw [s0]; decide) (by rw [s0]; decide) (by rw [s0]; decide) (by decide) ?_
      have hw := hm.1 t (xs (Int32.toNatClampNeg (nI (4 * t) + 1))) (xs (Int32.toNatClampNeg (nI (4 * t) + 2))) uF uM htl hRel
      refine lv_aload_n hx hb dL_law_164 rfl (lv_at hl 1 rfl) ?_
      refine lv_aload_n hx hb dL_law_165 rfl (lv_at hl 0 rfl) ?_
      refine lv_iload_n hx hb dL_law_166 rfl (lv_at hl 3 rfl) ?_
      refine lv_iconst (v := 1) hx hb dL_law_167 (by decide) ?_
      refine lv_iadd hx hb dL_law_168 ?_
      refine va_sld hx hb hX hbl hbA hS k1 dL_law_169 ?_
      refine lv_aload_n hx hb dL_law_170 rfl (lv_at hl 0 rfl) ?_
      refine lv_iload_n hx hb dL_law_171 rfl (lv_at hl 3 rfl) ?_
      refine lv_iconst (v := 2) hx hb dL_law_172 (by decide) ?_
      refine lv_iadd hx hb dL_law_173 ?_
      refine va_sld hx hb hX hbl hbA hS k2 dL_law_174 ?_
      refine q_l2 (As := [.int (xs (Int32.toNatClampNeg (nI (4 * t) + 1))), .int (xs (Int32.toNatClampNeg (nI (4 * t) + 2)))]) (rest := []) S hKF hNs hSt hPF hPM hD hS hA 0 (c_X11_job hw) lk_L_13 (by decide) (by decide) (by decide) rfl rfl rfl rfl rfl rfl ⟨Nat.le_of_ble_eq_true rfl, Nat.le_of_ble_eq_true rfl⟩ (Nat.le_of_ble_eq_true rfl) hl.1 ⟨hnc.1, hnc.2⟩ rfl dL_law_175 (fun r uF H locs hw hPF hPM hD hS => ?_)
      refine lv_aload_n hx hb dL_law_178 rfl (lv_at hl 2 rfl) ?_
      refine lv_aload_n hx hb dL_law_179 rfl (lv_at hl 0 rfl) ?_
      refine lv_iload_n hx hb dL_law_180 rfl (lv_at hl 3 rfl) ?_
      refine lv_iconst (v := 1) hx hb dL_law_181 (by decide) ?_
      refine lv_iadd hx hb dL_law_182 ?_
      refine va_sld hx hb hX hbl hbA hS k1 dL_law_183 ?_
      refine lv_aload_n hx hb dL_law_184 rfl (lv_at hl 0 rfl) ?_
      refine lv_iload_n hx hb dL_law_185 rfl (lv_at hl 3 rfl) ?_
      refine lv_iconst (v := 2) hx hb dL_law_186 (by decide) ?_
      refine lv_iadd hx hb dL_law_187 ?_
      refine va_sld hx hb hX hbl hbA hS k2 dL_law_188 ?_
      refine q_l2 (As := [.int (xs (Int32.toNatClampNeg (nI (4 * t) + 1))), .int (xs (Int32.toNatClampNeg (nI (4 * t) + 2)))]) (rest := [.int r]) S hKM hNs hSt hPM hPF (va_D_c hD) hS hA 0 (c_X12_job hw) lk_L_17 (by decide) (by decide) (by decide) rfl rfl rfl rfl rfl rfl ⟨Nat.le_of_ble_eq_true rfl, Nat.le_of_ble_eq_true rfl⟩ (Nat.le_of_ble_eq_true rfl) hl.1 ⟨hnc.1, hnc.2⟩ rfl dL_law_189 (fun r2 uM H locs hw hPM hPF hD hS => ?_)
      refine lv_icmp_eq (tgt := 931) hx hb dL_law_192 (by decide) (fun ce => ?_) (fun ce => absurd hw.1 ce)
      exact hend uF uM H locs hw.2 hPF hPM (va_D_c hD) hS
    by_cases s1 : op = 1
    · refine lv_tableIn (off := 165) (tgt := 197) hx hb dL_law_32 (by rw [s1]; decide) (by rw [s1]; decide) (by rw [s1]; decide) (by decide) ?_
      have hw := hm.2.1 t (xs (Int32.toNatClampNeg (nI (4 * t) + 1))) (xs (Int32.toNatClampNeg (nI (4 * t) + 2))) (xs (Int32.toNatClampNeg (nI (4 * t) + 3))) uF uM htl hRel
      refine lv_aload_n hx hb dL_law_197 rfl (lv_at hl 1 rfl) ?_
      refine lv_aload_n hx hb dL_law_198 rfl (lv_at hl 0 rfl) ?_
      refine lv_iload_n hx hb dL_law_199 rfl (lv_at hl 3 rfl) ?_
      refine lv_iconst (v := 1) hx hb dL_law_200 (by decide) ?_
      refine lv_iadd hx hb dL_law_201 ?_
      refine va_sld hx hb hX hbl hbA hS k1 dL_law_202 ?_
      refine lv_aload_n hx hb dL_law_203 rfl (lv_at hl 0 rfl) ?_
      refine lv_iload_n hx hb dL_law_204 rfl (lv_at hl 3 rfl) ?_
      refine lv_iconst (v := 2) hx hb dL_law_205 (by decide) ?_
      refine lv_iadd hx hb dL_law_206 ?_
      refine va_sld hx hb hX hbl hbA hS k2 dL_law_207 ?_
      refine lv_aload_n hx hb dL_law_208 rfl (lv_at hl 0 rfl) ?_
      refine lv_iload_n hx hb dL_law_209 rfl (lv_at hl 3 rfl) ?_
      refine lv_iconst (v := 3) hx hb dL_law_210 (by decide) ?_
      refine lv_iadd hx hb dL_law_211 ?_
      refine va_sld hx hb hX hbl hbA hS k3 dL_law_212 ?_
      refine q_l2 (As := [.int (xs (Int32.toNatClampNeg (nI (4 * t) + 1))), .int (xs (Int32.toNatClampNeg (nI (4 * t) + 2))), .int (xs (Int32.toNatClampNeg (nI (4 * t) + 3)))]) (rest := []) S hKF hNs hSt hPF hPM hD hS hA 0 (c_X11_set hw) lk_L_18 (by decide) (by decide) (by decide) rfl rfl rfl rfl rfl rfl ⟨Nat.le_of_ble_eq_true rfl, Nat.le_of_ble_eq_true rfl⟩ (Nat.le_of_ble_eq_true rfl) hl.1 ⟨hnc.1, hnc.2⟩ rfl dL_law_213 (fun r uF H locs hw hPF hPM hD hS => ?_)
      refine lv_aload_n hx hb dL_law_216 rfl (lv_at hl 2 rfl) ?_
      refine lv_aload_n hx hb dL_law_217 rfl (lv_at hl 0 rfl) ?_
      refine lv_iload_n hx hb dL_law_218 rfl (lv_at hl 3 rfl) ?_
      refine lv_iconst (v := 1) hx hb dL_law_219 (by decide) ?_
      refine lv_iadd hx hb dL_law_220 ?_
      refine va_sld hx hb hX hbl hbA hS k1 dL_law_221 ?_
      refine lv_aload_n hx hb dL_law_222 rfl (lv_at hl 0 rfl) ?_
      refine lv_iload_n hx hb dL_law_223 rfl (lv_at hl 3 rfl) ?_
      refine lv_iconst (v := 2) hx hb dL_law_224 (by decide) ?_
      refine lv_iadd hx hb dL_law_225 ?_
      refine va_sld hx hb hX hbl hbA hS k2 dL_law_226 ?_
      refine lv_aload_n hx hb dL_law_227 rfl (lv_at hl 0 rfl) ?_
      refine lv_iload_n hx hb dL_law_228 rfl (lv_at hl 3 rfl) ?_
      refine lv_iconst (v := 3) hx hb dL_law_229 (by decide) ?_
      refine lv_iadd hx hb dL_law_230 ?_
      refine va_sld hx hb hX hbl hbA hS k3 dL_law_231 ?_
      refine q_l2 (As := [.int (xs (Int32.toNatClampNeg (nI (4 * t) + 1))), .int (xs (Int32.toNatClampNeg (nI (4 * t) + 2))), .int (xs (Int32.toNatClampNeg (nI (4 * t) + 3)))]) (rest := [.int r]) S hKM hNs hSt hPM hPF (va_D_c hD) hS hA 0 (c_X12_set hw) lk_L_22 (by decide) (by decide) (by decide) rfl rfl rfl rfl rfl rfl ⟨Nat.le_of_ble_eq_true rfl, Nat.le_of_ble_eq_true rfl⟩ (Nat.le_of_ble_eq_true rfl) hl.1 ⟨hnc.1, hnc.2⟩ rfl dL_law_232 (fun r2 uM H locs hw hPM hPF hD hS => ?_)
      refine lv_icmp_eq (tgt := 931) hx hb dL_law_235 (by decide) (fun ce => ?_) (fun ce => absurd hw.1 ce)
      exact hend uF uM H locs hw.2 hPF hPM (va_D_c hD) hS
    by_cases s2 : op = 2
    · refine lv_tableIn (off := 208) (tgt := 240) hx hb dL_law_32 (by rw [s2]; decide) (by rw [s2]; decide) (by rw [s2]; decide) (by decide) ?_
      have hw := hm.2.2.1 t (xs (Int32.toNatClampNeg (nI (4 * t) + 1))) (xs (Int32.toNatClampNeg (nI (4 * t) + 2))) uF uM htl hRel
      refine lv_aload_n hx hb dL_law_240 rfl (lv_at hl 1 rfl) ?_
      refine lv_aload_n hx hb dL_law_241 rfl (lv_at hl 0 rfl) ?_
      refine lv_iload_n hx hb dL_law_242 rfl (lv_at hl 3 rfl) ?_
      refine lv_iconst (v := 1) hx hb dL_law_243 (by decide) ?_
      refine lv_iadd hx hb dL_law_244 ?_
      refine va_sld hx hb hX hbl hbA hS k1 dL_law_245 ?_
      refine lv_aload_n hx hb dL_law_246 rfl (lv_at hl 0 rfl) ?_
      refine lv_iload_n hx hb dL_law_247 rfl (lv_at hl 3 rfl) ?_
      refine lv_iconst (v := 2) hx hb dL_law_248 (by decide) ?_
      refine lv_iadd hx hb dL_law_249 ?_
      refine va_sld hx hb hX hbl hbA hS k2 dL_law_250 ?_
      refine q_l2 (As := [.int (xs (Int32.toNatClampNeg (nI (4 * t) + 1))), .int (xs (Int32.toNatClampNeg (nI (4 * t) + 2)))]) (rest := []) S hKF hNs hSt hPF hPM hD hS hA 0 (c_X11_lay hw) lk_L_23 (by decide) (by decide) (by decide) rfl rfl rfl rfl rfl rfl ⟨Nat.le_of_ble_eq_true rfl, Nat.le_of_ble_eq_true rfl⟩ (Nat.le_of_ble_eq_true rfl) hl.1 ⟨hnc.1, hnc.2⟩ rfl dL_law_251 (fun r uF H locs hw hPF hPM hD hS => ?_)
      refine lv_aload_n hx hb dL_law_254 rfl (lv_at hl 2 rfl) ?_
      refine lv_aload_n hx hb dL_law_255 rfl (lv_at hl 0 rfl) ?_
      refine lv_iload_n hx hb dL_law_256 rfl (lv_at hl 3 rfl) ?_
      refine lv_iconst (v := 1) hx hb dL_law_257 (by decide) ?_
      refine lv_iadd hx hb dL_law_258 ?_
      refine va_sld hx hb hX hbl hbA hS k1 dL_law_259 ?_
      refine lv_aload_n hx hb dL_law_260 rfl (lv_at hl 0 rfl) ?_
      refine lv_iload_n hx hb dL_law_261 rfl (lv_at hl 3 rfl) ?_
      refine lv_iconst (v := 2) hx hb dL_law_262 (by decide) ?_
      refine lv_iadd hx hb dL_law_263 ?_
      refine va_sld hx hb hX hbl hbA hS k2 dL_law_264 ?_
      refine q_l2 (As := [.int (xs (Int32.toNatClampNeg (nI (4 * t) + 1))), .int (xs (Int32.toNatClampNeg (nI (4 * t) + 2)))]) (rest := [.int r]) S hKM hNs hSt hPM hPF (va_D_c hD) hS hA 0 (c_X12_lay hw) lk_L_26 (by decide) (by decide) (by decide) rfl rfl rfl rfl rfl rfl ⟨Nat.le_of_ble_eq_true rfl, Nat.le_of_ble_eq_true rfl⟩ (Nat.le_of_ble_eq_true rfl) hl.1 ⟨hnc.1, hnc.2⟩ rfl dL_law_265 (fun r2 uM H locs hw hPM hPF hD hS => ?_)
      refine lv_icmp_eq (tgt := 931) hx hb dL_law_268 (by decide) (fun ce => ?_) (fun ce => absurd hw.1 ce)
      exact hend uF uM H locs hw.2 hPF hPM (va_D_c hD) hS
    by_cases s3 : op = 3
    · refine lv_tableIn (off := 241) (tgt := 273) hx hb dL_law_32 (by rw [s3]; decide) (by rw [s3]; decide) (by rw [s3]; decide) (by decide) ?_
      have hw := hm.2.2.2.1 t (xs (Int32.toNatClampNeg (nI (4 * t) + 1))) (xs (Int32.toNatClampNeg (nI (4 * t) + 2))) uF uM htl hRel
      refine lv_aload_n hx hb dL_law_273 rfl (lv_at hl 1 rfl) ?_
      refine lv_aload_n hx hb dL_law_274 rfl (lv_at hl 0 rfl) ?_
      refine lv_iload_n hx hb dL_law_275 rfl (lv_at hl 3 rfl) ?_
      refine lv_iconst (v := 1) hx hb dL_law_276 (by decide) ?_
      refine lv_iadd hx hb dL_law_277 ?_
      refine va_sld hx hb hX hbl hbA hS k1 dL_law_278 ?_
      refine lv_aload_n hx hb dL_law_279 rfl (lv_at hl 0 rfl) ?_
      refine lv_iload_n hx hb dL_law_280 rfl (lv_at hl 3 rfl) ?_
      refine lv_iconst (v := 2) hx hb dL_law_281 (by decide) ?_
      refine lv_iadd hx hb dL_law_282 ?_
      refine va_sld hx hb hX hbl hbA hS k2 dL_law_283 ?_
      refine q_l2 (As := [.int (xs (Int32.toNatClampNeg (nI (4 * t) + 1))), .int (xs (Int32.toNatClampNeg (nI (4 * t) + 2)))]) (rest := []) S hKF hNs hSt hPF hPM hD hS hA 0 (c_X11_free hw) lk_L_27 (by decide) (by decide) (by decide) rfl rfl rfl rfl rfl rfl ⟨Nat.le_of_ble_eq_true rfl, Nat.le_of_ble_eq_true rfl⟩ (Nat.le_of_ble_eq_true rfl) hl.1 ⟨hnc.1, hnc.2⟩ rfl dL_law_284 (fun r uF H locs hw hPF hPM hD hS => ?_)
      refine lv_aload_n hx hb dL_law_287 rfl (lv_at hl 2 rfl) ?_
      refine lv_aload_n hx hb dL_law_288 rfl (lv_at hl 0 rfl) ?_
      refine lv_iload_n hx hb dL_law_289 rfl (lv_at hl 3 rfl) ?_
      refine lv_iconst (v := 1) hx hb dL_law_290 (by decide) ?_
      refine lv_iadd hx hb dL_law_291 ?_
      refine va_sld hx hb hX hbl hbA hS k1 dL_law_292 ?_
      refine lv_aload_n hx hb dL_law_293 rfl (lv_at hl 0 rfl) ?_
      refine lv_iload_n hx hb dL_law_294 rfl (lv_at hl 3 rfl) ?_
      refine lv_iconst (v := 2) hx hb dL_law_295 (by decide) ?_
      refine lv_iadd hx hb dL_law_296 ?_
      refine va_sld hx hb hX hbl hbA hS k2 dL_law_297 ?_
      refine q_l2 (As := [.int (xs (Int32.toNatClampNeg (nI (4 * t) + 1))), .int (xs (Int32.toNatClampNeg (nI (4 * t) + 2)))]) (rest := [.int r]) S hKM hNs hSt hPM hPF (va_D_c hD) hS hA 0 (c_X12_free hw) lk_L_30 (by decide) (by decide) (by decide) rfl rfl rfl rfl rfl rfl ⟨Nat.le_of_ble_eq_true rfl, Nat.le_of_ble_eq_true rfl⟩ (Nat.le_of_ble_eq_true rfl) hl.1 ⟨hnc.1, hnc.2⟩ rfl dL_law_298 (fun r2 uM H locs hw hPM hPF hD hS => ?_)
      refine lv_icmp_eq (tgt := 931) hx hb dL_law_301 (by decide) (fun ce => ?_) (fun ce => absurd hw.1 ce)
      exact hend uF uM H locs hw.2 hPF hPM (va_D_c hD) hS
    by_cases s4 : op = 4
    · refine lv_tableIn (off := 274) (tgt := 306) hx hb dL_law_32 (by rw [s4]; decide) (by rw [s4]; decide) (by rw [s4]; decide) (by decide) ?_
      have hw := hm.2.2.2.2.1 t (xs (Int32.toNatClampNeg (nI (4 * t) + 1))) uF uM htl hRel
      refine lv_aload_n hx hb dL_law_306 rfl (lv_at hl 1 rfl) ?_
      refine lv_aload_n hx hb dL_law_307 rfl (lv_at hl 0 rfl) ?_
      refine lv_iload_n hx hb dL_law_308 rfl (lv_at hl 3 rfl) ?_
      refine lv_iconst (v := 1) hx hb dL_law_309 (by decide) ?_
      refine lv_iadd hx hb dL_law_310 ?_
      refine va_sld hx hb hX hbl hbA hS k1 dL_law_311 ?_
      refine q_l2 (As := [.int (xs (Int32.toNatClampNeg (nI (4 * t) + 1)))]) (rest := []) S hKF hNs hSt hPF hPM hD hS hA 0 (c_X11_put hw) lk_L_31 (by decide) (by decide) (by decide) rfl rfl rfl rfl rfl rfl ⟨Nat.le_of_ble_eq_true rfl, Nat.le_of_ble_eq_true rfl⟩ (Nat.le_of_ble_eq_true rfl) hl.1 ⟨hnc.1, hnc.2⟩ rfl dL_law_312 (fun r uF H locs hw hPF hPM hD hS => ?_)
      refine lv_aload_n hx hb dL_law_315 rfl (lv_at hl 2 rfl) ?_
      refine lv_aload_n hx hb dL_law_316 rfl (lv_at hl 0 rfl) ?_
      refine lv_iload_n hx hb dL_law_317 rfl (lv_at hl 3 rfl) ?_
      refine lv_iconst (v := 1) hx hb dL_law_318 (by decide) ?_
      refine lv_iadd hx hb dL_law_319 ?_
      refine va_sld hx hb hX hbl hbA hS k1 dL_law_320 ?_
      refine q_l2 (As := [.int (xs (Int32.toNatClampNeg (nI (4 * t) + 1)))]) (rest := [.int r]) S hKM hNs hSt hPM hPF (va_D_c hD) hS hA 0 (c_X12_put hw) lk_L_35 (by decide) (by decide) (by decide) rfl rfl rfl rfl rfl rfl ⟨Nat.le_of_ble_eq_true rfl, Nat.le_of_ble_eq_true rfl⟩ (Nat.le_of_ble_eq_true rfl) hl.1 ⟨hnc.1, hnc.2⟩ rfl dL_law_321 (fun r2 uM H locs hw hPM hPF hD hS => ?_)
      refine lv_icmp_eq (tgt := 931) hx hb dL_law_324 (by decide) (fun ce => ?_) (fun ce => absurd hw.1 ce)
      exact hend uF uM H locs hw.2 hPF hPM (va_D_c hD) hS
    by_cases s5 : op = 5
    · refine lv_tableIn (off := 297) (tgt := 329) hx hb dL_law_32 (by rw [s5]; decide) (by rw [s5]; decide) (by rw [s5]; decide) (by decide) ?_
      have hw := hm.2.2.2.2.2.1 t uF uM htl hRel
      refine lv_aload_n hx hb dL_law_329 rfl (lv_at hl 1 rfl) ?_
      refine q_l2 (As := []) (rest := []) S hKF hNs hSt hPF hPM hD hS hA 0 (c_X11_clear hw) lk_L_36 (by decide) (by decide) (by decide) rfl rfl rfl rfl rfl rfl ⟨Nat.le_of_ble_eq_true rfl, Nat.le_of_ble_eq_true rfl⟩ (Nat.le_of_ble_eq_true rfl) hl.1 ⟨hnc.1, hnc.2⟩ rfl dL_law_330 (fun r uF H locs hw hPF hPM hD hS => ?_)
      refine lv_aload_n hx hb dL_law_333 rfl (lv_at hl 2 rfl) ?_
      refine q_l2 (As := []) (rest := [.int r]) S hKM hNs hSt hPM hPF (va_D_c hD) hS hA 0 (c_X12_clear hw) lk_L_40 (by decide) (by decide) (by decide) rfl rfl rfl rfl rfl rfl ⟨Nat.le_of_ble_eq_true rfl, Nat.le_of_ble_eq_true rfl⟩ (Nat.le_of_ble_eq_true rfl) hl.1 ⟨hnc.1, hnc.2⟩ rfl dL_law_334 (fun r2 uM H locs hw hPM hPF hD hS => ?_)
      refine lv_icmp_eq (tgt := 931) hx hb dL_law_337 (by decide) (fun ce => ?_) (fun ce => absurd hw.1 ce)
      exact hend uF uM H locs hw.2 hPF hPM (va_D_c hD) hS
    by_cases s6 : op = 6
    · refine lv_tableIn (off := 310) (tgt := 342) hx hb dL_law_32 (by rw [s6]; decide) (by rw [s6]; decide) (by rw [s6]; decide) (by decide) ?_
      have hw := hm.2.2.2.2.2.2.1 t (xs (Int32.toNatClampNeg (nI (4 * t) + 1))) (xs (Int32.toNatClampNeg (nI (4 * t) + 2))) uF uM htl hRel
      refine lv_aload_n hx hb dL_law_342 rfl (lv_at hl 1 rfl) ?_
      refine lv_aload_n hx hb dL_law_343 rfl (lv_at hl 0 rfl) ?_
      refine lv_iload_n hx hb dL_law_344 rfl (lv_at hl 3 rfl) ?_
      refine lv_iconst (v := 1) hx hb dL_law_345 (by decide) ?_
      refine lv_iadd hx hb dL_law_346 ?_
      refine va_sld hx hb hX hbl hbA hS k1 dL_law_347 ?_
      refine lv_aload_n hx hb dL_law_348 rfl (lv_at hl 0 rfl) ?_
      refine lv_iload_n hx hb dL_law_349 rfl (lv_at hl 3 rfl) ?_
      refine lv_iconst (v := 2) hx hb dL_law_350 (by decide) ?_
      refine lv_iadd hx hb dL_law_351 ?_
      refine va_sld hx hb hX hbl hbA hS k2 dL_law_352 ?_
      refine q_l2 (As := [.int (xs (Int32.toNatClampNeg (nI (4 * t) + 1))), .int (xs (Int32.toNatClampNeg (nI (4 * t) + 2)))]) (rest := []) S hKF hNs hSt hPF hPM hD hS hA 0 (c_X11_told hw) lk_L_41 (by decide) (by decide) (by decide) rfl rfl rfl rfl rfl rfl ⟨Nat.le_of_ble_eq_true rfl, Nat.le_of_ble_eq_true rfl⟩ (Nat.le_of_ble_eq_true rfl) hl.1 ⟨hnc.1, hnc.2⟩ rfl dL_law_353 (fun r uF H locs hw hPF hPM hD hS => ?_)
      refine lv_aload_n hx hb dL_law_356 rfl (lv_at hl 2 rfl) ?_
      refine lv_aload_n hx hb dL_law_357 rfl (lv_at hl 0 rfl) ?_
      refine lv_iload_n hx hb dL_law_358 rfl (lv_at hl 3 rfl) ?_
      refine lv_iconst (v := 1) hx hb dL_law_359 (by decide) ?_
      refine lv_iadd hx hb dL_law_360 ?_
      refine va_sld hx hb hX hbl hbA hS k1 dL_law_361 ?_
      refine lv_aload_n hx hb dL_law_362 rfl (lv_at hl 0 rfl) ?_
      refine lv_iload_n hx hb dL_law_363 rfl (lv_at hl 3 rfl) ?_
      refine lv_iconst (v := 2) hx hb dL_law_364 (by decide) ?_
      refine lv_iadd hx hb dL_law_365 ?_
      refine va_sld hx hb hX hbl hbA hS k2 dL_law_366 ?_
      refine q_l2 (As := [.int (xs (Int32.toNatClampNeg (nI (4 * t) + 1))), .int (xs (Int32.toNatClampNeg (nI (4 * t) + 2)))]) (rest := [.int r]) S hKM hNs hSt hPM hPF (va_D_c hD) hS hA 0 (c_X12_told hw) lk_L_44 (by decide) (by decide) (by decide) rfl rfl rfl rfl rfl rfl ⟨Nat.le_of_ble_eq_true rfl, Nat.le_of_ble_eq_true rfl⟩ (Nat.le_of_ble_eq_true rfl) hl.1 ⟨hnc.1, hnc.2⟩ rfl dL_law_367 (fun r2 uM H locs hw hPM hPF hD hS => ?_)
      refine lv_icmp_eq (tgt := 931) hx hb dL_law_370 (by decide) (fun ce => ?_) (fun ce => absurd hw.1 ce)
      exact hend uF uM H locs hw.2 hPF hPM (va_D_c hD) hS
    by_cases s7 : op = 7
    · refine lv_tableIn (off := 343) (tgt := 375) hx hb dL_law_32 (by rw [s7]; decide) (by rw [s7]; decide) (by rw [s7]; decide) (by decide) ?_
      have hw := hm.2.2.2.2.2.2.2.1 t (xs (Int32.toNatClampNeg (nI (4 * t) + 1))) (xs (Int32.toNatClampNeg (nI (4 * t) + 2))) uF uM htl hRel
      refine lv_aload_n hx hb dL_law_375 rfl (lv_at hl 1 rfl) ?_
      refine lv_aload_n hx hb dL_law_376 rfl (lv_at hl 0 rfl) ?_
      refine lv_iload_n hx hb dL_law_377 rfl (lv_at hl 3 rfl) ?_
      refine lv_iconst (v := 1) hx hb dL_law_378 (by decide) ?_
      refine lv_iadd hx hb dL_law_379 ?_
      refine va_sld hx hb hX hbl hbA hS k1 dL_law_380 ?_
      refine lv_aload_n hx hb dL_law_381 rfl (lv_at hl 0 rfl) ?_
      refine lv_iload_n hx hb dL_law_382 rfl (lv_at hl 3 rfl) ?_
      refine lv_iconst (v := 2) hx hb dL_law_383 (by decide) ?_
      refine lv_iadd hx hb dL_law_384 ?_
      refine va_sld hx hb hX hbl hbA hS k2 dL_law_385 ?_
      refine q_l2 (As := [.int (xs (Int32.toNatClampNeg (nI (4 * t) + 1))), .int (xs (Int32.toNatClampNeg (nI (4 * t) + 2)))]) (rest := []) S hKF hNs hSt hPF hPM hD hS hA 0 (c_X11_ahead hw) lk_L_45 (by decide) (by decide) (by decide) rfl rfl rfl rfl rfl rfl ⟨Nat.le_of_ble_eq_true rfl, Nat.le_of_ble_eq_true rfl⟩ (Nat.le_of_ble_eq_true rfl) hl.1 ⟨hnc.1, hnc.2⟩ rfl dL_law_386 (fun r uF H locs hw hPF hPM hD hS => ?_)
      refine lv_aload_n hx hb dL_law_389 rfl (lv_at hl 2 rfl) ?_
      refine lv_aload_n hx hb dL_law_390 rfl (lv_at hl 0 rfl) ?_
      refine lv_iload_n hx hb dL_law_391 rfl (lv_at hl 3 rfl) ?_
      refine lv_iconst (v := 1) hx hb dL_law_392 (by decide) ?_
      refine lv_iadd hx hb dL_law_393 ?_
      refine va_sld hx hb hX hbl hbA hS k1 dL_law_394 ?_
      refine lv_aload_n hx hb dL_law_395 rfl (lv_at hl 0 rfl) ?_
      refine lv_iload_n hx hb dL_law_396 rfl (lv_at hl 3 rfl) ?_
      refine lv_iconst (v := 2) hx hb dL_law_397 (by decide) ?_
      refine lv_iadd hx hb dL_law_398 ?_
      refine va_sld hx hb hX hbl hbA hS k2 dL_law_399 ?_
      refine q_l2 (As := [.int (xs (Int32.toNatClampNeg (nI (4 * t) + 1))), .int (xs (Int32.toNatClampNeg (nI (4 * t) + 2)))]) (rest := [.int r]) S hKM hNs hSt hPM hPF (va_D_c hD) hS hA 0 (c_X12_ahead hw) lk_L_48 (by decide) (by decide) (by decide) rfl rfl rfl rfl rfl rfl ⟨Nat.le_of_ble_eq_true rfl, Nat.le_of_ble_eq_true rfl⟩ (Nat.le_of_ble_eq_true rfl) hl.1 ⟨hnc.1, hnc.2⟩ rfl dL_law_400 (fun r2 uM H locs hw hPM hPF hD hS => ?_)
      refine lv_icmp_eq (tgt := 931) hx hb dL_law_403 (by decide) (fun ce => ?_) (fun ce => absurd hw.1 ce)
      exact hend uF uM H locs hw.2 hPF hPM (va_D_c hD) hS
    by_cases s8 : op = 8
    · refine lv_tableIn (off := 376) (tgt := 408) hx hb dL_law_32 (by rw [s8]; decide) (by rw [s8]; decide) (by rw [s8]; decide) (by decide) ?_
      have hw := hm.2.2.2.2.2.2.2.2.1 t (xs (Int32.toNatClampNeg (nI (4 * t) + 1))) uF uM htl hRel
      refine lv_aload_n hx hb dL_law_408 rfl (lv_at hl 1 rfl) ?_
      refine lv_aload_n hx hb dL_law_409 rfl (lv_at hl 0 rfl) ?_
      refine lv_iload_n hx hb dL_law_410 rfl (lv_at hl 3 rfl) ?_
      refine lv_iconst (v := 1) hx hb dL_law_411 (by decide) ?_
      refine lv_iadd hx hb dL_law_412 ?_
      refine va_sld hx hb hX hbl hbA hS k1 dL_law_413 ?_
      refine q_l2 (As := [.int (xs (Int32.toNatClampNeg (nI (4 * t) + 1)))]) (rest := []) S hKF hNs hSt hPF hPM hD hS hA 0 (c_X11_count hw) lk_L_49 (by decide) (by decide) (by decide) rfl rfl rfl rfl rfl rfl ⟨Nat.le_of_ble_eq_true rfl, Nat.le_of_ble_eq_true rfl⟩ (Nat.le_of_ble_eq_true rfl) hl.1 ⟨hnc.1, hnc.2⟩ rfl dL_law_414 (fun r uF H locs hw hPF hPM hD hS => ?_)
      refine lv_aload_n hx hb dL_law_417 rfl (lv_at hl 2 rfl) ?_
      refine lv_aload_n hx hb dL_law_418 rfl (lv_at hl 0 rfl) ?_
      refine lv_iload_n hx hb dL_law_419 rfl (lv_at hl 3 rfl) ?_
      refine lv_iconst (v := 1) hx hb dL_law_420 (by decide) ?_
      refine lv_iadd hx hb dL_law_421 ?_
      refine va_sld hx hb hX hbl hbA hS k1 dL_law_422 ?_
      refine q_l2 (As := [.int (xs (Int32.toNatClampNeg (nI (4 * t) + 1)))]) (rest := [.int r]) S hKM hNs hSt hPM hPF (va_D_c hD) hS hA 0 (c_X12_count hw) lk_L_52 (by decide) (by decide) (by decide) rfl rfl rfl rfl rfl rfl ⟨Nat.le_of_ble_eq_true rfl, Nat.le_of_ble_eq_true rfl⟩ (Nat.le_of_ble_eq_true rfl) hl.1 ⟨hnc.1, hnc.2⟩ rfl dL_law_423 (fun r2 uM H locs hw hPM hPF hD hS => ?_)
      refine lv_icmp_eq (tgt := 931) hx hb dL_law_426 (by decide) (fun ce => ?_) (fun ce => absurd hw.1 ce)
      exact hend uF uM H locs hw.2 hPF hPM (va_D_c hD) hS
    by_cases s9 : op = 9
    · refine lv_tableIn (off := 399) (tgt := 431) hx hb dL_law_32 (by rw [s9]; decide) (by rw [s9]; decide) (by rw [s9]; decide) (by decide) ?_
      have hw := hm.2.2.2.2.2.2.2.2.2.1 t uF uM htl hRel
      refine lv_aload_n hx hb dL_law_431 rfl (lv_at hl 1 rfl) ?_
      refine q_l2 (As := []) (rest := []) S hKF hNs hSt hPF hPM hD hS hA 0 (c_X11_keeps hw) lk_L_53 (by decide) (by decide) (by decide) rfl rfl rfl rfl rfl rfl ⟨Nat.le_of_ble_eq_true rfl, Nat.le_of_ble_eq_true rfl⟩ (Nat.le_of_ble_eq_true rfl) hl.1 ⟨hnc.1, hnc.2⟩ rfl dL_law_432 (fun r uF H locs hw hPF hPM hD hS => ?_)
      refine lv_aload_n hx hb dL_law_435 rfl (lv_at hl 2 rfl) ?_
      refine q_l2 (As := []) (rest := [.int r]) S hKM hNs hSt hPM hPF (va_D_c hD) hS hA 0 (c_X12_keeps hw) lk_L_56 (by decide) (by decide) (by decide) rfl rfl rfl rfl rfl rfl ⟨Nat.le_of_ble_eq_true rfl, Nat.le_of_ble_eq_true rfl⟩ (Nat.le_of_ble_eq_true rfl) hl.1 ⟨hnc.1, hnc.2⟩ rfl dL_law_436 (fun r2 uM H locs hw hPM hPF hD hS => ?_)
      refine lv_icmp_eq (tgt := 931) hx hb dL_law_439 (by decide) (fun ce => ?_) (fun ce => absurd hw.1 ce)
      exact hend uF uM H locs hw.2 hPF hPM (va_D_c hD) hS
    by_cases s10 : op = 10
    · refine lv_tableIn (off := 412) (tgt := 444) hx hb dL_law_32 (by rw [s10]; decide) (by rw [s10]; decide) (by rw [s10]; decide) (by decide) ?_
      have hw := hm.2.2.2.2.2.2.2.2.2.2.1 t (xs (Int32.toNatClampNeg (nI (4 * t) + 1))) uF uM htl hRel
      refine lv_aload_n hx hb dL_law_444 rfl (lv_at hl 1 rfl) ?_
      refine lv_aload_n hx hb dL_law_445 rfl (lv_at hl 0 rfl) ?_
      refine lv_iload_n hx hb dL_law_446 rfl (lv_at hl 3 rfl) ?_
      refine lv_iconst (v := 1) hx hb dL_law_447 (by decide) ?_
      refine lv_iadd hx hb dL_law_448 ?_
      refine va_sld hx hb hX hbl hbA hS k1 dL_law_449 ?_
      refine q_l2 (As := [.int (xs (Int32.toNatClampNeg (nI (4 * t) + 1)))]) (rest := []) S hKF hNs hSt hPF hPM hD hS hA 0 (c_X11_why hw) lk_L_57 (by decide) (by decide) (by decide) rfl rfl rfl rfl rfl rfl ⟨Nat.le_of_ble_eq_true rfl, Nat.le_of_ble_eq_true rfl⟩ (Nat.le_of_ble_eq_true rfl) hl.1 ⟨hnc.1, hnc.2⟩ rfl dL_law_450 (fun r uF H locs hw hPF hPM hD hS => ?_)
      refine lv_aload_n hx hb dL_law_453 rfl (lv_at hl 2 rfl) ?_
      refine lv_aload_n hx hb dL_law_454 rfl (lv_at hl 0 rfl) ?_
      refine lv_iload_n hx hb dL_law_455 rfl (lv_at hl 3 rfl) ?_
      refine lv_iconst (v := 1) hx hb dL_law_456 (by decide) ?_
      refine lv_iadd hx hb dL_law_457 ?_
      refine va_sld hx hb hX hbl hbA hS k1 dL_law_458 ?_
      refine q_l2 (As := [.int (xs (Int32.toNatClampNeg (nI (4 * t) + 1)))]) (rest := [.int r]) S hKM hNs hSt hPM hPF (va_D_c hD) hS hA 0 (c_X12_why hw) lk_L_60 (by decide) (by decide) (by decide) rfl rfl rfl rfl rfl rfl ⟨Nat.le_of_ble_eq_true rfl, Nat.le_of_ble_eq_true rfl⟩ (Nat.le_of_ble_eq_true rfl) hl.1 ⟨hnc.1, hnc.2⟩ rfl dL_law_459 (fun r2 uM H locs hw hPM hPF hD hS => ?_)
      refine lv_icmp_eq (tgt := 931) hx hb dL_law_462 (by decide) (fun ce => ?_) (fun ce => absurd hw.1 ce)
      exact hend uF uM H locs hw.2 hPF hPM (va_D_c hD) hS
    by_cases s11 : op = 11
    · refine lv_tableIn (off := 435) (tgt := 467) hx hb dL_law_32 (by rw [s11]; decide) (by rw [s11]; decide) (by rw [s11]; decide) (by decide) ?_
      have hw := hm.2.2.2.2.2.2.2.2.2.2.2.1 t uF uM htl hRel
      refine lv_aload_n hx hb dL_law_467 rfl (lv_at hl 1 rfl) ?_
      refine q_l2 (As := []) (rest := []) S hKF hNs hSt hPF hPM hD hS hA 0 (c_X11_cost hw) lk_L_61 (by decide) (by decide) (by decide) rfl rfl rfl rfl rfl rfl ⟨Nat.le_of_ble_eq_true rfl, Nat.le_of_ble_eq_true rfl⟩ (Nat.le_of_ble_eq_true rfl) hl.1 ⟨hnc.1, hnc.2⟩ rfl dL_law_468 (fun r uF H locs hw hPF hPM hD hS => ?_)
      refine lv_aload_n hx hb dL_law_471 rfl (lv_at hl 2 rfl) ?_
      refine q_l2 (As := []) (rest := [.int r]) S hKM hNs hSt hPM hPF (va_D_c hD) hS hA 0 (c_X12_cost hw) lk_L_64 (by decide) (by decide) (by decide) rfl rfl rfl rfl rfl rfl ⟨Nat.le_of_ble_eq_true rfl, Nat.le_of_ble_eq_true rfl⟩ (Nat.le_of_ble_eq_true rfl) hl.1 ⟨hnc.1, hnc.2⟩ rfl dL_law_472 (fun r2 uM H locs hw hPM hPF hD hS => ?_)
      refine lv_icmp_eq (tgt := 931) hx hb dL_law_475 (by decide) (fun ce => ?_) (fun ce => absurd hw.1 ce)
      exact hend uF uM H locs hw.2 hPF hPM (va_D_c hD) hS
    by_cases s12 : op = 12
    · refine lv_tableIn (off := 448) (tgt := 480) hx hb dL_law_32 (by rw [s12]; decide) (by rw [s12]; decide) (by rw [s12]; decide) (by decide) ?_
      have hw := hm.2.2.2.2.2.2.2.2.2.2.2.2.1 t (xs (Int32.toNatClampNeg (nI (4 * t) + 1))) uF uM htl hRel
      refine lv_aload_n hx hb dL_law_480 rfl (lv_at hl 1 rfl) ?_
      refine lv_aload_n hx hb dL_law_481 rfl (lv_at hl 0 rfl) ?_
      refine lv_iload_n hx hb dL_law_482 rfl (lv_at hl 3 rfl) ?_
      refine lv_iconst (v := 1) hx hb dL_law_483 (by decide) ?_
      refine lv_iadd hx hb dL_law_484 ?_
      refine va_sld hx hb hX hbl hbA hS k1 dL_law_485 ?_
      refine q_l2 (As := [.int (xs (Int32.toNatClampNeg (nI (4 * t) + 1)))]) (rest := []) S hKF hNs hSt hPF hPM hD hS hA 0 (c_X11_swap hw) lk_L_65 (by decide) (by decide) (by decide) rfl rfl rfl rfl rfl rfl ⟨Nat.le_of_ble_eq_true rfl, Nat.le_of_ble_eq_true rfl⟩ (Nat.le_of_ble_eq_true rfl) hl.1 ⟨hnc.1, hnc.2⟩ rfl dL_law_486 (fun r uF H locs hw hPF hPM hD hS => ?_)
      refine lv_aload_n hx hb dL_law_489 rfl (lv_at hl 2 rfl) ?_
      refine lv_aload_n hx hb dL_law_490 rfl (lv_at hl 0 rfl) ?_
      refine lv_iload_n hx hb dL_law_491 rfl (lv_at hl 3 rfl) ?_
      refine lv_iconst (v := 1) hx hb dL_law_492 (by decide) ?_
      refine lv_iadd hx hb dL_law_493 ?_
      refine va_sld hx hb hX hbl hbA hS k1 dL_law_494 ?_
      refine q_l2 (As := [.int (xs (Int32.toNatClampNeg (nI (4 * t) + 1)))]) (rest := [.int r]) S hKM hNs hSt hPM hPF (va_D_c hD) hS hA 0 (c_X12_swap hw) lk_L_68 (by decide) (by decide) (by decide) rfl rfl rfl rfl rfl rfl ⟨Nat.le_of_ble_eq_true rfl, Nat.le_of_ble_eq_true rfl⟩ (Nat.le_of_ble_eq_true rfl) hl.1 ⟨hnc.1, hnc.2⟩ rfl dL_law_495 (fun r2 uM H locs hw hPM hPF hD hS => ?_)
      refine lv_icmp_eq (tgt := 931) hx hb dL_law_498 (by decide) (fun ce => ?_) (fun ce => absurd hw.1 ce)
      exact hend uF uM H locs hw.2 hPF hPM (va_D_c hD) hS
    by_cases s13 : op = 13
    · refine lv_tableIn (off := 471) (tgt := 503) hx hb dL_law_32 (by rw [s13]; decide) (by rw [s13]; decide) (by rw [s13]; decide) (by decide) ?_
      have hw := hm.2.2.2.2.2.2.2.2.2.2.2.2.2.1 t (xs (Int32.toNatClampNeg (nI (4 * t) + 1))) (xs (Int32.toNatClampNeg (nI (4 * t) + 2))) uF uM htl hRel
      refine lv_aload_n hx hb dL_law_503 rfl (lv_at hl 1 rfl) ?_
      refine lv_aload_n hx hb dL_law_504 rfl (lv_at hl 0 rfl) ?_
      refine lv_iload_n hx hb dL_law_505 rfl (lv_at hl 3 rfl) ?_
      refine lv_iconst (v := 1) hx hb dL_law_506 (by decide) ?_
      refine lv_iadd hx hb dL_law_507 ?_
      refine va_sld hx hb hX hbl hbA hS k1 dL_law_508 ?_
      refine lv_aload_n hx hb dL_law_509 rfl (lv_at hl 0 rfl) ?_
      refine lv_iload_n hx hb dL_law_510 rfl (lv_at hl 3 rfl) ?_
      refine lv_iconst (v := 2) hx hb dL_law_511 (by decide) ?_
      refine lv_iadd hx hb dL_law_512 ?_
      refine va_sld hx hb hX hbl hbA hS k2 dL_law_513 ?_
      refine q_l2 (As := [.int (xs (Int32.toNatClampNeg (nI (4 * t) + 1))), .int (xs (Int32.toNatClampNeg (nI (4 * t) + 2)))]) (rest := []) S hKF hNs hSt hPF hPM hD hS hA 0 (c_X11_block hw) lk_L_69 (by decide) (by decide) (by decide) rfl rfl rfl rfl rfl rfl ⟨Nat.le_of_ble_eq_true rfl, Nat.le_of_ble_eq_true rfl⟩ (Nat.le_of_ble_eq_true rfl) hl.1 ⟨hnc.1, hnc.2⟩ rfl dL_law_514 (fun r uF H locs hw hPF hPM hD hS => ?_)
      refine lv_aload_n hx hb dL_law_517 rfl (lv_at hl 2 rfl) ?_
      refine lv_aload_n hx hb dL_law_518 rfl (lv_at hl 0 rfl) ?_
      refine lv_iload_n hx hb dL_law_519 rfl (lv_at hl 3 rfl) ?_
      refine lv_iconst (v := 1) hx hb dL_law_520 (by decide) ?_
      refine lv_iadd hx hb dL_law_521 ?_
      refine va_sld hx hb hX hbl hbA hS k1 dL_law_522 ?_
      refine lv_aload_n hx hb dL_law_523 rfl (lv_at hl 0 rfl) ?_
      refine lv_iload_n hx hb dL_law_524 rfl (lv_at hl 3 rfl) ?_
      refine lv_iconst (v := 2) hx hb dL_law_525 (by decide) ?_
      refine lv_iadd hx hb dL_law_526 ?_
      refine va_sld hx hb hX hbl hbA hS k2 dL_law_527 ?_
      refine q_l2 (As := [.int (xs (Int32.toNatClampNeg (nI (4 * t) + 1))), .int (xs (Int32.toNatClampNeg (nI (4 * t) + 2)))]) (rest := [.int r]) S hKM hNs hSt hPM hPF (va_D_c hD) hS hA 0 (c_X12_block hw) lk_L_72 (by decide) (by decide) (by decide) rfl rfl rfl rfl rfl rfl ⟨Nat.le_of_ble_eq_true rfl, Nat.le_of_ble_eq_true rfl⟩ (Nat.le_of_ble_eq_true rfl) hl.1 ⟨hnc.1, hnc.2⟩ rfl dL_law_528 (fun r2 uM H locs hw hPM hPF hD hS => ?_)
      refine lv_icmp_eq (tgt := 931) hx hb dL_law_531 (by decide) (fun ce => ?_) (fun ce => absurd hw.1 ce)
      exact hend uF uM H locs hw.2 hPF hPM (va_D_c hD) hS
    by_cases s14 : op = 14
    · refine lv_tableIn (off := 504) (tgt := 536) hx hb dL_law_32 (by rw [s14]; decide) (by rw [s14]; decide) (by rw [s14]; decide) (by decide) ?_
      have hw := hm.2.2.2.2.2.2.2.2.2.2.2.2.2.2.1 t uF uM htl hRel
      refine lv_aload_n hx hb dL_law_536 rfl (lv_at hl 1 rfl) ?_
      refine q_l2 (As := []) (rest := []) S hKF hNs hSt hPF hPM hD hS hA 0 (c_X11_least hw) lk_L_73 (by decide) (by decide) (by decide) rfl rfl rfl rfl rfl rfl ⟨Nat.le_of_ble_eq_true rfl, Nat.le_of_ble_eq_true rfl⟩ (Nat.le_of_ble_eq_true rfl) hl.1 ⟨hnc.1, hnc.2⟩ rfl dL_law_537 (fun r uF H locs hw hPF hPM hD hS => ?_)
      refine lv_aload_n hx hb dL_law_540 rfl (lv_at hl 2 rfl) ?_
      refine q_l2 (As := []) (rest := [.int r]) S hKM hNs hSt hPM hPF (va_D_c hD) hS hA 0 (c_X12_least hw) lk_L_76 (by decide) (by decide) (by decide) rfl rfl rfl rfl rfl rfl ⟨Nat.le_of_ble_eq_true rfl, Nat.le_of_ble_eq_true rfl⟩ (Nat.le_of_ble_eq_true rfl) hl.1 ⟨hnc.1, hnc.2⟩ rfl dL_law_541 (fun r2 uM H locs hw hPM hPF hD hS => ?_)
      refine lv_icmp_eq (tgt := 931) hx hb dL_law_544 (by decide) (fun ce => ?_) (fun ce => absurd hw.1 ce)
      exact hend uF uM H locs hw.2 hPF hPM (va_D_c hD) hS
    by_cases s15 : op = 15
    · refine lv_tableIn (off := 517) (tgt := 549) hx hb dL_law_32 (by rw [s15]; decide) (by rw [s15]; decide) (by rw [s15]; decide) (by decide) ?_
      have hw := hm.2.2.2.2.2.2.2.2.2.2.2.2.2.2.2.1 t (xs (Int32.toNatClampNeg (nI (4 * t) + 1))) uF uM htl hRel
      refine lv_aload_n hx hb dL_law_549 rfl (lv_at hl 1 rfl) ?_
      refine lv_aload_n hx hb dL_law_550 rfl (lv_at hl 0 rfl) ?_
      refine lv_iload_n hx hb dL_law_551 rfl (lv_at hl 3 rfl) ?_
      refine lv_iconst (v := 1) hx hb dL_law_552 (by decide) ?_
      refine lv_iadd hx hb dL_law_553 ?_
      refine va_sld hx hb hX hbl hbA hS k1 dL_law_554 ?_
      refine q_l2 (As := [.int (xs (Int32.toNatClampNeg (nI (4 * t) + 1)))]) (rest := []) S hKF hNs hSt hPF hPM hD hS hA 0 (c_X11_best hw) lk_L_77 (by decide) (by decide) (by decide) rfl rfl rfl rfl rfl rfl ⟨Nat.le_of_ble_eq_true rfl, Nat.le_of_ble_eq_true rfl⟩ (Nat.le_of_ble_eq_true rfl) hl.1 ⟨hnc.1, hnc.2⟩ rfl dL_law_555 (fun r uF H locs hw hPF hPM hD hS => ?_)
      refine lv_aload_n hx hb dL_law_558 rfl (lv_at hl 2 rfl) ?_
      refine lv_aload_n hx hb dL_law_559 rfl (lv_at hl 0 rfl) ?_
      refine lv_iload_n hx hb dL_law_560 rfl (lv_at hl 3 rfl) ?_
      refine lv_iconst (v := 1) hx hb dL_law_561 (by decide) ?_
      refine lv_iadd hx hb dL_law_562 ?_
      refine va_sld hx hb hX hbl hbA hS k1 dL_law_563 ?_
      refine q_l2 (As := [.int (xs (Int32.toNatClampNeg (nI (4 * t) + 1)))]) (rest := [.int r]) S hKM hNs hSt hPM hPF (va_D_c hD) hS hA 0 (c_X12_best hw) lk_L_80 (by decide) (by decide) (by decide) rfl rfl rfl rfl rfl rfl ⟨Nat.le_of_ble_eq_true rfl, Nat.le_of_ble_eq_true rfl⟩ (Nat.le_of_ble_eq_true rfl) hl.1 ⟨hnc.1, hnc.2⟩ rfl dL_law_564 (fun r2 uM H locs hw hPM hPF hD hS => ?_)
      refine lv_icmp_eq (tgt := 931) hx hb dL_law_567 (by decide) (fun ce => ?_) (fun ce => absurd hw.1 ce)
      exact hend uF uM H locs hw.2 hPF hPM (va_D_c hD) hS
    by_cases s16 : op = 16
    · refine lv_tableIn (off := 540) (tgt := 572) hx hb dL_law_32 (by rw [s16]; decide) (by rw [s16]; decide) (by rw [s16]; decide) (by decide) ?_
      have hw := hm.2.2.2.2.2.2.2.2.2.2.2.2.2.2.2.2.1 t uF uM htl hRel
      refine lv_aload_n hx hb dL_law_572 rfl (lv_at hl 1 rfl) ?_
      refine q_l2 (As := []) (rest := []) S hKF hNs hSt hPF hPM hD hS hA 0 (c_X11_many hw) lk_L_81 (by decide) (by decide) (by decide) rfl rfl rfl rfl rfl rfl ⟨Nat.le_of_ble_eq_true rfl, Nat.le_of_ble_eq_true rfl⟩ (Nat.le_of_ble_eq_true rfl) hl.1 ⟨hnc.1, hnc.2⟩ rfl dL_law_573 (fun r uF H locs hw hPF hPM hD hS => ?_)
      refine lv_aload_n hx hb dL_law_576 rfl (lv_at hl 2 rfl) ?_
      refine q_l2 (As := []) (rest := [.int r]) S hKM hNs hSt hPM hPF (va_D_c hD) hS hA 0 (c_X12_many hw) lk_L_84 (by decide) (by decide) (by decide) rfl rfl rfl rfl rfl rfl ⟨Nat.le_of_ble_eq_true rfl, Nat.le_of_ble_eq_true rfl⟩ (Nat.le_of_ble_eq_true rfl) hl.1 ⟨hnc.1, hnc.2⟩ rfl dL_law_577 (fun r2 uM H locs hw hPM hPF hD hS => ?_)
      refine lv_icmp_eq (tgt := 931) hx hb dL_law_580 (by decide) (fun ce => ?_) (fun ce => absurd hw.1 ce)
      exact hend uF uM H locs hw.2 hPF hPM (va_D_c hD) hS
    by_cases s17 : op = 17
    · refine lv_tableIn (off := 553) (tgt := 585) hx hb dL_law_32 (by rw [s17]; decide) (by rw [s17]; decide) (by rw [s17]; decide) (by decide) ?_
      have hw := hm.2.2.2.2.2.2.2.2.2.2.2.2.2.2.2.2.2.1 t (xs (Int32.toNatClampNeg (nI (4 * t) + 1))) (xs (Int32.toNatClampNeg (nI (4 * t) + 2))) uF uM htl hRel
      refine lv_aload_n hx hb dL_law_585 rfl (lv_at hl 1 rfl) ?_
      refine lv_aload_n hx hb dL_law_586 rfl (lv_at hl 0 rfl) ?_
      refine lv_iload_n hx hb dL_law_587 rfl (lv_at hl 3 rfl) ?_
      refine lv_iconst (v := 1) hx hb dL_law_588 (by decide) ?_
      refine lv_iadd hx hb dL_law_589 ?_
      refine va_sld hx hb hX hbl hbA hS k1 dL_law_590 ?_
      refine lv_aload_n hx hb dL_law_591 rfl (lv_at hl 0 rfl) ?_
      refine lv_iload_n hx hb dL_law_592 rfl (lv_at hl 3 rfl) ?_
      refine lv_iconst (v := 2) hx hb dL_law_593 (by decide) ?_
      refine lv_iadd hx hb dL_law_594 ?_
      refine va_sld hx hb hX hbl hbA hS k2 dL_law_595 ?_
      refine q_l2 (As := [.int (xs (Int32.toNatClampNeg (nI (4 * t) + 1))), .int (xs (Int32.toNatClampNeg (nI (4 * t) + 2)))]) (rest := []) S hKF hNs hSt hPF hPM hD hS hA 0 (c_X11_fixed hw) lk_L_85 (by decide) (by decide) (by decide) rfl rfl rfl rfl rfl rfl ⟨Nat.le_of_ble_eq_true rfl, Nat.le_of_ble_eq_true rfl⟩ (Nat.le_of_ble_eq_true rfl) hl.1 ⟨hnc.1, hnc.2⟩ rfl dL_law_596 (fun r uF H locs hw hPF hPM hD hS => ?_)
      refine lv_aload_n hx hb dL_law_599 rfl (lv_at hl 2 rfl) ?_
      refine lv_aload_n hx hb dL_law_600 rfl (lv_at hl 0 rfl) ?_
      refine lv_iload_n hx hb dL_law_601 rfl (lv_at hl 3 rfl) ?_
      refine lv_iconst (v := 1) hx hb dL_law_602 (by decide) ?_
      refine lv_iadd hx hb dL_law_603 ?_
      refine va_sld hx hb hX hbl hbA hS k1 dL_law_604 ?_
      refine lv_aload_n hx hb dL_law_605 rfl (lv_at hl 0 rfl) ?_
      refine lv_iload_n hx hb dL_law_606 rfl (lv_at hl 3 rfl) ?_
      refine lv_iconst (v := 2) hx hb dL_law_607 (by decide) ?_
      refine lv_iadd hx hb dL_law_608 ?_
      refine va_sld hx hb hX hbl hbA hS k2 dL_law_609 ?_
      refine q_l2 (As := [.int (xs (Int32.toNatClampNeg (nI (4 * t) + 1))), .int (xs (Int32.toNatClampNeg (nI (4 * t) + 2)))]) (rest := [.int r]) S hKM hNs hSt hPM hPF (va_D_c hD) hS hA 0 (c_X12_fixed hw) lk_L_88 (by decide) (by decide) (by decide) rfl rfl rfl rfl rfl rfl ⟨Nat.le_of_ble_eq_true rfl, Nat.le_of_ble_eq_true rfl⟩ (Nat.le_of_ble_eq_true rfl) hl.1 ⟨hnc.1, hnc.2⟩ rfl dL_law_610 (fun r2 uM H locs hw hPM hPF hD hS => ?_)
      refine lv_icmp_eq (tgt := 931) hx hb dL_law_613 (by decide) (fun ce => ?_) (fun ce => absurd hw.1 ce)
      exact hend uF uM H locs hw.2 hPF hPM (va_D_c hD) hS
    by_cases s18 : op = 18
    · refine lv_tableIn (off := 586) (tgt := 618) hx hb dL_law_32 (by rw [s18]; decide) (by rw [s18]; decide) (by rw [s18]; decide) (by decide) ?_
      have hw := hm.2.2.2.2.2.2.2.2.2.2.2.2.2.2.2.2.2.2.1 t uF uM htl hRel
      refine lv_aload_n hx hb dL_law_618 rfl (lv_at hl 1 rfl) ?_
      refine q_l2 (As := []) (rest := []) S hKF hNs hSt hPF hPM hD hS hA 0 (c_X11_series hw) lk_L_89 (by decide) (by decide) (by decide) rfl rfl rfl rfl rfl rfl ⟨Nat.le_of_ble_eq_true rfl, Nat.le_of_ble_eq_true rfl⟩ (Nat.le_of_ble_eq_true rfl) hl.1 ⟨hnc.1, hnc.2⟩ rfl dL_law_619 (fun r uF H locs hw hPF hPM hD hS => ?_)
      refine lv_aload_n hx hb dL_law_622 rfl (lv_at hl 2 rfl) ?_
      refine q_l2 (As := []) (rest := [.int r]) S hKM hNs hSt hPM hPF (va_D_c hD) hS hA 0 (c_X12_series hw) lk_L_92 (by decide) (by decide) (by decide) rfl rfl rfl rfl rfl rfl ⟨Nat.le_of_ble_eq_true rfl, Nat.le_of_ble_eq_true rfl⟩ (Nat.le_of_ble_eq_true rfl) hl.1 ⟨hnc.1, hnc.2⟩ rfl dL_law_623 (fun r2 uM H locs hw hPM hPF hD hS => ?_)
      refine lv_icmp_eq (tgt := 931) hx hb dL_law_626 (by decide) (fun ce => ?_) (fun ce => absurd hw.1 ce)
      exact hend uF uM H locs hw.2 hPF hPM (va_D_c hD) hS
    by_cases s19 : op = 19
    · refine lv_tableIn (off := 599) (tgt := 631) hx hb dL_law_32 (by rw [s19]; decide) (by rw [s19]; decide) (by rw [s19]; decide) (by decide) ?_
      have hw := hm.2.2.2.2.2.2.2.2.2.2.2.2.2.2.2.2.2.2.2.1 t (xs (Int32.toNatClampNeg (nI (4 * t) + 1))) uF uM htl hRel
      refine lv_aload_n hx hb dL_law_631 rfl (lv_at hl 1 rfl) ?_
      refine lv_aload_n hx hb dL_law_632 rfl (lv_at hl 0 rfl) ?_
      refine lv_iload_n hx hb dL_law_633 rfl (lv_at hl 3 rfl) ?_
      refine lv_iconst (v := 1) hx hb dL_law_634 (by decide) ?_
      refine lv_iadd hx hb dL_law_635 ?_
      refine va_sld hx hb hX hbl hbA hS k1 dL_law_636 ?_
      refine q_l2 (As := [.int (xs (Int32.toNatClampNeg (nI (4 * t) + 1)))]) (rest := []) S hKF hNs hSt hPF hPM hD hS hA 0 (c_X11_shows hw) lk_L_93 (by decide) (by decide) (by decide) rfl rfl rfl rfl rfl rfl ⟨Nat.le_of_ble_eq_true rfl, Nat.le_of_ble_eq_true rfl⟩ (Nat.le_of_ble_eq_true rfl) hl.1 ⟨hnc.1, hnc.2⟩ rfl dL_law_637 (fun r uF H locs hw hPF hPM hD hS => ?_)
      refine lv_aload_n hx hb dL_law_640 rfl (lv_at hl 2 rfl) ?_
      refine lv_aload_n hx hb dL_law_641 rfl (lv_at hl 0 rfl) ?_
      refine lv_iload_n hx hb dL_law_642 rfl (lv_at hl 3 rfl) ?_
      refine lv_iconst (v := 1) hx hb dL_law_643 (by decide) ?_
      refine lv_iadd hx hb dL_law_644 ?_
      refine va_sld hx hb hX hbl hbA hS k1 dL_law_645 ?_
      refine q_l2 (As := [.int (xs (Int32.toNatClampNeg (nI (4 * t) + 1)))]) (rest := [.int r]) S hKM hNs hSt hPM hPF (va_D_c hD) hS hA 0 (c_X12_shows hw) lk_L_96 (by decide) (by decide) (by decide) rfl rfl rfl rfl rfl rfl ⟨Nat.le_of_ble_eq_true rfl, Nat.le_of_ble_eq_true rfl⟩ (Nat.le_of_ble_eq_true rfl) hl.1 ⟨hnc.1, hnc.2⟩ rfl dL_law_646 (fun r2 uM H locs hw hPM hPF hD hS => ?_)
      refine lv_icmp_eq (tgt := 931) hx hb dL_law_649 (by decide) (fun ce => ?_) (fun ce => absurd hw.1 ce)
      exact hend uF uM H locs hw.2 hPF hPM (va_D_c hD) hS
    by_cases s20 : op = 20
    · refine lv_tableIn (off := 622) (tgt := 654) hx hb dL_law_32 (by rw [s20]; decide) (by rw [s20]; decide) (by rw [s20]; decide) (by decide) ?_
      have hw := hm.2.2.2.2.2.2.2.2.2.2.2.2.2.2.2.2.2.2.2.2.1 t uF uM htl hRel
      refine lv_aload_n hx hb dL_law_654 rfl (lv_at hl 1 rfl) ?_
      refine q_l2 (As := []) (rest := []) S hKF hNs hSt hPF hPM hD hS hA 0 (c_X11_turned hw) lk_L_97 (by decide) (by decide) (by decide) rfl rfl rfl rfl rfl rfl ⟨Nat.le_of_ble_eq_true rfl, Nat.le_of_ble_eq_true rfl⟩ (Nat.le_of_ble_eq_true rfl) hl.1 ⟨hnc.1, hnc.2⟩ rfl dL_law_655 (fun r uF H locs hw hPF hPM hD hS => ?_)
      refine lv_aload_n hx hb dL_law_658 rfl (lv_at hl 2 rfl) ?_
      refine q_l2 (As := []) (rest := [.int r]) S hKM hNs hSt hPM hPF (va_D_c hD) hS hA 0 (c_X12_turned hw) lk_L_100 (by decide) (by decide) (by decide) rfl rfl rfl rfl rfl rfl ⟨Nat.le_of_ble_eq_true rfl, Nat.le_of_ble_eq_true rfl⟩ (Nat.le_of_ble_eq_true rfl) hl.1 ⟨hnc.1, hnc.2⟩ rfl dL_law_659 (fun r2 uM H locs hw hPM hPF hD hS => ?_)
      refine lv_icmp_eq (tgt := 931) hx hb dL_law_662 (by decide) (fun ce => ?_) (fun ce => absurd hw.1 ce)
      exact hend uF uM H locs hw.2 hPF hPM (va_D_c hD) hS
    by_cases s21 : op = 21
    · refine lv_tableIn (off := 635) (tgt := 667) hx hb dL_law_32 (by rw [s21]; decide) (by rw [s21]; decide) (by rw [s21]; decide) (by decide) ?_
      have hw := hm.2.2.2.2.2.2.2.2.2.2.2.2.2.2.2.2.2.2.2.2.2.1 t (xs (Int32.toNatClampNeg (nI (4 * t) + 1))) (xs (Int32.toNatClampNeg (nI (4 * t) + 2))) (xs (Int32.toNatClampNeg (nI (4 * t) + 3))) uF uM htl hRel
      refine lv_aload_n hx hb dL_law_667 rfl (lv_at hl 1 rfl) ?_
      refine lv_aload_n hx hb dL_law_668 rfl (lv_at hl 0 rfl) ?_
      refine lv_iload_n hx hb dL_law_669 rfl (lv_at hl 3 rfl) ?_
      refine lv_iconst (v := 1) hx hb dL_law_670 (by decide) ?_
      refine lv_iadd hx hb dL_law_671 ?_
      refine va_sld hx hb hX hbl hbA hS k1 dL_law_672 ?_
      refine lv_aload_n hx hb dL_law_673 rfl (lv_at hl 0 rfl) ?_
      refine lv_iload_n hx hb dL_law_674 rfl (lv_at hl 3 rfl) ?_
      refine lv_iconst (v := 2) hx hb dL_law_675 (by decide) ?_
      refine lv_iadd hx hb dL_law_676 ?_
      refine va_sld hx hb hX hbl hbA hS k2 dL_law_677 ?_
      refine lv_aload_n hx hb dL_law_678 rfl (lv_at hl 0 rfl) ?_
      refine lv_iload_n hx hb dL_law_679 rfl (lv_at hl 3 rfl) ?_
      refine lv_iconst (v := 3) hx hb dL_law_680 (by decide) ?_
      refine lv_iadd hx hb dL_law_681 ?_
      refine va_sld hx hb hX hbl hbA hS k3 dL_law_682 ?_
      refine q_l2 (As := [.int (xs (Int32.toNatClampNeg (nI (4 * t) + 1))), .int (xs (Int32.toNatClampNeg (nI (4 * t) + 2))), .int (xs (Int32.toNatClampNeg (nI (4 * t) + 3)))]) (rest := []) S hKF hNs hSt hPF hPM hD hS hA 0 (c_X11_act hw) lk_L_101 (by decide) (by decide) (by decide) rfl rfl rfl rfl rfl rfl ⟨Nat.le_of_ble_eq_true rfl, Nat.le_of_ble_eq_true rfl⟩ (Nat.le_of_ble_eq_true rfl) hl.1 ⟨hnc.1, hnc.2⟩ rfl dL_law_683 (fun r uF H locs hw hPF hPM hD hS => ?_)
      refine lv_aload_n hx hb dL_law_686 rfl (lv_at hl 2 rfl) ?_
      refine lv_aload_n hx hb dL_law_687 rfl (lv_at hl 0 rfl) ?_
      refine lv_iload_n hx hb dL_law_688 rfl (lv_at hl 3 rfl) ?_
      refine lv_iconst (v := 1) hx hb dL_law_689 (by decide) ?_
      refine lv_iadd hx hb dL_law_690 ?_
      refine va_sld hx hb hX hbl hbA hS k1 dL_law_691 ?_
      refine lv_aload_n hx hb dL_law_692 rfl (lv_at hl 0 rfl) ?_
      refine lv_iload_n hx hb dL_law_693 rfl (lv_at hl 3 rfl) ?_
      refine lv_iconst (v := 2) hx hb dL_law_694 (by decide) ?_
      refine lv_iadd hx hb dL_law_695 ?_
      refine va_sld hx hb hX hbl hbA hS k2 dL_law_696 ?_
      refine lv_aload_n hx hb dL_law_697 rfl (lv_at hl 0 rfl) ?_
      refine lv_iload_n hx hb dL_law_698 rfl (lv_at hl 3 rfl) ?_
      refine lv_iconst (v := 3) hx hb dL_law_699 (by decide) ?_
      refine lv_iadd hx hb dL_law_700 ?_
      refine va_sld hx hb hX hbl hbA hS k3 dL_law_701 ?_
      refine q_l2 (As := [.int (xs (Int32.toNatClampNeg (nI (4 * t) + 1))), .int (xs (Int32.toNatClampNeg (nI (4 * t) + 2))), .int (xs (Int32.toNatClampNeg (nI (4 * t) + 3)))]) (rest := [.int r]) S hKM hNs hSt hPM hPF (va_D_c hD) hS hA 0 (c_X12_act hw) lk_L_104 (by decide) (by decide) (by decide) rfl rfl rfl rfl rfl rfl ⟨Nat.le_of_ble_eq_true rfl, Nat.le_of_ble_eq_true rfl⟩ (Nat.le_of_ble_eq_true rfl) hl.1 ⟨hnc.1, hnc.2⟩ rfl dL_law_702 (fun r2 uM H locs hw hPM hPF hD hS => ?_)
      refine lv_icmp_eq (tgt := 931) hx hb dL_law_705 (by decide) (fun ce => ?_) (fun ce => absurd hw.1 ce)
      exact hend uF uM H locs hw.2 hPF hPM (va_D_c hD) hS
    by_cases s22 : op = 22
    · refine lv_tableIn (off := 678) (tgt := 710) hx hb dL_law_32 (by rw [s22]; decide) (by rw [s22]; decide) (by rw [s22]; decide) (by decide) ?_
      have hw := hm.2.2.2.2.2.2.2.2.2.2.2.2.2.2.2.2.2.2.2.2.2.2.1 t (xs (Int32.toNatClampNeg (nI (4 * t) + 1))) uF uM htl hRel
      refine lv_aload_n hx hb dL_law_710 rfl (lv_at hl 1 rfl) ?_
      refine lv_aload_n hx hb dL_law_711 rfl (lv_at hl 0 rfl) ?_
      refine lv_iload_n hx hb dL_law_712 rfl (lv_at hl 3 rfl) ?_
      refine lv_iconst (v := 1) hx hb dL_law_713 (by decide) ?_
      refine lv_iadd hx hb dL_law_714 ?_
      refine va_sld hx hb hX hbl hbA hS k1 dL_law_715 ?_
      refine q_l2 (As := [.int (xs (Int32.toNatClampNeg (nI (4 * t) + 1)))]) (rest := []) S hKF hNs hSt hPF hPM hD hS hA 0 (c_X11_trace hw) lk_L_105 (by decide) (by decide) (by decide) rfl rfl rfl rfl rfl rfl ⟨Nat.le_of_ble_eq_true rfl, Nat.le_of_ble_eq_true rfl⟩ (Nat.le_of_ble_eq_true rfl) hl.1 ⟨hnc.1, hnc.2⟩ rfl dL_law_716 (fun r uF H locs hw hPF hPM hD hS => ?_)
      refine lv_aload_n hx hb dL_law_719 rfl (lv_at hl 2 rfl) ?_
      refine lv_aload_n hx hb dL_law_720 rfl (lv_at hl 0 rfl) ?_
      refine lv_iload_n hx hb dL_law_721 rfl (lv_at hl 3 rfl) ?_
      refine lv_iconst (v := 1) hx hb dL_law_722 (by decide) ?_
      refine lv_iadd hx hb dL_law_723 ?_
      refine va_sld hx hb hX hbl hbA hS k1 dL_law_724 ?_
      refine q_l2 (As := [.int (xs (Int32.toNatClampNeg (nI (4 * t) + 1)))]) (rest := [.int r]) S hKM hNs hSt hPM hPF (va_D_c hD) hS hA 0 (c_X12_trace hw) lk_L_108 (by decide) (by decide) (by decide) rfl rfl rfl rfl rfl rfl ⟨Nat.le_of_ble_eq_true rfl, Nat.le_of_ble_eq_true rfl⟩ (Nat.le_of_ble_eq_true rfl) hl.1 ⟨hnc.1, hnc.2⟩ rfl dL_law_725 (fun r2 uM H locs hw hPM hPF hD hS => ?_)
      refine lv_icmp_eq (tgt := 931) hx hb dL_law_728 (by decide) (fun ce => ?_) (fun ce => absurd hw.1 ce)
      exact hend uF uM H locs hw.2 hPF hPM (va_D_c hD) hS
    by_cases s23 : op = 23
    · refine lv_tableIn (off := 701) (tgt := 733) hx hb dL_law_32 (by rw [s23]; decide) (by rw [s23]; decide) (by rw [s23]; decide) (by decide) ?_
      have hw := hm.2.2.2.2.2.2.2.2.2.2.2.2.2.2.2.2.2.2.2.2.2.2.2.1 t (xs (Int32.toNatClampNeg (nI (4 * t) + 1))) (xs (Int32.toNatClampNeg (nI (4 * t) + 2))) (xs (Int32.toNatClampNeg (nI (4 * t) + 3))) uF uM htl hRel
      refine lv_aload_n hx hb dL_law_733 rfl (lv_at hl 1 rfl) ?_
      refine lv_aload_n hx hb dL_law_734 rfl (lv_at hl 0 rfl) ?_
      refine lv_iload_n hx hb dL_law_735 rfl (lv_at hl 3 rfl) ?_
      refine lv_iconst (v := 1) hx hb dL_law_736 (by decide) ?_
      refine lv_iadd hx hb dL_law_737 ?_
      refine va_sld hx hb hX hbl hbA hS k1 dL_law_738 ?_
      refine lv_aload_n hx hb dL_law_739 rfl (lv_at hl 0 rfl) ?_
      refine lv_iload_n hx hb dL_law_740 rfl (lv_at hl 3 rfl) ?_
      refine lv_iconst (v := 2) hx hb dL_law_741 (by decide) ?_
      refine lv_iadd hx hb dL_law_742 ?_
      refine va_sld hx hb hX hbl hbA hS k2 dL_law_743 ?_
      refine lv_aload_n hx hb dL_law_744 rfl (lv_at hl 0 rfl) ?_
      refine lv_iload_n hx hb dL_law_745 rfl (lv_at hl 3 rfl) ?_
      refine lv_iconst (v := 3) hx hb dL_law_746 (by decide) ?_
      refine lv_iadd hx hb dL_law_747 ?_
      refine va_sld hx hb hX hbl hbA hS k3 dL_law_748 ?_
      refine q_l2 (As := [.int (xs (Int32.toNatClampNeg (nI (4 * t) + 1))), .int (xs (Int32.toNatClampNeg (nI (4 * t) + 2))), .int (xs (Int32.toNatClampNeg (nI (4 * t) + 3)))]) (rest := []) S hKF hNs hSt hPF hPM hD hS hA 0 (c_X11_sheet hw) lk_L_109 (by decide) (by decide) (by decide) rfl rfl rfl rfl rfl rfl ⟨Nat.le_of_ble_eq_true rfl, Nat.le_of_ble_eq_true rfl⟩ (Nat.le_of_ble_eq_true rfl) hl.1 ⟨hnc.1, hnc.2⟩ rfl dL_law_749 (fun r uF H locs hw hPF hPM hD hS => ?_)
      refine lv_aload_n hx hb dL_law_752 rfl (lv_at hl 2 rfl) ?_
      refine lv_aload_n hx hb dL_law_753 rfl (lv_at hl 0 rfl) ?_
      refine lv_iload_n hx hb dL_law_754 rfl (lv_at hl 3 rfl) ?_
      refine lv_iconst (v := 1) hx hb dL_law_755 (by decide) ?_
      refine lv_iadd hx hb dL_law_756 ?_
      refine va_sld hx hb hX hbl hbA hS k1 dL_law_757 ?_
      refine lv_aload_n hx hb dL_law_758 rfl (lv_at hl 0 rfl) ?_
      refine lv_iload_n hx hb dL_law_759 rfl (lv_at hl 3 rfl) ?_
      refine lv_iconst (v := 2) hx hb dL_law_760 (by decide) ?_
      refine lv_iadd hx hb dL_law_761 ?_
      refine va_sld hx hb hX hbl hbA hS k2 dL_law_762 ?_
      refine lv_aload_n hx hb dL_law_763 rfl (lv_at hl 0 rfl) ?_
      refine lv_iload_n hx hb dL_law_764 rfl (lv_at hl 3 rfl) ?_
      refine lv_iconst (v := 3) hx hb dL_law_765 (by decide) ?_
      refine lv_iadd hx hb dL_law_766 ?_
      refine va_sld hx hb hX hbl hbA hS k3 dL_law_767 ?_
      refine q_l2 (As := [.int (xs (Int32.toNatClampNeg (nI (4 * t) + 1))), .int (xs (Int32.toNatClampNeg (nI (4 * t) + 2))), .int (xs (Int32.toNatClampNeg (nI (4 * t) + 3)))]) (rest := [.int r]) S hKM hNs hSt hPM hPF (va_D_c hD) hS hA 0 (c_X12_sheet hw) lk_L_112 (by decide) (by decide) (by decide) rfl rfl rfl rfl rfl rfl ⟨Nat.le_of_ble_eq_true rfl, Nat.le_of_ble_eq_true rfl⟩ (Nat.le_of_ble_eq_true rfl) hl.1 ⟨hnc.1, hnc.2⟩ rfl dL_law_768 (fun r2 uM H locs hw hPM hPF hD hS => ?_)
      refine lv_icmp_eq (tgt := 931) hx hb dL_law_771 (by decide) (fun ce => ?_) (fun ce => absurd hw.1 ce)
      exact hend uF uM H locs hw.2 hPF hPM (va_D_c hD) hS
    by_cases s24 : op = 24
    · refine lv_tableIn (off := 744) (tgt := 776) hx hb dL_law_32 (by rw [s24]; decide) (by rw [s24]; decide) (by rw [s24]; decide) (by decide) ?_
      have hw := hm.2.2.2.2.2.2.2.2.2.2.2.2.2.2.2.2.2.2.2.2.2.2.2.2.1 t (xs (Int32.toNatClampNeg (nI (4 * t) + 1))) (xs (Int32.toNatClampNeg (nI (4 * t) + 2))) (xs (Int32.toNatClampNeg (nI (4 * t) + 3))) uF uM htl hRel
      refine lv_aload_n hx hb dL_law_776 rfl (lv_at hl 1 rfl) ?_
      refine lv_aload_n hx hb dL_law_777 rfl (lv_at hl 0 rfl) ?_
      refine lv_iload_n hx hb dL_law_778 rfl (lv_at hl 3 rfl) ?_
      refine lv_iconst (v := 1) hx hb dL_law_779 (by decide) ?_
      refine lv_iadd hx hb dL_law_780 ?_
      refine va_sld hx hb hX hbl hbA hS k1 dL_law_781 ?_
      refine lv_aload_n hx hb dL_law_782 rfl (lv_at hl 0 rfl) ?_
      refine lv_iload_n hx hb dL_law_783 rfl (lv_at hl 3 rfl) ?_
      refine lv_iconst (v := 2) hx hb dL_law_784 (by decide) ?_
      refine lv_iadd hx hb dL_law_785 ?_
      refine va_sld hx hb hX hbl hbA hS k2 dL_law_786 ?_
      refine lv_aload_n hx hb dL_law_787 rfl (lv_at hl 0 rfl) ?_
      refine lv_iload_n hx hb dL_law_788 rfl (lv_at hl 3 rfl) ?_
      refine lv_iconst (v := 3) hx hb dL_law_789 (by decide) ?_
      refine lv_iadd hx hb dL_law_790 ?_
      refine va_sld hx hb hX hbl hbA hS k3 dL_law_791 ?_
      refine q_l2 (As := [.int (xs (Int32.toNatClampNeg (nI (4 * t) + 1))), .int (xs (Int32.toNatClampNeg (nI (4 * t) + 2))), .int (xs (Int32.toNatClampNeg (nI (4 * t) + 3)))]) (rest := []) S hKF hNs hSt hPF hPM hD hS hA 0 (c_X11_cell hw) lk_L_113 (by decide) (by decide) (by decide) rfl rfl rfl rfl rfl rfl ⟨Nat.le_of_ble_eq_true rfl, Nat.le_of_ble_eq_true rfl⟩ (Nat.le_of_ble_eq_true rfl) hl.1 ⟨hnc.1, hnc.2⟩ rfl dL_law_792 (fun r uF H locs hw hPF hPM hD hS => ?_)
      refine lv_aload_n hx hb dL_law_795 rfl (lv_at hl 2 rfl) ?_
      refine lv_aload_n hx hb dL_law_796 rfl (lv_at hl 0 rfl) ?_
      refine lv_iload_n hx hb dL_law_797 rfl (lv_at hl 3 rfl) ?_
      refine lv_iconst (v := 1) hx hb dL_law_798 (by decide) ?_
      refine lv_iadd hx hb dL_law_799 ?_
      refine va_sld hx hb hX hbl hbA hS k1 dL_law_800 ?_
      refine lv_aload_n hx hb dL_law_801 rfl (lv_at hl 0 rfl) ?_
      refine lv_iload_n hx hb dL_law_802 rfl (lv_at hl 3 rfl) ?_
      refine lv_iconst (v := 2) hx hb dL_law_803 (by decide) ?_
      refine lv_iadd hx hb dL_law_804 ?_
      refine va_sld hx hb hX hbl hbA hS k2 dL_law_805 ?_
      refine lv_aload_n hx hb dL_law_806 rfl (lv_at hl 0 rfl) ?_
      refine lv_iload_n hx hb dL_law_807 rfl (lv_at hl 3 rfl) ?_
      refine lv_iconst (v := 3) hx hb dL_law_808 (by decide) ?_
      refine lv_iadd hx hb dL_law_809 ?_
      refine va_sld hx hb hX hbl hbA hS k3 dL_law_810 ?_
      refine q_l2 (As := [.int (xs (Int32.toNatClampNeg (nI (4 * t) + 1))), .int (xs (Int32.toNatClampNeg (nI (4 * t) + 2))), .int (xs (Int32.toNatClampNeg (nI (4 * t) + 3)))]) (rest := [.int r]) S hKM hNs hSt hPM hPF (va_D_c hD) hS hA 0 (c_X12_cell hw) lk_L_116 (by decide) (by decide) (by decide) rfl rfl rfl rfl rfl rfl ⟨Nat.le_of_ble_eq_true rfl, Nat.le_of_ble_eq_true rfl⟩ (Nat.le_of_ble_eq_true rfl) hl.1 ⟨hnc.1, hnc.2⟩ rfl dL_law_811 (fun r2 uM H locs hw hPM hPF hD hS => ?_)
      refine lv_icmp_eq (tgt := 931) hx hb dL_law_814 (by decide) (fun ce => ?_) (fun ce => absurd hw.1 ce)
      exact hend uF uM H locs hw.2 hPF hPM (va_D_c hD) hS
    by_cases s25 : op = 25
    · refine lv_tableIn (off := 787) (tgt := 819) hx hb dL_law_32 (by rw [s25]; decide) (by rw [s25]; decide) (by rw [s25]; decide) (by decide) ?_
      have hw := hm.2.2.2.2.2.2.2.2.2.2.2.2.2.2.2.2.2.2.2.2.2.2.2.2.2.1 t (xs (Int32.toNatClampNeg (nI (4 * t) + 1))) (xs (Int32.toNatClampNeg (nI (4 * t) + 2))) (xs (Int32.toNatClampNeg (nI (4 * t) + 3))) uF uM htl hRel
      refine lv_aload_n hx hb dL_law_819 rfl (lv_at hl 1 rfl) ?_
      refine lv_aload_n hx hb dL_law_820 rfl (lv_at hl 0 rfl) ?_
      refine lv_iload_n hx hb dL_law_821 rfl (lv_at hl 3 rfl) ?_
      refine lv_iconst (v := 1) hx hb dL_law_822 (by decide) ?_
      refine lv_iadd hx hb dL_law_823 ?_
      refine va_sld hx hb hX hbl hbA hS k1 dL_law_824 ?_
      refine lv_aload_n hx hb dL_law_825 rfl (lv_at hl 0 rfl) ?_
      refine lv_iload_n hx hb dL_law_826 rfl (lv_at hl 3 rfl) ?_
      refine lv_iconst (v := 2) hx hb dL_law_827 (by decide) ?_
      refine lv_iadd hx hb dL_law_828 ?_
      refine va_sld hx hb hX hbl hbA hS k2 dL_law_829 ?_
      refine lv_aload_n hx hb dL_law_830 rfl (lv_at hl 0 rfl) ?_
      refine lv_iload_n hx hb dL_law_831 rfl (lv_at hl 3 rfl) ?_
      refine lv_iconst (v := 3) hx hb dL_law_832 (by decide) ?_
      refine lv_iadd hx hb dL_law_833 ?_
      refine va_sld hx hb hX hbl hbA hS k3 dL_law_834 ?_
      refine q_l2 (As := [.int (xs (Int32.toNatClampNeg (nI (4 * t) + 1))), .int (xs (Int32.toNatClampNeg (nI (4 * t) + 2))), .int (xs (Int32.toNatClampNeg (nI (4 * t) + 3)))]) (rest := []) S hKF hNs hSt hPF hPM hD hS hA 0 (c_X11_fromSheet hw) lk_L_117 (by decide) (by decide) (by decide) rfl rfl rfl rfl rfl rfl ⟨Nat.le_of_ble_eq_true rfl, Nat.le_of_ble_eq_true rfl⟩ (Nat.le_of_ble_eq_true rfl) hl.1 ⟨hnc.1, hnc.2⟩ rfl dL_law_835 (fun r uF H locs hw hPF hPM hD hS => ?_)
      refine lv_aload_n hx hb dL_law_838 rfl (lv_at hl 2 rfl) ?_
      refine lv_aload_n hx hb dL_law_839 rfl (lv_at hl 0 rfl) ?_
      refine lv_iload_n hx hb dL_law_840 rfl (lv_at hl 3 rfl) ?_
      refine lv_iconst (v := 1) hx hb dL_law_841 (by decide) ?_
      refine lv_iadd hx hb dL_law_842 ?_
      refine va_sld hx hb hX hbl hbA hS k1 dL_law_843 ?_
      refine lv_aload_n hx hb dL_law_844 rfl (lv_at hl 0 rfl) ?_
      refine lv_iload_n hx hb dL_law_845 rfl (lv_at hl 3 rfl) ?_
      refine lv_iconst (v := 2) hx hb dL_law_846 (by decide) ?_
      refine lv_iadd hx hb dL_law_847 ?_
      refine va_sld hx hb hX hbl hbA hS k2 dL_law_848 ?_
      refine lv_aload_n hx hb dL_law_849 rfl (lv_at hl 0 rfl) ?_
      refine lv_iload_n hx hb dL_law_850 rfl (lv_at hl 3 rfl) ?_
      refine lv_iconst (v := 3) hx hb dL_law_851 (by decide) ?_
      refine lv_iadd hx hb dL_law_852 ?_
      refine va_sld hx hb hX hbl hbA hS k3 dL_law_853 ?_
      refine q_l2 (As := [.int (xs (Int32.toNatClampNeg (nI (4 * t) + 1))), .int (xs (Int32.toNatClampNeg (nI (4 * t) + 2))), .int (xs (Int32.toNatClampNeg (nI (4 * t) + 3)))]) (rest := [.int r]) S hKM hNs hSt hPM hPF (va_D_c hD) hS hA 0 (c_X12_fromSheet hw) lk_L_120 (by decide) (by decide) (by decide) rfl rfl rfl rfl rfl rfl ⟨Nat.le_of_ble_eq_true rfl, Nat.le_of_ble_eq_true rfl⟩ (Nat.le_of_ble_eq_true rfl) hl.1 ⟨hnc.1, hnc.2⟩ rfl dL_law_854 (fun r2 uM H locs hw hPM hPF hD hS => ?_)
      refine lv_icmp_eq (tgt := 931) hx hb dL_law_857 (by decide) (fun ce => ?_) (fun ce => absurd hw.1 ce)
      exact hend uF uM H locs hw.2 hPF hPM (va_D_c hD) hS
    by_cases s26 : op = 26
    · refine lv_tableIn (off := 830) (tgt := 862) hx hb dL_law_32 (by rw [s26]; decide) (by rw [s26]; decide) (by rw [s26]; decide) (by decide) ?_
      have hw := hm.2.2.2.2.2.2.2.2.2.2.2.2.2.2.2.2.2.2.2.2.2.2.2.2.2.2.1 t (xs (Int32.toNatClampNeg (nI (4 * t) + 1))) (xs (Int32.toNatClampNeg (nI (4 * t) + 2))) (xs (Int32.toNatClampNeg (nI (4 * t) + 3))) uF uM htl hRel
      refine lv_aload_n hx hb dL_law_862 rfl (lv_at hl 1 rfl) ?_
      refine lv_aload_n hx hb dL_law_863 rfl (lv_at hl 0 rfl) ?_
      refine lv_iload_n hx hb dL_law_864 rfl (lv_at hl 3 rfl) ?_
      refine lv_iconst (v := 1) hx hb dL_law_865 (by decide) ?_
      refine lv_iadd hx hb dL_law_866 ?_
      refine va_sld hx hb hX hbl hbA hS k1 dL_law_867 ?_
      refine lv_aload_n hx hb dL_law_868 rfl (lv_at hl 0 rfl) ?_
      refine lv_iload_n hx hb dL_law_869 rfl (lv_at hl 3 rfl) ?_
      refine lv_iconst (v := 2) hx hb dL_law_870 (by decide) ?_
      refine lv_iadd hx hb dL_law_871 ?_
      refine va_sld hx hb hX hbl hbA hS k2 dL_law_872 ?_
      refine lv_aload_n hx hb dL_law_873 rfl (lv_at hl 0 rfl) ?_
      refine lv_iload_n hx hb dL_law_874 rfl (lv_at hl 3 rfl) ?_
      refine lv_iconst (v := 3) hx hb dL_law_875 (by decide) ?_
      refine lv_iadd hx hb dL_law_876 ?_
      refine va_sld hx hb hX hbl hbA hS k3 dL_law_877 ?_
      refine q_l2 (As := [.int (xs (Int32.toNatClampNeg (nI (4 * t) + 1))), .int (xs (Int32.toNatClampNeg (nI (4 * t) + 2))), .int (xs (Int32.toNatClampNeg (nI (4 * t) + 3)))]) (rest := []) S hKF hNs hSt hPF hPM hD hS hA 0 (c_X11_forge hw) lk_L_121 (by decide) (by decide) (by decide) rfl rfl rfl rfl rfl rfl ⟨Nat.le_of_ble_eq_true rfl, Nat.le_of_ble_eq_true rfl⟩ (Nat.le_of_ble_eq_true rfl) hl.1 ⟨hnc.1, hnc.2⟩ rfl dL_law_878 (fun r uF H locs hw hPF hPM hD hS => ?_)
      refine lv_aload_n hx hb dL_law_881 rfl (lv_at hl 2 rfl) ?_
      refine lv_aload_n hx hb dL_law_882 rfl (lv_at hl 0 rfl) ?_
      refine lv_iload_n hx hb dL_law_883 rfl (lv_at hl 3 rfl) ?_
      refine lv_iconst (v := 1) hx hb dL_law_884 (by decide) ?_
      refine lv_iadd hx hb dL_law_885 ?_
      refine va_sld hx hb hX hbl hbA hS k1 dL_law_886 ?_
      refine lv_aload_n hx hb dL_law_887 rfl (lv_at hl 0 rfl) ?_
      refine lv_iload_n hx hb dL_law_888 rfl (lv_at hl 3 rfl) ?_
      refine lv_iconst (v := 2) hx hb dL_law_889 (by decide) ?_
      refine lv_iadd hx hb dL_law_890 ?_
      refine va_sld hx hb hX hbl hbA hS k2 dL_law_891 ?_
      refine lv_aload_n hx hb dL_law_892 rfl (lv_at hl 0 rfl) ?_
      refine lv_iload_n hx hb dL_law_893 rfl (lv_at hl 3 rfl) ?_
      refine lv_iconst (v := 3) hx hb dL_law_894 (by decide) ?_
      refine lv_iadd hx hb dL_law_895 ?_
      refine va_sld hx hb hX hbl hbA hS k3 dL_law_896 ?_
      refine q_l2 (As := [.int (xs (Int32.toNatClampNeg (nI (4 * t) + 1))), .int (xs (Int32.toNatClampNeg (nI (4 * t) + 2))), .int (xs (Int32.toNatClampNeg (nI (4 * t) + 3)))]) (rest := [.int r]) S hKM hNs hSt hPM hPF (va_D_c hD) hS hA 0 (c_X12_forge hw) lk_L_124 (by decide) (by decide) (by decide) rfl rfl rfl rfl rfl rfl ⟨Nat.le_of_ble_eq_true rfl, Nat.le_of_ble_eq_true rfl⟩ (Nat.le_of_ble_eq_true rfl) hl.1 ⟨hnc.1, hnc.2⟩ rfl dL_law_897 (fun r2 uM H locs hw hPM hPF hD hS => ?_)
      refine lv_icmp_eq (tgt := 931) hx hb dL_law_900 (by decide) (fun ce => ?_) (fun ce => absurd hw.1 ce)
      exact hend uF uM H locs hw.2 hPF hPM (va_D_c hD) hS
    by_cases s27 : op = 27
    · refine lv_tableIn (off := 873) (tgt := 905) hx hb dL_law_32 (by rw [s27]; decide) (by rw [s27]; decide) (by rw [s27]; decide) (by decide) ?_
      have hw := hm.2.2.2.2.2.2.2.2.2.2.2.2.2.2.2.2.2.2.2.2.2.2.2.2.2.2.2.1 t uF uM htl hRel
      refine lv_aload_n hx hb dL_law_905 rfl (lv_at hl 1 rfl) ?_
      refine q_l2 (As := []) (rest := []) S hKF hNs hSt hPF hPM hD hS hA 0 (c_X11_undo hw) lk_L_125 (by decide) (by decide) (by decide) rfl rfl rfl rfl rfl rfl ⟨Nat.le_of_ble_eq_true rfl, Nat.le_of_ble_eq_true rfl⟩ (Nat.le_of_ble_eq_true rfl) hl.1 ⟨hnc.1, hnc.2⟩ rfl dL_law_906 (fun r uF H locs hw hPF hPM hD hS => ?_)
      refine lv_aload_n hx hb dL_law_909 rfl (lv_at hl 2 rfl) ?_
      refine q_l2 (As := []) (rest := [.int r]) S hKM hNs hSt hPM hPF (va_D_c hD) hS hA 0 (c_X12_undo hw) lk_L_128 (by decide) (by decide) (by decide) rfl rfl rfl rfl rfl rfl ⟨Nat.le_of_ble_eq_true rfl, Nat.le_of_ble_eq_true rfl⟩ (Nat.le_of_ble_eq_true rfl) hl.1 ⟨hnc.1, hnc.2⟩ rfl dL_law_910 (fun r2 uM H locs hw hPM hPF hD hS => ?_)
      refine lv_icmp_eq (tgt := 931) hx hb dL_law_913 (by decide) (fun ce => ?_) (fun ce => absurd hw.1 ce)
      exact hend uF uM H locs hw.2 hPF hPM (va_D_c hD) hS
    by_cases s28 : op = 28
    · refine lv_tableIn (off := 886) (tgt := 918) hx hb dL_law_32 (by rw [s28]; decide) (by rw [s28]; decide) (by rw [s28]; decide) (by decide) ?_
      have hw := hm.2.2.2.2.2.2.2.2.2.2.2.2.2.2.2.2.2.2.2.2.2.2.2.2.2.2.2.2.1 t uF uM htl hRel
      refine lv_aload_n hx hb dL_law_918 rfl (lv_at hl 1 rfl) ?_
      refine q_l2 (As := []) (rest := []) S hKF hNs hSt hPF hPM hD hS hA 0 (c_X11_status hw) lk_L_129 (by decide) (by decide) (by decide) rfl rfl rfl rfl rfl rfl ⟨Nat.le_of_ble_eq_true rfl, Nat.le_of_ble_eq_true rfl⟩ (Nat.le_of_ble_eq_true rfl) hl.1 ⟨hnc.1, hnc.2⟩ rfl dL_law_919 (fun r uF H locs hw hPF hPM hD hS => ?_)
      refine lv_aload_n hx hb dL_law_922 rfl (lv_at hl 2 rfl) ?_
      refine q_l2 (As := []) (rest := [.int r]) S hKM hNs hSt hPM hPF (va_D_c hD) hS hA 0 (c_X12_status hw) lk_L_132 (by decide) (by decide) (by decide) rfl rfl rfl rfl rfl rfl ⟨Nat.le_of_ble_eq_true rfl, Nat.le_of_ble_eq_true rfl⟩ (Nat.le_of_ble_eq_true rfl) hl.1 ⟨hnc.1, hnc.2⟩ rfl dL_law_923 (fun r2 uM H locs hw hPM hPF hD hS => ?_)
      refine lv_icmp_eq (tgt := 931) hx hb dL_law_926 (by decide) (fun ce => ?_) (fun ce => absurd hw.1 ce)
      exact hend uF uM H locs hw.2 hPF hPM (va_D_c hD) hS
    refine lv_tableOut (tgt := 931) hx hb dL_law_32 (by have e0 := ts_ne (k := 0) (by decide) s0; have e1 := ts_ne (k := 1) (by decide) s1; have e2 := ts_ne (k := 2) (by decide) s2; have e3 := ts_ne (k := 3) (by decide) s3; have e4 := ts_ne (k := 4) (by decide) s4; have e5 := ts_ne (k := 5) (by decide) s5; have e6 := ts_ne (k := 6) (by decide) s6; have e7 := ts_ne (k := 7) (by decide) s7; have e8 := ts_ne (k := 8) (by decide) s8; have e9 := ts_ne (k := 9) (by decide) s9; have e10 := ts_ne (k := 10) (by decide) s10; have e11 := ts_ne (k := 11) (by decide) s11; have e12 := ts_ne (k := 12) (by decide) s12; have e13 := ts_ne (k := 13) (by decide) s13; have e14 := ts_ne (k := 14) (by decide) s14; have e15 := ts_ne (k := 15) (by decide) s15; have e16 := ts_ne (k := 16) (by decide) s16; have e17 := ts_ne (k := 17) (by decide) s17; have e18 := ts_ne (k := 18) (by decide) s18; have e19 := ts_ne (k := 19) (by decide) s19; have e20 := ts_ne (k := 20) (by decide) s20; have e21 := ts_ne (k := 21) (by decide) s21; have e22 := ts_ne (k := 22) (by decide) s22; have e23 := ts_ne (k := 23) (by decide) s23; have e24 := ts_ne (k := 24) (by decide) s24; have e25 := ts_ne (k := 25) (by decide) s25; have e26 := ts_ne (k := 26) (by decide) s26; have e27 := ts_ne (k := 27) (by decide) s27; have e28 := ts_ne (k := 28) (by decide) s28; omega) (by decide) ?_
    exact hend uF uM H locs (hm.2.2.2.2.2.2.2.2.2.2.2.2.2.2.2.2.2.2.2.2.2.2.2.2.2.2.2.2.2 t uF uM hRel) hPF hPM hD hS
end LW
