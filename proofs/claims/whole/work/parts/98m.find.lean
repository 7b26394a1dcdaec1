/-! findBlock, findBlocks on both sides. -/
theorem and_nI (a b : Nat) : nI a &&& nI b = nI (a &&& b) := b_ext fun i hi => by rw [b_and, bt_nI hi, bt_nI hi, bt_nI hi, Nat.testBit_and]
theorem or_nI (a b : Nat) : nI a ||| nI b = nI (a ||| b) := b_ext fun i hi => by rw [b_or, bt_nI hi, bt_nI hi, bt_nI hi, Nat.testBit_or]
theorem rest_nI {n g : Nat} (hn : n ≤ 12) (hg : g < 2 ^ n) : nI (2 ^ n - 1) &&& (nI g ^^^ (-1 : Int32)) = nI (cp n g) := b_ext fun i hi => by
  rw [b_and, bt_nI hi, bt_not hi, bt_nI hi, bt_nI hi, tb_full]
  by_cases q : i < n
  · rw [tb_cp q, decide_eq_true q, Bool.true_and]
  · rw [tb_big (cp_lt hg) (by omega), decide_eq_false q, Bool.false_and]
theorem sub_cmp {a b : Nat} (ha : a < 2 ^ 30) (hb : b < 2 ^ 30) : (0 < nI a - nI b ↔ b < a) ∧ (nI a - nI b = 0 ↔ a = b) ∧ (nI a - nI b ≤ 0 ↔ a ≤ b) := by
  have z0 : (0 : Int32).toInt = 0 := rfl
  refine ⟨?_, ?_, ?_⟩
  · rw [Int32.lt_iff_toInt_lt, pk_sub_toInt ha hb, z0]
    omega
  · rw [← Int32.toInt_inj, pk_sub_toInt ha hb, z0]
    omega
  · rw [Int32.le_iff_toInt_le, pk_sub_toInt ha hb, z0]
    omega
theorem mul_bd {a b : Nat} (ha : a ≤ 1200) (hb : b ≤ 1200) : a * b < 2 ^ 30 := Nat.lt_of_le_of_lt (Nat.mul_le_mul ha hb) (by decide)
section
variable {u w : St} {n g : Nat} {C : Nat → Nat → Bool} {L W : Nat → Nat} {E : Nat → Nat → Bool} {Post : Int32 → St → Prop}
theorem sp_findBlock (hC : okC n (Pc E n) L W) (hY : YF u n L W E) (hL : ∀ j, j < n → 1 ≤ L j) (hg : g < 2 ^ n) (hf : g ≠ 2 ^ n - 1) (h : Post (nI (blk n (Pc E n) L W g)) u) : wp_X7_findBlock (nI g) u Post := by
  have hn := hC.1
  obtain ⟨r, hr⟩ : ∃ r, r = cp n g := ⟨_, rfl⟩
  have rl : r < 2 ^ n := by rw [hr]; exact cp_lt hg
  have r4 := pow12 rl hn
  have Lb : ∀ s, s < 2 ^ n → sm L s 12 ≤ 1200 := fun s hs => sm_1200 hn (fun j hj => (hC.2.2.2.2 j hj).1) hs
  have Wb : ∀ s, s < 2 ^ n → sm W s 12 ≤ 1200 := fun s hs => sm_1200 hn (fun j hj => (hC.2.2.2.2 j hj).2) hs
  have sub : ∀ t, vd n (Pc E n) g t → t &&& r = t := fun t ht => Nat.eq_of_testBit_eq fun i => by
    rw [Nat.testBit_and]
    cases q : t.testBit i
    · rfl
    · rw [hr, tb_cp (bit_lt ht.2.1 q), ht.2.2.1 i q]
      rfl
  unfold wp_X7_findBlock
  refine sp_everyJob hn hY.1 ?_
  rw [rest_nI hn hg, ← hr]
  refine sp_lengthOf hn hY.2.2.2 rl ?_
  refine sp_weightOf hn hY.2.2.2 rl ?_
  have key := loop_m (fun m (p : Nat × Nat) => wl_X7_findBlock_28 Post m (nI g) (nI r) (nI p.1) (nI (sm L p.1 12)) (nI (sm W p.1 12)) (nI p.2) u) (fun p => vd n (Pc E n) g p.1 ∧ p.2 ≤ r ∧ p.2 &&& r = p.2 ∧ ∀ t, vd n (Pc E n) g t → p.2 < t → sm W t 12 * sm L p.1 12 ≤ sm W p.1 12 * sm L t 12 ∧ (sm W t 12 * sm L p.1 12 = sm W p.1 12 * sm L t 12 → sm L t 12 ≤ sm L p.1 12)) (fun p => p.2) ?_ (r, r) ⟨by rw [hr]; exact vd_rest hg hf, Nat.le_refl r, Nat.and_self r, fun t ht hl => ?_⟩
  · exact key
  · intro m ⟨X, s⟩ ⟨i1, i2, i3, i4⟩ ih
    show wb_X7_findBlock_28 Post _ (nI g) (nI r) (nI X) (nI (sm L X 12)) (nI (sm W X 12)) (nI s) u
    have i1 : vd n (Pc E n) g X := i1
    have i2 : s ≤ r := i2
    have i3 : s &&& r = s := i3
    have i4 : ∀ t, vd n (Pc E n) g t → s < t → sm W t 12 * sm L X 12 ≤ sm W X 12 * sm L t 12 ∧ (sm W t 12 * sm L X 12 = sm W X 12 * sm L t 12 → sm L t 12 ≤ sm L X 12) := i4
    have sl : s < 2 ^ n := by omega
    unfold wb_X7_findBlock_28
    by_cases s0 : s = 0
    · refine ⟨fun _ => ?_, fun c => absurd (by rw [s0]; decide) c⟩
      have := blk_long hn hL hg hf i1 (fun t ht => i4 t ht (by have := ht.1; omega))
      rw [this] at h
      exact h
    · refine ⟨fun c => absurd c (nI_nle (by omega) (by omega)), fun _ => ?_⟩
      have e1 : (nI s - (1 : Int32)) &&& nI r = nI ((s - 1) &&& r) := by
        have : nI s - (1 : Int32) = nI (s - 1) := pk_sub (a := s) (b := 1) (by omega)
        rw [this, and_nI]
      have nl : (s - 1) &&& r ≤ s - 1 := Nat.and_le_left
      have nr : ((s - 1) &&& r) &&& r = (s - 1) &&& r := by rw [Nat.and_assoc, Nat.and_self]
      have go : ∀ Y, vd n (Pc E n) g Y → (∀ t, vd n (Pc E n) g t → s < t ∨ t = s → sm W t 12 * sm L Y 12 ≤ sm W Y 12 * sm L t 12 ∧ (sm W t 12 * sm L Y 12 = sm W Y 12 * sm L t 12 → sm L t 12 ≤ sm L Y 12)) → wl_X7_findBlock_28 Post m (nI g) (nI r) (nI Y) (nI (sm L Y 12)) (nI (sm W Y 12)) (nI ((s - 1) &&& r)) u := by
        intro Y hY1 hY2
        refine ih (Y, (s - 1) &&& r) ⟨hY1, by show (s - 1) &&& r ≤ r; exact Nat.and_le_right, nr, fun t ht hl => hY2 t ht ?_⟩ (by show (s - 1) &&& r < s; omega)
        have hl' : (s - 1) &&& r < t := hl
        rcases Nat.lt_trichotomy s t with z | z | z
        · exact Or.inl z
        · exact Or.inr z.symm
        · have := sub_next s s t (Nat.le_refl s) i3 (sub t ht) z
          omega
      have keep : (vd n (Pc E n) g s → sm W s 12 * sm L X 12 ≤ sm W X 12 * sm L s 12 ∧ (sm W s 12 * sm L X 12 = sm W X 12 * sm L s 12 → sm L s 12 ≤ sm L X 12)) → wl_X7_findBlock_28 Post m (nI g) (nI r) (nI X) (nI (sm L X 12)) (nI (sm W X 12)) (nI ((s - 1) &&& r)) u := fun hv => go X i1 fun t ht z => by
        rcases z with z | z
        · exact i4 t ht z
        · rw [z] at ht ⊢
          exact hv ht
      rw [e1]
      refine sp_isBeginning hn hY.2.2.2 sl (fun hb => ⟨fun c => absurd c (by decide), fun _ => ?_⟩) (fun hb => ⟨fun _ => keep fun hv => absurd hv.2.2.2 hb, fun c => absurd rfl c⟩)
      have hv : vd n (Pc E n) g s := ⟨s0, sl, fun i hi => by
        rw [← i3, Nat.testBit_and, Bool.and_eq_true, hr] at hi
        have := hi.2
        rw [tb_cp (bit_lt (cp_lt hg) this)] at this
        simpa using this, hb⟩
      refine sp_lengthOf hn hY.2.2.2 sl ?_
      refine sp_weightOf hn hY.2.2.2 sl ?_
      have b1 := mul_bd (Wb s sl) (Lb X i1.2.1)
      have b2 := mul_bd (Wb X i1.2.1) (Lb s sl)
      have l1 := Lb s sl
      have l2 := Lb X i1.2.1
      obtain ⟨q1, q2, q3⟩ := sub_cmp b1 b2
      unfold wb_X7_findBlock_89
      rw [e1, pk_mul, pk_mul, q1, q2]
      have lt := L_pos hn hL i1
      refine ⟨fun c => go s hv fun t ht z => ?_, fun c => ⟨fun d => keep fun _ => ⟨by omega, fun z => absurd z d⟩, fun d => ⟨fun e => keep fun _ => ⟨by omega, fun _ => ?_⟩, fun e => go s hv fun t ht z => ?_⟩⟩⟩
      · rcases z with z | z
        · have a := (i4 t ht z).1
          have ltt := L_pos hn hL ht
          have key : sm W t 12 * sm L s 12 < sm W s 12 * sm L t 12 := by
            have k1 : sm W t 12 * sm L X 12 * sm L s 12 ≤ sm W X 12 * sm L t 12 * sm L s 12 := Nat.mul_le_mul_right _ a
            have k2 : sm W X 12 * sm L s 12 * sm L t 12 < sm W s 12 * sm L X 12 * sm L t 12 := Nat.mul_lt_mul_of_pos_right c ltt
            have j1 : sm W t 12 * sm L X 12 * sm L s 12 = sm W t 12 * sm L s 12 * sm L X 12 := Nat.mul_right_comm _ _ _
            have j2 : sm W X 12 * sm L t 12 * sm L s 12 = sm W X 12 * sm L s 12 * sm L t 12 := Nat.mul_right_comm _ _ _
            have j3 : sm W s 12 * sm L X 12 * sm L t 12 = sm W s 12 * sm L t 12 * sm L X 12 := Nat.mul_right_comm _ _ _
            exact Nat.lt_of_mul_lt_mul_right (a := sm L X 12) (by omega)
          exact ⟨Nat.le_of_lt key, fun z => by omega⟩
        · rw [z]
          exact ⟨Nat.le_refl _, fun _ => Nat.le_refl _⟩
      · exact (nI_leI (by omega) (by omega)).mp e
      · have e' : sm L X 12 < sm L s 12 := by
          rcases Nat.lt_or_ge (sm L X 12) (sm L s 12) with y | y
          · exact y
          · exact absurd (nI_le y (by omega)) e
        rcases z with z | z
        · obtain ⟨a, a'⟩ := i4 t ht z
          have ltt := L_pos hn hL ht
          have k1 : sm W t 12 * sm L X 12 * sm L s 12 ≤ sm W X 12 * sm L t 12 * sm L s 12 := Nat.mul_le_mul_right _ a
          have k2 : sm W X 12 * sm L s 12 * sm L t 12 = sm W s 12 * sm L X 12 * sm L t 12 := by rw [d]
          have j1 : sm W t 12 * sm L X 12 * sm L s 12 = sm W t 12 * sm L s 12 * sm L X 12 := Nat.mul_right_comm _ _ _
          have j2 : sm W X 12 * sm L t 12 * sm L s 12 = sm W X 12 * sm L s 12 * sm L t 12 := Nat.mul_right_comm _ _ _
          have j3 : sm W s 12 * sm L X 12 * sm L t 12 = sm W s 12 * sm L t 12 * sm L X 12 := Nat.mul_right_comm _ _ _
          refine ⟨Nat.le_of_mul_le_mul_right (c := sm L X 12) (by omega) lt, fun y => ?_⟩
          have y1 : sm W t 12 * sm L s 12 * sm L X 12 = sm W s 12 * sm L t 12 * sm L X 12 := by rw [y]
          have y2 : sm W t 12 * sm L X 12 * sm L s 12 = sm W X 12 * sm L t 12 * sm L s 12 := by omega
          have y3 := a' (Nat.eq_of_mul_eq_mul_right (L_pos hn hL hv) y2)
          omega
        · rw [z]
          exact ⟨Nat.le_refl _, fun _ => Nat.le_refl _⟩
  · have h1 : t ≤ r := by
      have := sub t ht
      have h2 : t &&& r ≤ r := Nat.and_le_right
      omega
    have h3 : r < t := hl
    omega
/-- what the plan keeps of the blocks -/
def BKd : BKt := fun u n L W E => ∃ m, m ≤ 12 ∧ gs n (Pc E n) L W m = 2 ^ n - 1 ∧ (∀ i, i < m → gs n (Pc E n) L W i ≠ 2 ^ n - 1) ∧ u 12 1 = nI m ∧ ∀ i, i < m → u 13 i = nI (blk n (Pc E n) L W (gs n (Pc E n) L W i))
theorem BKd_ok : BKok BKd := by
  rintro u u' n L W E e1 e2 ⟨m, m1, m2, m3, m4, m5⟩
  exact ⟨m, m1, m2, m3, e1.trans m4, by rw [e2]; exact m5⟩
theorem sp_findBlocks (hC : okC n (Pc E n) L W) (hY : YF u n L W E) (hL : ∀ j, j < n → 1 ≤ L j) (h : ∀ v : St, (∀ c, c ≠ 12 → c ≠ 13 → v c = u c) → (∀ i, i ≠ 1 → v 12 i = u 12 i) → BKd v n L W E → Post 0 v) : wp_X7_findBlocks u Post := by
  have hn := hC.1
  have hp := p12 hn
  have hp1 : 1 ≤ 2 ^ n := Nat.one_le_two_pow
  obtain ⟨m, m1, m2, m3⟩ := gs_end (C := Pc E n) (W := W) hn hL
  unfold wp_X7_findBlocks
  refine Exists.elim (loop_0 (fun f i (v : St) => wl_X7_findBlocks_9 Post f (nI (gs n (Pc E n) L W i)) (nI i) v) (fun i v => (∀ c, c ≠ 12 → c ≠ 13 → v c = u c) ∧ (∀ i, i ≠ 1 → v 12 i = u 12 i) ∧ v 12 1 = nI i ∧ ∀ x, x < i → v 13 x = nI (blk n (Pc E n) L W (gs n (Pc E n) L W x))) m (su u 12 1 0) ⟨fun c c12 _ => su_n _ _ _ c12, fun i hi => su_ne _ _ hi, (su_at _ _ _ _).trans nI_0.symm, fun x hx => absurd hx (Nat.not_lt_zero x)⟩ ?_ ?_) (fun f hm => ⟨f, by
    have e : nI (gs n (Pc E n) L W 0) = 0 := nI_0
    rw [e, nI_0] at hm
    exact hm⟩)
  · intro f v ⟨i1, i2, i3, i4⟩
    show wb_X7_findBlocks_9 Post _ (nI (gs n (Pc E n) L W m)) (nI m) v
    unfold wb_X7_findBlocks_9
    have fin : Post 0 v := h v i1 i2 ⟨m, m1, m2, m3, i3, i4⟩
    refine ⟨fun _ => fin, fun _ => sp_everyJob hn (by rw [i1 1 (by decide) (by decide)]; exact hY.1) ?_⟩
    rw [m2]
    exact ⟨fun _ => fin, fun c => absurd rfl c⟩
  · intro f i v hi ⟨i1, i2, i3, i4⟩ ih
    show wb_X7_findBlocks_9 Post _ (nI (gs n (Pc E n) L W i)) (nI i) v
    unfold wb_X7_findBlocks_9
    obtain ⟨g1, g2⟩ := gs_ok (C := Pc E n) (W := W) hn hL i (fun x hx => m3 x (by omega))
    have hYv : YF v n L W E := YF_congr (fun c h1 h2 => i1 c (by omega) (by omega)) hY
    refine ⟨fun c => absurd c (nle_nI (show i < 12 by omega) (by decide)), fun _ => sp_everyJob hn hYv.1 ⟨fun c => ?_, fun _ => ?_⟩⟩
    · exact absurd ((nI_eq (by omega) (by omega)).mp c) (m3 i hi)
    · refine sp_findBlock hC hYv hL g1 (m3 i hi) ?_
      have vi : vp_in (nI i) 12 := vp_in_nI (by omega) (by decide)
      refine ⟨vi, vi, ?_⟩
      rw [cln (i := i) (by omega), su_at, su_n _ _ _ (show (12 : Nat) ≠ 13 by decide), i3, nI_1, or_nI]
      refine ih _ ⟨fun c c12 c13 => by rw [su_n _ _ _ c12, su_n _ _ _ c13]; exact i1 c c12 c13, fun x hx => by rw [su_ne _ _ hx, su_n _ _ _ (by decide)]; exact i2 x hx, su_at _ _ _ _, fun x hx => ?_⟩
      rw [su_n _ _ _ (by decide)]
      by_cases e : x = i
      · rw [e, su_at]
      · rw [su_ne _ _ e]
        exact i4 x (by omega)
/-- the reference's blockBehind -/
theorem sp_blockBehind (hC : okC n C L W) (h0 : w 0 0 = nI n) (hl : ∀ j, j < n → w 1 j = nI (L j)) (hw : ∀ j, j < n → w 2 j = nI (W j)) (hM : MD w n C) (hL : ∀ j, j < n → 1 ≤ L j) (hg : g < 2 ^ n) (hf : g ≠ 2 ^ n - 1) (h : Post (nI (blk n C L W g)) w) : wp_X12_blockBehind (nI g) w Post := by
  have hn := hC.1
  have hp := p12 hn
  have hp1 : 1 ≤ 2 ^ n := Nat.one_le_two_pow
  have Lb : ∀ s, s < 2 ^ n → sm L s 12 ≤ 1200 := fun s hs => sm_1200 hn (fun j hj => (hC.2.2.2.2 j hj).1) hs
  have Wb : ∀ s, s < 2 ^ n → sm W s 12 ≤ 1200 := fun s hs => sm_1200 hn (fun j hj => (hC.2.2.2.2 j hj).2) hs
  unfold wp_X12_blockBehind
  refine Exists.elim (pk_loop (fun f i (X : Nat) => wl_X12_blockBehind_4 Post f (nI g) (nI X) (nI i) w) (fun i X => 1 ≤ i ∧ X < 2 ^ n ∧ BI n C L W g i X) (2 ^ n) 1 0 hp1 ⟨Nat.le_refl 1, Nat.two_pow_pos n, Or.inl ⟨rfl, fun t ht hk => ?_⟩⟩ ?_ ?_) (fun f hm => ⟨f, by rw [nI_0] at hm; exact hm⟩)
  · have := ht.1
    omega
  · intro f X ⟨_, x1, x2⟩
    show wb_X12_blockBehind_4 Post _ (nI g) (nI X) (nI (2 ^ n)) w
    unfold wb_X12_blockBehind_4
    refine sp_all hn h0 ⟨fun _ => ?_, fun c => absurd (nI_lt (by omega) (by omega)) c⟩
    rw [blk_eq (BI_MB hg hf x2)] at h
    exact h
  · intro f i X hi ⟨i0, x1, x2⟩ ih
    show wb_X12_blockBehind_4 Post _ (nI g) (nI X) (nI i) w
    unfold wb_X12_blockBehind_4
    rw [and_nI, nI_1]
    refine sp_all hn h0 ⟨fun c => absurd c (nI_nlt (by omega) (by omega)), fun _ => ⟨fun c => ?_, fun c => ?_⟩⟩
    · refine ih X ⟨by omega, x1, BI_skip x2 fun z => c ?_⟩
      have : i &&& g = 0 := Nat.eq_of_testBit_eq fun y => by
        rw [Nat.testBit_and, Nat.zero_testBit]
        cases q : i.testBit y
        · rfl
        · rw [z.2.2.1 y q]
          rfl
      rw [this]
      rfl
    · have il : i &&& g ≤ i := Nat.and_le_left
      have c0 : i &&& g = 0 := (nI_eq (by omega) (by omega)).mp (c.trans nI_0.symm)
      refine sp_mIsBeginning hn h0 hM (fun hb => ⟨fun c => absurd c (by decide), fun _ => ?_⟩) (fun hb => ⟨fun _ => ih X ⟨by omega, x1, BI_skip x2 fun z => hb z.2.2.2⟩, fun c => absurd rfl c⟩)
      have hv : vd n C g i := ⟨by omega, hi, fun y hy => by
        have z : (i &&& g).testBit y = false := by rw [c0, Nat.zero_testBit]
        rw [Nat.testBit_and, hy, Bool.true_and] at z
        exact z, hb⟩
      refine ⟨fun d => ?_, fun d => ?_⟩
      · have X0 : X ≠ 0 := fun z => d (by rw [z]; rfl)
        refine sp_mWeightOf hn h0 hw ?_
        refine sp_mLengthOf hn h0 hl ?_
        refine sp_mWeightOf hn h0 hw ?_
        refine sp_mLengthOf hn h0 hl ?_
        rw [← sm_n hi hn, ← sm_n hi hn, ← sm_n x1 hn, ← sm_n x1 hn, pk_mul, pk_mul]
        obtain ⟨q1, q2, q3⟩ := sub_cmp (mul_bd (Wb i hi) (Lb X x1)) (mul_bd (Wb X x1) (Lb i hi))
        unfold wb_X12_blockBehind_58
        rw [q2, q3, or_nI, nI_1]
        refine ⟨fun e => ⟨fun e2 => ih X ⟨by omega, x1, BI_less X0 x2 (by omega)⟩, fun e2 => ih _ ⟨by omega, Nat.or_lt_two_pow x1 hi, BI_same hn hL X0 x2 hv e2⟩⟩, fun e => ih i ⟨by omega, hi, BI_more hn hL X0 x2 hv (by omega)⟩⟩
      · have X0 : X = 0 := (nI_eq (by omega) (by omega)).mp (d.trans nI_0.symm)
        unfold wb_X12_blockBehind_58
        rw [nI_1]
        refine ⟨fun e => absurd e (by decide), fun _ => ih i ⟨by omega, hi, ?_⟩⟩
        rw [X0] at x2
        exact BI_first x2 hv
theorem sp_mFindBlocks {uF : St} (hS : SH uF w n L W E) (h : ∀ (v : St) (m : Nat), m ≤ 12 → gs n (Pc E n) L W m = 2 ^ n - 1 → (∀ i, i < m → gs n (Pc E n) L W i ≠ 2 ^ n - 1) → (∀ c, c ≠ 0 → c ≠ 5 → c ≠ 20 → v c = w c) → (∀ i, i ≠ 25 → v 0 i = w 0 i) → v 0 25 = nI m → (∀ i, i < m → v 20 i = nI (blk n (Pc E n) L W (gs n (Pc E n) L W i))) → Post 0 v) : wp_X12_findBlocks w Post := by
  obtain ⟨s1, s2, s3, s4, s5, s6, s7, s8⟩ := hS
  have hn := s1.1
  have hp := p12 hn
  have hp1 : 1 ≤ 2 ^ n := Nat.one_le_two_pow
  obtain ⟨m, m1, m2, m3⟩ := gs_end (C := Pc E n) (W := W) hn s8
  unfold wp_X12_findBlocks
  refine sp_closeMD hn s3 s6 s7 fun w1 a1 a2 => ?_
  refine Exists.elim (loop_0 (fun f i (v : St) => wl_X12_findBlocks_11 Post f (nI (gs n (Pc E n) L W i)) v) (fun i v => (∀ c, c ≠ 0 → c ≠ 20 → v c = w1 c) ∧ (∀ i, i ≠ 25 → v 0 i = w1 0 i) ∧ v 0 25 = nI i ∧ ∀ x, x < i → v 20 x = nI (blk n (Pc E n) L W (gs n (Pc E n) L W x))) m (su w1 0 25 0) ⟨fun c c0 _ => su_n _ _ _ c0, fun i hi => su_ne _ _ hi, (su_at _ _ _ _).trans nI_0.symm, fun x hx => absurd hx (Nat.not_lt_zero x)⟩ ?_ ?_) (fun f hm => ⟨f, by
    have e : nI (gs n (Pc E n) L W 0) = 0 := nI_0
    rw [e] at hm
    exact hm⟩)
  · intro f v ⟨i1, i2, i3, i4⟩
    show wb_X12_findBlocks_11 Post _ (nI (gs n (Pc E n) L W m)) v
    unfold wb_X12_findBlocks_11
    refine sp_all hn (by rw [i2 0 (by decide), a1 0 (by decide)]; exact s3) ?_
    rw [m2]
    exact ⟨fun _ => h v m m1 m2 m3 (fun c c0 c5 c20 => by rw [i1 c c0 c20, a1 c c5]) (fun i hi => by rw [i2 i hi, a1 0 (by decide)]) i3 i4, fun c => absurd rfl c⟩
  · intro f i v hi ⟨i1, i2, i3, i4⟩ ih
    show wb_X12_findBlocks_11 Post _ (nI (gs n (Pc E n) L W i)) v
    unfold wb_X12_findBlocks_11
    obtain ⟨g1, g2⟩ := gs_ok (C := Pc E n) (W := W) hn s8 i (fun x hx => m3 x (by omega))
    have v00 : v 0 0 = nI n := by rw [i2 0 (by decide), a1 0 (by decide)]; exact s3
    refine sp_all hn v00 ⟨fun c => ?_, fun _ => ?_⟩
    · exact absurd ((nI_eq (by omega) (by omega)).mp c) (m3 i hi)
    · refine sp_blockBehind s1 v00 (by rw [i1 1 (by decide) (by decide), a1 1 (by decide)]; exact s4) (by rw [i1 2 (by decide) (by decide), a1 2 (by decide)]; exact s5) (fun j hj a ha => by rw [i1 5 (by decide) (by decide)]; exact a2 j hj a ha) s8 g1 (m3 i hi) ?_
      have vi : vp_in (nI i) 12 := vp_in_nI (by omega) (by decide)
      rw [i3, cln (i := i) (by omega), su_n _ _ _ (show (0 : Nat) ≠ 20 by decide), i3, cln (i := i) (by omega), su_at, nI_1, or_nI]
      refine ⟨vi, vi, ih _ ⟨fun c c0 c20 => by rw [su_n _ _ _ c0, su_n _ _ _ c20]; exact i1 c c0 c20, fun x hx => by rw [su_ne _ _ hx, su_n _ _ _ (by decide)]; exact i2 x hx, su_at _ _ _ _, fun x hx => ?_⟩⟩
      rw [su_n _ _ _ (by decide)]
      by_cases e : x = i
      · rw [e, su_at]
      · rw [su_ne _ _ e]
        exact i4 x (by omega)
end
