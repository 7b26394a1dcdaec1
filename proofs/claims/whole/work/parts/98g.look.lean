/-! layAll's way down; yard; look. -/
section
variable {w : St} {n : Nat} {C : Nat → Nat → Bool} {L W : Nat → Nat} {s j : Nat} {Post : Int32 → St → Prop}
theorem sp_lay302 {K203 : Int32 → St → Prop} {K229 : Int32 → Int32 → St → Prop} {t0 : Int32} (hs : s < 4096) (h : ∀ x : Int32, ((w 16 s ≤ t0 ∧ x = w 16 s) ∨ (¬ w 16 s ≤ t0 ∧ x = t0)) → K229 (nI s) (nI (j + 1)) (su w 16 s x)) : wb_X12_layAll_302 Post K203 K229 (nI s) (nI j) t0 w := by
  unfold wb_X12_layAll_302
  rw [cln (i := s) (by omega), nI_1]
  have vs : vp_in (nI s) 4096 := vp_in_nI hs (by decide)
  exact ⟨vs, fun c => ⟨vs, vs, h _ (Or.inl ⟨c, rfl⟩)⟩, fun c => ⟨vs, h _ (Or.inr ⟨c, rfl⟩)⟩⟩
theorem sp_lay229 {K203 : Int32 → St → Prop} (hC : okC n C L W) (hM : MT w n C L W) (hL : ∀ s, s < 2 ^ n → w 13 s = nI (sm L s n)) (hs : s < 2 ^ n) (hB : ∀ t, s < t → t < 2 ^ n → Bg n C t 0 → w 16 t = nI (bT n C L W t)) (h16 : (s = 2 ^ n - 1 → w 16 s = 0) ∧ (s ≠ 2 ^ n - 1 → w 16 s = nI 2000000000))
    (hK : ∀ v : St, (∀ c, c ≠ 16 → v c = w c) → (∀ t, t ≠ s → v 16 t = w 16 t) → (Bg n C s 0 → v 16 s = nI (bT n C L W s)) → K203 (nI s + (-1)) v) : ∃ m, wl_X12_layAll_229 Post K203 m (nI s) 0 w := by
  have hn := hC.1
  have h4 := pow12 hs hn
  have hp1 : 1 ≤ 2 ^ n := Nat.one_le_two_pow
  have vs : vp_in (nI s) 4096 := vp_in_nI h4 (by decide)
  refine Exists.elim (loop_0 (fun m j (v : St) => wl_X12_layAll_229 Post K203 m (nI s) (nI j) v) (fun j v => (∀ c, c ≠ 16 → v c = w c) ∧ (∀ t, t ≠ s → v 16 t = w 16 t) ∧ (s = 2 ^ n - 1 → v 16 s = 0) ∧ (s ≠ 2 ^ n - 1 → Bg n C s 0 → ∃ x, v 16 s = nI x ∧ x ≤ 2000000000 ∧ (∀ y, y < j → Nx n C s y → x ≤ stp L W s y + bT n C L W (ins s y)) ∧ (x = 2000000000 ∨ ∃ y, y < j ∧ Nx n C s y ∧ x = stp L W s y + bT n C L W (ins s y)))) n w ⟨fun _ _ => rfl, fun _ _ => rfl, h16.1, fun e _ => ⟨2000000000, h16.2 e, Nat.le_refl _, fun y hy => absurd hy (Nat.not_lt_zero y), Or.inl rfl⟩⟩ ?_ ?_) (fun m hm => ⟨m, by rw [nI_0] at hm; exact hm⟩)
  · intro m v ⟨i1, i2, i3, i4⟩
    show wb_X12_layAll_229 Post K203 _ (nI s) (nI n) v
    unfold wb_X12_layAll_229
    rw [i1 0 (by decide), hM.1]
    refine ⟨fun _ => hK v i1 i2 fun hb => ?_, fun c => absurd (nI_le (Nat.le_refl n) (by omega)) c⟩
    by_cases e : s = 2 ^ n - 1
    · rw [i3 e, e, tbl_full.1]
      rfl
    · obtain ⟨x, x1, x2, x3, x4⟩ := i4 e hb
      obtain ⟨y, y1, y2, y3⟩ := bT_ex hC hs hb e
      have a1 := x3 y y1 y2
      have a2 := bT_le hC hs hb
      rw [x1]
      congr 1
      rcases x4 with z | ⟨y', z1, z2, z3⟩
      · omega
      · have := bT_min hC hs hb z1 z2
        omega
  · intro m j v hj ⟨i1, i2, i3, i4⟩ ih
    show wb_X12_layAll_229 Post K203 _ (nI s) (nI j) v
    unfold wb_X12_layAll_229
    rw [i1 0 (by decide), hM.1, nI_1, cln (i := s) (by omega), cln (i := j) (by omega)]
    have hMv : MT v n C L W := MT_congr (w := w) (by rw [i1 0 (by decide)]) (fun c h1 h2 => i1 c (by omega)) hM
    refine ⟨fun c => absurd c (nle_nI hj (by omega)), fun _ => sp_has (by omega) ?_⟩
    have skip : ¬ Nx n C s j → wl_X12_layAll_229 Post K203 m (nI s) (nI (j + 1)) v := fun hx => by
      refine ih v ⟨i1, i2, i3, fun e hb => ?_⟩
      obtain ⟨x, x1, x2, x3, x4⟩ := i4 e hb
      refine ⟨x, x1, x2, fun y hy hn => ?_, ?_⟩
      · by_cases e : y = j
        · rw [e] at hn
          exact absurd hn hx
        · exact x3 y (by omega) hn
      · rcases x4 with z | ⟨y', z1, z2⟩
        · exact Or.inl z
        · exact Or.inr ⟨y', by omega, z2⟩
    rw [bt_nI (by omega)]
    by_cases q : s.testBit j = true
    · rw [if_pos q]
      have hx : ¬ Nx n C s j := fun z => by
        have := z.1
        rw [q] at this
        cases this
      exact ⟨fun _ => skip hx, fun c => absurd c (by decide)⟩
    · rw [if_neg q]
      have q' : s.testBit j = false := by simpa using q
      refine ⟨fun c => absurd rfl c, fun _ => ⟨vp_in_nI (by omega) (by decide), fun d => skip fun z => d ((m_next hn hMv hj).mpr z.2), fun d => ?_⟩⟩
      have hx : Nx n C s j := ⟨q', (m_next hn hMv hj).mp d⟩
      have ti := ins_lt hs hj
      have l1 := lt_ins hx.1
      have t4 := pow12 ti hn
      have nf : s ≠ 2 ^ n - 1 := by omega
      rw [or_ins (by omega), cln (i := ins s j) (by omega)]
      have vt : vp_in (nI (ins s j)) 4096 := vp_in_nI t4 (by decide)
      have vj : vp_in (nI j) 12 := vp_in_nI (by omega) (by decide)
      rw [i2 (ins s j) (by omega)]
      have b3 := stp_le hC hs hj hx.1
      have b4 := Nat.mul_le_mul_right 1200 (hC.2.2.2.2 j hj).2
      refine ⟨vt, fun c => ⟨vj, vs, vj, sp_lay302 h4 fun x hx' => ?_⟩, fun c => sp_lay302 h4 fun x hx' => ?_⟩
      · refine ih _ ⟨fun c hc => by rw [su_n _ _ _ hc]; exact i1 c hc, fun t ht => by rw [su_ne _ _ ht]; exact i2 t ht, fun e => absurd e nf, fun _ hb => ?_⟩
        obtain ⟨x0, x1, x2, x3, x4⟩ := i4 nf hb
        have b1 := bT_le hC ti (Bg_ins hb hx)
        rw [x1, i1 13 (by decide), hL s hs, i1 17 (by decide), hM.2.1 j hj, i1 18 (by decide), hM.2.2.1 j hj, nI_add, pk_mul, hB _ l1 ti (Bg_ins hb hx), nI_add, ← sm_n hs hn] at hx'
        have hx2 : (nI x0 ≤ nI (stp L W s j + bT n C L W (ins s j)) ∧ x = nI x0) ∨ (¬ nI x0 ≤ nI (stp L W s j + bT n C L W (ins s j)) ∧ x = nI (stp L W s j + bT n C L W (ins s j))) := hx'
        rw [nI_leI (by omega) (by omega)] at hx2
        rw [su_at]
        rcases hx2 with ⟨y1, y2⟩ | ⟨y1, y2⟩
        · refine ⟨x0, y2, x2, fun y hy hny => ?_, ?_⟩
          · by_cases e : y = j
            · rw [e]
              exact y1
            · exact x3 y (by omega) hny
          · rcases x4 with z | ⟨y', z1, z2⟩
            · exact Or.inl z
            · exact Or.inr ⟨y', by omega, z2⟩
        · refine ⟨_, y2, by omega, fun y hy hny => ?_, Or.inr ⟨j, by omega, hx, rfl⟩⟩
          by_cases e : y = j
          · rw [e]
            exact Nat.le_refl _
          · have := x3 y (by omega) hny
            omega
      · refine ih _ ⟨fun c hc => by rw [su_n _ _ _ hc]; exact i1 c hc, fun t ht => by rw [su_ne _ _ ht]; exact i2 t ht, fun e => absurd e nf, fun _ hb => ?_⟩
        have b1 := bT_le hC ti (Bg_ins hb hx)
        rw [hB _ l1 ti (Bg_ins hb hx)] at c
        have := (nI_eq (a := bT n C L W (ins s j)) (b := 2000000000) (by omega) (by omega)).mp c
        omega
/-- layAll -/
theorem sp_layAll (hC : okC n C L W) (hM : MT w n C L W)
    (hP : ∀ (v : St) (F : Nat → Nat), (∀ c, c ≠ 13 → c ≠ 14 → c ≠ 15 → c ≠ 16 → v c = w c) → (∀ t, t < 2 ^ n → v 14 t = nI (F t)) → FS n C L W (2 ^ n) 0 F → F (2 ^ n - 1) = bT n C L W 0 → v 15 (2 ^ n - 1) = bO n C L W 0 → (∀ s, s < 2 ^ n → v 13 s = nI (sm L s n)) → (∀ s, s < 2 ^ n → Bg n C s 0 → v 16 s = nI (bT n C L W s)) → Post 0 v) : wp_X12_layAll w Post := by
  have hn := hC.1
  have hp := p12 hn
  have hp1 : 1 ≤ 2 ^ n := Nat.one_le_two_pow
  refine sp_lay1 hn hM fun v1 a1 a2 => ?_
  have hM1 : MT v1 n C L W := MT_congr (w := w) (by rw [a1 0 (by decide) (by decide) (by decide)]) (fun c h1 h2 => a1 c (by omega) (by omega) (by omega)) hM
  refine sp_lay2 hC hM1 (fun s hs => (a2 s hs).1) (fun s hs => (a2 s hs).2) fun v2 F b1 b2 b3 b4 b5 => ?_
  have hM2 : MT v2 n C L W := MT_congr (w := v1) (by rw [b1 0 (by decide) (by decide)]) (fun c h1 h2 => b1 c (by omega) (by omega)) hM1
  have hL2 : ∀ s, s < 2 ^ n → v2 13 s = nI (sm L s n) := fun s hs => by rw [b1 13 (by decide) (by decide)]; exact (a2 s hs).1
  have key := pk_loopD (fun m i (v : St) => wl_X12_layAll_203 Post m (nI i + (-1)) v) (fun i v => i ≤ 2 ^ n ∧ (∀ c, c ≠ 16 → v c = v2 c) ∧ ∀ t, i ≤ t → t < 2 ^ n → Bg n C t 0 → v 16 t = nI (bT n C L W t)) ?_ ?_ (2 ^ n) v2 ⟨Nat.le_refl _, fun _ _ => rfl, fun t t1 t2 => by omega⟩
  · refine ⟨2 ^ n + 1, ?_⟩
    have e : nI (2 ^ n) + (-1) = nI (2 ^ n - 1) := by
      obtain ⟨q, hq⟩ : ∃ q, 2 ^ n = q + 1 := ⟨2 ^ n - 1, by omega⟩
      rw [hq, pk_m1]
      rfl
    rw [e] at key
    exact key
  · intro m v ⟨_, i1, i2⟩
    show wb_X12_layAll_203 Post _ (nI 0 + (-1)) v
    unfold wb_X12_layAll_203
    refine ⟨fun _ => ?_, fun c => absurd (by decide) c⟩
    exact hP v F (fun c c13 c14 c15 c16 => by rw [i1 c c16, b1 c c14 c15, a1 c c13 c14 c15]) (by rw [i1 14 (by decide)]; exact b2) b3 b4 (by rw [i1 15 (by decide)]; exact b5) (by rw [i1 13 (by decide)]; exact hL2) (fun s hs hb => i2 s (Nat.zero_le s) hs hb)
  · intro m i v ⟨i0, i1, i2⟩ ih
    show wb_X12_layAll_203 Post _ (nI (i + 1) + (-1)) v
    unfold wb_X12_layAll_203
    rw [pk_m1]
    refine ⟨fun c => absurd c (nI_pos (by omega)), fun _ => ?_⟩
    have h0 : v 0 0 = nI n := by rw [i1 0 (by decide)]; exact hM2.1
    refine sp_all hn h0 ?_
    have vi : vp_in (nI i) 4096 := vp_in_nI (by omega) (by decide)
    have go : ∀ x : Int32, ((i = 2 ^ n - 1 → x = 0) ∧ (i ≠ 2 ^ n - 1 → x = nI 2000000000)) → ∃ m', wl_X12_layAll_229 Post (wl_X12_layAll_203 Post m) m' (nI i) 0 (su v 16 i x) := by
      intro x hx
      have fr : ∀ c, c ≠ 16 → su v 16 i x c = v2 c := fun c hc => by rw [su_n _ _ _ hc]; exact i1 c hc
      refine sp_lay229 hC (MT_congr (w := v2) (by rw [fr 0 (by decide)]) (fun c h1 h2 => fr c (by omega)) hM2) (fun s hs => by rw [fr 13 (by decide)]; exact hL2 s hs) (by omega) (fun t t1 t2 hb => by rw [su_ne _ _ (by omega)]; exact i2 t (by omega) t2 hb) ⟨fun e => by rw [su_at]; exact hx.1 e, fun e => by rw [su_at]; exact hx.2 e⟩ fun z z1 z2 z3 => ih z ⟨by omega, fun c hc => by rw [z1 c hc]; exact fr c hc, fun t t1 t2 hb => ?_⟩
      by_cases e : t = i
      · rw [e] at hb ⊢
        exact z3 hb
      · rw [z2 t e, su_ne _ _ e]
        exact i2 t (by omega) t2 hb
    rw [cln (i := i) (by omega)]
    refine ⟨fun c => ⟨vi, go _ ⟨fun e => absurd (by rw [e]) c, fun _ => rfl⟩⟩, fun c => ⟨vi, go _ ⟨fun _ => rfl, fun e => absurd ((nI_eq (by omega) (by omega)).mp c) e⟩⟩⟩
theorem sp_yard0 {C0 : Nat → Nat → Bool} (hn : n ≤ 12) (h0 : w 0 0 = nI n) (hL : ∀ j, j < n → w 1 j = nI (L j)) (hW : ∀ j, j < n → w 2 j = nI (W j)) (hC : MD w n C0) (hP : ∀ v : St, (∀ c, c ≠ 17 → c ≠ 18 → c ≠ 19 → v c = w c) → MT v n C0 L W → Post 0 v) : ∃ m, wl_X12_yard_6 Post m 0 0 w := by
  refine Exists.elim (loop_0 (fun m i (v : St) => wl_X12_yard_6 Post m 0 (nI i) v) (fun i v => (∀ c, c ≠ 17 → c ≠ 18 → c ≠ 19 → v c = w c) ∧ (∀ j, j < i → v 17 j = w 1 j ∧ v 18 j = w 2 j ∧ v 19 j = w 5 j)) n w ⟨fun _ _ _ _ => rfl, fun j hj => absurd hj (Nat.not_lt_zero j)⟩ ?_ ?_) (fun m hm => ⟨m, by rw [nI_0] at hm; exact hm⟩)
  · intro m v ⟨i1, i2⟩
    show wb_X12_yard_6 Post _ 0 (nI n) v
    unfold wb_X12_yard_6
    rw [i1 0 (by decide) (by decide) (by decide), h0]
    refine ⟨fun _ => hP v i1 ⟨by rw [i1 0 (by decide) (by decide) (by decide)]; exact h0, fun j hj => ?_, fun j hj => ?_, fun j hj a ha => ?_⟩, fun c => absurd (nI_le (Nat.le_refl n) (by omega)) c⟩
    · rw [(i2 j hj).1]
      exact hL j hj
    · rw [(i2 j hj).2.1]
      exact hW j hj
    · rw [(i2 j hj).2.2]
      exact hC j hj a ha
  · intro m i v hi ⟨i1, i2⟩ ih
    show wb_X12_yard_6 Post _ 0 (nI i) v
    unfold wb_X12_yard_6
    rw [i1 0 (by decide) (by decide) (by decide), h0, cln (i := i) (by omega)]
    have vi : vp_in (nI i) 12 := vp_in_nI (by omega) (by decide)
    refine ⟨fun c => absurd c (nle_nI hi (by omega)), fun _ => ⟨fun _ => ⟨vi, ?_⟩, fun c => absurd rfl c⟩⟩
    unfold wb_X12_yard_38
    rw [cln (i := i) (by omega)]
    refine ⟨vi, fun _ => ⟨vi, ?_⟩, fun c => absurd rfl c⟩
    unfold wb_X12_yard_63
    rw [cln (i := i) (by omega)]
    refine ⟨vi, fun _ => ⟨vi, vi, 1, ?_⟩, fun c => absurd rfl c⟩
    show wb_X12_yard_86 Post _ _ 0 (nI i) 0 _
    unfold wb_X12_yard_86
    rw [nI_1]
    refine ⟨fun _ => ih _ ⟨fun c c17 c18 c19 => by rw [su_n _ _ _ c19, su_n _ _ _ c18, su_n _ _ _ c17]; exact i1 c c17 c18 c19, fun j hj => ?_⟩, fun c => absurd rfl c⟩
    by_cases e : j = i
    · subst e
      simp only [su_rd]
      simp [i1 1 (by decide) (by decide) (by decide), i1 2 (by decide) (by decide) (by decide), i1 5 (by decide) (by decide) (by decide)]
    · have := i2 j (by omega)
      simp only [su_rd]
      simpa [e] using this
theorem sp_yard86 {K6 : Int32 → Int32 → St → Prop} {C0 : Nat → Nat → Bool} (hn : n ≤ 12) (h0 : w 0 0 = nI n) (hC : MD w n C0) (hj : j < n) (hz : w 19 j = 0) (hK : ∀ v : St, (∀ c, c ≠ 19 → v c = w c) → (∀ x, x ≠ j → v 19 x = w 19 x) → (∀ a, a < 32 → bt (v 19 j) a = (decide (a < n) && C0 j a)) → K6 1 (nI (j + 1)) v) : ∃ m, wl_X12_yard_86 Post K6 m 1 (nI j) 0 w := by
  refine Exists.elim (loop_0 (fun m i (v : St) => wl_X12_yard_86 Post K6 m 1 (nI j) (nI i) v) (fun i v => (∀ c, c ≠ 19 → v c = w c) ∧ (∀ x, x ≠ j → v 19 x = w 19 x) ∧ (∀ a, a < 32 → bt (v 19 j) a = (decide (a < i) && C0 j a))) n w ⟨fun _ _ => rfl, fun _ _ => rfl, fun a ha => by rw [hz, b_0, decide_eq_false (Nat.not_lt_zero a)]; rfl⟩ ?_ ?_) (fun m hm => ⟨m, by rw [nI_0] at hm; exact hm⟩)
  · intro m v ⟨i1, i2, i3⟩
    show wb_X12_yard_86 Post K6 _ 1 (nI j) (nI n) v
    unfold wb_X12_yard_86
    rw [i1 0 (by decide), h0, nI_1]
    exact ⟨fun c => absurd c (by decide), fun _ => ⟨fun _ => hK v i1 i2 i3, fun c => absurd (nI_le (Nat.le_refl n) (by omega)) c⟩⟩
  · intro m i v hi ⟨i1, i2, i3⟩ ih
    show wb_X12_yard_86 Post K6 _ 1 (nI j) (nI i) v
    unfold wb_X12_yard_86
    rw [i1 0 (by decide), h0, nI_1, nI_1, cln (i := i) (by omega), cln (i := j) (by omega)]
    have vj : vp_in (nI j) 12 := vp_in_nI (by omega) (by decide)
    refine ⟨fun c => absurd c (by decide), fun _ => ⟨fun c => absurd c (nle_nI hi (by omega)), fun _ => ⟨vj, vp_in_nI (by omega) (by decide), sp_has (by omega) ?_⟩⟩⟩
    rw [i1 5 (by decide), hC i hi j (by omega), decide_eq_true hj, Bool.true_and]
    have go : ∀ x : Int32, (∀ a, a < 32 → bt x a = (decide (a < i + 1) && C0 j a)) → wl_X12_yard_86 Post K6 m 1 (nI j) (nI (i + 1)) (su v 19 j x) := fun x hx => ih _ ⟨fun c hc => by rw [su_n _ _ _ hc]; exact i1 c hc, fun y hy => by rw [su_ne _ _ hy]; exact i2 y hy, by rw [su_at]; exact hx⟩
    by_cases q : C0 j i = true
    · rw [if_pos q]
      refine ⟨fun c => absurd c (by decide), fun _ => ⟨vj, go _ fun a ha => ?_⟩⟩
      rw [b_or, i3 a ha, bt_1shl (by omega) ha]
      by_cases e : a = i
      · rw [e, q, decide_eq_true rfl, decide_eq_true (Nat.lt_succ_self i)]
        simp
      · rw [decide_eq_false e, Bool.or_false]
        congr 1
        exact decide_eq_decide.mpr (by omega)
    · rw [if_neg q]
      refine ⟨fun _ => ⟨vj, go _ fun a ha => ?_⟩, fun c => absurd rfl c⟩
      rw [b_or, i3 a ha, b_0, Bool.or_false]
      by_cases e : a = i
      · rw [Bool.not_eq_true] at q
        rw [e, q]
        simp
      · congr 1
        exact decide_eq_decide.mpr (by omega)
theorem sp_yard1 {C0 : Nat → Nat → Bool} (hn : n ≤ 12) (h0 : w 0 0 = nI n) (hL : ∀ j, j < n → w 1 j = nI (L j)) (hW : ∀ j, j < n → w 2 j = nI (W j)) (hC : MD w n C0) (hP : ∀ v : St, (∀ c, c ≠ 17 → c ≠ 18 → c ≠ 19 → v c = w c) → MT v n (fun a b => C0 b a) W L → Post 0 v) : ∃ m, wl_X12_yard_6 Post m 1 0 w := by
  refine Exists.elim (loop_0 (fun m i (v : St) => wl_X12_yard_6 Post m 1 (nI i) v) (fun i v => (∀ c, c ≠ 17 → c ≠ 18 → c ≠ 19 → v c = w c) ∧ (∀ j, j < i → v 17 j = w 2 j ∧ v 18 j = w 1 j ∧ ∀ a, a < 32 → bt (v 19 j) a = (decide (a < n) && C0 j a))) n w ⟨fun _ _ _ _ => rfl, fun j hj => absurd hj (Nat.not_lt_zero j)⟩ ?_ ?_) (fun m hm => ⟨m, by rw [nI_0] at hm; exact hm⟩)
  · intro m v ⟨i1, i2⟩
    show wb_X12_yard_6 Post _ 1 (nI n) v
    unfold wb_X12_yard_6
    rw [i1 0 (by decide) (by decide) (by decide), h0]
    refine ⟨fun _ => hP v i1 ⟨by rw [i1 0 (by decide) (by decide) (by decide)]; exact h0, fun j hj => ?_, fun j hj => ?_, fun j hj a ha => (i2 j hj).2.2 a ha⟩, fun c => absurd (nI_le (Nat.le_refl n) (by omega)) c⟩
    · rw [(i2 j hj).1]
      exact hW j hj
    · rw [(i2 j hj).2.1]
      exact hL j hj
  · intro m i v hi ⟨i1, i2⟩ ih
    show wb_X12_yard_6 Post _ 1 (nI i) v
    unfold wb_X12_yard_6
    rw [i1 0 (by decide) (by decide) (by decide), h0, cln (i := i) (by omega)]
    have vi : vp_in (nI i) 12 := vp_in_nI (by omega) (by decide)
    refine ⟨fun c => absurd c (nle_nI hi (by omega)), fun _ => ⟨fun c => absurd c (by decide), fun _ => ⟨vi, ?_⟩⟩⟩
    unfold wb_X12_yard_38
    rw [cln (i := i) (by omega)]
    refine ⟨vi, fun c => absurd c (by decide), fun _ => ⟨vi, ?_⟩⟩
    unfold wb_X12_yard_63
    rw [cln (i := i) (by omega)]
    refine ⟨vi, fun c => absurd c (by decide), fun _ => ⟨vi, ?_⟩⟩
    obtain ⟨z, hz⟩ : ∃ z : St, z = su (su (su v 17 i (v 2 i)) 18 i (su v 17 i (v 2 i) 1 i)) 19 i 0 := ⟨_, rfl⟩
    rw [← hz]
    have fr : ∀ c, c ≠ 17 → c ≠ 18 → c ≠ 19 → z c = w c := fun c c17 c18 c19 => by rw [hz, su_n _ _ _ c19, su_n _ _ _ c18, su_n _ _ _ c17]; exact i1 c c17 c18 c19
    refine sp_yard86 (C0 := C0) hn (by rw [fr 0 (by decide) (by decide) (by decide)]; exact h0) (fun j hj a ha => by rw [fr 5 (by decide) (by decide) (by decide)]; exact hC j hj a ha) hi (by rw [hz, su_at]) fun y y1 y2 y3 => ih y ⟨fun c c17 c18 c19 => by rw [y1 c c19]; exact fr c c17 c18 c19, fun j hj => ?_⟩
    by_cases e : j = i
    · subst e
      refine ⟨?_, ?_, y3⟩
      · rw [y1 17 (by decide), hz]
        simp only [su_rd]
        simp [i1 2 (by decide) (by decide) (by decide)]
      · rw [y1 18 (by decide), hz]
        simp only [su_rd]
        simp [i1 1 (by decide) (by decide) (by decide)]
    · obtain ⟨a1, a2, a3⟩ := i2 j (by omega)
      refine ⟨?_, ?_, ?_⟩
      · rw [y1 17 (by decide), hz]
        simp only [su_rd]
        simpa [e] using a1
      · rw [y1 18 (by decide), hz]
        simp only [su_rd]
        simpa [e] using a2
      · rw [y2 j e, hz, su_ne _ _ e, su_n _ _ _ (by decide), su_n _ _ _ (by decide)]
        exact a3
end
