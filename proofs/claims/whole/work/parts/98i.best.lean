/-! best. -/
section
variable {BK : BKt} {w : St} {n : Nat} {C : Nat → Nat → Bool} {L W : Nat → Nat} {s : Nat} {Post : Int32 → St → Prop}
theorem sp_best36 {K11 : Int32 → Int32 → Int32 → Int32 → St → Prop} {x1 x4 : Int32} (hC : okC n C L W) (hM : MT w n C L W) (hL : ∀ s, s < 2 ^ n → w 13 s = nI (sm L s n)) (h16 : ∀ s, s < 2 ^ n → Bg n C s 0 → w 16 s = nI (bT n C L W s)) (hs : s < 2 ^ n) (hb : Bg n C s 0) (hf : s ≠ 2 ^ n - 1) (hK : K11 x1 (nI (ins s (bj n C L W s))) (nI (bj n C L W s)) (x4 + 1) w) : ∃ m, wl_X12_best_36 Post K11 m x1 (nI s) (-1) x4 (nI n - 1) w := by
  have hn := hC.1
  have h4 := pow12 hs hn
  obtain ⟨j1, j2, j3⟩ := bj_ok hC hs hb hf
  have vs : vp_in (nI s) 4096 := vp_in_nI h4 (by decide)
  have key := pk_loopD (fun m i (x3 : Int32) => wl_X12_best_36 Post K11 m x1 (nI s) x3 x4 (nI i + (-1)) w) (fun i x3 => i ≤ n ∧ ((x3 = -1 ∧ ∀ y, i ≤ y → y < n → bnB n C L W s y = false) ∨ ∃ y, i ≤ y ∧ y < n ∧ bnB n C L W s y = true ∧ x3 = nI y ∧ ∀ z, i ≤ z → z < y → bnB n C L W s z = false)) ?_ ?_ n (-1) ⟨Nat.le_refl n, Or.inl ⟨rfl, fun y h1 h2 => by omega⟩⟩
  · refine ⟨n + 1, ?_⟩
    rw [Int32.sub_eq_add_neg]
    exact key
  · intro m x3 ⟨_, hx⟩
    show wb_X12_best_36 Post K11 _ x1 (nI s) x3 x4 (nI 0 + (-1)) w
    unfold wb_X12_best_36
    refine ⟨fun _ => ?_, fun c => absurd (by decide) c⟩
    have e : x3 = nI (bj n C L W s) := by
      rcases hx with ⟨_, z⟩ | ⟨y, _, y2, y3, y4, y5⟩
      · rw [z _ (Nat.zero_le _) j1] at j2
        cases j2
      · rcases Nat.lt_trichotomy y (bj n C L W s) with q | q | q
        · rw [j3 y q] at y3
          cases y3
        · rw [y4, q]
        · rw [y5 _ (Nat.zero_le _) q] at j2
          cases j2
    rw [e, or_ins (by omega)]
    exact hK
  · intro m i x3 ⟨i0, hx⟩ ih
    show wb_X12_best_36 Post K11 _ x1 (nI s) x3 x4 (nI (i + 1) + (-1)) w
    unfold wb_X12_best_36
    rw [pk_m1]
    refine ⟨fun c => absurd c (nI_pos (by omega)), fun _ => sp_has (by omega) ?_⟩
    have vi : vp_in (nI i) 12 := vp_in_nI (by omega) (by decide)
    have hi : i < n := by omega
    have keep : bnB n C L W s i = false → wl_X12_best_36 Post K11 m x1 (nI s) x3 x4 (nI i + (-1)) w := fun hb => by
      refine ih x3 ⟨by omega, ?_⟩
      rcases hx with ⟨z1, z2⟩ | ⟨y, y1, y2, y3, y4, y5⟩
      · refine Or.inl ⟨z1, fun y h1 h2 => ?_⟩
        by_cases e : y = i
        · rw [e]
          exact hb
        · exact z2 y (by omega) h2
      · refine Or.inr ⟨y, by omega, y2, y3, y4, fun z h1 h2 => ?_⟩
        by_cases e : z = i
        · rw [e]
          exact hb
        · exact y5 z (by omega) h2
    have no : ¬ Nx n C s i → wb_X12_best_68 Post K11 (wl_X12_best_36 Post K11 m) x1 (nI s) x3 x4 (nI i) w := fun hx' => by
      have hb' : bnB n C L W s i = false := by
        cases q : bnB n C L W s i
        · rfl
        · exact absurd (bnB_iff.mp q).1 hx'
      unfold wb_X12_best_68 wb_X12_best_69 wb_X12_best_123 wb_X12_best_124
      exact ⟨fun _ => ⟨fun _ => keep hb', fun c => absurd rfl c⟩, fun c => absurd rfl c⟩
    rw [bt_nI (by omega)]
    by_cases q : s.testBit i = true
    · rw [if_pos q]
      have hx' : ¬ Nx n C s i := fun z => by
        have := z.1
        rw [q] at this
        cases this
      exact ⟨fun _ => no hx', fun c => absurd c (by decide)⟩
    · rw [if_neg q]
      have q' : s.testBit i = false := by simpa using q
      refine ⟨fun c => absurd rfl c, fun _ => ⟨vi, fun d => ?_, fun d => ?_⟩⟩
      · rw [cln (i := i) (by omega)] at d
        exact no fun z => d ((m_next hn hM hi).mpr z.2)
      · rw [cln (i := i) (by omega)] at d
        have hx' : Nx n C s i := ⟨q', (m_next hn hM hi).mp d⟩
        have ti := ins_lt hs hi
        have b1 := bT_le hC ti (Bg_ins hb hx')
        have b0 := bT_le hC hs hb
        have b3 := stp_le hC hs hi hx'.1
        have b4 := Nat.mul_le_mul_right 1200 (hC.2.2.2.2 i hi).2
        unfold wb_X12_best_69
        refine ⟨fun c => absurd c (by decide), fun _ => ⟨vi, vs, vi, ?_⟩⟩
        rw [or_ins (by omega), cln (i := i) (by omega), cln (i := s) (by omega), cln (i := ins s i) (by have := pow12 ti hn; omega), hM.2.1 i hi, hM.2.2.1 i hi, hL s hs, h16 s hs hb, h16 _ ti (Bg_ins hb hx'), nI_add, pk_mul, nI_add, ← sm_n hs hn]
        refine ⟨vp_in_nI (pow12 ti hn) (by decide), vs, fun c => ?_, fun c => ?_⟩
        · have hb' : bnB n C L W s i = false := by
            cases z : bnB n C L W s i
            · rfl
            · refine absurd ?_ c
              have := (bnB_iff.mp z).2
              show nI (stp L W s i + bT n C L W (ins s i)) = _
              rw [this]
          unfold wb_X12_best_123 wb_X12_best_124
          exact ⟨fun _ => keep hb', fun c => absurd rfl c⟩
        · have e := (nI_eq (a := stp L W s i + bT n C L W (ins s i)) (b := bT n C L W s) (by omega) (by omega)).mp c
          unfold wb_X12_best_124
          refine ⟨fun c => absurd c (by decide), fun _ => ih _ ⟨by omega, Or.inr ⟨i, Nat.le_refl i, hi, bnB_iff.mpr ⟨hx', e⟩, rfl, fun z h1 h2 => by omega⟩⟩⟩
theorem sp_best11 {a1 : Int32} (hC : okC n C L W) (hM : MT w n C L W) (hL : ∀ s, s < 2 ^ n → w 13 s = nI (sm L s n)) (h16 : ∀ s, s < 2 ^ n → Bg n C s 0 → w 16 s = nI (bT n C L W s)) (h1 : ∀ i, i < n → a1 = nI i → Post (nI (bj n C L W (bs n C L W i))) w) (h0 : (∀ i, i < n → a1 ≠ nI i) → Post (-1) w) : ∃ m, wl_X12_best_11 Post m a1 0 (-1) 0 w := by
  have hn := hC.1
  have fin : ∀ (k : Nat) (x3 : Int32), k ≤ n → (∀ i, i < n → a1 = nI i → k = i + 1) → (0 < k → x3 = nI (bj n C L W (bs n C L W (k - 1)))) → wb_X12_best_156 Post a1 x3 w := by
    intro k x3 hk hi hx
    unfold wb_X12_best_156
    refine sp_in0 (m := n) (by omega) (by rw [hM.1]; rfl) (fun i hi' e => ⟨fun c => absurd c (by decide), fun _ => ?_⟩) (fun hno => ⟨fun _ => h0 hno, fun c => absurd rfl c⟩)
    have e1 := hi i hi' e
    rw [hx (by omega), e1]
    exact h1 i hi' e
  refine Exists.elim (loop_0 (fun m k (x3 : Int32) => wl_X12_best_11 Post m a1 (nI (bs n C L W k)) x3 (nI k) w) (fun k x3 => (∀ i, i < n → a1 = nI i → k ≤ i + 1) ∧ (0 < k → x3 = nI (bj n C L W (bs n C L W (k - 1))))) n (-1) ⟨fun i _ _ => Nat.zero_le _, fun h => absurd h (Nat.lt_irrefl 0)⟩ ?_ ?_) (fun m hm => ⟨m, by
    have e : nI (bs n C L W 0) = 0 := nI_0
    rw [e, nI_0] at hm
    exact hm⟩)
  · intro m x3 ⟨i1, i2⟩
    show wb_X12_best_11 Post _ a1 (nI (bs n C L W n)) x3 (nI n) w
    unfold wb_X12_best_11
    rw [hM.1]
    have f := fin n x3 (Nat.le_refl n) (fun i hi e => by have := i1 i hi e; omega) i2
    exact ⟨fun _ => f, fun _ => ⟨fun _ => f, fun c => absurd (nI_le (Nat.le_refl n) (by omega)) c⟩⟩
  · intro m k x3 hk ⟨i1, i2⟩ ih
    show wb_X12_best_11 Post _ a1 (nI (bs n C L W k)) x3 (nI k) w
    unfold wb_X12_best_11
    rw [hM.1]
    refine ⟨fun c => ?_, fun c => ⟨fun d => absurd d (nle_nI hk (by omega)), fun _ => ?_⟩⟩
    · refine fin k x3 (by omega) (fun i hi e => ?_) i2
      have := i1 i hi e
      rw [e] at c
      have h2 : i < k := (nI_ltI (by omega) (by omega)).mp c
      omega
    · obtain ⟨b1, b2, b3⟩ := bs_ok hC k (by omega)
      refine sp_best36 hC hM hL h16 b1 b2 (bs_nf hC hk) ?_
      rw [nI_1]
      refine ih _ ⟨fun i hi e => ?_, fun _ => rfl⟩
      rw [e] at c
      have h2 : ¬ i < k := fun z => c (nI_lt z (by omega))
      omega
theorem ok_best (hB : BKok BK) : Ok_best (Rel (RYc (PLd BK))) := by
  have hK := PLd_ok hB
  have hY := RYc_ok hK
  intro k a1 uF uM hk h
  obtain ⟨h1, ⟨n, hr, hl⟩, ht, hs⟩ := id h
  obtain ⟨n1, n2, n3, n4⟩ := hY.1 _ _ _ _ hr
  unfold wp_X11_best
  refine sp_hasJob n1 n2 (fun i hi e => ⟨fun c => absurd c (by decide), fun _ => ?_⟩) (fun hno => ⟨fun _ => ?_, fun c => absurd rfl c⟩)
  · subst e
    unfold wp_X7_bestAt
    refine sp_fo hB hk hr fun v L W E hS hy fr hO _ _ _ => ⟨vp_in_nI (by omega) (by decide), ?_⟩
    rw [cln (i := i) (by omega), hO.2.2 i hi]
    unfold wp_X12_best
    refine sp_look hS fun w F b1 b2 b3 b4 b5 b6 b7 b8 => ?_
    have hR := ((Rel_plan h hl hy fr).mm hY (vM := w) (fun i _ => by rw [b1 0 (by decide) (by decide)]) (fun c _ c5 c13 => b1 c c5 c13)).mono hY
    refine sp_best11 hS.1 b2 b7 b8 (fun i' hi' e => ?_) (fun hno => absurd rfl (hno i hi))
    have := (nI_eq (by omega) (by omega)).mp e
    rw [this]
    exact ⟨rfl, hR⟩
  · obtain ⟨L, W, E, x, x1, x2, hS, hp, hback⟩ := RYc_open hr
    unfold wp_X12_best
    refine sp_look hS fun w F b1 b2 b3 b4 b5 b6 b7 b8 => ?_
    have hR := (h.mm hY (vM := w) (fun i _ => by rw [b1 0 (by decide) (by decide)]) (fun c _ c5 c13 => b1 c c5 c13)).mono hY
    exact sp_best11 hS.1 b2 b7 b8 (fun i' hi' e => absurd e (hno i' hi')) (fun _ => ⟨rfl, hR⟩)
end
