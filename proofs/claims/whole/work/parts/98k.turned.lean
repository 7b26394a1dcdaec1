/-! turned: the yard turned about has the same least cost. -/
theorem okC_flip {n : Nat} {C : Nat → Nat → Bool} {L W : Nat → Nat} (h : okC n C L W) : okC n (fun a b => C b a) W L := by
  obtain ⟨h1, h2, h3, h4, h5⟩ := h
  exact ⟨h1, fun a b q => ⟨(h2 b a q).2, (h2 b a q).1⟩, fun a b c q1 q2 => h3 c b a q2 q1, h4, fun j hj => ⟨(h5 j hj).2, (h5 j hj).1⟩⟩
def cp (n s : Nat) : Nat := (2 ^ n - 1) ^^^ s
section
variable {n : Nat} {C : Nat → Nat → Bool} {L W : Nat → Nat} {s j : Nat}
theorem tb_cp {i : Nat} (hi : i < n) : (cp n s).testBit i = !s.testBit i := by
  unfold cp
  rw [Nat.testBit_xor, tb_full, decide_eq_true hi]
  simp
theorem cp_lt (hs : s < 2 ^ n) : cp n s < 2 ^ n := Nat.xor_lt_two_pow (Nat.sub_lt (Nat.two_pow_pos n) (by decide)) hs
theorem bits_eq {s t : Nat} (hs : s < 2 ^ n) (ht : t < 2 ^ n) (h : ∀ i, i < n → s.testBit i = t.testBit i) : s = t := Nat.eq_of_testBit_eq fun i => by
  by_cases q : i < n
  · exact h i q
  · rw [tb_big hs (by omega), tb_big ht (by omega)]
theorem dl_le (s j : Nat) : dl s j ≤ s := Nat.and_le_left
theorem cp_ins (hs : s < 2 ^ n) (hj : j < n) : cp n (ins s j) = dl (cp n s) j := by
  refine bits_eq (cp_lt (ins_lt hs hj)) (Nat.lt_of_le_of_lt (dl_le _ _) (cp_lt hs)) fun i hi => ?_
  rw [tb_cp hi, tb_ins, tb_dl, tb_cp hi]
  by_cases e : i = j
  · simp [e]
  · simp [e]
theorem cp_0 : cp n 0 = 2 ^ n - 1 := Nat.xor_zero _
theorem cp_full : cp n (2 ^ n - 1) = 0 := Nat.xor_self _
theorem sm_zero (f : Nat → Nat) : ∀ k, sm f 0 k = 0
  | 0 => rfl
  | k + 1 => by
    simp only [sm]
    rw [sm_zero f k, Nat.zero_testBit]
    rfl
theorem turn_key {F : Nat → Nat} (hC : okC n C L W) (hS : FS n (fun a b => C b a) W L (2 ^ n) 0 F) : ∀ m s, cp n s ≤ m → s < 2 ^ n → Bg n C s 0 → F (cp n s) ≠ 2000000000 ∧ bT n C L W s = sm L s 12 * sm W (cp n s) 12 + F (cp n s) := by
  have hn := hC.1
  have hC' := okC_flip hC
  have base : F (cp n (2 ^ n - 1)) ≠ 2000000000 ∧ bT n C L W (2 ^ n - 1) = sm L (2 ^ n - 1) 12 * sm W (cp n (2 ^ n - 1)) 12 + F (cp n (2 ^ n - 1)) := by
    rw [cp_full, hS.1, sm_zero, tbl_full.1]
    exact ⟨by decide, by omega⟩
  intro m
  induction m with
  | zero =>
    intro s hm hs hb
    have e : s = 2 ^ n - 1 := eq_full hs fun j hj => by
      have h1 : (cp n s).testBit j = false := by rw [show cp n s = 0 by omega, Nat.zero_testBit]
      rw [tb_cp hj] at h1
      simpa using h1
    rw [e]
    exact base
  | succ m ih =>
    intro s hm hs hb
    by_cases e : s = 2 ^ n - 1
    · rw [e]
      exact base
    obtain ⟨u, hu⟩ : ∃ u, u = cp n s := ⟨_, rfl⟩
    have hul : u < 2 ^ n := by rw [hu]; exact cp_lt hs
    -- the steps of both
    have arith : ∀ j, j < n → s.testBit j = false → (u.testBit j = true ∧ dl u j = cp n (ins s j) ∧ dl u j < u ∧ sm W u 12 = sm W (dl u j) 12 + W j ∧ sm L (ins s j) 12 = sm L s 12 + L j) := fun j hj hsj => by
      have h1 : u.testBit j = true := by rw [hu, tb_cp hj, hsj]; rfl
      refine ⟨h1, by rw [cp_ins hs hj, hu], dl_lt h1, ?_, sm_ins hsj (by omega)⟩
      have := sm_ins (f := W) (s := dl u j) (j := j) (k := 12) (by rw [tb_dl]; simp) (by omega)
      rw [dl_ins h1] at this
      exact this
    obtain ⟨j, hj, hx, he⟩ := bT_ex hC hs hb e
    obtain ⟨a1, a2, a3, a4, a5⟩ := arith j hj hx.1
    obtain ⟨f1, f2⟩ := ih (ins s j) (by rw [← a2]; omega) (ins_lt hs hj) (Bg_ins hb hx)
    rw [← a2] at f1 f2
    have dlu : dl u j < 2 ^ n := by omega
    have nx : Nx n (fun a b => C b a) (dl u j) j := by
      refine ⟨by rw [tb_dl]; simp, fun a ha hc => ?_⟩
      have hc' : C j a = true := hc
      have ne : a ≠ j := fun z => by
        rw [z, hC.2.2.2.1 j] at hc'
        cases hc'
      have hsa : s.testBit a = false := by
        cases q : s.testBit a
        · rfl
        · rcases hb a ha q j hj hc' with z | z
          · rw [hx.1] at z
            cases z
          · rw [Nat.zero_testBit] at z
            cases z
      rw [tb_dl, hu, tb_cp ha, hsa]
      simp [ne]
    have p2 := hS.2.2.1 (dl u j) j dlu hj nx f1 (Or.inl dlu)
    rw [dl_ins a1] at p2
    have Fu : F u ≠ 2000000000 := by
      have d2 := (hS.2.1 (dl u j) dlu).resolve_left f1
      have d3 := W1200 hC' dlu
      have d4 := stp_le hC' dlu hj nx.1
      have d5 := Nat.mul_le_mul_right 1200 (hC'.2.2.2.2 j hj).2
      omega
    have up : sm L s 12 * sm W u 12 + F u ≤ bT n C L W s := by
      unfold stp at p2 he
      rw [he, f2, a5, a4]
      simp only [Nat.mul_add, Nat.add_mul] at p2 ⊢
      rw [Nat.mul_comm (W j) (sm L s 12), Nat.mul_comm (W j) (L j)]
      omega
    have u0 : u ≠ 0 := by omega
    obtain ⟨t, x, t1, t2, t3, t4, t5, t6, t7⟩ := hS.2.2.2 u hul u0 Fu
    have ux : u.testBit x = true := by rw [t4, tb_ins]; simp
    have sx : s.testBit x = false := by
      rw [hu, tb_cp t2] at ux
      simpa using ux
    obtain ⟨b1, b2, b3, b4, b5⟩ := arith x t2 sx
    have dt : dl u x = t := by
      rw [t4]
      exact ins_dl t3.1
    have bt' := (hS.2.1 t t1).resolve_left t6
    have nx2 : Nx n C s x := by
      refine ⟨sx, fun a ha hc => ?_⟩
      cases q : s.testBit a
      · exfalso
        have ne : a ≠ x := fun z => by
          rw [z, hC.2.2.2.1 x] at hc
          cases hc
        have ta : t.testBit a = true := by
          rw [← dt, tb_dl, hu, tb_cp ha, q]
          simp [ne]
        rcases bt'.2 a ha ta x t2 hc with z | z
        · rw [t3.1] at z
          cases z
        · rw [Nat.zero_testBit] at z
          cases z
      · rfl
    obtain ⟨g1, g2⟩ := ih (ins s x) (by rw [← b2]; omega) (ins_lt hs t2) (Bg_ins hb nx2)
    rw [← b2, dt] at g1 g2
    rw [dt] at b4
    have mn := bT_min hC hs hb t2 nx2
    have lo : bT n C L W s ≤ sm L s 12 * sm W u 12 + F u := by
      unfold stp at t7 mn
      rw [g2, b5] at mn
      rw [t7, b4]
      simp only [Nat.mul_add, Nat.add_mul] at mn ⊢
      rw [Nat.mul_comm (W x) (sm L s 12), Nat.mul_comm (W x) (L x)] at mn
      omega
    rw [← hu]
    exact ⟨Fu, by omega⟩
theorem turn_ok {F : Nat → Nat} (hC : okC n C L W) (hS : FS n (fun a b => C b a) W L (2 ^ n) 0 F) : F (2 ^ n - 1) = bT n C L W 0 := by
  have h := (turn_key hC hS _ 0 (Nat.le_refl _) (Nat.two_pow_pos n) Bg_0).2
  rw [cp_0, sm_zero] at h
  omega
end
section
variable {BK : BKt} {w uF : St} {n : Nat} {L W : Nat → Nat} {E : Nat → Nat → Bool} {Post : Int32 → St → Prop}
theorem sp_mTurned (hS : SH uF w n L W E) (h0 : (∃ j, j < n ∧ W j = 0) → Post (-1) w) (h1 : ∀ v : St, (∀ c, c ≠ 5 → c < 13 → v c = w c) → Post (nI (bT n (Pc E n) L W 0)) v) : wp_X12_turned w Post := by
  obtain ⟨s1, s2, s3, s4, s5, s6, s7, s8⟩ := id hS
  have hn := s1.1
  have hp := p12 hn
  have hp1 : 1 ≤ 2 ^ n := Nat.one_le_two_pow
  have Wl : ∀ j, j < n → W j < 2 ^ 31 := fun j hj => by have := (s1.2.2.2.2 j hj).2; omega
  unfold wp_X12_turned
  refine Exists.elim (loop_0 (fun m i (_ : Unit) => wl_X12_turned_2 Post m (nI i) w) (fun i _ => True) n () trivial ?_ ?_) (fun m hm => ⟨m, by rw [nI_0] at hm; exact hm⟩)
  · intro m _ _
    show wb_X12_turned_2 Post _ (nI n) w
    unfold wb_X12_turned_2
    rw [s3]
    refine ⟨fun _ => ?_, fun c => absurd (nI_le (Nat.le_refl n) (by omega)) c⟩
    unfold wp_X12_yard
    refine sp_closeMD hn s3 s6 s7 fun v1 a1 a2 => ?_
    refine sp_yard1 hn (by rw [a1 0 (by decide)]; exact s3) (by rw [a1 1 (by decide)]; exact s4) (by rw [a1 2 (by decide)]; exact s5) a2 fun v2 b1 b2 => ?_
    refine sp_layAll (okC_flip s1) b2 fun v3 F d1 d2 d3 d4 d5 d6 d7 => ?_
    have v30 : v3 0 0 = nI n := by rw [d1 0 (by decide) (by decide) (by decide) (by decide)]; exact b2.1
    refine sp_all hn v30 ⟨vp_in_nI (by omega) (by decide), ?_⟩
    rw [cln (i := 2 ^ n - 1) (by omega), d2 _ (by omega), turn_ok s1 d3]
    exact h1 v3 (fun c c5 c13 => by rw [d1 c (by omega) (by omega) (by omega) (by omega), b1 c (by omega) (by omega) (by omega), a1 c c5])
  · intro m i _ hi _ ih
    show wb_X12_turned_2 Post _ (nI i) w
    unfold wb_X12_turned_2
    rw [s3, cln (i := i) (by omega), s5 i hi, nI_1]
    refine ⟨fun c => absurd c (nle_nI hi (by omega)), fun _ => ⟨vp_in_nI (by omega) (by decide), fun _ => ih () trivial, fun c => h0 ⟨i, hi, ?_⟩⟩⟩
    exact (nI_eq (Wl i hi) (by omega)).mp (c.trans nI_0.symm)
theorem sp_mTurned0 (hS : SH uF w n L W E) (hz : ∃ j, j < n ∧ W j = 0) (h0 : Post (-1) w) : wp_X12_turned w Post := by
  obtain ⟨s1, s2, s3, s4, s5, s6, s7, s8⟩ := id hS
  have hn := s1.1
  have Wl : ∀ j, j < n → W j < 2 ^ 31 := fun j hj => by have := (s1.2.2.2.2 j hj).2; omega
  unfold wp_X12_turned
  refine Exists.elim (loop_0 (fun m i (_ : Unit) => wl_X12_turned_2 Post m (nI i) w) (fun i _ => ∀ j, j < i → W j ≠ 0) n () (fun j hj => absurd hj (Nat.not_lt_zero j)) ?_ ?_) (fun m hm => ⟨m, by rw [nI_0] at hm; exact hm⟩)
  · intro m _ hI
    obtain ⟨j, j1, j2⟩ := hz
    exact absurd j2 (hI j j1)
  · intro m i _ hi hI ih
    show wb_X12_turned_2 Post _ (nI i) w
    unfold wb_X12_turned_2
    rw [s3, cln (i := i) (by omega), s5 i hi, nI_1]
    refine ⟨fun c => absurd c (nle_nI hi (by omega)), fun _ => ⟨vp_in_nI (by omega) (by decide), fun c => ih () fun j hj => ?_, fun _ => h0⟩⟩
    by_cases e : j = i
    · rw [e]
      exact fun z => c (by rw [z]; rfl)
    · exact hI j (by omega)
theorem ok_turned (hB : BKok BK) : Ok_turned (Rel (RYc (PLd BK))) := by
  have hK := PLd_ok hB
  have hY := RYc_ok hK
  intro k uF uM hk h
  obtain ⟨h1, ⟨n, hr, hl⟩, ht, hs⟩ := id h
  obtain ⟨n1, n2, n3, n4⟩ := hY.1 _ _ _ _ hr
  obtain ⟨L, W, E, x, x1, x2, hS, hp, hback⟩ := RYc_open hr
  obtain ⟨s1, s2, s3, s4, s5, s6, s7, s8⟩ := id hS
  have Wl : ∀ j, j < n → W j < 2 ^ 31 := fun j hj => by have := (s1.2.2.2.2 j hj).2; omega
  unfold wp_X11_turned
  refine Exists.elim (loop_0 (fun m i (_ : Unit) => wl_X11_turned_2 (fun r uF2 => wp_X12_turned uM (fun r2 uM2 => r = r2 ∧ Rel (RYc (PLd BK)) (k + 1) uF2 uM2)) m (nI i) uF) (fun i _ => ∀ j, j < i → W j ≠ 0) n () (fun j hj => absurd hj (Nat.not_lt_zero j)) ?_ ?_) (fun m hm => ⟨m, by rw [nI_0] at hm; exact hm⟩)
  · intro m _ hI
    show wb_X11_turned_2 _ _ (nI n) uF
    unfold wb_X11_turned_2
    simp only [wp_X10_jobs, n2]
    refine ⟨fun _ => ?_, fun c => absurd (nI_le (Nat.le_refl n) (by omega)) c⟩
    unfold wp_X7_leastCost
    refine sp_fo hB hk hr fun v L' W' E' hS' hy fr hO _ _ _ => ⟨by unfold vp_in; decide, ?_⟩
    rw [tn_0, hO.1]
    refine sp_mTurned hS' (fun z => ?_) (fun w b1 => ⟨rfl, ?_⟩)
    · obtain ⟨j, j1, j2⟩ := z
      have e1 := hS'.2.2.2.2.1 j j1
      rw [s5 j j1, j2] at e1
      exact absurd ((nI_eq (Wl j j1) (by omega)).mp e1) (hI j j1)
    · exact ((Rel_plan h hl hy fr).mm hY (fun i _ => by rw [b1 0 (by decide) (by decide)]) (fun c _ c5 c13 => b1 c c5 c13)).mono hY
  · intro m i _ hi hI ih
    show wb_X11_turned_2 _ _ (nI i) uF
    unfold wb_X11_turned_2
    simp only [wp_X10_jobs, n2]
    refine ⟨fun c => absurd c (nle_nI hi (by omega)), fun _ => ?_⟩
    unfold wp_X10_measure
    rw [tn_1, cln (i := i) (by omega), nI_1]
    refine ⟨by unfold vp_in; decide, vp_in_nI (by omega) (by decide), ?_⟩
    have e4 : uF (3 + 1) i = nI (W i) := s2.2.2.1 i hi
    rw [e4]
    refine ⟨fun c => ih () fun j hj => ?_, fun c => ?_⟩
    · by_cases e : j = i
      · rw [e]
        exact fun z => c (by rw [z]; rfl)
      · exact hI j (by omega)
    · exact sp_mTurned0 hS ⟨i, hi, (nI_eq (Wl i hi) (by omega)).mp (c.trans nI_0.symm)⟩ ⟨rfl, h.mono hY⟩
end
