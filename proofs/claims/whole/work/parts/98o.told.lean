/-! told. -/
section
variable {k n : Nat} {uF uM w : St} {j : Nat} {Post : Int32 → St → Prop}
theorem sp_behindOf {C : Nat → Nat → Bool} (hn : n ≤ 12) (h0 : w 0 0 = nI n) (hM : MD w n C) (hj : j < n) (h : Post (nI (cb (C j) n)) w) : wp_X12_behindOf (nI j) w Post := by
  unfold wp_X12_behindOf
  refine Exists.elim (loop_0 (fun m i (x : Int32) => wl_X12_behindOf_4 Post m (nI j) x (nI i) w) (fun i x => x = nI (cb (C j) i)) n 0 rfl ?_ ?_) (fun m hm => ⟨m, by rw [nI_0] at hm; exact hm⟩)
  · intro m x hx
    show wb_X12_behindOf_4 Post _ (nI j) x (nI n) w
    unfold wb_X12_behindOf_4
    rw [h0, hx]
    exact ⟨fun _ => h, fun c => absurd (nI_le (Nat.le_refl n) (by omega)) c⟩
  · intro m i x hi hx ih
    show wb_X12_behindOf_4 Post _ (nI j) x (nI i) w
    unfold wb_X12_behindOf_4
    rw [h0, cln (i := i) (by omega)]
    refine ⟨fun c => absurd c (nle_nI hi (by omega)), fun _ => ⟨vp_in_nI (by omega) (by decide), sp_has (by omega) ?_⟩⟩
    rw [hM i hi j (by omega), decide_eq_true hj, Bool.true_and, hx]
    by_cases q : C j i = true
    · rw [if_pos q]
      refine ⟨fun c => absurd c (by decide), fun _ => ?_⟩
      rw [nI_1, nI_1]
      refine ih _ ?_
      simp only [cb, q, Bool.toNat_true]
    · rw [if_neg q]
      refine ⟨fun _ => ?_, fun c => absurd rfl c⟩
      rw [nI_1, Int32.add_zero]
      refine ih _ ?_
      rw [Bool.not_eq_true] at q
      simp only [cb, q, Bool.toNat_false, Nat.add_zero]
theorem sp_blockOfL {m : Nat} {B : Nat → Nat} (hm : m ≤ 12) (hj : j < 32) (h13 : ∀ i, i < m → w 13 i = nI (B i)) (h1 : ∀ i, i < m → (B i).testBit j = true → (∀ x, x < i → (B x).testBit j = false) → Post (nI i) w) (h0 : (∀ i, i < m → (B i).testBit j = false) → Post (-1) w) : ∃ f, wl_X7_blockOf_9 Post f (nI j) (nI m) 0 w := by
  refine Exists.elim (loop_0 (fun f i (_ : Unit) => wl_X7_blockOf_9 Post f (nI j) (nI m) (nI i) w) (fun i _ => ∀ x, x < i → (B x).testBit j = false) m () (fun x hx => absurd hx (Nat.not_lt_zero x)) ?_ ?_) (fun m hm => ⟨m, by rw [nI_0] at hm; exact hm⟩)
  · intro f _ hI
    show wb_X7_blockOf_9 Post _ (nI j) (nI m) (nI m) w
    unfold wb_X7_blockOf_9
    exact ⟨fun _ => h0 hI, fun c => absurd (nI_le (Nat.le_refl m) (by omega)) c⟩
  · intro f i _ hi hI ih
    show wb_X7_blockOf_9 Post _ (nI j) (nI m) (nI i) w
    unfold wb_X7_blockOf_9
    rw [cln (i := i) (by omega), h13 i hi, nI_1]
    refine ⟨fun c => absurd c (nle_nI hi (by omega)), fun _ => ⟨vp_in_nI (by omega) (by decide), sp_hasBit hj ?_⟩⟩
    rw [bt_nI hj]
    by_cases q : (B i).testBit j = true
    · rw [if_pos q]
      exact ⟨fun c => absurd c (by decide), fun _ => h1 i hi q hI⟩
    · rw [if_neg q]
      refine ⟨fun _ => ih () fun x hx => ?_, fun c => absurd rfl c⟩
      by_cases e : x = i
      · rw [e]
        simpa using q
      · exact hI x (by omega)
theorem sp_blockWithL {i : Nat} {B : Nat → Nat} (hi : i < 12) (hj : j < 32) (h20 : ∀ x, x ≤ i → w 20 x = nI (B x)) (hb : (B i).testBit j = true) (hno : ∀ x, x < i → (B x).testBit j = false) (h : Post (nI i) w) : ∃ f, wl_X12_blockWith_6 Post f (nI j) 0 w := by
  refine Exists.elim (loop_0 (fun f x (_ : Unit) => wl_X12_blockWith_6 Post f (nI j) (nI x) w) (fun _ _ => True) i () trivial ?_ ?_) (fun m hm => ⟨m, by rw [nI_0] at hm; exact hm⟩)
  · intro f _ _
    show wb_X12_blockWith_6 Post _ (nI j) (nI i) w
    unfold wb_X12_blockWith_6
    rw [cln (i := i) (by omega), h20 i (Nat.le_refl i)]
    refine ⟨vp_in_nI hi (by decide), sp_has hj ?_⟩
    rw [bt_nI hj, if_pos hb]
    exact ⟨fun _ => h, fun c => absurd c (by decide)⟩
  · intro f x _ hx _ ih
    show wb_X12_blockWith_6 Post _ (nI j) (nI x) w
    unfold wb_X12_blockWith_6
    rw [cln (i := x) (by omega), h20 x (by omega), nI_1]
    refine ⟨vp_in_nI (by omega) (by decide), sp_has hj ?_⟩
    rw [bt_nI hj, hno x hx]
    exact ⟨fun c => absurd rfl c, fun _ => ih () trivial⟩
theorem ok_told : Ok_told (Rel (RYc (PLd BKd))) := by
  have hK := PLd_ok BKd_ok
  have hY := RYc_ok hK
  have hV : View (RYc (PLd BKd)) := RYc_view
  intro k a1 a2 uF uM hk h
  obtain ⟨h1, ⟨n, hr, hl⟩, ht, hs⟩ := id h
  obtain ⟨n1, n2, n3, n4⟩ := hY.1 _ _ _ _ hr
  unfold wp_X11_told
  refine sp_hasJob n1 n2 (fun j hj e => ⟨fun _ => ?_, fun c => absurd c (by decide)⟩) (fun hno => ⟨fun c => absurd rfl c, fun _ => ?_⟩)
  · subst e
    have vj : vp_in (nI j) 12 := vp_in_nI (by omega) (by decide)
    have ej : Int32.toNatClampNeg (nI j) = j := cln (by omega)
    obtain ⟨L, W, E, x, x1, x2, hS, hp, hback⟩ := RYc_open hr
    obtain ⟨s1, s2, s3, s4, s5, s6, s7, s8⟩ := id hS
    have hD := s2.2.2.2
    have rv : ∀ v : St, (∀ c, c ≠ 5 → v c = uM c) → RYc (PLd BKd) k n uF v := fun v e => hY.2.2 _ _ _ _ _ _ (fun _ _ _ _ _ _ _ => rfl) (by rw [e 0 (by decide)]) (by rw [e 0 (by decide)]) (fun c _ h5 _ _ => e c h5) hr
    have Rv : ∀ v : St, (∀ c, c ≠ 5 → v c = uM c) → Rel (RYc (PLd BKd)) (k + 1) uF v := fun v e => (h.closed hY e).mono hY
    refine ⟨fun e => ?_, fun e => ?_, fun e => ?_, fun e => ?_, fun e => ?_, fun e => ?_, fun e => ?_, fun e => ?_, fun d0 d1 d2 d3 d4 d5 d6 d7 => ?_⟩
    · have e' : a2 = nI 0 := e
      unfold wp_X10_measure
      rw [ej, e', cln (i := 0) (by omega)]
      refine ⟨by unfold vp_in; decide, vj, ?_⟩
      have e := e'
      rw [← e']
      unfold wp_X12_told
      refine sp_isJob n1 n3 (fun _ _ _ => ⟨fun _ => ?_, fun c => absurd c (by decide)⟩) (fun hno => absurd rfl (hno j hj))
      refine sp_cl hY hV hr fun v e1 e2 => ?_
      refine ⟨fun _ => ?_, fun c => absurd (e.symm.trans c) (by decide), fun c => absurd (e.symm.trans c) (by decide), fun c => absurd (e.symm.trans c) (by decide), fun c => absurd (e.symm.trans c) (by decide), fun c => absurd (e.symm.trans c) (by decide), fun c => absurd (e.symm.trans c) (by decide), fun c => absurd (e.symm.trans c) (by decide), fun c0 _ _ _ _ _ _ _ => absurd e c0⟩
      refine ⟨vj, ?_, Rv v e1⟩
      rw [ej, e1 1 (by decide)]
      exact n4 0 (by decide) j hj
    · have e' : a2 = nI 1 := e
      unfold wp_X10_measure
      rw [ej, e', cln (i := 1) (by omega)]
      refine ⟨by unfold vp_in; decide, vj, ?_⟩
      have e := e'
      rw [← e']
      unfold wp_X12_told
      refine sp_isJob n1 n3 (fun _ _ _ => ⟨fun _ => ?_, fun c => absurd c (by decide)⟩) (fun hno => absurd rfl (hno j hj))
      refine sp_cl hY hV hr fun v e1 e2 => ?_
      refine ⟨fun c => absurd (e.symm.trans c) (by decide), fun _ => ?_, fun c => absurd (e.symm.trans c) (by decide), fun c => absurd (e.symm.trans c) (by decide), fun c => absurd (e.symm.trans c) (by decide), fun c => absurd (e.symm.trans c) (by decide), fun c => absurd (e.symm.trans c) (by decide), fun c => absurd (e.symm.trans c) (by decide), fun _ c1 _ _ _ _ _ _ => absurd e c1⟩
      refine ⟨vj, ?_, Rv v e1⟩
      rw [ej, e1 2 (by decide)]
      exact n4 1 (by decide) j hj
    · have e' : a2 = nI 2 := e
      unfold wp_X10_measure
      rw [ej, e', cln (i := 2) (by omega)]
      refine ⟨by unfold vp_in; decide, vj, ?_⟩
      have e := e'
      rw [← e']
      unfold wp_X12_told
      refine sp_isJob n1 n3 (fun _ _ _ => ⟨fun _ => ?_, fun c => absurd c (by decide)⟩) (fun hno => absurd rfl (hno j hj))
      refine sp_cl hY hV hr fun v e1 e2 => ?_
      refine ⟨fun c => absurd (e.symm.trans c) (by decide), fun c => absurd (e.symm.trans c) (by decide), fun _ => ?_, fun c => absurd (e.symm.trans c) (by decide), fun c => absurd (e.symm.trans c) (by decide), fun c => absurd (e.symm.trans c) (by decide), fun c => absurd (e.symm.trans c) (by decide), fun c => absurd (e.symm.trans c) (by decide), fun _ _ c2 _ _ _ _ _ => absurd e c2⟩
      refine ⟨vj, ?_, Rv v e1⟩
      rw [ej, e1 3 (by decide)]
      exact n4 2 (by decide) j hj
    · refine sp_kindOf (by omega) ?_
      unfold wp_X12_told
      refine sp_isJob n1 n3 (fun _ _ _ => ⟨fun _ => ?_, fun c => absurd c (by decide)⟩) (fun hno => absurd rfl (hno j hj))
      refine sp_cl hY hV hr fun v e1 e2 => ?_
      refine ⟨fun c => absurd (e.symm.trans c) (by decide), fun c => absurd (e.symm.trans c) (by decide), fun c => absurd (e.symm.trans c) (by decide), fun _ => ?_, fun c => absurd (e.symm.trans c) (by decide), fun c => absurd (e.symm.trans c) (by decide), fun c => absurd (e.symm.trans c) (by decide), fun c => absurd (e.symm.trans c) (by decide), fun _ _ _ c3 _ _ _ _ => absurd e c3⟩
      refine sp_mKindOf hY hV (rv v e1) hj fun v' e1' e2' => ⟨rfl, Rv v' (fun c hc => by rw [e1' c hc, e1 c hc])⟩
    · unfold wp_X10_aheadOf
      rw [ej]
      refine ⟨vj, sp_bitCount ?_⟩
      unfold wp_X12_told
      refine sp_isJob n1 n3 (fun _ _ _ => ⟨fun _ => ?_, fun c => absurd c (by decide)⟩) (fun hno => absurd rfl (hno j hj))
      refine sp_cl hY hV hr fun v e1 e2 => ?_
      refine ⟨fun c => absurd (e.symm.trans c) (by decide), fun c => absurd (e.symm.trans c) (by decide), fun c => absurd (e.symm.trans c) (by decide), fun c => absurd (e.symm.trans c) (by decide), fun _ => ?_, fun c => absurd (e.symm.trans c) (by decide), fun c => absurd (e.symm.trans c) (by decide), fun c => absurd (e.symm.trans c) (by decide), fun _ _ _ _ c4 _ _ _ => absurd e c4⟩
      refine ⟨vj, ?_⟩
      rw [ej, e2 j hj]
      refine sp_bits ⟨bcF_cb fun i h12 h32 => ?_, Rv v e1⟩
      rw [hD.2.1 j hj i h32, decide_eq_false (by omega), Bool.false_and]
    · unfold wp_X10_behind
      rw [ej]
      refine ⟨vj, sp_bitCount ?_⟩
      unfold wp_X12_told
      refine sp_isJob n1 n3 (fun _ _ _ => ⟨fun _ => ?_, fun c => absurd c (by decide)⟩) (fun hno => absurd rfl (hno j hj))
      refine sp_cl hY hV hr fun v e1 e2 => ?_
      refine ⟨fun c => absurd (e.symm.trans c) (by decide), fun c => absurd (e.symm.trans c) (by decide), fun c => absurd (e.symm.trans c) (by decide), fun c => absurd (e.symm.trans c) (by decide), fun c => absurd (e.symm.trans c) (by decide), fun _ => ?_, fun c => absurd (e.symm.trans c) (by decide), fun c => absurd (e.symm.trans c) (by decide), fun _ _ _ _ _ c5 _ _ => absurd e c5⟩
      have off : ∀ i, n ≤ i → Pc E n j i = false := fun i hi => by
        cases q : Pc E n j i
        · rfl
        · have := (Pc_in s7 n j i q).2
          omega
      have hMD : MD v n (Pc E n) := fun i hi a ha => by rw [e2 i hi]; exact hD.2.1 i hi a ha
      refine sp_behindOf n1 (by rw [e1 0 (by decide)]; exact n3) hMD hj ⟨?_, Rv v e1⟩
      rw [bcF_cb fun i h12 h32 => by rw [hD.1 j hj i h32]; exact off i (by omega)]
      have c1 : cb (bt (uF 8 j)) 12 = cb (Pc E n j) 12 := cb_congr 12 (fun i hi => hD.1 j hj i (by omega))
      have c2 := cb_cut (f := Pc E n j) off (12 - n)
      rw [show n + (12 - n) = 12 by omega] at c2
      rw [c1, c2]
    · obtain ⟨z, z1, z2, z3, z4, z5⟩ := hl
      refine sp_placeOf z1 z2 ?_
      unfold wp_X12_told
      refine sp_isJob n1 n3 (fun _ _ _ => ⟨fun _ => ?_, fun c => absurd c (by decide)⟩) (fun hno => absurd rfl (hno j hj))
      refine sp_cl hY hV hr fun v e1 e2 => ?_
      refine ⟨fun c => absurd (e.symm.trans c) (by decide), fun c => absurd (e.symm.trans c) (by decide), fun c => absurd (e.symm.trans c) (by decide), fun c => absurd (e.symm.trans c) (by decide), fun c => absurd (e.symm.trans c) (by decide), fun c => absurd (e.symm.trans c) (by decide), fun _ => ?_, fun c => absurd (e.symm.trans c) (by decide), fun _ _ _ _ _ _ c6 _ => absurd e c6⟩
      refine sp_mPlaceOf z1 (by rw [e1 0 (by decide)]; exact z3) ⟨plf_congr z 0 fun y _ hy => ?_, Rv v e1⟩
      obtain ⟨o, o1, o2, o3⟩ := z4 y (by omega)
      rw [e1 6 (by decide), o2, o3]
    · unfold wp_X7_blockOf
      refine sp_bl hk hr fun v0 L' W' E' m hS' hy fr m1 m2 m3 m5 => ?_
      have hn' := hS'.1.1
      have hRv := Rel_plan h hl hy fr
      have jn : (2 ^ n - 1).testBit j = true := by rw [tb_full, decide_eq_true hj]
      have jb : ∃ i, i < m ∧ (blk n (Pc E' n) L' W' (gs n (Pc E' n) L' W' i)).testBit j = true := gs_has m (by rw [m2]; exact jn)
      refine sp_blockOfL m1 (by omega) m5 (fun i hi hb hno => ?_) (fun hno => ?_)
      · unfold wp_X12_told
        refine sp_isJob n1 n3 (fun _ _ _ => ⟨fun _ => ?_, fun c => absurd c (by decide)⟩) (fun hno => absurd rfl (hno j hj))
        obtain ⟨t1, t2, t3, t4, t5, t6, t7, t8⟩ := id hS'
        refine sp_closeMD n1 n3 t6 t7 fun v e1 _ => ?_
        refine ⟨fun c => absurd (e.symm.trans c) (by decide), fun c => absurd (e.symm.trans c) (by decide), fun c => absurd (e.symm.trans c) (by decide), fun c => absurd (e.symm.trans c) (by decide), fun c => absurd (e.symm.trans c) (by decide), fun c => absurd (e.symm.trans c) (by decide), fun c => absurd (e.symm.trans c) (by decide), fun _ => ?_, fun _ _ _ _ _ _ _ c7 => absurd e c7⟩
        have hSv : SH v0 v n L' W' E' := ⟨t1, t2, by rw [e1 0 (by decide)]; exact t3, by rw [e1 1 (by decide)]; exact t4, by rw [e1 2 (by decide)]; exact t5, by rw [e1 4 (by decide)]; exact t6, t7, t8⟩
        unfold wp_X12_blockWith
        refine sp_mFindBlocks hSv fun z m' m1' m2' m3' z1 z2 z3 z4 => ?_
        have em : m' = m := gs_one m2' m3' m2 m3
        rw [em] at z4
        refine sp_blockWithL (i := i) (by omega) (by omega) (fun x hx => z4 x (by omega)) hb hno ⟨rfl, ?_⟩
        exact ((hRv.closed hY e1).mm hY (fun i hi => z2 i (by omega)) (fun c c0 c5 c13 => z1 c c0 c5 (by omega))).mono hY
      · obtain ⟨i, i1, i2⟩ := jb
        rw [hno i i1] at i2
        cases i2
    · unfold wp_X12_told
      refine sp_isJob n1 n3 (fun _ _ _ => ⟨fun _ => ?_, fun c => absurd c (by decide)⟩) (fun hno => absurd rfl (hno j hj))
      refine sp_cl hY hV hr fun v e1 e2 => ?_
      exact ⟨fun c => absurd c d0, fun c => absurd c d1, fun c => absurd c d2, fun c => absurd c d3, fun c => absurd c d4, fun c => absurd c d5, fun c => absurd c d6, fun c => absurd c d7, fun _ _ _ _ _ _ _ _ => ⟨rfl, Rv v e1⟩⟩
  · unfold wp_X12_told
    exact sp_isJob n1 n3 (fun j hj e => absurd e (hno j hj)) (fun _ => ⟨fun c => absurd rfl c, fun _ => ⟨rfl, h.mono hY⟩⟩)
end
