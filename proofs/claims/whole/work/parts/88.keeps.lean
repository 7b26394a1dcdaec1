section
variable {RY : Nat → Nat → St → St → Prop}
/-- the relation does not go by what the reference works out anew each time -/
theorem Rel.mm (hY : RYok RY) {k : Nat} {uF uM vM : St} (h : Rel RY k uF uM) (g0 : ∀ i, i = 0 ∨ i = 7 ∨ i = 8 ∨ i = 14 ∨ i = 16 → vM 0 i = uM 0 i) (g : ∀ c, c ≠ 0 → c ≠ 5 → c < 13 → vM c = uM c) : Rel RY k uF vM := by
  obtain ⟨h1, ⟨n, h2, z, h3, h4, h5, h6, h7⟩, ⟨t, t1, t2, t3, t4⟩, hs⟩ := h
  refine ⟨by rw [g0 14 (by omega)]; exact h1, ⟨n, hY.2.2 _ _ _ _ _ _ (fun _ _ _ _ _ _ _ => rfl) (g0 0 (by omega)) (g0 8 (by omega)) (fun c h0 h5 _ h9 => g c h0 h5 (by omega)) h2, z, h3, h4, by rw [g0 7 (by omega)]; exact h5, by rw [g 6 (by decide) (by decide) (by decide)]; exact h6, h7⟩, ⟨t, t1, t2, by rw [g0 16 (by omega)]; exact t3, by rw [g 12 (by decide) (by decide) (by decide)]; exact t4⟩, ?_⟩
  intro s hs'
  rw [g 9 (by decide) (by decide) (by decide), g 10 (by decide) (by decide) (by decide), g 11 (by decide) (by decide) (by decide)]
  exact hs s hs'
theorem bb_full {row : Nat → Int32} {n z : Nat} (hn : n ≤ 12) (hz : z ≤ 12) (h : ∀ i, i < z → ∃ o, o < n ∧ row i = nI o) (hi : ∀ i j, i < z → j < z → row i = row j → i = j) : nI (2 ^ n - 1) &&& (bbf row z ^^^ (-1 : Int32)) = 0 ↔ z = n := by
  have hb := bbf_bt hn z h
  have key : nI (2 ^ n - 1) &&& (bbf row z ^^^ (-1 : Int32)) = 0 ↔ ∀ j, j < n → ∃ i, i < z ∧ row i = nI j := by
    rw [b_zero]
    constructor
    · intro q j hj
      have := q j (by omega)
      rw [b_and, bt_nI (by omega), bt_not (by omega), Nat.testBit_two_pow_sub_one, decide_eq_true hj, Bool.true_and] at this
      exact (hb j (by omega)).mp (by simpa using this)
    · intro q i hi
      rw [b_and, bt_nI hi, bt_not hi, Nat.testBit_two_pow_sub_one]
      by_cases c : i < n
      · rw [(hb i hi).mpr (q i c)]
        simp
      · rw [decide_eq_false c]
        rfl
  rw [key]
  have le : z ≤ n := php n z (fun i => (row i).toNatClampNeg) (fun i hi => by obtain ⟨o, ho, e⟩ := h i hi; show (row i).toNatClampNeg < n; rw [e, cln (by omega)]; exact ho) (fun i j h1 h2 e => hi i j h1 h2 (by
    have e : (row i).toNatClampNeg = (row j).toNatClampNeg := e
    obtain ⟨o, ho, e1⟩ := h i h1
    obtain ⟨o', ho', e2⟩ := h j h2
    rw [e1, e2, cln (by omega), cln (by omega)] at e
    rw [e1, e2, e]))
  constructor
  · intro q
    have := php z n (fun j => if hj : j < n then Classical.choose (q j hj) else 0) (fun j hj => by
      show (if hj : j < n then Classical.choose (q j hj) else 0) < z
      rw [dif_pos hj]
      exact (Classical.choose_spec (q j hj)).1) (fun i j h1 h2 e => by
      have e : (if hj : i < n then Classical.choose (q i hj) else 0) = (if hj : j < n then Classical.choose (q j hj) else 0) := e
      rw [dif_pos h1, dif_pos h2] at e
      have e1 := (Classical.choose_spec (q i h1)).2
      have e2 := (Classical.choose_spec (q j h2)).2
      rw [e] at e1
      exact (nI_eq (by omega) (by omega)).mp (by rw [← e1, e2]))
    omega
  · intro e j hj
    refine Classical.byContradiction fun q => ?_
    have hne : ∀ i, i < z → row i ≠ nI j := fun i hi e => q ⟨i, hi, e⟩
    have := php n (z + 1) (fun i => if i = z then j else (row i).toNatClampNeg) (fun i hi => by
      show (if i = z then j else (row i).toNatClampNeg) < n
      by_cases c : i = z
      · rw [if_pos c]; exact hj
      · rw [if_neg c]
        obtain ⟨o, ho, e1⟩ := h i (by omega)
        rw [e1, cln (by omega)]
        exact ho) (fun i i' h1 h2 e' => by
      have e' : (if i = z then j else (row i).toNatClampNeg) = (if i' = z then j else (row i').toNatClampNeg) := e'
      by_cases c : i = z
      · by_cases d : i' = z
        · omega
        · rw [if_pos c, if_neg d] at e'
          obtain ⟨o, ho, e1⟩ := h i' (by omega)
          rw [e1, cln (by omega)] at e'
          exact absurd (by rw [e1, e']) (hne i' (by omega))
      · by_cases d : i' = z
        · rw [if_neg c, if_pos d] at e'
          obtain ⟨o, ho, e1⟩ := h i (by omega)
          rw [e1, cln (by omega)] at e'
          exact absurd (by rw [e1, e']) (hne i (by omega))
        · rw [if_neg c, if_neg d] at e'
          obtain ⟨o, ho, e1⟩ := h i (by omega)
          obtain ⟨o', ho', e2⟩ := h i' (by omega)
          rw [e1, e2, cln (by omega), cln (by omega)] at e'
          exact hi i i' (by omega) (by omega) (by rw [e1, e2, e']))
    omega
/-- the reference's lacking, under the relation -/
theorem sp_mLacking (hY : RYok RY) (hV : View RY) {k n z : Nat} {uF uM : St} {Post : Int32 → St → Prop} (h : Rel RY k uF uM) (hr : RY k n uF uM) (hz : z ≤ 12) (h5 : uM 0 7 = nI z) (h6 : ∀ i, i < z → ∃ o, o < n ∧ uF 19 i = nI o ∧ uM 6 i = nI o)
    (hp : ∀ q v, flf (lkf (uF 7) (uF 19)) z 0 = q → Rel RY (k + 1) uF v → v 6 = uM 6 → v 0 17 = (if q = -1 then nI (2 ^ n - 1) &&& (bbf (uF 19) z ^^^ (-1 : Int32)) else lkf (uF 7) (uF 19) q.toNatClampNeg) → Post q v) : wp_X12_lacking uM Post := by
  obtain ⟨n1, n2, n3, n4⟩ := hY.1 _ _ _ _ hr
  unfold wp_X12_lacking
  refine sp_cl hY hV hr fun v e1 e2 => ?_
  have e0 := e1 0 (by decide)
  refine sp_lackLoop (ah := uF 7) (row := uF 19) hz n1 (by rw [e0]; exact h5) (by rw [e0]; exact n3) (fun i hi => ?_) e2 fun q hq => hp q _ hq ?_ ?_ ?_
  · obtain ⟨o, ho, p1, p2⟩ := h6 i hi
    rw [e1 6 (by decide), p2, p1]
    exact ⟨rfl, o, ho, rfl⟩
  · refine (h.mm hY (fun i hi => ?_) (fun c h0 hc5 _ => ?_)).mono hY
    · rw [su_ne _ _ (by omega), e0]
    · rw [su_n _ _ _ h0, e1 c hc5]
  · rw [su_n _ _ _ (by decide), e1 6 (by decide)]
  · rw [su_at]
theorem sp_isKept {u : St} {n z : Nat} {Post : Int32 → St → Prop} (hn : n ≤ 12) (hz : z ≤ 12) (h0 : u 18 1 = nI z) (h1 : u 1 7 = nI n) (hv : ∀ i, i < z → vp_in (u 19 i) 12) (h : Post (if z = n ∧ flf (lkf (u 7) (u 19)) z 0 = -1 then 1 else 0) u) : wp_X6_isKept u Post := by
  unfold wp_X6_isKept wp_X10_jobs
  rw [h0, h1]
  have e : nI z = nI n ↔ z = n := nI_eq (by omega) (by omega)
  refine ⟨fun c => ?_, fun c => sp_firstLacking hz h0 hv ⟨fun d => ?_, fun d => ?_⟩⟩
  · rw [if_neg (fun q => c (e.mpr q.1))] at h
    exact h
  · rw [if_neg (fun q => d q.2)] at h
    exact h
  · rw [if_pos ⟨e.mp c, d⟩] at h
    exact h
theorem ok_keeps (hY : RYok RY) (hV : View RY) : Ok_keeps (Rel RY) := by
  intro k uF uM hk h
  obtain ⟨h1, ⟨n, h2, z, h3, h4, h5, h6, h7⟩, ht, hs⟩ := id h
  obtain ⟨n1, n2, n3, n4⟩ := hY.1 _ _ _ _ h2
  have ho : ∀ i, i < z → ∃ o, o < n ∧ uF 19 i = nI o := fun i hi => by obtain ⟨o, ho, e1, e2⟩ := h6 i hi; exact ⟨o, ho, e1⟩
  have vi : ∀ i, i < z → vp_in (uF 19 i) 12 := fun i hi => by
    obtain ⟨o, ho, e1, e2⟩ := h6 i hi
    rw [e1]
    exact vp_in_nI (by omega) (by decide)
  have full := bb_full n1 h3 ho h7
  unfold wp_X11_keeps wp_X11_asNumber wp_X12_keeps
  refine sp_isKept n1 h3 h4 n2 vi ?_
  have M : ∀ r : Int32, r = (if z = n ∧ flf (lkf (uF 7) (uF 19)) z 0 = -1 then 1 else 0) → wp_X12_lacking uM (fun r1 u1 => ((¬ r1 = (-1 : Int32)) → (r = 0 ∧ Rel RY (k + 1) uF u1)) ∧ ((r1 = (-1 : Int32)) → (((¬ (u1 0 17) = 0) → (r = 0 ∧ Rel RY (k + 1) uF u1)) ∧ (((u1 0 17) = 0) → (r = 1 ∧ Rel RY (k + 1) uF u1))))) := by
    intro r hr
    refine sp_mLacking hY hV h h2 h3 h5 h6 fun q v hq hR _ h17 => ?_
    rw [hq] at hr
    refine ⟨fun c => ⟨?_, hR⟩, fun c => ?_⟩
    · rw [hr, if_neg (fun q => c q.2)]
    · rw [h17, if_pos c, full]
      refine ⟨fun d => ⟨?_, hR⟩, fun d => ⟨?_, hR⟩⟩
      · rw [hr, if_neg (fun q => d q.1)]
      · rw [hr, if_pos ⟨d, c⟩]
  by_cases c : z = n ∧ flf (lkf (uF 7) (uF 19)) z 0 = -1
  · rw [if_pos c] at M ⊢
    exact ⟨fun q => absurd q (by decide), fun _ => M 1 rfl⟩
  · rw [if_neg c] at M ⊢
    exact ⟨fun _ => M 0 rfl, fun q => absurd rfl q⟩
theorem lt4096 {n : Nat} (hn : n ≤ 12) (x : Int32) : ∃ p, p < 4096 ∧ nI (2 ^ n - 1) &&& x = nI p := by
  refine st_nI fun i h1 h2 => ?_
  rw [b_and, bt_nI h2, Nat.testBit_two_pow_sub_one, decide_eq_false (by omega), Bool.false_and]
set_option maxHeartbeats 1000000 in
theorem ok_why (hY : RYok RY) (hV : View RY) : Ok_why (Rel RY) := by
  intro k a uF uM hk h
  obtain ⟨h1, ⟨n, h2, z, h3, h4, h5, h6, h7⟩, ht, hs⟩ := id h
  obtain ⟨n1, n2, n3, n4⟩ := hY.1 _ _ _ _ h2
  obtain ⟨L, Wt, T, E, hm, hD, hF6, hM4, hin, hac⟩ := hV _ _ _ _ h2
  have ho : ∀ i, i < z → ∃ o, o < n ∧ uF 19 i = nI o := fun i hi => by obtain ⟨o, ho, e1, e2⟩ := h6 i hi; exact ⟨o, ho, e1⟩
  have vi : ∀ i, i < z → vp_in (uF 19 i) 12 := fun i hi => by
    obtain ⟨o, ho, e1, e2⟩ := h6 i hi
    rw [e1]
    exact vp_in_nI (by omega) (by decide)
  have full := bb_full n1 h3 ho h7
  have bad : (∀ j, j < 2 → a ≠ nI j) → wp_X12_why a uM (fun r2 uM2 => -1 = r2 ∧ Rel RY (k + 1) uF uM2) := by
    intro q
    unfold wp_X12_why
    refine sp_mLacking hY hV h h2 h3 h5 h6 fun _ v _ hR _ _ => ?_
    refine sp_in0 (m := 2) (by decide) (by decide) (fun i hi e => absurd e (q i hi)) (fun _ => ⟨fun _ => ⟨rfl, hR⟩, fun c => absurd rfl c⟩)
  unfold wp_X11_why
  refine ⟨fun c => bad fun i hi e => absurd c (by rw [e]; exact nI_pos (by omega)), fun c => ⟨fun d => bad fun i hi e => absurd d (by rw [e]; exact (show ¬ nI 1 < nI i from nI_nlt (by omega) (by decide))), fun d => ?_⟩⟩
  obtain ⟨j, hj, rfl⟩ := nI_of2 (M := 1) (n := 1) (by decide) c (Int32.not_lt.mp d)
  refine sp_isKept n1 h3 h4 n2 vi ?_
  have mI : ∀ v (Q : Int32 → St → Prop), Q 1 v → wp_X12_in (nI j) 0 1 v Q := fun v Q q => sp_in0 (m := 2) (by decide) (by decide) (fun _ _ _ => q) (fun hno => absurd rfl (hno j (by omega)))
  by_cases cK : z = n ∧ flf (lkf (uF 7) (uF 19)) z 0 = -1
  · rw [if_pos cK]
    refine ⟨fun q => absurd q (by decide), fun _ => ?_⟩
    unfold wp_X12_why
    refine sp_mLacking hY hV h h2 h3 h5 h6 fun q v hq hR _ h17 => mI _ _ ⟨fun c => absurd c (by decide), fun _ => ⟨fun c => absurd (by rw [← hq]; exact cK.2) c, fun c => ?_⟩⟩
    rw [h17, if_pos c, full]
    exact ⟨fun d => absurd cK.1 d, fun _ => ⟨rfl, hR⟩⟩
  · rw [if_neg cK]
    refine ⟨fun _ => ?_, fun q => absurd rfl q⟩
    refine sp_firstLacking h3 h4 vi ?_
    have mW : ∀ Q : Int32 → St → Prop, (∀ q v, flf (lkf (uF 7) (uF 19)) z 0 = q → Rel RY (k + 1) uF v → v 6 = uM 6 → v 0 17 = (if q = -1 then nI (2 ^ n - 1) &&& (bbf (uF 19) z ^^^ (-1 : Int32)) else lkf (uF 7) (uF 19) q.toNatClampNeg) → wb_X12_why_28 Q (nI j) q v) → wp_X12_why (nI j) uM Q := by
      intro Q hQ
      unfold wp_X12_why
      refine sp_mLacking hY hV h h2 h3 h5 h6 fun q v hq hR hv6 h17 => mI _ _ ⟨fun c => absurd c (by decide), fun _ => ⟨fun c => hQ q v hq hR hv6 h17, fun c => ⟨fun d => hQ q v hq hR hv6 h17, fun d => ?_⟩⟩⟩
      rw [h17, if_pos c, full] at d
      exact absurd ⟨d, by rw [hq]; exact c⟩ cK
    have e1 : nI j = 1 ↔ j = 1 := nI_eq (b := 1) (by omega) (by decide)
    have e0 : nI j = 0 ↔ j = 0 := nI_eq (b := 0) (by omega) (by decide)
    have fl := flf_cases (f := lkf (uF 7) (uF 19)) z 0
    generalize hq : flf (lkf (uF 7) (uF 19)) z 0 = q at fl cK mW ⊢
    refine ⟨fun c0 => ⟨fun c1 => ?_, fun c1 => ?_⟩, fun c0 => ⟨fun c1 => ?_, fun c1 => ?_⟩⟩
    · rcases fl with fl | ⟨p, p1, p2, p3, p4⟩
      · exact absurd fl c1
      · have hj1 : j = 1 := by
          have : j ≠ 0 := fun e => c0 (e0.mpr e)
          omega
        rw [p3]
        refine sp_lackingAt (by omega) (vi p (by omega)) (sp_ntz ?_)
        obtain ⟨o, ho2, eo⟩ := ho p (by omega)
        obtain ⟨y, hy, ey⟩ : ∃ y, y < 4096 ∧ lkf (uF 7) (uF 19) p = nI y := by
          refine st_nI fun i h1 h2 => ?_
          unfold lkf
          rw [eo, cln (by omega), b_and, hD.2.1 o ho2 i h2, decide_eq_false (by omega), Bool.false_and, Bool.false_and]
        have y0 : y ≠ 0 := fun e => p4 (by rw [ey, e]; rfl)
        rw [ey, nzF_ok y0 hy]
        refine mW _ fun q' v hq' hR hv6 h17 => ?_
        subst hq'
        unfold wb_X12_why_28
        rw [h17, if_neg c1, p3, cln (by omega), ey]
        exact ⟨fun c => absurd (e1.mpr hj1) c, fun _ => sp_lowest y0 hy ⟨rfl, hR⟩⟩
    · have hj1 : j = 1 := by
        have : j ≠ 0 := fun e => c0 (e0.mpr e)
        omega
      refine sp_everyJob n1 n2 ?_
      unfold wp_X6_size
      rw [h4]
      refine sp_bitsBefore h3 (sp_ntz ?_)
      obtain ⟨y, hy, ey⟩ := lt4096 n1 (bbf (uF 19) z ^^^ (-1 : Int32))
      have y0 : y ≠ 0 := fun e => cK ⟨full.mp (by rw [ey, e]; rfl), c1⟩
      rw [ey, nzF_ok y0 hy]
      refine mW _ fun q' v hq' hR hv6 h17 => ?_
      subst hq'
      unfold wb_X12_why_28
      rw [h17, if_pos c1, ey]
      exact ⟨fun c => absurd (e1.mpr hj1) c, fun _ => sp_lowest y0 hy ⟨rfl, hR⟩⟩
    · rcases fl with fl | ⟨p, p1, p2, p3, p4⟩
      · exact absurd fl c1
      · unfold wp_X6_jobAt
        rw [p3, cln (by omega)]
        refine ⟨vp_in_nI (by omega) (by decide), mW _ fun q' v hq' hR hv6 h17 => ?_⟩
        subst hq'
        unfold wb_X12_why_28
        rw [hv6, p3, cln (by omega)]
        obtain ⟨o, ho2, eo1, eo2⟩ := h6 p (by omega)
        refine ⟨fun _ => ⟨fun _ => ⟨vp_in_nI (by omega) (by decide), by rw [eo1, eo2], hR⟩, fun c => absurd c (nI_ne_m1 (by omega))⟩, fun c => ?_⟩
        rw [c0] at c
        exact absurd c (by decide)
    · refine mW _ fun q' v hq' hR hv6 h17 => ?_
      subst hq'
      unfold wb_X12_why_28
      refine ⟨fun _ => ⟨fun c => absurd c1 c, fun _ => ⟨rfl, hR⟩⟩, fun c => ?_⟩
      rw [c0] at c
      exact absurd c (by decide)
end
