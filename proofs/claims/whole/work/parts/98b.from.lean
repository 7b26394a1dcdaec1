/-! fromSheet. -/
theorem l64_lt (x y : Int32) : x.toInt64 < y.toInt64 ↔ x < y := by rw [Int64.lt_iff_toInt_lt, Int32.toInt_toInt64, Int32.toInt_toInt64, ← Int32.lt_iff_toInt_lt]
theorem l64_le (x y : Int32) : x.toInt64 ≤ y.toInt64 ↔ x ≤ y := by rw [Int64.le_iff_toInt_le, Int32.toInt_toInt64, Int32.toInt_toInt64, ← Int32.le_iff_toInt_le]
theorem ltm1 {i z : Nat} (hi : i < 2 ^ 31) (hz : z ≤ 20) : nI i < nI z - (1 : Int32) ↔ i + 1 < z := by
  show nI i < nI z - nI 1 ↔ _
  rw [Int32.lt_iff_toInt_lt, nI_toInt hi, pk_sub_toInt (by omega) (by omega)]
  omega
theorem lem2 {i z : Nat} (hi : i < 2 ^ 31) (hz : z ≤ 20) : nI i ≤ nI z - (2 : Int32) ↔ i + 1 < z := by
  show nI i ≤ nI z - nI 2 ↔ _
  rw [Int32.le_iff_toInt_le, nI_toInt hi, pk_sub_toInt (by omega) (by omega)]
  omega
def m4F (x y : Int32) (w : St) (Q : Int32 → St → Prop) : Prop := (x < 1 → Q (-1) (su w 0 14 3)) ∧ (¬ x < 1 → ((100 < x → Q (-1) (su w 0 14 3)) ∧ (¬ 100 < x → ((y < 0 → Q (-1) (su w 0 14 3)) ∧ (¬ y < 0 → ((y ≤ 100 → wp_X12_made x y w Q) ∧ (¬ y ≤ 100 → Q (-1) (su w 0 14 3))))))))
section
variable {PL : PLt} {k n : Nat} {uF uM w : St} {Post : Int32 → St → Prop}
set_option maxHeartbeats 1000000 in
theorem ok_fromSheet (hK : PLok PL) : Ok_fromSheet (Rel (RYc PL)) := by
  have hY := RYc_ok hK
  intro k a1 a2 a3 uF uM hk h
  obtain ⟨h1, ⟨n, hr, hl⟩, ht, hs⟩ := id h
  obtain ⟨n1, n2, n3, n4⟩ := hY.1 _ _ _ _ hr
  have no : ∀ r : Int32, Rel (RYc PL) (k + 1) (su uF 0 7 r) (su uM 0 14 r) := fun r => (h.st hY r).mono hY
  unfold wp_X11_fromSheet
  refine sp_isSheet (fun s hs6 e => ⟨fun c => absurd c (by decide), fun _ => ?_⟩) (fun hno => ⟨fun _ => ?_, fun c => absurd rfl c⟩)
  · subst e
    have v6 : vp_in (nI s) 6 := vp_in_nI hs6 (by decide)
    obtain ⟨s1, s2, z, s3, s4, s5, s6, s7⟩ := hs s hs6
    have es : Int32.toNatClampNeg (nI s) = s := cln (by omega)
    have mI : ∀ Q : Int32 → St → Prop, Q 1 uM → wp_X12_in (nI s) 0 5 uM Q := fun Q q => sp_in0 (m := 6) (by decide) (by decide) (fun _ _ _ => q) (fun hno => absurd rfl (hno s hs6))
    rw [es]
    by_cases r2 : InR a2 0 2
    · have r2' := (InR_iff (x := a2) (lo := 0) (hi := 2) (by decide) (by decide)).mpr r2
      have r3 : a2 ≤ 2 := Int32.not_lt.mp r2'.2
      refine ⟨fun c => absurd c r2'.1, fun _ => ⟨fun _ => ?_, fun c => absurd r3 c⟩⟩
      unfold wp_X10_isFull
      rw [n2]
      have m2 : ∀ Q : Int32 → St → Prop, Q 1 uM → wp_X12_in a2 0 2 uM Q := fun Q q => sp_mIn (lo := 0) (hi := 2) (by decide) (by decide) (fun _ => q) (fun c => absurd r2 c)
      refine pk_lt n 12 (fun c => ⟨fun _ => ⟨v6, ?_⟩, fun c => absurd rfl c⟩) (fun c => ⟨fun c => absurd c (by decide), fun _ => ?_⟩)
      · have hn12 : ¬ uM 0 0 = (12 : Int32) := fun e => by
          rw [n3] at e
          have := (nI_eq (a := n) (b := 12) (by omega) (by omega)).mp e
          omega
        unfold wp_X8_refusalAs wp_X8_isMissing
        refine ⟨fun q0 => ⟨fun _ => ?_, fun c => absurd rfl c⟩, fun q0 => ⟨fun c => absurd c (by decide), fun _ => ⟨fun c => absurd c (by decide), fun _ => ?_⟩⟩⟩
        · unfold wp_X8_isOfSort
          refine ⟨fun q1 => ⟨fun _ => ⟨fun c => absurd c (by decide), fun _ => ?_⟩, fun c => absurd rfl c⟩, fun q1 => ⟨fun c => absurd c (by decide), fun _ => ⟨fun _ => ?_, fun c => absurd rfl c⟩⟩⟩
          · unfold wp_X11_refused wp_X12_fromSheet
            refine mI _ ⟨fun c => absurd c (by decide), fun _ => m2 _ ⟨fun _ => ⟨fun _ => ⟨v6, ?_⟩, fun c => absurd c hn12⟩, fun c => absurd c (by decide)⟩⟩
            rw [es, s2]
            exact ⟨fun _ => ⟨v6, fun c => absurd c q1, fun _ => ⟨rfl, no 11⟩⟩, fun c => absurd c q0⟩
          · have good : ∀ Q : Int32 → St → Prop, ((a3 < 0) → Q (-1) (su uM 0 14 12)) ∧ ((¬ a3 < 0) → (((a3 ≤ (nI z - (2 : Int32))) → (vp_in (((20 : Int32) * nI s) + a3) 120 ∧ (vp_in ((((20 : Int32) * nI s) + a3) + (1 : Int32)) 120 ∧ m4F (uM 11 (Int32.toNatClampNeg (((20 : Int32) * nI s) + a3))) (uM 11 (Int32.toNatClampNeg ((((20 : Int32) * nI s) + a3) + (1 : Int32)))) uM Q))) ∧ ((¬ a3 ≤ (nI z - (2 : Int32))) → Q (-1) (su uM 0 14 12)))) → wp_X12_fromSheet (nI s) a2 a3 uM Q := by
              intro Q hq
              unfold wp_X12_fromSheet
              refine mI _ ⟨fun c => absurd c (by decide), fun _ => m2 _ ⟨fun _ => ⟨fun _ => ⟨v6, ?_⟩, fun c => absurd c hn12⟩, fun c => absurd c (by decide)⟩⟩
              have e100 : (100 : Int64) = Int32.toInt64 100 := by decide
              simp only [lg_cmp_lt, lg_cmp_gt, lg_cmp_le, e100, l64_lt, l64_le, l2i]
              rw [es, s2, s5]
              exact ⟨fun _ => ⟨v6, fun _ => ⟨hq.1, fun c => ⟨v6, hq.2 c⟩⟩, fun c => absurd q1 c⟩, fun c => absurd c q0⟩
            refine ⟨fun c3 => ?_, fun c3 => ?_⟩
            · exact good _ ⟨fun _ => ⟨rfl, no 12⟩, fun c => absurd c3 c⟩
            · obtain ⟨i, hi, rfl⟩ := nI_of c3
              unfold wp_X8_size
              rw [s4]
              by_cases hz : i + 1 < z
              · refine ⟨fun _ => ?_, fun c => absurd ((ltm1 hi s3).mpr hz) c⟩
                unfold wp_X8_numberAt
                rw [nI_1, cln (i := i) (by omega), cln (i := i + 1) (by omega)]
                refine ⟨vp_in_nI (by omega) (by decide), vp_in_nI (by omega) (by decide), ?_⟩
                have e1 := s7 i (by omega)
                have e2 := s7 (i + 1) hz
                have ix1 : ((20 : Int32) * nI s) + nI i = nI (20 * s + i) := ix20 s i
                have ix2 : nI (20 * s + i) + (1 : Int32) = nI (20 * s + (i + 1)) := nI_1 _
                rw [ix1, ix2, cln (i := 20 * s + i) (by omega), cln (i := 20 * s + (i + 1)) (by omega), ← e1, ← e2] at good
                have vi1 : vp_in (nI (20 * s + i)) 120 := vp_in_nI (by omega) (by decide)
                have vi2 : vp_in (nI (20 * s + (i + 1))) 120 := vp_in_nI (by omega) (by decide)
                have i100 : ∀ x : Int32, (¬ x < 1 ∧ ¬ 100 < x) ↔ InR x 1 100 := fun x => InR_iff (lo := 1) (hi := 100) (by decide) (by decide)
                have j100 : ∀ x : Int32, (¬ x < 0 ∧ ¬ 100 < x) ↔ InR x 0 100 := fun x => InR_iff (lo := 0) (hi := 100) (by decide) (by decide)
                refine sp_allows (q := 0) (by decide) (fun q2 => ⟨fun c => absurd c (by decide), fun _ => ?_⟩) (fun q2 => ⟨fun _ => ?_, fun c => absurd rfl c⟩)
                · have p1 := (i100 _).mpr q2
                  refine sp_allows (q := 1) (by decide) (fun q3 => ⟨fun _ => ?_, fun c => absurd c (by decide)⟩) (fun q3 => ⟨fun c => absurd rfl c, fun _ => ?_⟩)
                  · have p2 := (j100 _).mpr q3
                    obtain ⟨l, el, l1, l2⟩ := q2
                    obtain ⟨g, eg, g1, g2⟩ := q3
                    rw [el, eg] at good ⊢
                    rw [el] at p1
                    rw [eg] at p2
                    refine sp_bring hK h hr hl c l1 l2 g2 fun r u' hm => ?_
                    exact good _ ⟨fun c => absurd c c3, fun _ => ⟨fun _ => ⟨vi1, vi2, fun c => absurd c p1.1, fun _ => ⟨fun c => absurd c p1.2, fun _ => ⟨fun c => absurd c p2.1, fun _ => ⟨fun _ => hm, fun c => absurd (Int32.not_lt.mp p2.2) c⟩⟩⟩⟩, fun c => absurd ((lem2 hi s3).mpr hz) c⟩⟩
                  · refine good _ ⟨fun c => absurd c c3, fun _ => ⟨fun _ => ⟨vi1, vi2, fun c => absurd c p1.1, fun _ => ⟨fun c => absurd c p1.2, fun _ => ⟨fun _ => ⟨rfl, no 3⟩, fun d1 => ⟨fun d2 => ?_, fun _ => ⟨rfl, no 3⟩⟩⟩⟩⟩, fun c => absurd ((lem2 hi s3).mpr hz) c⟩⟩
                    exact absurd ((j100 _).mp ⟨d1, Int32.not_lt.mpr d2⟩) q3
                · refine good _ ⟨fun c => absurd c c3, fun _ => ⟨fun _ => ⟨vi1, vi2, fun _ => ⟨rfl, no 3⟩, fun d1 => ⟨fun _ => ⟨rfl, no 3⟩, fun d2 => ?_⟩⟩, fun c => absurd ((lem2 hi s3).mpr hz) c⟩⟩
                  exact absurd ((i100 _).mp ⟨d1, d2⟩) q2
              · refine ⟨fun c => absurd ((ltm1 hi s3).mp c) hz, fun _ => ?_⟩
                exact good _ ⟨fun c => absurd c c3, fun _ => ⟨fun c => absurd ((lem2 hi s3).mp c) hz, fun _ => ⟨rfl, no 12⟩⟩⟩
        · unfold wp_X11_refused wp_X12_fromSheet
          refine mI _ ⟨fun c => absurd c (by decide), fun _ => m2 _ ⟨fun _ => ⟨fun _ => ⟨v6, ?_⟩, fun c => absurd c hn12⟩, fun c => absurd c (by decide)⟩⟩
          rw [es, s2]
          exact ⟨fun c => absurd q0 c, fun _ => ⟨rfl, no 10⟩⟩
      · unfold wp_X11_refused wp_X12_fromSheet
        refine mI _ ⟨fun c => absurd c (by decide), fun _ => m2 _ ⟨fun _ => ⟨fun c' => absurd ?_ c', fun _ => ⟨rfl, no 2⟩⟩, fun c => absurd c (by decide)⟩⟩
        rw [n3, show n = 12 by omega]
        rfl
    · have m2 : wp_X12_fromSheet (nI s) a2 a3 uM (fun r2 uM2 => (-1 : Int32) = r2 ∧ Rel (RYc PL) (k + 1) (su uF 0 7 1) uM2) := by
        unfold wp_X12_fromSheet
        exact mI _ ⟨fun c => absurd c (by decide), fun _ => sp_mIn (lo := 0) (hi := 2) (by decide) (by decide) (fun c => absurd c r2) (fun _ => ⟨fun c => absurd rfl c, fun _ => ⟨rfl, no 1⟩⟩)⟩
      unfold wp_X11_refused
      refine ⟨fun _ => m2, fun c => ⟨fun d => ?_, fun _ => m2⟩⟩
      exact absurd ((InR_iff (x := a2) (lo := 0) (hi := 2) (by decide) (by decide)).mp ⟨c, Int32.not_lt.mpr d⟩) r2
  · unfold wp_X11_refused wp_X12_fromSheet
    exact sp_in0 (m := 6) (by decide) (by decide) (fun j hj e => absurd e (hno j hj)) (fun _ => ⟨fun _ => ⟨rfl, no 1⟩, fun c => absurd rfl c⟩)
end
