/-! forge keeps the relation. -/
theorem nI_add1 (n : Nat) : (1 : Int32) + nI n = nI (1 + n) := nI_add 1 n
section
variable {RY : Nat → Nat → St → St → Prop}
set_option maxHeartbeats 1000000 in
theorem ok_forge (hY : RYok RY) (hV : View RY) : Ok_forge (Rel RY) := by
  intro k a1 a2 a3 uF uM hk h
  obtain ⟨h1, ⟨n, h2, hl⟩, ht, hs⟩ := id h
  obtain ⟨n1, n2, n3, n4⟩ := hY.1 _ _ _ _ h2
  have st : ∀ v : Int32, Rel RY (k + 1) (su uF 0 7 v) (su uM 0 14 v) := fun v => (h.st hY v).mono hY
  unfold wp_X11_forge
  refine sp_isSheet (fun s hs6 e => ⟨fun c => absurd c (by decide), fun _ => ?_⟩) (fun hno => ⟨fun _ => ?_, fun c => absurd rfl c⟩)
  · subst e
    have v6 : vp_in (nI s) 6 := vp_in_nI hs6 (by decide)
    obtain ⟨s1, s2, z, s3, s4, s5, s6, s7⟩ := hs s hs6
    have es : Int32.toNatClampNeg (nI s) = s := cln (by omega)
    have mI : ∀ Q : Int32 → St → Prop, Q 1 uM → wp_X12_in (nI s) 0 5 uM Q := fun Q q => sp_in0 (m := 6) (by decide) (by decide) (fun _ _ _ => q) (fun hno => absurd rfl (hno s hs6))
    by_cases c1 : a2 < 0
    · simp only [c1, wp_X11_refused, wp_X12_forge, true_implies, not_true_eq_false, false_implies, and_true]
      refine mI _ ?_
      simp [wp_X12_in, c1, wp_X12_refused, st]
    by_cases c2 : 6 < a2
    · simp only [c1, c2, wp_X11_refused, wp_X12_forge, true_implies, not_true_eq_false, false_implies, and_true, true_and, not_false_eq_true]
      refine mI _ ?_
      simp [wp_X12_in, c1, c2, wp_X12_refused, st]
    by_cases c3 : a3 < -100
    · simp only [c1, c2, c3, wp_X11_refused, wp_X12_forge, true_implies, not_true_eq_false, false_implies, and_true, true_and, not_false_eq_true]
      refine mI _ ?_
      simp [wp_X12_in, c1, c2, c3, wp_X12_refused, st]
    by_cases c4 : a3 ≤ 100
    rotate_left
    · have c5 := Int32.not_le.mp c4
      simp only [c1, c2, c3, c4, wp_X11_refused, wp_X12_forge, true_implies, not_true_eq_false, false_implies, and_true, true_and, not_false_eq_true]
      refine mI _ ?_
      simp [wp_X12_in, c1, c2, c3, c5, wp_X12_refused, st]
    have c5 := Int32.not_lt.mpr c4
    have mF : ∀ Q : Int32 → St → Prop, (vp_in (nI s) 6 ∧ ((a2 = 0 → (((¬ (uM 9 s) = (-1 : Int32)) → ((((uM 9 s) = fmF a3 3) → (Q (uM 10 s) (su uM 0 14 0))) ∧ ((¬ (uM 9 s) = fmF a3 3) → Q (-1) (su uM 0 14 11)))) ∧ (((uM 9 s) = (-1 : Int32)) → Q (-1) (su uM 0 14 10)))) ∧ (a2 = 1 → (((0 ≤ a3) → Q a3 (su uM 0 14 0)) ∧ ((¬ 0 ≤ a3) → Q (-1) (su uM 0 14 13)))) ∧ (a2 = 2 → (((¬ (uM 9 s) = (-1 : Int32)) → ((((uM 9 s) = (1 : Int32)) → (wp_X12_in a3 (0 : Int32) (3 : Int32) uM (fun r183 u183 => ((r183 = 0) → (wp_X12_refused (12 : Int32) u183 Q)) ∧ ((¬ r183 = 0) → ((((u183 10 s) < ((1 : Int32) + a3)) → (wp_X12_refused (12 : Int32) u183 Q)) ∧ ((¬ (u183 10 s) < ((1 : Int32) + a3)) → (wp_X12_sum (nI s) a3 u183 (fun r205 u205 => wp_X12_done r205 u205 Q)))))))) ∧ ((¬ (uM 9 s) = (1 : Int32)) → Q (-1) (su uM 0 14 11)))) ∧ (((uM 9 s) = (-1 : Int32)) → Q (-1) (su uM 0 14 10)))) ∧ (a2 = 3 → (((¬ (uM 9 s) = (-1 : Int32)) → ((((uM 9 s) = 0) → Q (uM 10 s) (su uM 0 14 0)) ∧ ((¬ (uM 9 s) = 0) → Q (-1) (su uM 0 14 14)))) ∧ (((uM 9 s) = (-1 : Int32)) → Q 0 (su uM 0 14 0)))) ∧ (a2 = 4 → (((¬ a3 = 0) → Q ((1000 : Int32) / a3) (su uM 0 14 0)) ∧ ((a3 = 0) → Q (-1) (su uM 0 14 15)))) ∧ (a2 = 5 → (((¬ fmF a3 2 = 0) → Q 1 (su uM 0 14 0)) ∧ ((fmF a3 2 = 0) → Q (-1) (su uM 0 14 10)))) ∧ (¬ a2 = 0 → ¬ a2 = 1 → ¬ a2 = 2 → ¬ a2 = 3 → ¬ a2 = 4 → ¬ a2 = 5 → (wp_X12_unitTaken a3 uM Q)))) → wp_X12_forge (nI s) a2 a3 uM Q := by
      intro Q q
      unfold wp_X12_forge
      refine mI _ ?_
      rw [fmo3 c3 c4, es]
      simp only [wp_X12_in, c1, c2, c3, c5, true_implies, not_true_eq_false, false_implies, and_true, true_and, not_false_eq_true, show ¬ (1 : Int32) = 0 by decide, v6, fmo2 c3 c4] at q ⊢
      obtain ⟨q0, q1, q2, q3, q4, q5, q6⟩ := q
      refine ⟨q0, q1, q2, q3, fun e => ⟨fun c => ⟨c, (q4 e).1 c⟩, (q4 e).2⟩, q5, q6⟩
    simp only [c1, c2, c3, c4, v6, true_implies, not_true_eq_false, false_implies, and_true, true_and, not_false_eq_true, es]
    refine ⟨fun e => sp_fm (by decide) ?_, fun e => ?_, fun e => ?_, fun e => ?_, fun e => ?_, fun e => sp_fm (by decide) ?_, fun e0 e1 e2 e3 e4 e5 => sp_fm (by decide) ?_⟩
    · subst e
      unfold wp_X11_forgeSize wp_X8_refusalAs wp_X8_isMissing wp_X8_isOfSort wp_X8_size wp_X11_done wp_X11_refused
      by_cases d1 : uF (34 + 2 * s) 1 = -1
      · have d1' : uM 9 s = -1 := by rw [s2]; exact d1
        simp only [d1, true_implies, not_true_eq_false, false_implies, and_true, true_and, not_false_eq_true, show ¬ (1 : Int32) = 0 by decide, show ¬ (10 : Int32) = 0 by decide]
        refine mF _ ⟨v6, ?_⟩
        simp [d1', st]
      by_cases d2 : uF (34 + 2 * s) 1 = fmF a3 3
      · rw [d2] at d1
        have d1' : uM 9 s = fmF a3 3 := by rw [s2]; exact d2
        simp only [d1, d2, true_implies, not_true_eq_false, false_implies, and_true, true_and, not_false_eq_true, show ¬ (1 : Int32) = 0 by decide, show ¬ (10 : Int32) = 0 by decide]
        refine mF _ ⟨v6, ?_⟩
        simp [d1', d1, st, s4, s5]
      · have d1' : ¬ uM 9 s = fmF a3 3 := by rw [s2]; exact d2
        have d2' : ¬ uM 9 s = -1 := by rw [s2]; exact d1
        simp only [d1, d2, true_implies, not_true_eq_false, false_implies, and_true, true_and, not_false_eq_true, show ¬ (1 : Int32) = 0 by decide, show ¬ (11 : Int32) = 0 by decide]
        refine mF _ ⟨v6, ?_⟩
        simp [d1', d2', st]
    · subst e
      unfold wp_X11_done wp_X11_refused
      refine ⟨fun c => mF _ ⟨v6, ?_⟩, fun c => mF _ ⟨v6, ?_⟩⟩
      · simp [c, st]
      · simp [c, st]
    · subst e
      unfold wp_X11_forgeCopy wp_X8_refusalAs wp_X8_isMissing wp_X8_isOfSort wp_X8_size wp_X11_done wp_X11_refused
      by_cases d1 : uF (34 + 2 * s) 1 = -1
      · have d1' : uM 9 s = -1 := by rw [s2]; exact d1
        simp only [d1, true_implies, not_true_eq_false, false_implies, and_true, true_and, not_false_eq_true, show ¬ (1 : Int32) = 0 by decide, show ¬ (10 : Int32) = 0 by decide]
        refine mF _ ⟨v6, ?_⟩
        simp [d1', st]
      by_cases d2 : uF (34 + 2 * s) 1 = 1
      rotate_left
      · have d1' : ¬ uM 9 s = 1 := by rw [s2]; exact d2
        have d2' : ¬ uM 9 s = -1 := by rw [s2]; exact d1
        simp only [d1, d2, true_implies, not_true_eq_false, false_implies, and_true, true_and, not_false_eq_true, show ¬ (1 : Int32) = 0 by decide, show ¬ (11 : Int32) = 0 by decide]
        refine mF _ ⟨v6, ?_⟩
        simp [d1', d2', st]
      have d1' : uM 9 s = 1 := by rw [s2]; exact d2
      have mC : ∀ Q : Int32 → St → Prop, wp_X12_in a3 (0 : Int32) (3 : Int32) uM (fun r183 u183 => ((r183 = 0) → (wp_X12_refused (12 : Int32) u183 Q)) ∧ ((¬ r183 = 0) → ((((u183 10 s) < ((1 : Int32) + a3)) → (wp_X12_refused (12 : Int32) u183 Q)) ∧ ((¬ (u183 10 s) < ((1 : Int32) + a3)) → (wp_X12_sum (nI s) a3 u183 (fun r205 u205 => wp_X12_done r205 u205 Q)))))) → wp_X12_forge (nI s) 2 a3 uM Q := by
        intro Q q
        refine mF _ ⟨v6, ?_⟩
        simp only [d1', show ¬ (2 : Int32) = 0 by decide, show ¬ (2 : Int32) = 1 by decide, show ¬ (1 : Int32) = -1 by decide, show ¬ (2 : Int32) = 3 by decide, show ¬ (2 : Int32) = 4 by decide, show ¬ (2 : Int32) = 5 by decide, true_implies, not_true_eq_false, false_implies, and_true, true_and, not_false_eq_true]
        exact q
      simp only [d2, s4, show ¬ (1 : Int32) = -1 by decide, show ¬ (1 : Int32) = 0 by decide, true_implies, not_true_eq_false, false_implies, and_true, true_and, not_false_eq_true]
      have bad : (∀ j, j < 4 → 1 + j ≤ z → a3 ≠ nI j) → wp_X12_forge (nI s) 2 a3 uM (fun r2 uM2 => -1 = r2 ∧ Rel RY (k + 1) (su uF 0 7 12) uM2) := by
        intro q
        refine mC _ (sp_in0 (m := 4) (by decide) (by decide) (fun j hj e => ?_) (fun _ => ?_))
        · have hz : ¬ 1 + j ≤ z := fun c => q j hj c e
          subst e
          simp [s5, nI_add1, nI_lt (show z < 1 + j by omega) (by omega), wp_X12_refused, st]
        · simp [wp_X12_refused, st]
      refine ⟨fun c => bad fun j hj _ e => absurd c (by rw [e]; exact nI_pos (by omega)), fun c => ?_⟩
      obtain ⟨j, hj, rfl⟩ := nI_of2 (M := 100) (n := 100) (by decide) c c4
      rw [nI_add1, nI_add]
      refine ⟨fun d => bad fun i hi hi2 e => ?_, fun d => ⟨fun e => ?_, fun e => bad fun i hi hi2 e' => ?_⟩⟩
      · have e := (nI_eq (by omega) (by omega)).mp e
        subst e
        exact nI_nlt hi2 (by omega) d
      · have hj3 : j ≤ 3 := by
          rcases Nat.lt_or_ge 3 j with q | q
          · exact absurd e (nle_nI (a := 7) (b := j + j) (by omega) (by omega))
          · exact q
        have hjz : 1 + j ≤ z := by
          rcases Nat.lt_or_ge z (1 + j) with q | q
          · exact absurd (nI_lt q (by omega)) d
          · exact q
        refine sp_sumFrom hj3 (mC _ (sp_in0 (m := 4) (by decide) (by decide) (fun i hi e => ?_) (fun hno => absurd rfl (hno j (by omega)))))
        simp only [show ¬ (1 : Int32) = 0 by decide, s5, nI_add1, nI_nlt hjz (show z < 2 ^ 31 by omega), true_implies, not_true_eq_false, false_implies, and_true, true_and, not_false_eq_true]
        refine sp_mSum hs6 hj3 ⟨?_, st 0⟩
        exact smF_congr j fun i hi => s7 i (by omega)
      · have e' := (nI_eq (by omega) (by omega)).mp e'
        subst e'
        exact e (nI_le (b := 7) (by omega) (by decide))
    · subst e
      unfold wp_X11_forgeLaying wp_X8_isMissing wp_X8_isOfSort wp_X8_size wp_X11_done wp_X11_refused
      by_cases d1 : uF (34 + 2 * s) 1 = -1
      · have d1' : uM 9 s = -1 := by rw [s2]; exact d1
        simp only [d1, true_implies, not_true_eq_false, false_implies, and_true, true_and, not_false_eq_true, show ¬ (1 : Int32) = 0 by decide, show ¬ (10 : Int32) = 0 by decide]
        refine mF _ ⟨v6, ?_⟩
        simp [d1', st]
      by_cases d2 : uF (34 + 2 * s) 1 = 0
      · have d1' : uM 9 s = 0 := by rw [s2]; exact d2
        simp only [d2, true_implies, not_true_eq_false, false_implies, and_true, true_and, not_false_eq_true, show ¬ (1 : Int32) = 0 by decide, show ¬ (0 : Int32) = -1 by decide]
        refine mF _ ⟨v6, ?_⟩
        simp [d1', st, s4, s5]
      · have d1' : ¬ uM 9 s = 0 := by rw [s2]; exact d2
        have d2' : ¬ uM 9 s = -1 := by rw [s2]; exact d1
        simp only [d1, d2, true_implies, not_true_eq_false, false_implies, and_true, true_and, not_false_eq_true, show ¬ (1 : Int32) = 0 by decide, show ¬ (11 : Int32) = 0 by decide]
        refine mF _ ⟨v6, ?_⟩
        simp [d1', d2', st]
    · subst e
      unfold wp_X11_done wp_X11_refused
      refine ⟨fun c => ⟨c, mF _ ⟨v6, ?_⟩⟩, fun c => mF _ ⟨v6, ?_⟩⟩
      · simp [c, st]
      · simp [c, st]
    · subst e
      unfold wp_X11_done wp_X11_refused
      refine ⟨fun c => mF _ ⟨v6, ?_⟩, fun c => mF _ ⟨v6, ?_⟩⟩
      · simp [c, st]
      · simp [c, st]
    · have mU : ∀ Q : Int32 → St → Prop, wp_X12_unitTaken a3 uM Q → wp_X12_forge (nI s) a2 a3 uM Q := by
        intro Q q
        refine mF _ ⟨v6, ?_⟩
        simp only [e0, e1, e2, e3, e4, e5, true_implies, not_true_eq_false, false_implies, and_true, true_and, not_false_eq_true]
        exact q
      unfold wp_X11_forgeUnit wp_X11_done wp_X11_refused
      have mU2 : ∀ Q : Int32 → St → Prop, wp_X12_isJob (fmF a3 12) uM (fun r13 u13 => ((¬ r13 = 0) → (wp_X12_kindOf (fmF a3 12) u13 (fun r28 u28 => ((r28 = (1 : Int32)) → (vp_in (fmF a3 12) 12 ∧ (wp_X12_done (u28 1 (Int32.toNatClampNeg (fmF a3 12))) u28 (fun r49 u49 => Q r49 u49)))) ∧ ((¬ r28 = (1 : Int32)) → (((¬ r28 = (3 : Int32)) → (wp_X12_refused (11 : Int32) u28 (fun r58 u58 => Q r58 u58))) ∧ ((r28 = (3 : Int32)) → (vp_in (fmF a3 12) 12 ∧ (wp_X12_done (u28 1 (Int32.toNatClampNeg (fmF a3 12))) u28 (fun r49 u49 => Q r49 u49))))))))) ∧ ((r13 = 0) → (wp_X12_refused (10 : Int32) u13 (fun r22 u22 => Q r22 u22)))) → wp_X12_forge (nI s) a2 a3 uM Q := by
        intro Q q
        refine mU _ ?_
        unfold wp_X12_unitTaken
        rw [fmo12 c3 c4]
        exact q
      refine sp_hasJob n1 n2 (fun j hj e => ⟨fun _ => ?_, fun c => absurd c (by decide)⟩) (fun hno => ⟨fun c => absurd rfl c, fun _ => ?_⟩)
      · have v12 : vp_in (nI j) 12 := vp_in_nI (by omega) (by decide)
        rw [e] at mU2 ⊢
        refine sp_kindOf (by omega) ?_
        have hk := kdF_in (uF 5 j) (uF 3 j) (uF 4 j) (uF 7 j)
        generalize hkd : kdF (uF 5 j) (uF 3 j) (uF 4 j) (uF 7 j) = kd at hk ⊢
        refine ⟨kd_vp hk, ?_⟩
        have e3 : uF 3 j = uM 1 j := n4 0 (by omega) j hj
        have mU3 : ∀ Q : Int32 → St → Prop, (∀ v : St, (∀ c, c ≠ 5 → v c = uM c) → ((kd = 1 ∨ kd = 3) → Q (uF 3 j) (su v 0 14 0)) ∧ (¬ (kd = 1 ∨ kd = 3) → Q (-1) (su v 0 14 11))) → wp_X12_forge (nI s) a2 a3 uM Q := by
          intro Q q
          refine mU2 _ (sp_isJob n1 n3 (fun j' hj' e' => ⟨fun _ => ?_, fun c => absurd c (by decide)⟩) (fun hno => absurd rfl (hno j hj)))
          refine sp_mKindOf hY hV h2 hj fun v f1 f2 => ?_
          obtain ⟨q1, q2⟩ := q v f1
          rw [hkd]
          unfold wp_X12_done wp_X12_refused
          rw [cln (by omega), f1 1 (by decide), ← e3]
          exact ⟨fun c => ⟨v12, q1 (Or.inl c)⟩, fun c => ⟨fun d => q2 (fun e => e.elim c d), fun d => ⟨v12, q1 (Or.inr d)⟩⟩⟩
        refine ⟨fun c => ⟨vp_in_nI (n := 0) (N := 3) (by decide) (by decide), v12, ?_⟩, fun c => ?_⟩
        · refine mU3 _ fun v f1 => ⟨fun _ => ⟨?_, (((h.closed hY f1).st hY 0).mono hY)⟩, fun d => absurd c d⟩
          rw [cln (by omega)]
          rfl
        · exact mU3 _ fun v f1 => ⟨fun d => absurd d c, fun _ => ⟨rfl, (((h.closed hY f1).st hY 11).mono hY)⟩⟩
      · refine mU2 _ (sp_isJob n1 n3 (fun j hj e => absurd e (hno j hj)) (fun _ => ⟨fun c => absurd rfl c, fun _ => ⟨rfl, st 10⟩⟩))
  · unfold wp_X11_refused wp_X12_forge
    refine sp_in0 (m := 6) (by decide) (by decide) (fun j hj e => absurd e (hno j hj)) (fun _ => ⟨fun _ => ⟨rfl, st 1⟩, fun c => absurd rfl c⟩)
end
