/-! trace, put, swap keep the relation. -/
theorem php : ∀ (n z : Nat) (f : Nat → Nat), (∀ i, i < z → f i < n) → (∀ i j, i < z → j < z → f i = f j → i = j) → z ≤ n
  | 0, z, f, h1, _ => by
    rcases Nat.eq_zero_or_pos z with e | e
    · omega
    · exact absurd (h1 0 e) (Nat.not_lt_zero _)
  | n + 1, z, f, h1, h2 => by
    by_cases h : ∃ i, i < z ∧ f i = n
    · obtain ⟨i0, hi0, e0⟩ := h
      have ih := php n (z - 1) (fun i => if i < i0 then f i else f (i + 1)) (fun i hi => ?_) (fun i j hi hj e => ?_)
      · omega
      · show (if i < i0 then f i else f (i + 1)) < n
        by_cases c : i < i0
        · rw [if_pos c]
          have q1 := h1 i (by omega)
          have q2 : f i ≠ n := fun q => by have := h2 i i0 (by omega) hi0 (by rw [q, e0]); omega
          omega
        · rw [if_neg c]
          have q1 := h1 (i + 1) (by omega)
          have q2 : f (i + 1) ≠ n := fun q => by have := h2 (i + 1) i0 (by omega) hi0 (by rw [q, e0]); omega
          omega
      · have e : (if i < i0 then f i else f (i + 1)) = (if j < i0 then f j else f (j + 1)) := e
        by_cases c : i < i0
        · by_cases d : j < i0
          · rw [if_pos c, if_pos d] at e
            exact h2 i j (by omega) (by omega) e
          · rw [if_pos c, if_neg d] at e
            have := h2 i (j + 1) (by omega) (by omega) e
            omega
        · by_cases d : j < i0
          · rw [if_neg c, if_pos d] at e
            have := h2 (i + 1) j (by omega) (by omega) e
            omega
          · rw [if_neg c, if_neg d] at e
            have := h2 (i + 1) (j + 1) (by omega) (by omega) e
            omega
    · have := php n z f (fun i hi => by
        have q1 := h1 i hi
        have q2 : f i ≠ n := fun q => h ⟨i, hi, q⟩
        omega) h2
      omega
theorem nI_ne_m1 {i : Nat} (h : i < 2 ^ 31) : nI i ≠ -1 := fun e => nI_pos h (by rw [e]; decide)
theorem plf_none {r : Nat → Int32} {x : Int32} : ∀ k i, i + k < 2 ^ 31 → plf r x k i = -1 → ∀ j, i ≤ j → j < i + k → r j ≠ x
  | 0, i, _, _, j, h1, h2 => by omega
  | k + 1, i, hb, h, j, h1, h2 => by
    simp only [plf] at h
    by_cases e : r i = x
    · rw [if_pos e] at h
      exact absurd h (nI_ne_m1 (by omega))
    · rw [if_neg e] at h
      by_cases c : j = i
      · subst c
        exact e
      · exact plf_none k (i + 1) (by omega) h j (by omega) (by omega)
section
variable {RY : Nat → Nat → St → St → Prop}
theorem ok_trace (hY : RYok RY) : Ok_trace (Rel RY) := by
  intro k a uF uM hk h
  obtain ⟨t, t1, t2, t3, t4⟩ := h.2.2.1
  have hM : ∀ (P : Int32 → St → Prop), wb_X12_trace_20 P a (nI t) 0 a uM → wp_X12_trace a uM P := by
    intro P hp
    unfold wp_X12_trace
    rw [t3]
    refine ⟨fun c => ?_, fun _ => hp⟩
    have e : t = 50 := by
      rcases Nat.lt_or_ge t 50 with q | q
      · exact absurd c (nle_nI q (by decide))
      · omega
    rw [e] at hp
    exact hp
  have key := in_lt (a := a) (m := t) (by omega)
  have hT : wp_X11_trace a uF (fun r uF2 => (∀ j, j < t → a = nI j → r = uM 12 j) ∧ ((∀ j, j < t → a ≠ nI j) → r = -1) ∧ uF2 = uF) := by
    unfold wp_X11_trace wp_X0_bodyAt
    rw [t2]
    refine ⟨fun c => ⟨fun j hj e => absurd c (by rw [e]; exact nI_pos (by omega)), fun _ => rfl, rfl⟩, fun c => ⟨fun d => ⟨fun j hj e => absurd d (by rw [e]; exact nle_nI hj (by omega)), fun _ => rfl, rfl⟩, fun d => ?_⟩⟩
    obtain ⟨j, hj, rfl⟩ := nI_of c
    have hjt : j < t := by
      rcases Nat.lt_or_ge j t with q | q
      · exact q
      · exact absurd (nI_le q hj) d
    refine ⟨vp_in_nI (by omega) (by decide), fun i hi e => ?_, fun q => absurd rfl (q j hjt), rfl⟩
    rw [cln hj, t4 j hjt, (nI_eq hj (by omega)).mp e]
  have hT2 : ∀ r uF2, ((∀ j, j < t → a = nI j → r = uM 12 j) ∧ ((∀ j, j < t → a ≠ nI j) → r = -1) ∧ uF2 = uF) → wp_X12_trace a uM (fun r2 uM2 => r = r2 ∧ Rel RY (k + 1) uF2 uM2) := by
    rintro r uF2 ⟨q1, q2, rfl⟩
    refine hM _ ?_
    unfold wb_X12_trace_20 wp_X12_in
    refine ⟨fun c => ?_, fun c => ⟨fun d => ?_, fun d => ?_⟩⟩
    · exact ⟨fun _ => ⟨q2 fun j hj e => (key.mpr ⟨j, hj, e⟩).1 c, h.mono hY⟩, fun c => absurd rfl c⟩
    · exact ⟨fun _ => ⟨q2 fun j hj e => (key.mpr ⟨j, hj, e⟩).2 d, h.mono hY⟩, fun c => absurd rfl c⟩
    · obtain ⟨j, hj, e⟩ := key.mp ⟨c, d⟩
      refine ⟨fun c => absurd c (by decide), fun _ => ⟨by rw [e]; exact vp_in_nI (by omega) (by decide), ?_, h.mono hY⟩⟩
      rw [q1 j hj e, e, cln (by omega)]
  unfold wp_X11_trace wp_X0_bodyAt at hT ⊢
  exact ⟨fun c => hT2 _ _ (hT.1 c), fun c => ⟨fun d => hT2 _ _ ((hT.2 c).1 d), fun d => ⟨((hT.2 c).2 d).1, hT2 _ _ ((hT.2 c).2 d).2⟩⟩⟩
theorem ok_put (hY : RYok RY) : Ok_put (Rel RY) := by
  intro k a uF uM hk h
  obtain ⟨h1, ⟨n, h2, z, h3, h4, h5, h6, h7⟩, ht, hs⟩ := id h
  obtain ⟨n1, n2, n3, n4⟩ := hY.1 _ _ _ _ h2
  unfold wp_X11_put wp_X12_put
  have epl : plf (uF 19) a z 0 = plf (uM 6) a z 0 := plf_congr z 0 fun j _ hj => by
    obtain ⟨o, ho, e1, e2⟩ := h6 j (by omega)
    rw [e1, e2]
  refine sp_hasJob n1 n2 (fun j hj e => ⟨fun _ => ?_, fun c => absurd c (by decide)⟩) (fun hno => ⟨fun c => absurd rfl c, fun _ => ?_⟩)
  · refine sp_placeOf h3 h4 ⟨fun c => ?_, fun c => ?_⟩
    · have hnone := plf_none z 0 (by omega) c
      have hz : z < 12 := by
        have := php n (z + 1) (fun i => if i = z then j else (uF 19 i).toNatClampNeg) (fun i hi => ?_) (fun i i' hi hi' e' => ?_)
        · omega
        · show (if i = z then j else (uF 19 i).toNatClampNeg) < n
          by_cases c : i = z
          · rw [if_pos c]; exact hj
          · rw [if_neg c]
            obtain ⟨o, ho, e1, e2⟩ := h6 i (by omega)
            rw [e1, cln (by omega)]
            exact ho
        · have e' : (if i = z then j else (uF 19 i).toNatClampNeg) = (if i' = z then j else (uF 19 i').toNatClampNeg) := e'
          by_cases c : i = z
          · by_cases d : i' = z
            · omega
            · rw [if_pos c, if_neg d] at e'
              obtain ⟨o, ho, e1, e2⟩ := h6 i' (by omega)
              rw [e1, cln (by omega)] at e'
              exact absurd (by rw [e1, e, e']) (hnone i' (by omega) (by omega))
          · by_cases d : i' = z
            · rw [if_neg c, if_pos d] at e'
              obtain ⟨o, ho, e1, e2⟩ := h6 i (by omega)
              rw [e1, cln (by omega)] at e'
              exact absurd (by rw [e1, e, e']) (hnone i (by omega) (by omega))
            · rw [if_neg c, if_neg d] at e'
              obtain ⟨o, ho, e1, e2⟩ := h6 i (by omega)
              obtain ⟨o', ho', e1', e2'⟩ := h6 i' (by omega)
              rw [e1, e1', cln (by omega), cln (by omega)] at e'
              exact h7 i i' (by omega) (by omega) (by rw [e1, e1', e'])
      unfold wp_X6_append wp_X6_size wp_X11_done
      rw [su_n _ _ _ (show (18 : Nat) ≠ 19 by decide), h4, cln (by omega)]
      refine ⟨fun c => absurd c (nle_nI (b := 12) hz (by decide)), fun _ => ⟨vp_in_nI (by omega) (by decide), ?_⟩⟩
      refine sp_isJob n1 n3 (fun j' hj' e' => ⟨fun _ => ?_, fun c => absurd c (by decide)⟩) (fun hno => absurd e (hno j hj))
      refine sp_mPlaceOf h3 h5 ⟨fun _ => ?_, fun c' => absurd (by rw [← epl]; exact c) c'⟩
      unfold wp_X12_done
      rw [su_n _ _ _ (show (0 : Nat) ≠ 6 by decide), h5, cln (by omega)]
      refine ⟨vp_in_nI (by omega) (by decide), by rw [su_at, su_at], ?_⟩
      refine Rel.mono hY (Rel.st hY (k := k) ?_ 0)
      have f : ∀ c, c ≠ 18 → c ≠ 19 → su (su uF 19 z a) 18 1 (nI z + 1) c = uF c := fun c h1 h2 => by rw [su_n _ _ _ h1, su_n _ _ _ h2]
      have m : ∀ c, c ≠ 0 → c ≠ 6 → su (su uM 6 z a) 0 7 (nI z + 1) c = uM c := fun c h1 h2 => by rw [su_n _ _ _ h1, su_n _ _ _ h2]
      have m0 : ∀ j, j ≠ 7 → su (su uM 6 z a) 0 7 (nI z + 1) 0 j = uM 0 j := fun j hj => by rw [su_ne _ _ hj, su_n _ _ _ (show (0 : Nat) ≠ 6 by decide)]
      have r19 : ∀ i, su (su uF 19 z a) 18 1 (nI z + 1) 19 i = if i = z then a else uF 19 i := fun i => by
        rw [su_n _ _ _ (show (19 : Nat) ≠ 18 by decide), su_s]
        rfl
      have r6 : ∀ i, su (su uM 6 z a) 0 7 (nI z + 1) 6 i = if i = z then a else uM 6 i := fun i => by
        rw [su_n _ _ _ (show (6 : Nat) ≠ 0 by decide), su_s]
        rfl
      obtain ⟨t, t1, t2, t3, t4⟩ := ht
      refine ⟨by rw [f 0 (by decide) (by decide), m0 14 (by decide)]; exact h1, ⟨n, hY.2.2 _ _ _ _ _ _ (fun c _ h18 h19 _ _ _ => f c h18 h19) (m0 0 (by decide)) (m0 8 (by decide)) (fun c h0 _ h6 _ => m c h0 h6) h2, z + 1, by omega, by rw [su_at, nI_1], by rw [su_at, nI_1], fun i hi => ?_, fun i i' hi hi' e' => ?_⟩, ⟨t, t1, by rw [f 25 (by decide) (by decide)]; exact t2, by rw [m0 16 (by decide)]; exact t3, ?_⟩, ?_⟩
      · rw [r19, r6]
        by_cases c : i = z
        · rw [if_pos c, if_pos c]
          exact ⟨j, hj, e, e⟩
        · rw [if_neg c, if_neg c]
          exact h6 i (by omega)
      · rw [r19, r19] at e'
        by_cases c : i = z
        · by_cases d : i' = z
          · omega
          · rw [if_pos c, if_neg d] at e'
            exact absurd e'.symm (hnone i' (by omega) (by omega))
        · by_cases d : i' = z
          · rw [if_neg c, if_pos d] at e'
            exact absurd e' (hnone i (by omega) (by omega))
          · rw [if_neg c, if_neg d] at e'
            exact h7 i i' (by omega) (by omega) e'
      · rw [f 26 (by decide) (by decide), m 12 (by decide) (by decide)]
        exact t4
      · intro s hs'
        rw [f _ (by omega) (by omega), f _ (by omega) (by omega), m 9 (by decide) (by decide), m 10 (by decide) (by decide), m 11 (by decide) (by decide)]
        exact hs s hs'
    · unfold wp_X11_refused
      refine sp_isJob n1 n3 (fun j' hj' e' => ⟨fun _ => ?_, fun c => absurd c (by decide)⟩) (fun hno => absurd e (hno j hj))
      refine sp_mPlaceOf h3 h5 ⟨fun c' => absurd (by rw [epl]; exact c') c, fun _ => ?_⟩
      exact ⟨rfl, (h.st hY 3).mono hY⟩
  · unfold wp_X11_refused
    refine sp_isJob n1 n3 (fun j' hj' e' => absurd e' (hno j' hj')) (fun _ => ⟨fun c => absurd rfl c, fun _ => ?_⟩)
    exact ⟨rfl, (h.st hY 1).mono hY⟩
end
