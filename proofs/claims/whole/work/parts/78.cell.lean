/-! cell and sheet keep the relation. -/
section
variable {RY : Nat → Nat → St → St → Prop} {k : Nat} {uF uM vF vM u w : St} {a hi : Int32} {m : Nat} {Post : Int32 → St → Prop}
theorem Rel.sheet (hY : RYok RY) (h : Rel RY k uF uM) (f : ∀ c, c < 33 → vF c = uF c) (g : ∀ c, c ≠ 9 → c ≠ 10 → c ≠ 11 → vM c = uM c) (hs : RSh vF vM) : Rel RY k vF vM := by
  obtain ⟨h1, ⟨n, h2, z, h3, h4, h5, h6, h7⟩, ⟨t, t1, t2, t3, t4⟩, -⟩ := h
  have g0 := g 0 (by decide) (by decide) (by decide)
  refine ⟨by rw [f 0 (by decide), g0]; exact h1, ⟨n, hY.2.2 _ _ _ _ _ _ (fun c _ _ _ _ _ h => f c h) (by rw [g0]) (by rw [g0]) (fun c _ _ _ h => g c (by omega) (by omega) (by omega)) h2, z, h3, by rw [f 18 (by decide)]; exact h4, by rw [g0]; exact h5, ?_, ?_⟩, ⟨t, t1, by rw [f 25 (by decide)]; exact t2, by rw [g0]; exact t3, ?_⟩, hs⟩
  · rw [f 19 (by decide), g 6 (by decide) (by decide) (by decide)]
    exact h6
  · rw [f 19 (by decide)]
    exact h7
  · rw [f 26 (by decide), g 12 (by decide) (by decide) (by decide)]
    exact t4
theorem sp_in0 (hm : m < 2 ^ 20) (e : hi = nI m - nI 1) (h1 : ∀ j, j < m → a = nI j → Post 1 w) (h2 : (∀ j, j < m → a ≠ nI j) → Post 0 w) : wp_X12_in a 0 hi w Post := by
  unfold wp_X12_in
  rw [e]
  have key := in_lt (a := a) (m := m) hm
  refine ⟨fun c => h2 fun j hj e => (key.mpr ⟨j, hj, e⟩).1 c, fun c => ⟨fun d => h2 fun j hj e => (key.mpr ⟨j, hj, e⟩).2 d, fun d => ?_⟩⟩
  obtain ⟨j, hj, e⟩ := key.mp ⟨c, d⟩
  exact h1 j hj e
theorem sp_isSheet (h1 : ∀ j, j < 6 → a = nI j → Post 1 u) (h2 : (∀ j, j < 6 → a ≠ nI j) → Post 0 u) : wp_X11_isSheet a u Post := by
  unfold wp_X11_isSheet
  refine ⟨fun c => h2 fun j hj e => ?_, fun c => ⟨fun d => h2 fun j hj e => ?_, fun d => ?_⟩⟩
  · rw [e] at c
    exact nI_pos (by omega) c
  · rw [e] at d
    exact nle_nI (b := 6) hj (by decide) d
  · obtain ⟨j, hj, rfl⟩ := nI_of c
    refine h1 j ?_ rfl
    rcases Nat.lt_or_ge j 6 with q | q
    · exact q
    · exact absurd (nI_le (a := 6) q hj) d
theorem ix20 (s i : Nat) : ((20 : Int32) * nI s) + nI i = nI (20 * s + i) := by
  show nI 20 * nI s + nI i = _
  rw [pk_mul, nI_add]
set_option maxHeartbeats 1000000 in
theorem ok_cell (hY : RYok RY) : Ok_cell (Rel RY) := by
  intro k a1 a2 a3 uF uM hk h
  have hs := h.2.2.2
  unfold wp_X11_cell wp_X12_cell
  refine sp_isSheet (fun s hs6 e => ⟨fun _ => ?_, fun c => absurd c (by decide)⟩) (fun hno => ⟨fun c => absurd rfl c, fun _ => ?_⟩)
  · subst e
    have v6 : vp_in (nI s) 6 := vp_in_nI hs6 (by decide)
    refine ⟨v6, ?_⟩
    obtain ⟨s1, s2, z, s3, s4, s5, s6, s7⟩ := hs s hs6
    unfold wp_X8_isMissing
    rw [cln (i := s) (by omega)]
    have M1 : ∀ P : Int32 → St → Prop, ((¬ (1 : Int32) = 0) → P 1 uM) → P 1 uM := fun P h => h (by decide)
    have hMis : uF (34 + 2 * s) 1 = -1 → wp_X12_in (nI s) 0 5 uM (fun r3 u3 => ((¬ r3 = 0) → (vp_in (nI s) 6 ∧ (((¬ (u3 9 s) = (-1 : Int32)) → (vp_in (nI s) 6 ∧ (wp_X12_in a2 (0 : Int32) ((u3 10 s) - (1 : Int32)) u3 (fun r42 u42 => ((¬ r42 = 0) → (vp_in (nI s) 6 ∧ (((¬ (u42 9 s) = 0) → (vp_in (((20 : Int32) * nI s) + a2) 120 ∧ (wp_X12_done (1 : Int32) (su u42 11 (Int32.toNatClampNeg (((20 : Int32) * nI s) + a2)) a3) (fun r85 u85 => (-1 : Int32) = r85 ∧ Rel RY (k + 1) (su uF 0 7 10) u85)))) ∧ (((u42 9 s) = 0) → (vp_in (((20 : Int32) * nI s) + a2) 120 ∧ (wp_X12_done (1 : Int32) (su u42 11 (Int32.toNatClampNeg (((20 : Int32) * nI s) + a2)) ((Int32.toInt16 a3).toInt32)) (fun r85 u85 => (-1 : Int32) = r85 ∧ Rel RY (k + 1) (su uF 0 7 10) u85))))))) ∧ ((r42 = 0) → (wp_X12_refused (12 : Int32) u42 (fun r51 u51 => (-1 : Int32) = r51 ∧ Rel RY (k + 1) (su uF 0 7 10) u51))))))) ∧ (((u3 9 s) = (-1 : Int32)) → (wp_X12_refused (10 : Int32) u3 (fun r28 u28 => (-1 : Int32) = r28 ∧ Rel RY (k + 1) (su uF 0 7 10) u28)))))) ∧ ((r3 = 0) → (wp_X12_refused (1 : Int32) u3 (fun r11 u11 => (-1 : Int32) = r11 ∧ Rel RY (k + 1) (su uF 0 7 10) u11)))) := by
      intro q
      refine sp_in0 (m := 6) (by decide) (by decide) (fun j hj e => ⟨fun _ => ⟨v6, fun c => absurd (by rw [s2]; exact q) c, fun _ => ?_⟩, fun c => absurd c (by decide)⟩) (fun hno => absurd rfl (hno s hs6))
      exact ⟨rfl, (h.st hY 10).mono hY⟩
    refine ⟨fun c => ⟨fun _ => ?_, fun c => absurd rfl c⟩, fun c => ⟨fun c => absurd c (by decide), fun _ => hMis c⟩⟩
    have ns : uM 9 s ≠ -1 := by rw [s2]; exact c
    have hno12 : (∀ j, j < z → a2 ≠ nI j) → wp_X12_in (nI s) 0 5 uM (fun r3 u3 => ((¬ r3 = 0) → (vp_in (nI s) 6 ∧ (((¬ (u3 9 s) = (-1 : Int32)) → (vp_in (nI s) 6 ∧ (wp_X12_in a2 (0 : Int32) ((u3 10 s) - (1 : Int32)) u3 (fun r42 u42 => ((¬ r42 = 0) → (vp_in (nI s) 6 ∧ (((¬ (u42 9 s) = 0) → (vp_in (((20 : Int32) * nI s) + a2) 120 ∧ (wp_X12_done (1 : Int32) (su u42 11 (Int32.toNatClampNeg (((20 : Int32) * nI s) + a2)) a3) (fun r85 u85 => (-1 : Int32) = r85 ∧ Rel RY (k + 1) (su uF 0 7 12) u85)))) ∧ (((u42 9 s) = 0) → (vp_in (((20 : Int32) * nI s) + a2) 120 ∧ (wp_X12_done (1 : Int32) (su u42 11 (Int32.toNatClampNeg (((20 : Int32) * nI s) + a2)) ((Int32.toInt16 a3).toInt32)) (fun r85 u85 => (-1 : Int32) = r85 ∧ Rel RY (k + 1) (su uF 0 7 12) u85))))))) ∧ ((r42 = 0) → (wp_X12_refused (12 : Int32) u42 (fun r51 u51 => (-1 : Int32) = r51 ∧ Rel RY (k + 1) (su uF 0 7 12) u51))))))) ∧ (((u3 9 s) = (-1 : Int32)) → (wp_X12_refused (10 : Int32) u3 (fun r28 u28 => (-1 : Int32) = r28 ∧ Rel RY (k + 1) (su uF 0 7 12) u28)))))) ∧ ((r3 = 0) → (wp_X12_refused (1 : Int32) u3 (fun r11 u11 => (-1 : Int32) = r11 ∧ Rel RY (k + 1) (su uF 0 7 12) u11)))) := by
      intro q
      refine sp_in0 (m := 6) (by decide) (by decide) (fun j hj e => ⟨fun _ => ⟨v6, fun _ => ⟨v6, ?_⟩, fun c => absurd c ns⟩, fun c => absurd c (by decide)⟩) (fun hno => absurd rfl (hno s hs6))
      refine sp_in0 (m := z) (by omega) (by rw [s5]; rfl) (fun j hj e => absurd e (q j hj)) (fun _ => ⟨fun c => absurd rfl c, fun _ => ?_⟩)
      exact ⟨rfl, (h.st hY 12).mono hY⟩
    unfold wp_X8_size
    rw [s4]
    refine ⟨fun c2 => hno12 fun j hj e => absurd c2 (by rw [e]; exact nI_pos (by omega)), fun c2 => ⟨fun d => ?_, fun d => hno12 fun j hj e => d (by rw [e]; exact nI_lt hj (by omega))⟩⟩
    obtain ⟨i, hib, rfl⟩ := nI_of c2
    have hi : i < z := by
      rcases Nat.lt_or_ge i z with q | q
      · exact q
      · exact absurd d (nI_nlt q hib)
    have vi : vp_in (nI i) 20 := vp_in_nI (by omega) (by decide)
    have fin : ∀ v : Int32, Rel RY (k + 1) (su (su uF (35 + 2 * s) i v) 0 7 0) (su (su uM 11 (20 * s + i) v) 0 14 0) := by
      intro v
      refine ((h.sheet hY (vF := su uF (35 + 2 * s) i v) (vM := su uM 11 (20 * s + i) v) (fun c hc => su_n _ _ _ (by omega)) (fun c _ _ h11 => su_n _ _ _ h11) ?_).st hY 0).mono hY
      intro s' hs'
      obtain ⟨r1, r2, z', r3, r4, r5, r6, r7⟩ := hs s' hs'
      rw [su_n _ _ _ (show 34 + 2 * s' ≠ 35 + 2 * s by omega), su_n _ _ _ (show (9 : Nat) ≠ 11 by decide), su_n _ _ _ (show (10 : Nat) ≠ 11 by decide)]
      refine ⟨r1, r2, z', r3, r4, r5, r6, fun j hj => ?_⟩
      by_cases e : s' = s
      · subst e
        by_cases d2 : j = i
        · subst d2
          rw [su_at, su_at]
        · rw [su_ne _ _ d2, su_ne _ _ (by omega)]
          exact r7 j hj
      · rw [su_n _ _ _ (show 35 + 2 * s' ≠ 35 + 2 * s by omega), su_ne _ _ (show 20 * s' + j ≠ 20 * s + i by omega)]
        exact r7 j hj
    unfold wp_X8_write wp_X11_done
    rw [cln (i := i) hib]
    have hW : ∀ v : Int32, ((uF (34 + 2 * s) 1 = 0 → v = (Int32.toInt16 a3).toInt32) ∧ (¬ uF (34 + 2 * s) 1 = 0 → v = a3)) → wp_X12_in (nI s) 0 5 uM (fun r3 u3 => ((¬ r3 = 0) → (vp_in (nI s) 6 ∧ (((¬ (u3 9 s) = (-1 : Int32)) → (vp_in (nI s) 6 ∧ (wp_X12_in (nI i) (0 : Int32) ((u3 10 s) - (1 : Int32)) u3 (fun r42 u42 => ((¬ r42 = 0) → (vp_in (nI s) 6 ∧ (((¬ (u42 9 s) = 0) → (vp_in (((20 : Int32) * nI s) + nI i) 120 ∧ (wp_X12_done (1 : Int32) (su u42 11 (Int32.toNatClampNeg (((20 : Int32) * nI s) + nI i)) a3) (fun r85 u85 => (1 : Int32) = r85 ∧ Rel RY (k + 1) (su (su uF (35 + 2 * s) i v) 0 7 0) u85)))) ∧ (((u42 9 s) = 0) → (vp_in (((20 : Int32) * nI s) + nI i) 120 ∧ (wp_X12_done (1 : Int32) (su u42 11 (Int32.toNatClampNeg (((20 : Int32) * nI s) + nI i)) ((Int32.toInt16 a3).toInt32)) (fun r85 u85 => (1 : Int32) = r85 ∧ Rel RY (k + 1) (su (su uF (35 + 2 * s) i v) 0 7 0) u85))))))) ∧ ((r42 = 0) → (wp_X12_refused (12 : Int32) u42 (fun r51 u51 => (1 : Int32) = r51 ∧ Rel RY (k + 1) (su (su uF (35 + 2 * s) i v) 0 7 0) u51))))))) ∧ (((u3 9 s) = (-1 : Int32)) → (wp_X12_refused (10 : Int32) u3 (fun r28 u28 => (1 : Int32) = r28 ∧ Rel RY (k + 1) (su (su uF (35 + 2 * s) i v) 0 7 0) u28)))))) ∧ ((r3 = 0) → (wp_X12_refused (1 : Int32) u3 (fun r11 u11 => (1 : Int32) = r11 ∧ Rel RY (k + 1) (su (su uF (35 + 2 * s) i v) 0 7 0) u11)))) := by
      intro v hv
      refine sp_in0 (m := 6) (by decide) (by decide) (fun j hj e => ⟨fun _ => ⟨v6, fun _ => ⟨v6, ?_⟩, fun c => absurd c ns⟩, fun c => absurd c (by decide)⟩) (fun hno => absurd rfl (hno s hs6))
      refine sp_in0 (m := z) (by omega) (by rw [s5]; rfl) (fun j hj e => ⟨fun _ => ⟨v6, fun q => ?_, fun q => ?_⟩, fun c => absurd c (by decide)⟩) (fun hno => absurd rfl (hno i hi))
      · rw [s2] at q
        rw [ix20, cln (by omega), ← hv.2 q]
        exact ⟨vp_in_nI (by omega) (by decide), rfl, fin v⟩
      · rw [s2] at q
        rw [ix20, cln (by omega), ← hv.1 q]
        exact ⟨vp_in_nI (by omega) (by decide), rfl, fin v⟩
    exact ⟨fun q => ⟨vi, hW _ ⟨fun q2 => absurd q2 q, fun _ => rfl⟩⟩, fun q => ⟨vi, hW _ ⟨fun _ => rfl, fun q2 => absurd q q2⟩⟩⟩
  · unfold wp_X11_refused
    refine sp_in0 (m := 6) (by decide) (by decide) (fun j hj e => absurd e (hno j hj)) (fun _ => ⟨fun c => absurd rfl c, fun _ => ?_⟩)
    exact ⟨rfl, (h.st hY 1).mono hY⟩
end
