section
variable {RY : Nat → Nat → St → St → Prop}
theorem sp_take {u : St} {j : Nat} {Post : Int32 → St → Prop} (hj : j < 12) (h : ∀ v : St, (∀ c, c ≠ 25 → v c = u c) → tF v [] = v → v 25 2 = u 3 j → v 25 3 = u 4 j → v 25 4 = u 5 j → v 25 5 = bcF (u 7 j) → Post 0 v) : wp_X0_take (nI j) u Post := by
  unfold wp_X0_take wp_X10_measure wp_X10_aheadOf
  have v12 : vp_in (nI j) 12 := vp_in_nI hj (by decide)
  have n3 : ∀ q, q < 3 → vp_in (nI q) 3 := fun q hq => vp_in_nI hq (by decide)
  refine ⟨n3 0 (by decide), v12, n3 1 (by decide), v12, n3 2 (by decide), v12, v12, sp_bitCount ?_⟩
  rw [cln (by omega)]
  simp only [tn_0, tn_1, tn_2]
  have sn : ∀ (w : St) (i : Nat) (y : Int32) (c : Nat), c ≠ 25 → su w 25 i y c = w c := fun w i y c hc => su_n _ _ _ hc
  refine h _ (fun c hc => by rw [sn _ _ _ _ hc, sn _ _ _ _ hc, sn _ _ _ _ hc, sn _ _ _ _ hc, sn _ _ _ _ hc]) ?_ ?_ ?_ ?_ ?_
  · funext c i
    unfold tF
    by_cases e : c = 25
    · subst e
      rw [if_pos rfl]
      by_cases e2 : i = 1
      · subst e2
        rw [if_pos rfl, su_ne _ _ (by decide), su_ne _ _ (by decide), su_ne _ _ (by decide), su_ne _ _ (by decide), su_at]
        rfl
      · rw [if_neg e2]
    · rw [if_neg e]
      by_cases e2 : c = 26
      · rw [if_pos e2, e2]
        rfl
      · rw [if_neg e2]
  · rw [su_ne _ _ (by decide), su_ne _ _ (by decide), su_ne _ _ (by decide), su_at, sn _ _ _ _ (by decide)]
  · rw [su_ne _ _ (by decide), su_ne _ _ (by decide), su_at, sn _ _ _ _ (by decide), sn _ _ _ _ (by decide)]
  · rw [su_ne _ _ (by decide), su_at, sn _ _ _ _ (by decide), sn _ _ _ _ (by decide), sn _ _ _ _ (by decide)]
  · rw [su_at, sn _ _ _ _ (by decide), sn _ _ _ _ (by decide), sn _ _ _ _ (by decide), sn _ _ _ _ (by decide)]
theorem act_rel (hY : RYok RY) {k : Nat} {uF uM vF vM : St} {l : List Int32} (h : Rel RY k uF uM) (hl : l.length ≤ 50) (f : ∀ c, c ≠ 25 → vF c = uF c) (g : ∀ c, c ≠ 5 → vM c = uM c) : Rel RY (k + 1) (su (tF vF l) 0 7 0) (su (tM (su vM 0 16 0) l) 0 14 0) := by
  refine ((?_ : Rel RY k (tF vF l) (tM (su vM 0 16 0) l)).st hY 0).mono hY
  obtain ⟨h1, ⟨n, h2, z, h3, h4, h5, h6, h7⟩, ht, hs⟩ := h
  have f' : ∀ c, c ≠ 25 → c ≠ 26 → tF vF l c = uF c := fun c h1 h2 => by rw [tF_n _ _ h1 h2, f c h1]
  have m' : ∀ c, c ≠ 0 → c ≠ 5 → c ≠ 12 → tM (su vM 0 16 0) l c = uM c := fun c h1 h2 h3 => by rw [tM_n _ _ h1 h3, su_n _ _ _ h1, g c h2]
  have m0 : ∀ i, i ≠ 16 → tM (su vM 0 16 0) l 0 i = uM 0 i := fun i hi => by rw [tM_0 _ _ hi, su_ne _ _ hi, g 0 (by decide)]
  refine ⟨by rw [f' 0 (by decide) (by decide), m0 14 (by decide)]; exact h1, ⟨n, hY.2.2 _ _ _ _ _ _ (fun c _ _ _ h25 h26 _ => f' c h25 h26) (m0 0 (by decide)) (m0 8 (by decide)) (fun c h0 h5 _ _ => m' c h0 h5 (by omega)) h2, z, h3, by rw [f' 18 (by decide) (by decide)]; exact h4, by rw [m0 7 (by decide)]; exact h5, ?_, ?_⟩, ⟨l.length, hl, tF_c _ _, tM_c _ _, ?_⟩, ?_⟩
  · rw [f' 19 (by decide) (by decide), m' 6 (by decide) (by decide) (by decide)]
    exact h6
  · rw [f' 19 (by decide) (by decide)]
    exact h7
  · intro i hi
    unfold tF tM
    simp [hi]
  · intro s hs'
    rw [f' _ (by omega) (by omega), f' _ (by omega) (by omega), m' 9 (by decide) (by decide) (by decide), m' 10 (by decide) (by decide) (by decide), m' 11 (by decide) (by decide) (by decide)]
    exact hs s hs'
set_option maxHeartbeats 1000000 in
theorem ok_act (hY : RYok RY) (hV : View RY) : Ok_act (Rel RY) := by
  intro k a1 a2 a3 uF uM hk h
  obtain ⟨h1, ⟨n, h2, hl⟩, ht, hs⟩ := id h
  obtain ⟨n1, n2, n3, n4⟩ := hY.1 _ _ _ _ h2
  obtain ⟨L, Wt, T, E, hm, hD, hF6, hM4, hin, hac⟩ := hV _ _ _ _ h2
  have st : ∀ v : Int32, Rel RY (k + 1) (su uF 0 7 v) (su uM 0 14 v) := fun v => (h.st hY v).mono hY
  unfold wp_X11_act
  refine sp_hasJob n1 n2 (fun j hj e => ⟨fun c => absurd c (by decide), fun _ => ?_⟩) (fun hno => ⟨fun _ => ?_, fun c => absurd rfl c⟩)
  · subst e
    have mJ : ∀ Q : Int32 → St → Prop, Q 1 uM → wp_X12_isJob (nI j) uM Q := fun Q q => sp_isJob n1 n3 (fun _ _ _ => q) (fun hno => absurd rfl (hno j hj))
    have bad : (∀ i, i < 4 → a2 ≠ nI i) → wp_X12_act (nI j) a2 a3 uM (fun r2 uM2 => -1 = r2 ∧ Rel RY (k + 1) (su uF 0 7 1) uM2) := by
      intro q
      unfold wp_X12_act
      refine mJ _ ⟨fun c => absurd c (by decide), fun _ => sp_in0 (m := 4) (by decide) (by decide) (fun i hi e => absurd e (q i hi)) (fun _ => ⟨fun c => absurd rfl c, fun _ => ⟨rfl, st 1⟩⟩)⟩
    refine ⟨fun c => bad fun i hi e => absurd c (by rw [e]; exact nI_pos (by omega)), fun c => ⟨fun d => ?_, fun d => bad fun i hi e => d (by rw [e]; exact nI_le (b := 3) (by omega) (by decide))⟩⟩
    obtain ⟨ac, hac', rfl⟩ := nI_of2 (M := 3) (n := 3) (by decide) c d
    refine sp_take (by omega) fun v f t0 w2 w3 w4 w5 => ?_
    refine sp_kindOf (by omega) ?_
    rw [f 3 (by decide), f 4 (by decide), f 5 (by decide), f 7 (by decide)]
    have hk := kdF_in (uF 5 j) (uF 3 j) (uF 4 j) (uF 7 j)
    refine ⟨kd_vp hk, ?_⟩
    obtain ⟨d, hd, hkd⟩ := kd_nat hk
    rw [hkd]
    refine sp_body hd (by omega) t0 fun l hl el => ?_
    unfold wp_X12_act
    refine mJ _ ⟨fun c => absurd c (by decide), fun _ => sp_in0 (m := 4) (by decide) (by decide) (fun i hi e => ⟨fun _ => ?_, fun c => absurd c (by decide)⟩) (fun hno => absurd rfl (hno ac (by omega)))⟩
    refine sp_mKindOf hY hV h2 hj fun w g1 g5 => ?_
    rw [hkd]
    have fin := act_rel hY (l := l) h (by omega) f g1
    have w0 : tM (su w 0 16 0) [] = su w 0 16 0 := by
      funext c i
      unfold tM
      by_cases e : c = 0
      · subst e
        rw [if_pos rfl]
        by_cases e2 : i = 16
        · subst e2
          rw [if_pos rfl, su_at]
          rfl
        · rw [if_neg e2]
      · rw [if_neg e]
        by_cases e2 : c = 12
        · rw [if_pos e2, e2]
          rfl
        · rw [if_neg e2]
    rw [← w0]
    have q1 : su w 0 16 0 1 j = v 25 2 := by rw [su_n _ _ _ (by decide), g1 1 (by decide), w2]; exact (n4 0 (by omega) j hj).symm
    have q2 : su w 0 16 0 2 j = v 25 3 := by rw [su_n _ _ _ (by decide), g1 2 (by decide), w3]; exact (n4 1 (by omega) j hj).symm
    have q3 : su w 0 16 0 3 j = v 25 4 := by rw [su_n _ _ _ (by decide), g1 3 (by decide), w4]; exact (n4 2 (by omega) j hj).symm
    have q5 : nI (cb (bt (su w 0 16 0 5 j)) 12) = v 25 5 := by
      rw [su_n _ _ _ (by decide), g5 j hj, w5, bcF_cb]
      intro i hi hi2
      rw [hD.2.1 j hj i hi2, decide_eq_false (by omega), Bool.false_and]
    have e0 : nI ac = 0 ↔ ac = 0 := nI_eq (b := 0) (by omega) (by decide)
    have e1 : nI ac = 1 ↔ ac = 1 := nI_eq (b := 1) (by omega) (by decide)
    have e2 : nI ac = 2 ↔ ac = 2 := nI_eq (b := 2) (by omega) (by decide)
    refine ⟨fun c0 => ⟨fun c1 => ⟨fun c2 => ?_, fun c2 => ?_⟩, fun c1 => ?_⟩, fun c0 => ?_⟩
    · rw [e0] at c0; rw [e1] at c1; rw [e2] at c2
      rw [if_neg c0, if_neg c1, if_neg c2] at el ⊢
      refine sp_mTell hd (by omega) (by decide) ?_
      rw [q1, q2, q3, q5, ← el, List.append_nil]
      exact ⟨rfl, fin⟩
    · rw [e0] at c0; rw [e1] at c1; rw [e2] at c2
      rw [if_neg c0, if_neg c1, if_pos c2] at el ⊢
      refine sp_mFollow hd (by omega) (by decide) ?_
      rw [q5, ← el, List.append_nil]
      exact ⟨rfl, fin⟩
    · rw [e0] at c0; rw [e1] at c1
      rw [if_neg c0, if_pos c1] at el ⊢
      refine sp_mWeigh hd (by omega) (by decide) ?_
      rw [q1, q2, q3, q5, ← el, List.append_nil]
      exact ⟨rfl, fin⟩
    · rw [e0] at c0
      rw [if_pos c0] at el ⊢
      refine sp_mLast hd (by omega) (by decide) ?_
      rw [q1, q3, q5, ← el, List.append_nil]
      exact ⟨rfl, fin⟩
  · unfold wp_X11_refused wp_X12_act
    exact sp_isJob n1 n3 (fun j hj e => absurd e (hno j hj)) (fun _ => ⟨fun _ => ⟨rfl, st 1⟩, fun c => absurd rfl c⟩)
end
