/-! What the yard's part must show of both sides; close under the relation; ahead. -/
def View (RY : Nat → Nat → St → St → Prop) : Prop := ∀ k n uF uM, RY k n uF uM → ∃ (L Wt T : Nat → Nat) (E : Nat → Nat → Bool),
  (∀ j, j < n → uF 3 j = nI (L j) ∧ 1 ≤ L j ∧ L j ≤ 100 ∧ uF 4 j = nI (Wt j) ∧ Wt j ≤ 100 ∧ uF 5 j = nI (T j) ∧ T j ≤ 500) ∧ FD uF n L Wt E ∧ (∀ a, a < n → ∀ b, b < 32 → bt (uF 6 a) b = E a b) ∧ (∀ b, b < n → ∀ a, a < 32 → bt (uM 4 b) a = E a b) ∧ (∀ a b, E a b = true → a < n ∧ b < n) ∧ (∀ a, a < n → Pc E n a a = false)
theorem Pc_in {E : Nat → Nat → Bool} {n : Nat} (h : ∀ a b, E a b = true → a < n ∧ b < n) : ∀ k a b, Pc E k a b = true → a < n ∧ b < n
  | 0, a, b, q => h a b q
  | k + 1, a, b, q => by
    simp only [Pc, Bool.or_eq_true, Bool.and_eq_true] at q
    rcases q with q | ⟨q1, q2⟩
    · exact Pc_in h k a b q
    · exact ⟨(Pc_in h k a k q1).1, (Pc_in h k k b q2).2⟩
section
variable {RY : Nat → Nat → St → St → Prop} {k n : Nat} {uF uM v : St} {Post : Int32 → St → Prop}
theorem Rel.closed (hY : RYok RY) (h : Rel RY k uF uM) (e : ∀ c, c ≠ 5 → v c = uM c) : Rel RY k uF v := by
  obtain ⟨h1, ⟨n, h2, z, h3, h4, h5, h6, h7⟩, ⟨t, t1, t2, t3, t4⟩, hs⟩ := h
  have e0 := e 0 (by decide)
  refine ⟨by rw [e0]; exact h1, ⟨n, hY.2.2 _ _ _ _ _ _ (fun _ _ _ _ _ _ _ => rfl) (by rw [e0]) (by rw [e0]) (fun c _ h5 _ _ => e c h5) h2, z, h3, h4, by rw [e0]; exact h5, by rw [e 6 (by decide)]; exact h6, h7⟩, ⟨t, t1, t2, by rw [e0]; exact t3, by rw [e 12 (by decide)]; exact t4⟩, ?_⟩
  intro s hs'
  rw [e 9 (by decide), e 10 (by decide), e 11 (by decide)]
  exact hs s hs'
/-- close on the reference's side: its rows 'must' are then the class's rows 'ahead' -/
theorem sp_cl (hY : RYok RY) (hV : View RY) (hr : RY k n uF uM) (h : ∀ v : St, (∀ c, c ≠ 5 → v c = uM c) → (∀ j, j < n → v 5 j = uF 7 j) → Post 0 v) : wp_X12_close uM Post := by
  obtain ⟨n1, n2, n3, n4⟩ := hY.1 _ _ _ _ hr
  obtain ⟨L, Wt, T, E, hm, hD, hF6, hM4, hin, hac⟩ := hV _ _ _ _ hr
  refine sp_close n1 n3 fun v e1 e2 => h v e1 fun j hj => b_ext fun a ha => ?_
  rw [e2 j hj a ha, hD.2.1 j hj a ha]
  have e3 : Pc (fun j a => bt (uM 4 j) a) n j a = Pc (fun x y => E y x) n j a := Pc_congr (n := n) (fun j hj a ha => hM4 j hj a ha) n (Nat.le_refl n) (by omega) j hj a ha
  rw [e3, Pc_flip]
  cases q : Pc E n a j
  · rw [Bool.and_false]
  · rw [decide_eq_true (Pc_in hin n a j q).1]
    rfl
theorem ok_ahead (hY : RYok RY) (hV : View RY) : Ok_ahead (Rel RY) := by
  intro k a1 a2 uF uM hk h
  obtain ⟨h1, ⟨n, h2, hl⟩, ht, hs⟩ := id h
  obtain ⟨n1, n2, n3, n4⟩ := hY.1 _ _ _ _ h2
  obtain ⟨L, Wt, T, E, hm, hD, hF6, hM4, hin, hac⟩ := hV _ _ _ _ h2
  unfold wp_X11_ahead wp_X12_ahead
  refine sp_hasJob n1 n2 (fun a ha e => ⟨fun c => absurd c (by decide), fun _ => ?_⟩) (fun hno => ⟨fun _ => ?_, fun c => absurd rfl c⟩)
  · subst e
    refine sp_hasJob n1 n2 (fun b hb e => ⟨fun _ => ?_, fun c => absurd c (by decide)⟩) (fun hno => ⟨fun c => absurd rfl c, fun _ => ?_⟩)
    · subst e
      have va : vp_in (nI a) 12 := vp_in_nI (by omega) (by decide)
      have vb : vp_in (nI b) 12 := vp_in_nI (by omega) (by decide)
      have hM : ∀ r : Int32, r = (if E a b = true then 2 else if Pc E n a b = true then 1 else 0) → wp_X12_isJob (nI a) uM (fun r2 u2 => ((r2 = 0) → ((r = (-1 : Int32)) ∧ Rel RY (k + 1) uF u2)) ∧ ((¬ r2 = 0) → (wp_X12_isJob (nI b) u2 (fun r10 u10 => ((¬ r10 = 0) → (wp_X12_close u10 (fun _ u19 => vp_in (nI b) 12 ∧ (wp_X12_has (u19 4 (Int32.toNatClampNeg (nI b))) (nI a) u19 (fun r29 u29 => ((r29 = 0) → (vp_in (nI b) 12 ∧ (wp_X12_has (u29 5 (Int32.toNatClampNeg (nI b))) (nI a) u29 (fun r46 u46 => ((r46 = 0) → (r = (0 : Int32) ∧ Rel RY (k + 1) uF u46)) ∧ ((¬ r46 = 0) → (r = (1 : Int32) ∧ Rel RY (k + 1) uF u46)))))) ∧ ((¬ r29 = 0) → (r = (2 : Int32) ∧ Rel RY (k + 1) uF u29))))))) ∧ ((r10 = 0) → ((r = (-1 : Int32)) ∧ Rel RY (k + 1) uF u10)))))) := by
        intro r hr
        refine sp_isJob n1 n3 (fun _ _ _ => ⟨fun c => absurd c (by decide), fun _ => ?_⟩) (fun hno => absurd rfl (hno a ha))
        refine sp_isJob n1 n3 (fun _ _ _ => ⟨fun _ => ?_, fun c => absurd c (by decide)⟩) (fun hno => absurd rfl (hno b hb))
        refine sp_cl hY hV h2 fun v e1 e2 => ⟨vb, ?_⟩
        have hR : Rel RY (k + 1) uF v := (h.closed hY e1).mono hY
        rw [cln (by omega), e1 4 (by decide)]
        refine sp_has (by omega) ?_
        rw [hM4 b hb a (by omega)]
        by_cases q : E a b = true
        · rw [if_pos q] at hr ⊢
          exact ⟨fun c => absurd c (by decide), fun _ => ⟨hr, hR⟩⟩
        · rw [if_neg q] at hr ⊢
          refine ⟨fun _ => ⟨vb, ?_⟩, fun c => absurd rfl c⟩
          rw [e2 b hb]
          refine sp_has (by omega) ?_
          rw [hD.2.1 b hb a (by omega), decide_eq_true ha, Bool.true_and]
          by_cases q2 : Pc E n a b = true
          · rw [if_pos q2] at hr ⊢
            exact ⟨fun c => absurd c (by decide), fun _ => ⟨hr, hR⟩⟩
          · rw [if_neg q2] at hr ⊢
            exact ⟨fun _ => ⟨hr, hR⟩, fun c => absurd rfl c⟩
      unfold wp_X10_isLaid wp_X10_isAhead wp_X11_asNumber
      rw [cln (i := a) (by omega)]
      refine ⟨va, sp_hasBit (by omega) ?_⟩
      rw [hF6 a ha b (by omega)]
      by_cases q : E a b = true
      · rw [if_pos q]
        exact ⟨Or.inr rfl, fun c => absurd c (by decide), fun _ => hM 2 (by rw [if_pos q])⟩
      · rw [if_neg q]
        refine ⟨Or.inl rfl, fun _ => ⟨va, sp_hasBit (by omega) ?_⟩, fun c => absurd rfl c⟩
        rw [hD.1 a ha b (by omega)]
        by_cases q2 : Pc E n a b = true
        · rw [if_pos q2]
          exact ⟨Or.inr rfl, fun c => absurd c (by decide), fun _ => hM 1 (by rw [if_neg q, if_pos q2])⟩
        · rw [if_neg q2]
          exact ⟨Or.inl rfl, fun _ => hM 0 (by rw [if_neg q, if_neg q2]), fun c => absurd rfl c⟩
    · refine sp_isJob n1 n3 (fun _ _ _ => ⟨fun c => absurd c (by decide), fun _ => ?_⟩) (fun hno => absurd rfl (hno a ha))
      refine sp_isJob n1 n3 (fun j hj e => absurd e (hno j hj)) (fun _ => ⟨fun c => absurd rfl c, fun _ => ⟨rfl, h.mono hY⟩⟩)
  · refine sp_isJob n1 n3 (fun j hj e => absurd e (hno j hj)) (fun _ => ⟨fun _ => ⟨rfl, h.mono hY⟩, fun c => absurd rfl c⟩)
end
