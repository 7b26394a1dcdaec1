/-! swap keeps the relation. -/
def sw (u : St) (k i : Nat) : St := su (su u k i (u k (i + 1))) k (i + 1) (u k i)
theorem sw_n {u : St} {k i c : Nat} (h : c ≠ k) : sw u k i c = u c := by
  unfold sw
  rw [su_n _ _ _ h, su_n _ _ _ h]
theorem sw_v (u : St) (k i x : Nat) : sw u k i k x = if x = i then u k (i + 1) else if x = i + 1 then u k i else u k x := by
  unfold sw
  by_cases e : x = i + 1
  · subst e
    rw [su_at, if_neg (by omega), if_pos rfl]
  · rw [su_ne _ _ e]
    by_cases d : x = i
    · subst d
      rw [su_at, if_pos rfl]
    · rw [su_ne _ _ d, if_neg d, if_neg e]
theorem sw_sw (u : St) (k i : Nat) : sw (sw u k i) k i = u := by
  funext c
  by_cases h : c = k
  · subst h
    funext x
    rw [sw_v, sw_v, sw_v, sw_v]
    by_cases e : x = i
    · subst e
      rw [if_pos rfl, if_neg (by omega), if_pos rfl]
    · rw [if_neg e]
      by_cases d : x = i + 1
      · subst d
        rw [if_pos rfl, if_pos rfl]
      · rw [if_neg d, if_neg e, if_neg d]
  · rw [sw_n h, sw_n h]
theorem sp_exchange {u : St} {i : Nat} {Post : Int32 → St → Prop} (hi : i + 1 < 12) (h : Post 0 (sw u 19 i)) : wp_X6_exchange (nI i) u Post := by
  unfold wp_X6_exchange
  rw [nI_1, cln (by omega), cln (by omega)]
  have v1 : vp_in (nI i) 12 := vp_in_nI (by omega) (by decide)
  have v2 : vp_in (nI (i + 1)) 12 := vp_in_nI (by omega) (by decide)
  exact ⟨v1, v2, v1, v2, h⟩
theorem sp_change {u : St} {i : Nat} {Post : Int32 → St → Prop} (hi : i + 1 < 12) (h : Post 0 (sw u 6 i)) : wp_X12_change (nI i) u Post := by
  unfold wp_X12_change
  rw [nI_1, cln (by omega), cln (by omega)]
  have v1 : vp_in (nI i) 12 := vp_in_nI (by omega) (by decide)
  have v2 : vp_in (nI (i + 1)) 12 := vp_in_nI (by omega) (by decide)
  exact ⟨v1, v2, v1, v2, h⟩
section
variable {RY : Nat → Nat → St → St → Prop}
theorem ok_swap (hY : RYok RY) : Ok_swap (Rel RY) := by
  intro k a uF uM hk h
  obtain ⟨h1, ⟨n, h2, z, h3, h4, h5, h6, h7⟩, ht, hs⟩ := id h
  obtain ⟨n1, n2, n3, n4⟩ := hY.1 _ _ _ _ h2
  have vi : ∀ i, i < z → vp_in (uF 19 i) 12 ∧ vp_in (uM 6 i) 12 := fun i hi => by
    obtain ⟨o, ho, e1, e2⟩ := h6 i hi
    rw [e1, e2]
    exact ⟨vp_in_nI (by omega) (by decide), vp_in_nI (by omega) (by decide)⟩
  unfold wp_X11_swap wp_X6_size wp_X12_swap wp_X12_in
  rw [h4, h5]
  by_cases hc : ∃ i, i + 1 < z ∧ a = nI i
  · obtain ⟨i, hi, rfl⟩ := hc
    have c2 : nI i < nI z - 1 := by
      show nI i < nI z - nI 1
      rw [Int32.lt_iff_toInt_lt, pk_sub_toInt (by omega) (by omega), nI_toInt (by omega)]
      omega
    have c3 : ¬ (nI z - 2 < nI i) := by
      show ¬ (nI z - nI 2 < nI i)
      rw [Int32.lt_iff_toInt_lt, pk_sub_toInt (by omega) (by omega), nI_toInt (by omega)]
      omega
    refine ⟨fun c => absurd c (nI_pos (by omega)), fun _ => ⟨fun _ => ?_, fun c => absurd c2 c⟩⟩
    refine sp_waiting h3 h4 (fun i hi => (vi i hi).1) ?_
    refine sp_exchange (by omega) ?_
    have hz18 : sw uF 19 i 18 1 = nI z := by rw [sw_n (by decide)]; exact h4
    have hz0 : sw uM 6 i 0 7 = nI z := by rw [sw_n (by decide)]; exact h5
    have rows : ∀ j, j < z → ∃ o, o < n ∧ sw uF 19 i 19 j = nI o ∧ sw uM 6 i 6 j = nI o := fun j hj => by
      rw [sw_v, sw_v]
      by_cases e : j = i
      · rw [if_pos e, if_pos e]
        exact h6 (i + 1) hi
      · rw [if_neg e, if_neg e]
        by_cases d : j = i + 1
        · rw [if_pos d, if_pos d]
          exact h6 i (by omega)
        · rw [if_neg d, if_neg d]
          exact h6 j hj
    have vj : ∀ j, j < z → vp_in (sw uF 19 i 19 j) 12 ∧ vp_in (sw uM 6 i 6 j) 12 := fun j hj => by
      obtain ⟨o, ho, e1, e2⟩ := rows j hj
      rw [e1, e2]
      exact ⟨vp_in_nI (by omega) (by decide), vp_in_nI (by omega) (by decide)⟩
    refine sp_waiting h3 hz18 (fun j hj => (vj j hj).1) ?_
    refine sp_exchange (by omega) ?_
    refine ⟨fun c => absurd c (nI_pos (by omega)), fun _ => ⟨fun c => absurd c c3, fun _ => ⟨fun _ => ?_, fun c => absurd c (by decide)⟩⟩⟩
    refine sp_mCost h3 h5 (fun i hi => (vi i hi).2) ?_
    refine sp_change (by omega) ?_
    refine sp_mCost h3 hz0 (fun j hj => (vj j hj).2) ?_
    refine sp_change (by omega) ?_
    rw [sw_sw, sw_sw]
    refine ⟨?_, h.mono hY⟩
    congr 1
    · rw [sw_n (show (3 : Nat) ≠ 19 by decide), sw_n (show (4 : Nat) ≠ 19 by decide), sw_n (show (5 : Nat) ≠ 19 by decide), sw_n (show (1 : Nat) ≠ 6 by decide), sw_n (show (2 : Nat) ≠ 6 by decide), sw_n (show (3 : Nat) ≠ 6 by decide)]
      refine ckf_congr z 0 0 0 fun j _ hj => ?_
      obtain ⟨o, ho, e1, e2⟩ := rows j (by omega)
      rw [e1, e2, cln (by omega)]
      exact ⟨rfl, n4 0 (by omega) o ho, n4 1 (by omega) o ho, n4 2 (by omega) o ho⟩
    · refine ckf_congr z 0 0 0 fun j _ hj => ?_
      obtain ⟨o, ho, e1, e2⟩ := h6 j (by omega)
      rw [e1, e2, cln (by omega)]
      exact ⟨rfl, n4 0 (by omega) o ho, n4 1 (by omega) o ho, n4 2 (by omega) o ho⟩
  · have bad1 : ¬ a < 0 → ¬ a < nI z - 1 := fun c d => by
      obtain ⟨i, hi, rfl⟩ := nI_of c
      have d : nI i < nI z - nI 1 := d
      rw [Int32.lt_iff_toInt_lt, pk_sub_toInt (by omega) (by omega), nI_toInt hi] at d
      exact hc ⟨i, by omega, rfl⟩
    have bad2 : ¬ a < 0 → nI z - 2 < a := fun c => by
      obtain ⟨i, hi, rfl⟩ := nI_of c
      show nI z - nI 2 < nI i
      rw [Int32.lt_iff_toInt_lt, pk_sub_toInt (by omega) (by omega), nI_toInt hi]
      have : ¬ i + 1 < z := fun q => hc ⟨i, q, rfl⟩
      omega
    have hM : ((a < 0) → ((¬ (0 : Int32) = 0 → wp_X12_cost uM (fun r18 u18 => wp_X12_change a u18 (fun _ u24 => wp_X12_cost u24 (fun r28 u28 => wp_X12_change a u28 (fun _ u34 => (-1000000000 : Int32) = r28 - r18 ∧ Rel RY (k + 1) uF u34))))) ∧ ((0 : Int32) = 0 → (-1000000000 : Int32) = -1000000000 ∧ Rel RY (k + 1) uF uM))) := fun _ => ⟨fun c => absurd rfl c, fun _ => ⟨rfl, h.mono hY⟩⟩
    refine ⟨fun c => ⟨hM, fun d => absurd c d⟩, fun c => ⟨fun d => absurd d (bad1 c), fun _ => ⟨hM, fun d => ⟨fun _ => ⟨fun c => absurd rfl c, fun _ => ⟨rfl, h.mono hY⟩⟩, fun q => absurd (bad2 c) q⟩⟩⟩⟩
end
