/-! The order: places and cost. -/
def plf (r : Nat → Int32) (x : Int32) : Nat → Nat → Int32
  | 0, _ => -1
  | k + 1, i => if r i = x then nI i else plf r x k (i + 1)
theorem plf_congr {r q : Nat → Int32} {x : Int32} : ∀ k i, (∀ j, i ≤ j → j < i + k → r j = q j) → plf r x k i = plf q x k i
  | 0, _, _ => rfl
  | k + 1, i, h => by
    simp only [plf]
    rw [h i (Nat.le_refl i) (by omega), plf_congr k (i + 1) (fun j h1 h2 => h j (by omega) (by omega))]
def ckf (le we mo row : Nat → Int32) : Nat → Nat → Int32 → Int32 → Int32
  | 0, _, _, s => s
  | k + 1, i, t, s => ckf le we mo row k (i + 1) ((if t < mo (row i).toNatClampNeg then mo (row i).toNatClampNeg else t) + le (row i).toNatClampNeg) (s + we (row i).toNatClampNeg * ((if t < mo (row i).toNatClampNeg then mo (row i).toNatClampNeg else t) + le (row i).toNatClampNeg))
theorem ckf_congr {le we mo row le2 we2 mo2 row2 : Nat → Int32} : ∀ k i t s, (∀ j, i ≤ j → j < i + k → row j = row2 j ∧ le (row j).toNatClampNeg = le2 (row j).toNatClampNeg ∧ we (row j).toNatClampNeg = we2 (row j).toNatClampNeg ∧ mo (row j).toNatClampNeg = mo2 (row j).toNatClampNeg) → ckf le we mo row k i t s = ckf le2 we2 mo2 row2 k i t s
  | 0, _, _, _, _ => rfl
  | k + 1, i, t, s, h => by
    obtain ⟨h1, h2, h3, h4⟩ := h i (Nat.le_refl i) (by omega)
    simp only [ckf]
    rw [← h1, h2, h3, h4]
    exact ckf_congr k (i + 1) _ _ (fun j a b => h j (by omega) (by omega))
theorem tn_0 : Int32.toNatClampNeg 0 = 0 := by decide
theorem tn_1 : Int32.toNatClampNeg 1 = 1 := by decide
theorem tn_2 : Int32.toNatClampNeg 2 = 2 := by decide
section
variable {u w : St} {z : Nat} {x : Int32} {Post : Int32 → St → Prop}
theorem sp_placeOf (hz : z ≤ 12) (h0 : u 18 1 = nI z) (h : Post (plf (u 19) x z 0) u) : wp_X6_placeOf x u Post := by
  have go : ∀ k i, i + k = z → Post (plf (u 19) x k i) u → ∃ m, wl_X6_placeOf_2 Post m x (nI i) u := by
    intro k
    induction k with
    | zero =>
      intro i hi hp
      refine ⟨1, ?_⟩
      show wb_X6_placeOf_2 Post _ x (nI i) u
      unfold wb_X6_placeOf_2
      rw [h0]
      exact ⟨fun _ => hp, fun c => absurd (nI_le (by omega) (by omega)) c⟩
    | succ k ih =>
      intro i hi hp
      simp only [plf] at hp
      by_cases e : u 19 i = x
      · rw [if_pos e] at hp
        refine ⟨1, ?_⟩
        show wb_X6_placeOf_2 Post _ x (nI i) u
        unfold wb_X6_placeOf_2
        rw [h0, cln (by omega)]
        exact ⟨fun c => absurd c (nle_nI (by omega) (by omega)), fun _ => ⟨vp_in_nI (by omega) (by decide), fun c => absurd e c, fun _ => hp⟩⟩
      · rw [if_neg e] at hp
        obtain ⟨m, hm⟩ := ih (i + 1) (by omega) hp
        refine ⟨m + 1, ?_⟩
        show wb_X6_placeOf_2 Post _ x (nI i) u
        unfold wb_X6_placeOf_2
        rw [h0, cln (by omega), nI_1]
        exact ⟨fun c => absurd c (nle_nI (by omega) (by omega)), fun _ => ⟨vp_in_nI (by omega) (by decide), fun _ => hm, fun c => absurd c e⟩⟩
  obtain ⟨m, hm⟩ := go z 0 (by omega) h
  exact ⟨m, by rw [nI_0] at hm; exact hm⟩
theorem sp_mPlaceOf (hz : z ≤ 12) (h0 : w 0 7 = nI z) (h : Post (plf (w 6) x z 0) w) : wp_X12_placeOf x w Post := by
  have go : ∀ k i, i + k = z → Post (plf (w 6) x k i) w → ∃ m, wl_X12_placeOf_2 Post m x (nI i) w := by
    intro k
    induction k with
    | zero =>
      intro i hi hp
      refine ⟨1, ?_⟩
      show wb_X12_placeOf_2 Post _ x (nI i) w
      unfold wb_X12_placeOf_2
      rw [h0]
      exact ⟨fun _ => hp, fun c => absurd (nI_le (by omega) (by omega)) c⟩
    | succ k ih =>
      intro i hi hp
      simp only [plf] at hp
      by_cases e : w 6 i = x
      · rw [if_pos e] at hp
        refine ⟨1, ?_⟩
        show wb_X12_placeOf_2 Post _ x (nI i) w
        unfold wb_X12_placeOf_2
        rw [h0, cln (by omega)]
        exact ⟨fun c => absurd c (nle_nI (by omega) (by omega)), fun _ => ⟨vp_in_nI (by omega) (by decide), fun c => absurd e c, fun _ => hp⟩⟩
      · rw [if_neg e] at hp
        obtain ⟨m, hm⟩ := ih (i + 1) (by omega) hp
        refine ⟨m + 1, ?_⟩
        show wb_X12_placeOf_2 Post _ x (nI i) w
        unfold wb_X12_placeOf_2
        rw [h0, cln (by omega), nI_1]
        exact ⟨fun c => absurd c (nle_nI (by omega) (by omega)), fun _ => ⟨vp_in_nI (by omega) (by decide), fun _ => hm, fun c => absurd c e⟩⟩
  obtain ⟨m, hm⟩ := go z 0 (by omega) h
  exact ⟨m, by rw [nI_0] at hm; exact hm⟩
theorem sp_waiting (hz : z ≤ 12) (h0 : u 18 1 = nI z) (hr : ∀ i, i < z → vp_in (u 19 i) 12) (h : Post (ckf (u 3) (u 4) (u 5) (u 19) z 0 0 0) u) : wp_X6_weightedWaiting u Post := by
  have go : ∀ k i t s, i + k = z → Post (ckf (u 3) (u 4) (u 5) (u 19) k i t s) u → ∃ m, wl_X6_weightedWaiting_7 Post m t s (nI i) u := by
    intro k
    induction k with
    | zero =>
      intro i t s hi hp
      refine ⟨1, ?_⟩
      show wb_X6_weightedWaiting_7 Post _ t s (nI i) u
      unfold wb_X6_weightedWaiting_7
      rw [h0]
      exact ⟨fun _ => hp, fun c => absurd (nI_le (by omega) (by omega)) c⟩
    | succ k ih =>
      intro i t s hi hp
      simp only [ckf] at hp
      obtain ⟨m, hm⟩ := ih (i + 1) _ _ (by omega) hp
      refine ⟨m + 1, ?_⟩
      show wb_X6_weightedWaiting_7 Post _ t s (nI i) u
      unfold wb_X6_weightedWaiting_7
      rw [h0, cln (by omega), nI_1]
      refine ⟨fun c => absurd c (nle_nI (by omega) (by omega)), fun _ => ⟨vp_in_nI (by omega) (by decide), ?_⟩⟩
      unfold wp_X10_measure
      rw [tn_0, tn_1, tn_2]
      have hv := hr i (by omega)
      exact ⟨by unfold vp_in; decide, hv, by unfold vp_in; decide, hv, by unfold vp_in; decide, hv, hm⟩
  obtain ⟨m, hm⟩ := go z 0 0 0 (by omega) h
  exact ⟨m, by rw [nI_0] at hm; exact hm⟩
theorem mx_eq {t m : Int32} : (if t ≤ m then m else t) = (if t < m then m else t) := by
  by_cases h : t < m
  · rw [if_pos h, if_pos (Int32.le_of_lt h)]
  · rw [if_neg h]
    by_cases h2 : t ≤ m
    · rw [if_pos h2]
      exact Int32.le_antisymm (Int32.not_lt.mp h) h2
    · rw [if_neg h2]
theorem sp_mCost (hz : z ≤ 12) (h0 : w 0 7 = nI z) (hr : ∀ i, i < z → vp_in (w 6 i) 12) (h : Post (ckf (w 1) (w 2) (w 3) (w 6) z 0 0 0) w) : wp_X12_cost w Post := by
  have go : ∀ k i t s, i + k = z → Post (ckf (w 1) (w 2) (w 3) (w 6) k i t s) w → ∃ m, wl_X12_cost_6 Post m t s (nI i) w := by
    intro k
    induction k with
    | zero =>
      intro i t s hi hp
      refine ⟨1, ?_⟩
      show wb_X12_cost_6 Post _ t s (nI i) w
      unfold wb_X12_cost_6
      rw [h0]
      exact ⟨fun _ => hp, fun c => absurd (nI_le (by omega) (by omega)) c⟩
    | succ k ih =>
      intro i t s hi hp
      simp only [ckf] at hp
      rw [← mx_eq] at hp
      obtain ⟨m, hm⟩ := ih (i + 1) _ _ (by omega) hp
      refine ⟨m + 1, ?_⟩
      show wb_X12_cost_6 Post _ t s (nI i) w
      unfold wb_X12_cost_6
      rw [h0, cln (by omega)]
      have hv := hr i (by omega)
      refine ⟨fun c => absurd c (nle_nI (by omega) (by omega)), fun _ => ⟨vp_in_nI (by omega) (by decide), hv, fun c => ⟨hv, ?_⟩, fun c => ?_⟩⟩
      · unfold wb_X12_cost_44
        rw [if_pos c] at hm
        rw [nI_1]
        exact ⟨hv, hv, hm⟩
      · unfold wb_X12_cost_44
        rw [if_neg c] at hm
        rw [nI_1]
        exact ⟨hv, hv, hm⟩
  obtain ⟨m, hm⟩ := go z 0 0 0 (by omega) h
  exact ⟨m, by rw [nI_0] at hm; exact hm⟩
end
