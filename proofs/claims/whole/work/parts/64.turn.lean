/-! turnBehind: the rows turned about. -/
theorem bt_1shl {j : Nat} (hj : j < 32) {i : Nat} (hi : i < 32) : bt ((1 : Int32) <<< (nI j &&& 31)) i = decide (i = j) := by
  rw [b_shl j hj 1 hi]
  by_cases e : i = j
  · subst e
    simp only [Nat.sub_self, Nat.le_refl, decide_true, Bool.true_and]
    decide
  · rw [decide_eq_false e]
    by_cases h : j ≤ i
    · have e1 : bt 1 (i - j) = false := (by decide +kernel : ∀ i, i < 32 → i ≠ 0 → bt 1 i = false) (i - j) (by omega) (by omega)
      rw [e1, Bool.and_false]
    · rw [decide_eq_false h, Bool.false_and]
set_option maxHeartbeats 1000000 in
theorem sp_turn {u : St} {n : Nat} (hn : n ≤ 12) (h0 : u 1 7 = nI n) {Post : Int32 → St → Prop} (hP : ∀ v : St, (∀ c, c ≠ 7 → v c = u c) → (∀ j, j < n → ∀ a, a < 32 → bt (v 7 j) a = (decide (a < n) && bt (u 8 a) j)) → Post 0 v) : wp_X10_turnBehind u Post := by
  have h3 : ∀ (j : Nat), j < n → ∀ (K : Int32 → St → Prop) (s : St), s 1 7 = nI n → s 8 = u 8 → (∀ x : Int32, (∀ a, a < 32 → bt x a = (decide (a < n) && bt (u 8 a) j)) → K (nI (j + 1)) (su s 7 j x)) → ∃ m, wl_X10_turnBehind_14 Post K m (nI j) 0 0 s := by
    intro j hj K s hs0 hs8 hK
    refine Exists.elim (loop_0 (fun m i (x : Int32) => wl_X10_turnBehind_14 Post K m (nI j) x (nI i) s) (fun i x => ∀ a, a < 32 → bt x a = (decide (a < i) && bt (u 8 a) j)) n 0 (fun a ha => by rw [b_0]; simp) ?_ ?_) (fun m hm => ⟨m, by rw [nI_0] at hm; exact hm⟩)
    · intro m x hx
      show wb_X10_turnBehind_14 Post K _ (nI j) x (nI n) s
      unfold wb_X10_turnBehind_14
      rw [hs0]
      refine ⟨fun _ => ⟨vp_in_nI (by omega) (by decide), ?_⟩, fun c => absurd (nI_le (Nat.le_refl n) (by omega)) c⟩
      rw [cln (i := j) (by omega), nI_1]
      exact hK x hx
    · intro m i x hi hx ih
      show wb_X10_turnBehind_14 Post K _ (nI j) x (nI i) s
      unfold wb_X10_turnBehind_14
      rw [hs0]
      refine ⟨fun c => absurd c (nle_nI hi (by omega)), fun _ => ⟨vp_in_nI (by omega) (by decide), ?_⟩⟩
      rw [cln (i := i) (by omega), nI_1, hs8]
      refine sp_hasBit (by omega) ?_
      by_cases hb : bt (u 8 i) j = true
      · rw [if_pos hb]
        refine ⟨fun c => absurd c (by decide), fun _ => ih _ fun a ha => ?_⟩
        rw [b_or, hx a ha, bt_1shl (by omega) ha]
        by_cases e : a = i
        · subst e
          simp [hb]
        · simp only [e, decide_false, Bool.or_false]
          congr 1
          exact decide_eq_decide.mpr (by omega)
      · rw [if_neg hb]
        refine ⟨fun _ => ih _ fun a ha => ?_, fun c => absurd rfl c⟩
        rw [hx a ha]
        by_cases e : a = i
        · subst e
          rw [Bool.not_eq_true] at hb
          simp [hb]
        · congr 1
          exact decide_eq_decide.mpr (by omega)
  unfold wp_X10_turnBehind
  refine Exists.elim (loop_0 (fun m i s => wl_X10_turnBehind_2 Post m (nI i) s) (fun i s => (∀ c, c ≠ 7 → s c = u c) ∧ ∀ j, j < i → ∀ a, a < 32 → bt (s 7 j) a = (decide (a < n) && bt (u 8 a) j)) n u ⟨fun _ _ => rfl, fun j hj => absurd hj (Nat.not_lt_zero j)⟩ ?_ ?_) (fun m hm => ⟨m, by rw [nI_0] at hm; exact hm⟩)
  · intro m s ⟨i1, i2⟩
    show wb_X10_turnBehind_2 Post _ (nI n) s
    unfold wb_X10_turnBehind_2
    rw [i1 1 (by decide), h0]
    exact ⟨fun _ => hP s i1 i2, fun c => absurd (nI_le (Nat.le_refl n) (by omega)) c⟩
  · intro m j s hj ⟨i1, i2⟩ ih
    show wb_X10_turnBehind_2 Post _ (nI j) s
    unfold wb_X10_turnBehind_2
    refine ⟨fun c => absurd c (by rw [i1 1 (by decide), h0]; exact nle_nI hj (by omega)), fun _ => h3 j hj _ s (by rw [i1 1 (by decide)]; exact h0) (i1 8 (by decide)) (fun x hx => ih _ ⟨fun c hc => by rw [su_n _ _ _ hc]; exact i1 c hc, fun i hi a ha => ?_⟩)⟩
    by_cases e : i = j
    · subst e
      rw [su_at]
      exact hx a ha
    · rw [su_ne _ _ e]
      exact i2 i (by omega) a ha
