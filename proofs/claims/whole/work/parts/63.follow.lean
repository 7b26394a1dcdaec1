set_option maxHeartbeats 1000000 in
theorem sp_follow {u : St} {n : Nat} (hn : n ≤ 12) (h0 : u 1 7 = nI n) {Post : Int32 → St → Prop} (hP : ∀ v : St, (∀ c, c ≠ 8 → v c = u c) → (∀ j, j < n → ∀ a, a < 32 → bt (v 8 j) a = Pc (fun j a => bt (u 6 j) a) n j a) → Post 0 v) : wp_X10_followLaid u Post := by
  obtain ⟨R, hR⟩ : ∃ R : Nat → Nat → Bool, R = fun j a => bt (u 6 j) a := ⟨_, rfl⟩
  have h3 : ∀ (k : Nat), k < n → ∀ (K : Int32 → St → Prop) (s : St), (∀ c, c ≠ 8 → s c = u c) → (∀ j, j < n → ∀ a, a < 32 → bt (s 8 j) a = Pc R k j a) → (∀ v : St, (∀ c, c ≠ 8 → v c = u c) → (∀ j, j < n → ∀ a, a < 32 → bt (v 8 j) a = Pc R (k + 1) j a) → K (nI (k + 1)) v) → ∃ m, wl_X10_followLaid_40 Post K m (nI k) 0 s := by
    intro k hk K s hs1 hs2 hK
    refine Exists.elim (loop_0 (fun m i s => wl_X10_followLaid_40 Post K m (nI k) (nI i) s) (fun i s => (∀ c, c ≠ 8 → s c = u c) ∧ (∀ j, j < i → ∀ a, a < 32 → bt (s 8 j) a = Pc R (k + 1) j a) ∧ (∀ j, i ≤ j → j < n → ∀ a, a < 32 → bt (s 8 j) a = Pc R k j a)) n s ⟨hs1, fun j hj => absurd hj (Nat.not_lt_zero j), fun j _ => hs2 j⟩ ?_ ?_) (fun m hm => ⟨m, by rw [nI_0] at hm; exact hm⟩)
    · intro m s ⟨i1, i2, i3⟩
      show wb_X10_followLaid_40 Post K _ (nI k) (nI n) s
      unfold wb_X10_followLaid_40
      rw [i1 1 (by decide), h0]
      refine ⟨fun _ => ?_, fun c => absurd (nI_le (Nat.le_refl n) (by omega)) c⟩
      rw [nI_1]
      exact hK s i1 i2
    · intro m i s hi ⟨i1, i2, i3⟩ ih
      show wb_X10_followLaid_40 Post K _ (nI k) (nI i) s
      unfold wb_X10_followLaid_40
      rw [i1 1 (by decide), h0]
      refine ⟨fun c => absurd c (nle_nI hi (by omega)), fun _ => ?_⟩
      have hin : vp_in (nI i) 12 := vp_in_nI (by omega) (by decide)
      have hik : vp_in (nI k) 12 := vp_in_nI (by omega) (by decide)
      refine ⟨hin, ?_⟩
      rw [cln (i := i) (by omega), cln (i := k) (by omega), nI_1]
      have hrk : ∀ a, a < 32 → bt (s 8 k) a = Pc R k k a := fun a ha => by
        rcases Nat.lt_or_ge k i with q | q
        · rw [i2 k q a ha, Pc_diag]
        · exact i3 k q hk a ha
      have step : ∀ x : Int32, (∀ a, a < 32 → bt x a = Pc R (k + 1) i a) → wl_X10_followLaid_40 Post K m (nI k) (nI (i + 1)) (su s 8 i x) := by
        intro x hx
        refine ih _ ⟨fun c hc => by rw [su_n _ _ _ hc]; exact i1 c hc, fun j hj a ha => ?_, fun j hj hjn a ha => ?_⟩
        · by_cases e : j = i
          · subst e
            rw [su_at]
            exact hx a ha
          · rw [su_ne _ _ e]
            exact i2 j (by omega) a ha
        · rw [su_ne _ _ (by omega)]
          exact i3 j (by omega) hjn a ha
      refine sp_hasBit (by omega) ?_
      have hik2 : bt (s 8 i) k = Pc R k i k := i3 i (Nat.le_refl i) hi k (by omega)
      by_cases hb : bt (s 8 i) k = true
      · rw [if_pos hb]
        refine ⟨fun c => absurd c (by decide), fun _ => ⟨hin, hik, hin, step _ fun a ha => ?_⟩⟩
        rw [b_or, i3 i (Nat.le_refl i) hi a ha, hrk a ha]
        rw [hb] at hik2
        simp only [Pc, ← hik2, Bool.true_and]
      · rw [if_neg hb]
        refine ⟨fun _ => ih s ⟨i1, fun j hj a ha => ?_, fun j hj => i3 j (by omega)⟩, fun c => absurd rfl c⟩
        by_cases e : j = i
        · subst e
          rw [i3 j (Nat.le_refl j) hi a ha]
          rw [Bool.not_eq_true] at hb
          rw [hb] at hik2
          simp only [Pc, ← hik2, Bool.false_and, Bool.or_false]
        · exact i2 j (by omega) a ha
  have h2 : ∀ (s : St), (∀ c, c ≠ 8 → s c = u c) → (∀ j, j < n → ∀ a, a < 32 → bt (s 8 j) a = Pc R 0 j a) → ∃ m, wl_X10_followLaid_30 Post m 0 s := by
    intro s hs1 hs2
    refine Exists.elim (loop_0 (fun m i s => wl_X10_followLaid_30 Post m (nI i) s) (fun k s => (∀ c, c ≠ 8 → s c = u c) ∧ (∀ j, j < n → ∀ a, a < 32 → bt (s 8 j) a = Pc R k j a)) n s ⟨hs1, hs2⟩ ?_ ?_) (fun m hm => ⟨m, by rw [nI_0] at hm; exact hm⟩)
    · intro m s ⟨i1, i2⟩
      show wb_X10_followLaid_30 Post _ (nI n) s
      unfold wb_X10_followLaid_30
      rw [i1 1 (by decide), h0]
      exact ⟨fun _ => hP s i1 (by rw [← hR]; exact i2), fun c => absurd (nI_le (Nat.le_refl n) (by omega)) c⟩
    · intro m k s hk ⟨i1, i2⟩ ih
      show wb_X10_followLaid_30 Post _ (nI k) s
      unfold wb_X10_followLaid_30
      rw [i1 1 (by decide), h0]
      exact ⟨fun c => absurd c (nle_nI hk (by omega)), fun _ => h3 k hk _ s i1 i2 (fun v v1 v2 => ih v ⟨v1, v2⟩)⟩
  unfold wp_X10_followLaid
  refine Exists.elim (loop_0 (fun m i s => wl_X10_followLaid_2 Post m (nI i) s) (fun i s => (∀ c, c ≠ 8 → s c = u c) ∧ ∀ j, j < i → s 8 j = u 6 j) n u ⟨fun _ _ => rfl, fun j hj => absurd hj (Nat.not_lt_zero j)⟩ ?_ ?_) (fun m hm => ⟨m, by rw [nI_0] at hm; exact hm⟩)
  · intro m s ⟨i1, i2⟩
    show wb_X10_followLaid_2 Post _ (nI n) s
    unfold wb_X10_followLaid_2
    rw [i1 1 (by decide), h0]
    refine ⟨fun _ => h2 s i1 (fun j hj a ha => ?_), fun c => absurd (nI_le (Nat.le_refl n) (by omega)) c⟩
    rw [i2 j hj, hR]
    rfl
  · intro m i s hi ⟨i1, i2⟩ ih
    show wb_X10_followLaid_2 Post _ (nI i) s
    unfold wb_X10_followLaid_2
    rw [i1 1 (by decide), h0]
    refine ⟨fun c => absurd c (nle_nI hi (by omega)), fun _ => ?_⟩
    have hin : vp_in (nI i) 12 := vp_in_nI (by omega) (by decide)
    refine ⟨hin, hin, ?_⟩
    rw [cln (i := i) (by omega), nI_1]
    refine ih _ ⟨fun c hc => by rw [su_n _ _ _ hc]; exact i1 c hc, fun j hj => ?_⟩
    by_cases e : j = i
    · subst e
      rw [su_at, i1 6 (by decide)]
    · rw [su_ne _ _ e]
      exact i2 j (by omega)
