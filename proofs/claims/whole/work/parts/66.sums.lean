/-! Sums over sets. -/
def sm (f : Nat → Nat) (p : Nat) : Nat → Nat
  | 0 => 0
  | k + 1 => sm f p k + (if p.testBit k then f k else 0)
def ob (f : Nat → Nat → Bool) (p a : Nat) : Nat → Bool
  | 0 => false
  | k + 1 => ob f p a k || (p.testBit k && f k a)
theorem sm_drop {f : Nat → Nat} {p q d : Nat} (hd : p.testBit d = true) : ∀ k, (∀ i, i < k → q.testBit i = (p.testBit i && decide (i ≠ d))) → sm f p k = sm f q k + (if d < k then f d else 0)
  | 0, _ => by simp [sm]
  | k + 1, h => by
    have ih := sm_drop (f := f) hd k (fun i hi => h i (by omega))
    simp only [sm]
    rw [ih, h k (by omega)]
    by_cases e : k = d
    · subst e
      simp [hd]
    · by_cases h1 : d < k
      · have h2 : d < k + 1 := by omega
        simp only [h1, h2, if_true, ne_eq, e, not_false_eq_true, decide_true, Bool.and_true]
        omega
      · have h2 : ¬ d < k + 1 := by omega
        simp only [h1, h2, if_false, ne_eq, e, not_false_eq_true, decide_true, Bool.and_true]
        omega
theorem ob_drop {f : Nat → Nat → Bool} {p q d a : Nat} (hd : p.testBit d = true) : ∀ k, (∀ i, i < k → q.testBit i = (p.testBit i && decide (i ≠ d))) → ob f p a k = (ob f q a k || (decide (d < k) && f d a))
  | 0, _ => by simp [ob]
  | k + 1, h => by
    have ih := ob_drop (f := f) (a := a) hd k (fun i hi => h i (by omega))
    simp only [ob]
    rw [ih, h k (by omega)]
    by_cases e : k = d
    · subst e
      simp [hd]
    · have h2 : decide (d < k + 1) = decide (d < k) := decide_eq_decide.mpr (by omega)
      rw [h2]
      simp only [ne_eq, e, not_false_eq_true, decide_true, Bool.and_true]
      cases ob f q a k <;> cases (decide (d < k) && f d a) <;> cases (p.testBit k && f k a) <;> rfl
def low (p : Nat) : Nat := p &&& (p - 1)
theorem low_ok {p : Nat} (h0 : p ≠ 0) (hp : p < 64) : nI p &&& (nI p - 1) = nI (low p) ∧ low p < p ∧ tz p < 6 ∧ p.testBit (tz p) = true ∧ ∀ i, i < 6 → (low p).testBit i = (p.testBit i && decide (i ≠ tz p)) := by
  have h := co_dec (P := fun p => p = 0 ∨ (nI p &&& (nI p - 1) = nI (low p) ∧ low p < p ∧ tz p < 6 ∧ p.testBit (tz p) = true ∧ (List.range 6).all (fun i => (low p).testBit i == (p.testBit i && decide (i ≠ tz p))) = true)) (N := 64) (by decide +kernel) hp
  obtain ⟨a, b, c, d, e⟩ := h.resolve_left h0
  exact ⟨a, b, c, d, fun i hi => eq_of_beq (List.all_eq_true.mp e i (List.mem_range.mpr hi))⟩
theorem tz_lt {p t : Nat} (h0 : p ≠ 0) (hp : p < 2 ^ t) (ht : t ≤ 6) : tz p < t := by
  have h64 : p < 64 := Nat.lt_of_lt_of_le hp (Nat.pow_le_pow_right (by decide) ht)
  have h1 := (low_ok h0 h64).2.2.2.1
  have h2 := Nat.ge_two_pow_of_testBit h1
  rcases Nat.lt_or_ge (tz p) t with q | q
  · exact q
  · have := Nat.pow_le_pow_right (n := 2) (by decide) q
    omega
theorem shl_pow {t : Nat} (ht : t ≤ 6) : (1 : Int32) <<< (nI t &&& 31) = nI (2 ^ t) := co_dec (P := fun t => (1 : Int32) <<< (nI t &&& 31) = nI (2 ^ t)) (N := 7) (by decide +kernel) (by omega)
theorem half_n {n fj : Nat} (hn : n ≤ 12) (hj : fj = 0 ∨ fj = 6) : (if (6 : Int32) < (if (nI n - nI fj) < 0 then 0 else (nI n - nI fj)) then 6 else (if (nI n - nI fj) < 0 then 0 else (nI n - nI fj))) = nI (min (n - fj) 6) := by
  rcases hj with rfl | rfl
  · exact co_dec (P := fun n => (if (6 : Int32) < (if (nI n - nI 0) < 0 then 0 else (nI n - nI 0)) then 6 else (if (nI n - nI 0) < 0 then 0 else (nI n - nI 0))) = nI (min (n - 0) 6)) (N := 13) (by decide +kernel) (by omega)
  · exact co_dec (P := fun n => (if (6 : Int32) < (if (nI n - nI 6) < 0 then 0 else (nI n - nI 6)) then 6 else (if (nI n - nI 6) < 0 then 0 else (nI n - nI 6))) = nI (min (n - 6) 6)) (N := 13) (by decide +kernel) (by omega)
set_option maxHeartbeats 2000000 in
theorem sp_sumHalf {u : St} {n fr fj : Nat} {L Wt : Nat → Nat} (hn : n ≤ 12) (hf : fr = 0 ∨ fr = 64) (hj : fj = 0 ∨ fj = 6) (h0 : u 1 7 = nI n) (hL : ∀ j, j < n → u 3 j = nI (L j)) (hW : ∀ j, j < n → u 4 j = nI (Wt j)) (z9 : u 9 fr = 0) (z10 : u 10 fr = 0) (z11 : u 11 fr = 0) {Post : Int32 → St → Prop}
    (hP : ∀ v : St, (∀ c, c ≠ 9 → c ≠ 10 → c ≠ 11 → v c = u c) → (∀ c x, x ≤ fr ∨ fr + 64 ≤ x → v c x = u c x) → (∀ p, p < 2 ^ min (n - fj) 6 → v 9 (fr + p) = nI (sm (fun i => L (fj + i)) p 6) ∧ v 10 (fr + p) = nI (sm (fun i => Wt (fj + i)) p 6) ∧ ∀ a, a < 32 → bt (v 11 (fr + p)) a = ob (fun i a => bt (u 7 (fj + i)) a) p a 6) → Post 0 v) : wp_X10_sumHalf (nI fr) (nI fj) u Post := by
  unfold wp_X10_sumHalf
  rw [h0, half_n hn hj]
  obtain ⟨t, ht⟩ : ∃ t, t = min (n - fj) 6 := ⟨_, rfl⟩
  rw [← ht] at hP ⊢
  have ht6 : t ≤ 6 := by omega
  have htp : 2 ^ t ≤ 2 ^ 6 := Nat.pow_le_pow_right (by decide) ht6
  have htp : 2 ^ t ≤ 64 := htp
  have h1t : 1 ≤ 2 ^ t := Nat.one_le_two_pow
  refine Exists.elim (pk_loop (fun m i s => wl_X10_sumHalf_19 Post m (nI fr) (nI fj) (nI t) (nI i) s) (fun i s => 1 ≤ i ∧ (∀ c, c ≠ 9 → c ≠ 10 → c ≠ 11 → s c = u c) ∧ (∀ c x, x ≤ fr ∨ fr + 64 ≤ x → s c x = u c x) ∧ (∀ p, p < i → s 9 (fr + p) = nI (sm (fun i => L (fj + i)) p 6) ∧ s 10 (fr + p) = nI (sm (fun i => Wt (fj + i)) p 6) ∧ ∀ a, a < 32 → bt (s 11 (fr + p)) a = ob (fun i a => bt (u 7 (fj + i)) a) p a 6)) (2 ^ t) 1 u h1t ⟨Nat.le_refl 1, fun _ _ _ _ => rfl, fun _ _ _ => rfl, fun p hp => ?_⟩ ?_ ?_) (fun m hm => ⟨m, hm⟩)
  · have e : p = 0 := by omega
    subst e
    refine ⟨?_, ?_, fun a ha => ?_⟩
    · rw [Nat.add_zero, z9]
      simp only [sm, Nat.zero_testBit]
      rfl
    · rw [Nat.add_zero, z10]
      simp only [sm, Nat.zero_testBit]
      rfl
    · rw [Nat.add_zero, z11, b_0]
      simp only [ob, Nat.zero_testBit, Bool.false_and, Bool.or_false]
  · intro m s ⟨_, i1, i2, i3⟩
    show wb_X10_sumHalf_19 Post _ (nI fr) (nI fj) (nI t) (nI (2 ^ t)) s
    unfold wb_X10_sumHalf_19
    rw [shl_pow ht6]
    exact ⟨fun _ => hP s i1 i2 i3, fun c => absurd (nI_le (Nat.le_refl _) (by omega)) c⟩
  · intro m i s hi ⟨ig, i1, i2, i3⟩ ih
    show wb_X10_sumHalf_19 Post _ (nI fr) (nI fj) (nI t) (nI i) s
    unfold wb_X10_sumHalf_19
    rw [shl_pow ht6]
    refine ⟨fun c => absurd c (nle_nI hi (by omega)), fun _ => ?_⟩
    have hi0 : i ≠ 0 := by omega
    obtain ⟨l1, l2, l3, l4, l5⟩ := low_ok hi0 (by omega)
    have htz := tz_lt hi0 hi ht6
    refine sp_ntz ?_
    rw [nzF_ok hi0 (by omega), l1, nI_add, nI_add, nI_add, nI_1]
    have v1 : vp_in (nI (fr + low i)) 128 := vp_in_nI (by omega) (by decide)
    have v2 : vp_in (nI (fj + tz i)) 12 := vp_in_nI (by omega) (by decide)
    have v3 : vp_in (nI (fr + i)) 128 := vp_in_nI (by omega) (by decide)
    refine ⟨v1, v2, v3, v1, v2, v3, v1, v2, v3, ?_⟩
    rw [cln (i := fr + low i) (by omega), cln (i := fj + tz i) (by omega), cln (i := fr + i) (by omega)]
    rw [su_n s _ _ (show (10 : Nat) ≠ 9 by decide), su_n s _ _ (show (4 : Nat) ≠ 9 by decide), su_n (su s 9 _ _) _ _ (show (11 : Nat) ≠ 10 by decide), su_n s _ _ (show (11 : Nat) ≠ 9 by decide), su_n (su s 9 _ _) _ _ (show (7 : Nat) ≠ 10 by decide), su_n s _ _ (show (7 : Nat) ≠ 9 by decide)]
    obtain ⟨p9, p10, p11⟩ := i3 (low i) l2
    have q3 : s 3 (fj + tz i) = nI (L (fj + tz i)) := by rw [i1 3 (by decide) (by decide) (by decide)]; exact hL _ (by omega)
    have q4 : s 4 (fj + tz i) = nI (Wt (fj + tz i)) := by rw [i1 4 (by decide) (by decide) (by decide)]; exact hW _ (by omega)
    have q7 : s 7 = u 7 := i1 7 (by decide) (by decide) (by decide)
    refine ih _ ⟨by omega, fun c c1 c2 c3 => ?_, fun c x hx => ?_, fun p hp => ?_⟩
    · rw [su_n _ _ _ c3, su_n _ _ _ c2, su_n _ _ _ c1]
      exact i1 c c1 c2 c3
    · have hne : x ≠ fr + i := by omega
      have e1 : ∀ (w : St) (k : Nat) (y : Int32), su w k (fr + i) y c x = w c x := fun w k y => by
        by_cases e : c = k
        · subst e
          exact su_ne _ _ hne
        · rw [su_n _ _ _ e]
      rw [e1, e1, e1]
      exact i2 c x hx
    · by_cases e : p = i
      · subst e
        refine ⟨?_, ?_, fun a ha => ?_⟩
        · rw [su_n _ _ _ (show (9 : Nat) ≠ 11 by decide), su_n _ _ _ (show (9 : Nat) ≠ 10 by decide), su_at, p9, q3, nI_add, sm_drop l4 6 l5, if_pos l3]
        · rw [su_n _ _ _ (show (10 : Nat) ≠ 11 by decide), su_at, p10, q4, nI_add, sm_drop l4 6 l5, if_pos l3]
        · rw [su_at, b_or, p11 a ha, q7, ob_drop l4 6 l5, decide_eq_true l3, Bool.true_and]
      · have hne : fr + p ≠ fr + i := by omega
        obtain ⟨r9, r10, r11⟩ := i3 p (by omega)
        refine ⟨?_, ?_, fun a ha => ?_⟩
        · rw [su_n _ _ _ (show (9 : Nat) ≠ 11 by decide), su_n _ _ _ (show (9 : Nat) ≠ 10 by decide), su_ne _ _ hne]
          exact r9
        · rw [su_n _ _ _ (show (10 : Nat) ≠ 11 by decide), su_ne _ _ hne, su_n _ _ _ (show (10 : Nat) ≠ 9 by decide)]
          exact r10
        · rw [su_ne _ _ hne, su_n _ _ _ (show (11 : Nat) ≠ 10 by decide), su_n _ _ _ (show (11 : Nat) ≠ 9 by decide)]
          exact r11 a ha
