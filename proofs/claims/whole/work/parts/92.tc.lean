/-! Pc over all jobs is the transitive closure. -/
theorem Pc_tr {E : Nat → Nat → Bool} : ∀ k m, m < k → ∀ a b, Pc E k a m = true → Pc E k m b = true → Pc E k a b = true
  | 0, m, h, _, _, _, _ => absurd h (Nat.not_lt_zero m)
  | k + 1, m, h, a, b, h1, h2 => by
    simp only [Pc, Bool.or_eq_true, Bool.and_eq_true] at h1 h2 ⊢
    by_cases e : m = k
    · subst e
      have q1 : Pc E m a m = true := h1.elim id (fun q => q.1)
      have q2 : Pc E m m b = true := h2.elim id (fun q => q.2)
      exact Or.inr ⟨q1, q2⟩
    · have hm : m < k := by omega
      rcases h1 with h1 | ⟨h1, h1'⟩
      · rcases h2 with h2 | ⟨h2, h2'⟩
        · exact Or.inl (Pc_tr k m hm a b h1 h2)
        · exact Or.inr ⟨Pc_tr k m hm a k h1 h2, h2'⟩
      · rcases h2 with h2 | ⟨h2, h2'⟩
        · exact Or.inr ⟨h1, Pc_tr k m hm k b h1' h2⟩
        · exact Or.inr ⟨h1, h2'⟩
theorem Pc_sub {E : Nat → Nat → Bool} {T : Nat → Nat → Prop} (ht : ∀ a b c, T a b → T b c → T a c) (h : ∀ a b, E a b = true → T a b) : ∀ k a b, Pc E k a b = true → T a b
  | 0, a, b, q => h a b q
  | k + 1, a, b, q => by
    simp only [Pc, Bool.or_eq_true, Bool.and_eq_true] at q
    rcases q with q | ⟨q1, q2⟩
    · exact Pc_sub ht h k a b q
    · exact ht a k b (Pc_sub ht h k a k q1) (Pc_sub ht h k k b q2)
theorem Pc_up {E : Nat → Nat → Bool} : ∀ k a b, E a b = true → Pc E k a b = true
  | 0, _, _, q => q
  | k + 1, a, b, q => by
    simp only [Pc, Bool.or_eq_true]
    exact Or.inl (Pc_up k a b q)
section
variable {E F : Nat → Nat → Bool} {n x y : Nat}
theorem Pc_trans (hin : ∀ a b, E a b = true → a < n ∧ b < n) {a b c : Nat} (h1 : Pc E n a b = true) (h2 : Pc E n b c = true) : Pc E n a c = true := Pc_tr n b (Pc_in hin n a b h1).2 a c h1 h2
/-- one pair more -/
theorem ac_bind (hin : ∀ a b, E a b = true → a < n ∧ b < n) (hac : ∀ a, a < n → Pc E n a a = false) (hxy : x ≠ y) (hn : Pc E n y x = false) (hF : ∀ i j, F i j = (E i j || (decide (i = x) && decide (j = y)))) : ∀ a, a < n → Pc F n a a = false := by
  have key : ∀ a b, Pc F n a b = true → Pc E n a b = true ∨ ((a = x ∨ Pc E n a x = true) ∧ (b = y ∨ Pc E n y b = true)) := by
    refine Pc_sub (T := fun a b => Pc E n a b = true ∨ ((a = x ∨ Pc E n a x = true) ∧ (b = y ∨ Pc E n y b = true))) ?_ ?_ n
    · have no : ∀ b, (b = x ∨ Pc E n b x = true) → (b = y ∨ Pc E n y b = true) → False := by
        rintro b (h1 | h1) (h2 | h2)
        · exact hxy (h1.symm.trans h2)
        · rw [h1, hn] at h2
          cases h2
        · rw [h2, hn] at h1
          cases h1
        · have := Pc_trans hin h2 h1
          rw [hn] at this
          cases this
      rintro a b c (h1 | ⟨h1, h2⟩) (h3 | ⟨h3, h4⟩)
      · exact Or.inl (Pc_trans hin h1 h3)
      · refine Or.inr ⟨Or.inr ?_, h4⟩
        rcases h3 with h3 | h3
        · rw [← h3]
          exact h1
        · exact Pc_trans hin h1 h3
      · refine Or.inr ⟨h1, Or.inr ?_⟩
        rcases h2 with h2 | h2
        · rw [← h2]
          exact h3
        · exact Pc_trans hin h2 h3
      · exact absurd h2 (fun h2 => no b h3 h2)
    · intro a b q
      rw [hF, Bool.or_eq_true, Bool.and_eq_true, decide_eq_true_eq, decide_eq_true_eq] at q
      rcases q with q | ⟨q1, q2⟩
      · exact Or.inl (Pc_up n a b q)
      · exact Or.inr ⟨Or.inl q1, Or.inl q2⟩
  intro a ha
  cases q : Pc F n a a
  · rfl
  · rcases key a a q with h | ⟨h1, h2⟩
    · rw [hac a ha] at h
      cases h
    · rcases h1 with h1 | h1
      · rcases h2 with h2 | h2
        · exact absurd (h1.symm.trans h2) hxy
        · rw [h1, hn] at h2
          cases h2
      · rcases h2 with h2 | h2
        · rw [h2, hn] at h1
          cases h1
        · have := Pc_trans hin h2 h1
          rw [hn] at this
          cases this
/-- fewer pairs -/
theorem Pc_mono (h : ∀ i j, F i j = true → E i j = true) : ∀ k a b, Pc F k a b = true → Pc E k a b = true
  | 0, a, b, q => h a b q
  | k + 1, a, b, q => by
    simp only [Pc, Bool.or_eq_true, Bool.and_eq_true] at q ⊢
    rcases q with q | ⟨q1, q2⟩
    · exact Or.inl (Pc_mono h k a b q)
    · exact Or.inr ⟨Pc_mono h k a k q1, Pc_mono h k k b q2⟩
theorem ac_unbind (hac : ∀ a, a < n → Pc E n a a = false) (h : ∀ i j, F i j = true → E i j = true) : ∀ a, a < n → Pc F n a a = false := by
  intro a ha
  cases q : Pc F n a a
  · rfl
  · have := Pc_mono h n a a q
    rw [hac a ha] at this
    cases this
/-- one job more -/
theorem ac_more (hin : ∀ a b, E a b = true → a < n ∧ b < n) (hac : ∀ a, a < n → Pc E n a a = false) : ∀ a, a < n + 1 → Pc E (n + 1) a a = false := by
  intro a ha
  cases q : Pc E (n + 1) a a
  · rfl
  · simp only [Pc, Bool.or_eq_true, Bool.and_eq_true] at q
    rcases q with q | ⟨q, _⟩
    · have h1 := Pc_in hin n a a q
      rw [hac a h1.1] at q
      cases q
    · have h1 := Pc_in hin n a n q
      omega
end
/-! the number of pairs when one comes or goes -/
theorem cb_one {f g : Nat → Bool} {y : Nat} (hy : f y = false) (hg : ∀ j, g j = (f j || decide (j = y))) : ∀ k, cb g k = cb f k + (if y < k then 1 else 0)
  | 0 => by simp [cb]
  | k + 1 => by
    simp only [cb]
    rw [cb_one hy hg k, hg k]
    by_cases e : k = y
    · subst e
      rw [hy]
      simp
    · have h1 : decide (k = y) = false := decide_eq_false e
      rw [h1, Bool.or_false]
      by_cases h2 : y < k
      · rw [if_pos h2, if_pos (by omega)]
        omega
      · rw [if_neg h2, if_neg (by omega)]
        omega
theorem prs_one {E F : Nat → Nat → Bool} {x y : Nat} (hy : y < 12) (h0 : E x y = false) (hF : ∀ i j, F i j = (E i j || (decide (i = x) && decide (j = y)))) : ∀ k, prs F k = prs E k + (if x < k then 1 else 0)
  | 0 => by simp [prs]
  | k + 1 => by
    simp only [prs]
    rw [prs_one hy h0 hF k]
    by_cases e : k = x
    · subst e
      have h1 := cb_one (f := E k) (g := F k) (y := y) h0 (fun j => by rw [hF]; simp) 12
      rw [if_pos hy] at h1
      rw [h1, if_neg (by omega), if_pos (by omega)]
      omega
    · have h1 : cb (F k) 12 = cb (E k) 12 := cb_congr 12 (fun j _ => by rw [hF, decide_eq_false e]; simp)
      rw [h1]
      by_cases h2 : x < k
      · rw [if_pos h2, if_pos (by omega)]
        omega
      · rw [if_neg h2, if_neg (by omega)]
        omega
theorem prs_le (E : Nat → Nat → Bool) : ∀ k, prs E k ≤ 12 * k
  | 0 => Nat.le_refl 0
  | k + 1 => by
    have h : ∀ (f : Nat → Bool) m, cb f m ≤ m := fun f m => by
      induction m with
      | zero => exact Nat.le_refl 0
      | succ m ih =>
        simp only [cb]
        cases f m
        · simpa using Nat.le_succ_of_le ih
        · simpa using ih
    simp only [prs]
    have := prs_le E k
    have := h (E k) 12
    omega
