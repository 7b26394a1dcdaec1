/-! Bits, small numbers, and what must come ahead. -/
theorem su_at (u : St) (k j : Nat) (v : Int32) : su u k j v k j = v := by rw [su_s]; exact if_pos rfl
theorem su_ne (u : St) {k j i : Nat} (v : Int32) (e : i ≠ j) : su u k j v k i = u k i := by rw [su_s]; exact if_neg e
theorem cln {i : Nat} (h : i < 2 ^ 31) : Int32.toNatClampNeg (nI i) = i := nI_clamp h
theorem bt_has {x : Int32} {j : Nat} (hj : j < 32) : (x >>> (nI j &&& 31)) &&& 1 = 1 ↔ bt x j = true := by
  constructor
  · intro h
    have h1 : bt ((x >>> (nI j &&& 31)) &&& 1) 0 = true := by rw [h]; decide
    rw [b_and, b_sshr j hj x (by omega), if_pos (by omega)] at h1
    simpa using (Bool.and_eq_true _ _ ▸ h1 : _ ∧ _).1
  · intro h
    refine b_ext fun i hi => ?_
    rw [b_and, b_sshr j hj x hi]
    by_cases e : i = 0
    · subst e
      rw [if_pos (by omega), Nat.add_zero, h]
      rfl
    · have e1 : bt 1 i = false := (by decide +kernel : ∀ i, i < 32 → i ≠ 0 → bt 1 i = false) i hi e
      rw [e1, Bool.and_false]
/-- k steps of 'whoever has k has all that k has' -/
def Pc (R : Nat → Nat → Bool) : Nat → Nat → Nat → Bool
  | 0, j, a => R j a
  | k + 1, j, a => Pc R k j a || (Pc R k j k && Pc R k k a)
theorem Pc_flip (R : Nat → Nat → Bool) : ∀ k j a, Pc (fun x y => R y x) k j a = Pc R k a j
  | 0, j, a => rfl
  | k + 1, j, a => by
    simp only [Pc, Pc_flip R k]
    cases Pc R k a j <;> cases Pc R k k j <;> cases Pc R k a k <;> rfl
theorem Pc_congr {R S : Nat → Nat → Bool} {n : Nat} (h : ∀ j, j < n → ∀ a, a < 32 → R j a = S j a) : ∀ k, k ≤ n → n ≤ 32 → ∀ j, j < n → ∀ a, a < 32 → Pc R k j a = Pc S k j a
  | 0, _, _, j, hj, a, ha => h j hj a ha
  | k + 1, hk, hn, j, hj, a, ha => by
    simp only [Pc]
    rw [Pc_congr h k (by omega) hn j hj a ha, Pc_congr h k (by omega) hn j hj k (by omega), Pc_congr h k (by omega) hn k (by omega) a ha]
theorem sp_has {x : Int32} {j : Nat} (hj : j < 32) {u : St} {Post : Int32 → St → Prop} (h : Post (if bt x j = true then 1 else 0) u) : wp_X12_has x (nI j) u Post := by
  unfold wp_X12_has
  refine ⟨fun c => ?_, fun c => ?_⟩
  · rw [bt_has hj] at c
    rw [if_neg c] at h
    exact h
  · rw [bt_has hj] at c
    rw [if_pos c] at h
    exact h
theorem sp_hasBit {x : Int32} {j : Nat} (hj : j < 32) {u : St} {Post : Int32 → St → Prop} (h : Post (if bt x j = true then 1 else 0) u) : wp_X11_hasBit x (nI j) u Post := by
  unfold wp_X11_hasBit
  refine ⟨fun c => ?_, fun c => ?_⟩
  · rw [bt_has hj] at c
    rw [if_neg c] at h
    exact h
  · rw [bt_has hj] at c
    rw [if_pos c] at h
    exact h
