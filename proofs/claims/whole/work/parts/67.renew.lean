/-! renew: all that the yard keeps beside its jobs is worked out anew. -/
def FD (u : St) (n : Nat) (L Wt : Nat → Nat) (E : Nat → Nat → Bool) : Prop :=
  (∀ a, a < n → ∀ b, b < 32 → bt (u 8 a) b = Pc E n a b) ∧ (∀ j, j < n → ∀ a, a < 32 → bt (u 7 j) a = (decide (a < n) && Pc E n a j)) ∧
  (∀ p, p < 2 ^ min n 6 → u 9 p = nI (sm L p 6) ∧ u 10 p = nI (sm Wt p 6) ∧ ∀ a, a < 32 → bt (u 11 p) a = ob (fun i a => bt (u 7 i) a) p a 6) ∧
  (∀ p, p < 2 ^ min (n - 6) 6 → u 9 (64 + p) = nI (sm (fun i => L (6 + i)) p 6) ∧ u 10 (64 + p) = nI (sm (fun i => Wt (6 + i)) p 6) ∧ ∀ a, a < 32 → bt (u 11 (64 + p)) a = ob (fun i a => bt (u 7 (6 + i)) a) p a 6)
/-- the empty set's sums are 0 -/
def FZ (u : St) : Prop := u 9 0 = 0 ∧ u 10 0 = 0 ∧ u 11 0 = 0 ∧ u 9 64 = 0 ∧ u 10 64 = 0 ∧ u 11 64 = 0
set_option maxHeartbeats 2000000 in
theorem sp_renew {u : St} {n : Nat} {L Wt : Nat → Nat} {E : Nat → Nat → Bool} (hn : n ≤ 12) (h0 : u 1 7 = nI n) (hL : ∀ j, j < n → u 3 j = nI (L j)) (hW : ∀ j, j < n → u 4 j = nI (Wt j)) (hE : ∀ a, a < n → ∀ b, b < 32 → bt (u 6 a) b = E a b) (hz : FZ u) {Post : Int32 → St → Prop}
    (hP : ∀ v : St, (∀ c, c ≠ 1 → c ≠ 7 → c ≠ 8 → c ≠ 9 → c ≠ 10 → c ≠ 11 → v c = u c) → v 1 = upd (u 1) 9 (u 1 9 + 1) → FD v n L Wt E → FZ v → Post 0 v) : wp_X10_renew u Post := by
  obtain ⟨z1, z2, z3, z4, z5, z6⟩ := hz
  unfold wp_X10_renew
  have k17 : su u 1 9 (u 1 9 + 1) 1 7 = nI n := by rw [su_ne _ _ (by decide)]; exact h0
  refine sp_follow hn k17 (fun v1 a1 a2 => ?_)
  have b1 : v1 1 = upd (u 1) 9 (u 1 9 + 1) := by rw [a1 1 (by decide), su_s]
  have bc : ∀ c, c ≠ 1 → c ≠ 8 → v1 c = u c := fun c h1 h8 => by rw [a1 c h8, su_n _ _ _ h1]
  have c17 : v1 1 7 = nI n := by rw [a1 1 (by decide)]; exact k17
  have b8 : ∀ j, j < n → ∀ a, a < 32 → bt (v1 8 j) a = Pc E n j a := fun j hj a ha => by
    rw [a2 j hj a ha]
    refine Pc_congr (n := n) (fun j hj a ha => ?_) n (Nat.le_refl n) (by omega) j hj a ha
    rw [su_n _ _ _ (show (6 : Nat) ≠ 1 by decide)]
    exact hE j hj a ha
  refine sp_turn hn c17 (fun v2 d1 d2 => ?_)
  have e17 : v2 1 7 = nI n := by rw [d1 1 (by decide)]; exact c17
  have e7 : ∀ j, j < n → ∀ a, a < 32 → bt (v2 7 j) a = (decide (a < n) && Pc E n a j) := fun j hj a ha => by
    rw [d2 j hj a ha]
    by_cases h : a < n
    · rw [b8 a h j (by omega)]
    · rw [decide_eq_false h, Bool.false_and, Bool.false_and]
  have ec : ∀ c, c ≠ 1 → c ≠ 7 → c ≠ 8 → v2 c = u c := fun c h1 h7 h8 => by rw [d1 c h7, bc c h1 h8]
  show wp_X10_sumHalf (nI 0) (nI 0) v2 _
  refine sp_sumHalf (L := L) (Wt := Wt) hn (Or.inl rfl) (Or.inl rfl) e17 (fun j hj => by rw [ec 3 (by decide) (by decide) (by decide)]; exact hL j hj) (fun j hj => by rw [ec 4 (by decide) (by decide) (by decide)]; exact hW j hj) (by rw [ec 9 (by decide) (by decide) (by decide)]; exact z1) (by rw [ec 10 (by decide) (by decide) (by decide)]; exact z2) (by rw [ec 11 (by decide) (by decide) (by decide)]; exact z3) (fun v3 f1 f2 f3 => ?_)
  have g17 : v3 1 7 = nI n := by rw [f1 1 (by decide) (by decide) (by decide)]; exact e17
  have gc : ∀ c, c ≠ 1 → c ≠ 7 → c ≠ 8 → c ≠ 9 → c ≠ 10 → c ≠ 11 → v3 c = u c := fun c h1 h7 h8 h9 h10 h11 => by rw [f1 c h9 h10 h11, ec c h1 h7 h8]
  show wp_X10_sumHalf (nI 64) (nI 6) v3 _
  refine sp_sumHalf (L := L) (Wt := Wt) hn (Or.inr rfl) (Or.inr rfl) g17 (fun j hj => by rw [gc 3 (by decide) (by decide) (by decide) (by decide) (by decide) (by decide)]; exact hL j hj) (fun j hj => by rw [gc 4 (by decide) (by decide) (by decide) (by decide) (by decide) (by decide)]; exact hW j hj) (by rw [f2 9 64 (by omega), ec 9 (by decide) (by decide) (by decide)]; exact z4) (by rw [f2 10 64 (by omega), ec 10 (by decide) (by decide) (by decide)]; exact z5) (by rw [f2 11 64 (by omega), ec 11 (by decide) (by decide) (by decide)]; exact z6) (fun v4 i1 i2 i3 => ?_)
  have j7 : v4 7 = v2 7 := by rw [i1 7 (by decide) (by decide) (by decide), f1 7 (by decide) (by decide) (by decide)]
  have j37 : v3 7 = v2 7 := f1 7 (by decide) (by decide) (by decide)
  have j8 : v4 8 = v1 8 := by rw [i1 8 (by decide) (by decide) (by decide), f1 8 (by decide) (by decide) (by decide), d1 8 (by decide)]
  have hp6 : 2 ^ min (n - 0) 6 ≤ 2 ^ 6 := Nat.pow_le_pow_right (by decide) (Nat.min_le_right _ _)
  refine hP v4 (fun c h1 h7 h8 h9 h10 h11 => by rw [i1 c h9 h10 h11, gc c h1 h7 h8 h9 h10 h11]) (by rw [i1 1 (by decide) (by decide) (by decide), f1 1 (by decide) (by decide) (by decide), d1 1 (by decide)]; exact b1) ⟨fun a ha b hb => by rw [j8]; exact b8 a ha b hb, fun j hj a ha => by rw [j7]; exact e7 j hj a ha, fun p hp => ?_, fun p hp => ?_⟩ ?_
  · have hp0 : p < 2 ^ min (n - 0) 6 := hp
    have hp64 : p ≤ 64 := by omega
    obtain ⟨r9, r10, r11⟩ := f3 p hp0
    rw [Nat.zero_add] at r9 r10 r11
    refine ⟨by rw [i2 9 p (Or.inl hp64), r9]; simp only [Nat.zero_add], by rw [i2 10 p (Or.inl hp64), r10]; simp only [Nat.zero_add], fun a ha => ?_⟩
    rw [i2 11 p (Or.inl hp64), r11 a ha, j7]
    simp only [Nat.zero_add]
  · obtain ⟨r9, r10, r11⟩ := i3 p hp
    refine ⟨r9, r10, fun a ha => ?_⟩
    rw [r11 a ha, j7, j37]
  · refine ⟨?_, ?_, ?_, ?_, ?_, ?_⟩
    · rw [i2 9 0 (by omega), f2 9 0 (by omega), ec 9 (by decide) (by decide) (by decide)]; exact z1
    · rw [i2 10 0 (by omega), f2 10 0 (by omega), ec 10 (by decide) (by decide) (by decide)]; exact z2
    · rw [i2 11 0 (by omega), f2 11 0 (by omega), ec 11 (by decide) (by decide) (by decide)]; exact z3
    · rw [i2 9 64 (by omega), f2 9 64 (by omega), ec 9 (by decide) (by decide) (by decide)]; exact z4
    · rw [i2 10 64 (by omega), f2 10 64 (by omega), ec 10 (by decide) (by decide) (by decide)]; exact z5
    · rw [i2 11 64 (by omega), f2 11 64 (by omega), ec 11 (by decide) (by decide) (by decide)]; exact z6
