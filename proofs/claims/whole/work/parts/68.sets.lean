/-! Sets as numbers: what the yard says of them. -/
theorem bt_nI {s i : Nat} (hi : i < 32) : bt (nI s) i = s.testBit i := by
  unfold bt nI
  show (BitVec.ofNat 32 s).getLsbD i = _
  rw [BitVec.getLsbD_ofNat]
  simp [hi]
theorem bt_not {x : Int32} {i : Nat} (hi : i < 32) : bt (x ^^^ (-1 : Int32)) i = !bt x i := by
  rw [b_xor, b_m1 i hi]
  cases bt x i <;> rfl
theorem b_zero {x : Int32} : x = 0 ↔ ∀ i, i < 32 → bt x i = false := ⟨fun h i _ => by rw [h, b_0], fun h => b_ext fun i hi => by rw [h i hi, b_0]⟩
theorem bt_has0 {x : Int32} {j : Nat} (hj : j < 32) : (x >>> (nI j &&& 31)) &&& 1 = 0 ↔ bt x j = false := by
  constructor
  · intro h
    by_cases e : bt x j = true
    · rw [(bt_has hj).mpr e] at h
      exact absurd h (by decide)
    · simpa using e
  · intro h
    refine b_zero.mpr fun i hi => ?_
    rw [b_and, b_sshr j hj x hi]
    by_cases e : i = 0
    · subst e
      rw [if_pos (by omega), Nat.add_zero, h, Bool.false_and]
    · have e1 : bt 1 i = false := (by decide +kernel : ∀ i, i < 32 → i ≠ 0 → bt 1 i = false) i hi e
      rw [e1, Bool.and_false]
theorem tb_big {s n i : Nat} (h : s < 2 ^ n) (hi : n ≤ i) : s.testBit i = false := Nat.testBit_lt_two_pow (Nat.lt_of_lt_of_le h (Nat.pow_le_pow_right (by decide) hi))
theorem ob_iff {f : Nat → Nat → Bool} {p a : Nat} : ∀ k, ob f p a k = true ↔ ∃ i, i < k ∧ p.testBit i = true ∧ f i a = true
  | 0 => by simp [ob]
  | k + 1 => by
    simp only [ob, Bool.or_eq_true, Bool.and_eq_true, ob_iff k]
    constructor
    · rintro (⟨i, h1, h2⟩ | h)
      · exact ⟨i, by omega, h2⟩
      · exact ⟨k, by omega, h⟩
    · rintro ⟨i, h1, h2⟩
      by_cases e : i = k
      · subst e
        exact Or.inr h2
      · exact Or.inl ⟨i, by omega, h2⟩
theorem sm_congr {f g : Nat → Nat} {p q : Nat} : ∀ k, (∀ i, i < k → p.testBit i = q.testBit i ∧ f i = g i) → sm f p k = sm g q k
  | 0, _ => rfl
  | k + 1, h => by
    simp only [sm]
    rw [sm_congr k (fun i hi => h i (by omega)), (h k (by omega)).1, (h k (by omega)).2]
theorem sm_split (f : Nat → Nat) (p : Nat) : ∀ k, sm f p (6 + k) = sm f p 6 + sm (fun i => f (6 + i)) (p / 64) k
  | 0 => rfl
  | k + 1 => by
    show sm f p (6 + k) + (if p.testBit (6 + k) = true then f (6 + k) else 0) = sm f p 6 + (sm (fun i => f (6 + i)) (p / 64) k + (if (p / 64).testBit k = true then f (6 + k) else 0))
    rw [sm_split f p k, show p / 64 = p / 2 ^ 6 from rfl, Nat.testBit_div_two_pow, Nat.add_comm k 6, Nat.add_assoc]
theorem sm_12 (f : Nat → Nat) (s : Nat) : sm f (s % 64) 6 + sm (fun i => f (6 + i)) (s / 64) 6 = sm f s 12 := by
  rw [show (12 : Nat) = 6 + 6 from rfl, sm_split]
  congr 1
  refine sm_congr 6 fun i hi => ⟨?_, rfl⟩
  rw [show s % 64 = s % 2 ^ 6 from rfl, Nat.testBit_mod_two_pow]
  simp [hi]
theorem s_and63 {s : Nat} (h : s < 4096) : nI s &&& (63 : Int32) = nI (s % 64) := pk_andN (by omega) 6 (by decide)
theorem s_shr6 {s : Nat} (h : s < 4096) : nI s >>> ((6 : Int32) &&& 31) = nI (s / 64) := pk_shrN (by omega) _ 6 (by decide)
theorem pow12 {s n : Nat} (h : s < 2 ^ n) (hn : n ≤ 12) : s < 4096 := Nat.lt_of_lt_of_le h (Nat.pow_le_pow_right (n := 2) (by decide) hn)
theorem half_lo {s n : Nat} (h : s < 2 ^ n) : s % 64 < 2 ^ min n 6 := by
  rcases Nat.lt_or_ge n 6 with q | q
  · rw [Nat.min_eq_left (by omega)]
    exact Nat.lt_of_le_of_lt (Nat.mod_le _ _) h
  · rw [Nat.min_eq_right q]
    exact Nat.mod_lt _ (by decide)
theorem half_hi {s n : Nat} (h : s < 2 ^ n) (hn : n ≤ 12) : s / 64 < 2 ^ min (n - 6) 6 := by
  rw [Nat.min_eq_left (by omega)]
  rcases Nat.lt_or_ge n 6 with q | q
  · have h2 : 2 ^ n ≤ 2 ^ 6 := Nat.pow_le_pow_right (by decide) (by omega)
    have h1 : s < 64 := Nat.lt_of_lt_of_le h h2
    rw [Nat.div_eq_of_lt h1]
    exact Nat.two_pow_pos _
  · refine (Nat.div_lt_iff_lt_mul (by decide)).mpr ?_
    have e : 2 ^ (n - 6) * 64 = 2 ^ n := by rw [show (64 : Nat) = 2 ^ 6 from rfl, ← Nat.pow_add]; congr 1; omega
    omega
section
variable {u : St} {n : Nat} {L Wt : Nat → Nat} {E : Nat → Nat → Bool} {s : Nat} {Post : Int32 → St → Prop}
theorem hi_ix {s : Nat} (h : s < 4096) : (64 : Int32) + nI (s / 64) = nI (64 + s / 64) := nI_add 64 (s / 64)
theorem sp_lengthOf (hn : n ≤ 12) (hD : FD u n L Wt E) (hs : s < 2 ^ n) (h : Post (nI (sm L s 12)) u) : wp_X10_lengthOf (nI s) u Post := by
  have h4 := pow12 hs hn
  unfold wp_X10_lengthOf
  rw [s_and63 h4, s_shr6 h4, hi_ix h4, cln (by omega), cln (by omega)]
  refine ⟨vp_in_nI (by omega) (by decide), vp_in_nI (by omega) (by decide), ?_⟩
  rw [(hD.2.2.1 _ (half_lo hs)).1, (hD.2.2.2 _ (half_hi hs hn)).1, nI_add, sm_12]
  exact h
theorem sp_weightOf (hn : n ≤ 12) (hD : FD u n L Wt E) (hs : s < 2 ^ n) (h : Post (nI (sm Wt s 12)) u) : wp_X10_weightOf (nI s) u Post := by
  have h4 := pow12 hs hn
  unfold wp_X10_weightOf
  rw [s_and63 h4, s_shr6 h4, hi_ix h4, cln (by omega), cln (by omega)]
  refine ⟨vp_in_nI (by omega) (by decide), vp_in_nI (by omega) (by decide), ?_⟩
  rw [(hD.2.2.1 _ (half_lo hs)).2.1, (hD.2.2.2 _ (half_hi hs hn)).2.1, nI_add, sm_12]
  exact h
end
/-- j may come next behind s -/
def Nx (n : Nat) (C : Nat → Nat → Bool) (s j : Nat) : Prop := s.testBit j = false ∧ ∀ a, a < n → C a j = true → s.testBit a = true
/-- s is a beginning, g set aside -/
def Bg (n : Nat) (C : Nat → Nat → Bool) (s g : Nat) : Prop := ∀ j, j < n → s.testBit j = true → ∀ a, a < n → C a j = true → s.testBit a = true ∨ g.testBit a = true
section
variable {u : St} {n : Nat} {L Wt : Nat → Nat} {E : Nat → Nat → Bool} {s j : Nat} {Post : Int32 → St → Prop}
theorem sp_mayComeNext (hn : n ≤ 12) (hD : FD u n L Wt E) (hs : s < 2 ^ n) (hj : j < n) (h1 : Nx n (Pc E n) s j → Post 1 u) (h0 : ¬ Nx n (Pc E n) s j → Post 0 u) : wp_X10_mayComeNext (nI s) (nI j) u Post := by
  have h4 := pow12 hs hn
  unfold wp_X10_mayComeNext
  rw [bt_has0 (by omega), bt_nI (by omega)]
  refine ⟨fun c => h0 fun q => c q.1, fun c => ⟨vp_in_nI (by omega) (by decide), ?_⟩⟩
  rw [cln (by omega)]
  have key : (u 7 j &&& (nI s ^^^ (-1 : Int32)) = 0) ↔ ∀ a, a < n → Pc E n a j = true → s.testBit a = true := by
    rw [b_zero]
    constructor
    · intro h a ha hc
      have := h a (by omega)
      rw [b_and, hD.2.1 j hj a (by omega), bt_not (by omega), bt_nI (by omega), decide_eq_true ha, hc] at this
      simpa using this
    · intro h a ha
      rw [b_and, hD.2.1 j hj a ha, bt_not ha, bt_nI ha]
      by_cases q : a < n
      · by_cases q2 : Pc E n a j = true
        · rw [h a q q2]
          simp
        · rw [Bool.not_eq_true] at q2
          rw [q2]
          simp
      · rw [decide_eq_false q]
        simp
  exact ⟨fun d => h0 fun q => d (key.mpr q.2), fun d => h1 ⟨c, key.mp d⟩⟩
theorem needs_iff (hn : n ≤ 12) (hD : FD u n L Wt E) (hs : s < 2 ^ n) {a : Nat} (ha : a < 32) : bt (u 11 (s % 64) ||| u 11 (64 + s / 64)) a = true ↔ ∃ j, j < n ∧ s.testBit j = true ∧ a < n ∧ Pc E n a j = true := by
  rw [b_or, Bool.or_eq_true, (hD.2.2.1 _ (half_lo hs)).2.2 a ha, (hD.2.2.2 _ (half_hi hs hn)).2.2 a ha, ob_iff, ob_iff]
  have e1 : ∀ i, i < 6 → (s % 64).testBit i = s.testBit i := fun i hi => by
    rw [show s % 64 = s % 2 ^ 6 from rfl, Nat.testBit_mod_two_pow]
    simp [hi]
  have e2 : ∀ i, (s / 64).testBit i = s.testBit (i + 6) := fun i => by rw [show s / 64 = s / 2 ^ 6 from rfl, Nat.testBit_div_two_pow]
  have lt : ∀ i, s.testBit i = true → i < n := fun i hi => by
    rcases Nat.lt_or_ge i n with q | q
    · exact q
    · rw [tb_big hs q] at hi
      cases hi
  constructor
  · rintro (⟨i, h1, h2, h3⟩ | ⟨i, h1, h2, h3⟩)
    · rw [e1 i h1] at h2
      rw [hD.2.1 i (lt i h2) a ha, Bool.and_eq_true, decide_eq_true_eq] at h3
      exact ⟨i, lt i h2, h2, h3.1, h3.2⟩
    · rw [e2 i] at h2
      rw [Nat.add_comm 6 i, hD.2.1 (i + 6) (lt _ h2) a ha, Bool.and_eq_true, decide_eq_true_eq] at h3
      exact ⟨i + 6, lt _ h2, h2, h3.1, h3.2⟩
  · rintro ⟨j, h1, h2, h3, h4⟩
    have h5 : bt (u 7 j) a = true := by rw [hD.2.1 j h1 a ha, h4, decide_eq_true h3]; rfl
    rcases Nat.lt_or_ge j 6 with q | q
    · exact Or.inl ⟨j, q, by rw [e1 j q]; exact h2, h5⟩
    · exact Or.inr ⟨j - 6, by omega, by rw [e2, show j - 6 + 6 = j by omega]; exact h2, by rw [show 6 + (j - 6) = j by omega]; exact h5⟩
theorem sp_isBeginning {g : Nat} (hn : n ≤ 12) (hD : FD u n L Wt E) (hs : s < 2 ^ n) (h1 : Bg n (Pc E n) s g → Post 1 u) (h0 : ¬ Bg n (Pc E n) s g → Post 0 u) : wp_X10_isBeginning (nI s) (nI g) u Post := by
  have h4 := pow12 hs hn
  unfold wp_X10_isBeginning
  rw [s_and63 h4, s_shr6 h4, hi_ix h4, cln (i := s % 64) (by omega), cln (i := 64 + s / 64) (by omega)]
  refine ⟨vp_in_nI (by omega) (by decide), vp_in_nI (by omega) (by decide), ?_⟩
  have key : ((u 11 (s % 64) ||| u 11 (64 + s / 64)) &&& (nI s ^^^ (-1 : Int32))) &&& (nI g ^^^ (-1 : Int32)) = 0 ↔ Bg n (Pc E n) s g := by
    rw [b_zero]
    constructor
    · intro h j hj hsj a ha hc
      have h5 := h a (by omega)
      rw [b_and, b_and, (needs_iff hn hD hs (by omega)).mpr ⟨j, hj, hsj, ha, hc⟩, bt_not (by omega), bt_not (by omega), bt_nI (by omega), bt_nI (by omega)] at h5
      cases h6 : s.testBit a
      · cases h7 : g.testBit a
        · rw [h6, h7] at h5
          cases h5
        · exact Or.inr rfl
      · exact Or.inl rfl
    · intro h a ha
      rw [b_and, b_and, bt_not ha, bt_not ha, bt_nI ha, bt_nI ha]
      by_cases q : bt (u 11 (s % 64) ||| u 11 (64 + s / 64)) a = true
      · obtain ⟨j, k1, k2, k3, k4⟩ := (needs_iff hn hD hs ha).mp q
        rcases h j k1 k2 a k3 k4 with w | w
        · rw [w]
          simp
        · rw [w]
          simp
      · rw [Bool.not_eq_true] at q
        rw [q]
        simp
  exact ⟨fun d => h0 fun q => d (key.mpr q), fun d => h1 (key.mp d)⟩
end
