/-! Blocks: the greatest beginning of the greatest ratio. -/
def sbs (s t : Nat) : Prop := ∀ i, s.testBit i = true → t.testBit i = true
def vd (n : Nat) (C : Nat → Nat → Bool) (g s : Nat) : Prop := s ≠ 0 ∧ s < 2 ^ n ∧ (∀ i, s.testBit i = true → g.testBit i = false) ∧ Bg n C s g
def MB (n : Nat) (C : Nat → Nat → Bool) (L W : Nat → Nat) (g X : Nat) : Prop := vd n C g X ∧ ∀ t, vd n C g t → sm W t 12 * sm L X 12 ≤ sm W X 12 * sm L t 12 ∧ (sm W t 12 * sm L X 12 = sm W X 12 * sm L t 12 → sbs t X)
def BI (n : Nat) (C : Nat → Nat → Bool) (L W : Nat → Nat) (g k X : Nat) : Prop := (X = 0 ∧ ∀ t, vd n C g t → t < k → False) ∨ (vd n C g X ∧ ∀ t, vd n C g t → t < k → sm W t 12 * sm L X 12 ≤ sm W X 12 * sm L t 12 ∧ (sm W t 12 * sm L X 12 = sm W X 12 * sm L t 12 → sbs t X))
theorem sbs_eq {s t : Nat} (h1 : sbs s t) (h2 : sbs t s) : s = t := Nat.eq_of_testBit_eq fun i => by
  cases q : s.testBit i
  · cases q2 : t.testBit i
    · rfl
    · rw [h2 i q2] at q
      cases q
  · exact (h1 i q).symm
theorem sm_un (f : Nat → Nat) (A B : Nat) : ∀ k, sm f (A ||| B) k + sm f (A &&& B) k = sm f A k + sm f B k
  | 0 => rfl
  | k + 1 => by
    simp only [sm]
    have := sm_un f A B k
    rw [Nat.testBit_or, Nat.testBit_and]
    cases A.testBit k <;> cases B.testBit k <;> simp <;> omega
theorem ex_bit {s : Nat} (h : s ≠ 0) : ∃ i, s.testBit i = true := Classical.byContradiction fun q => h (Nat.eq_of_testBit_eq fun i => by
  rw [Nat.zero_testBit]
  cases z : s.testBit i
  · rfl
  · exact absurd ⟨i, z⟩ q)
theorem bit_lt {s n i : Nat} (hs : s < 2 ^ n) (h : s.testBit i = true) : i < n := by
  rcases Nat.lt_or_ge i n with q | q
  · exact q
  · rw [tb_big hs q] at h
    cases h
theorem sm_ge {f : Nat → Nat} {s i : Nat} : ∀ k, i < k → s.testBit i = true → f i ≤ sm f s k
  | 0, h, _ => absurd h (Nat.not_lt_zero i)
  | k + 1, h, hb => by
    simp only [sm]
    by_cases e : i = k
    · rw [← e, if_pos hb]
      omega
    · have := sm_ge (f := f) k (by omega) hb
      omega
section
variable {n : Nat} {C : Nat → Nat → Bool} {L W : Nat → Nat} {g k X s : Nat}
theorem L_pos (hn : n ≤ 12) (hL : ∀ j, j < n → 1 ≤ L j) (h : vd n C g s) : 0 < sm L s 12 := by
  obtain ⟨i, hi⟩ := ex_bit h.1
  have h1 := bit_lt h.2.1 hi
  have := sm_ge (f := L) 12 (show i < 12 by omega) hi
  have := hL i h1
  omega
theorem vd_or {A B : Nat} (h1 : vd n C g A) (h2 : vd n C g B) : vd n C g (A ||| B) := by
  refine ⟨fun e => h1.1 ?_, Nat.or_lt_two_pow h1.2.1 h2.2.1, fun i hi => ?_, fun j hj hb a ha hc => ?_⟩
  · have : A ≤ A ||| B := Nat.left_le_or
    omega
  · rw [Nat.testBit_or, Bool.or_eq_true] at hi
    exact hi.elim (h1.2.2.1 i) (h2.2.2.1 i)
  · rw [Nat.testBit_or, Bool.or_eq_true] at hb ⊢
    rcases hb with q | q
    · rcases h1.2.2.2 j hj q a ha hc with z | z
      · exact Or.inl (Or.inl z)
      · exact Or.inr z
    · rcases h2.2.2.2 j hj q a ha hc with z | z
      · exact Or.inl (Or.inr z)
      · exact Or.inr z
theorem vd_and {A B : Nat} (h1 : vd n C g A) (h2 : vd n C g B) (h0 : A &&& B ≠ 0) : vd n C g (A &&& B) := by
  refine ⟨h0, Nat.lt_of_le_of_lt Nat.and_le_left h1.2.1, fun i hi => ?_, fun j hj hb a ha hc => ?_⟩
  · rw [Nat.testBit_and, Bool.and_eq_true] at hi
    exact h1.2.2.1 i hi.1
  · rw [Nat.testBit_and, Bool.and_eq_true] at hb ⊢
    rcases h1.2.2.2 j hj hb.1 a ha hc with z | z
    · rcases h2.2.2.2 j hj hb.2 a ha hc with y | y
      · exact Or.inl ⟨z, y⟩
      · exact Or.inr y
    · exact Or.inr z
theorem MB_eq (h1 : MB n C L W g X) (h2 : MB n C L W g s) : X = s := by
  have a1 := h1.2 s h2.1
  have a2 := h2.2 X h1.1
  have e1 := Nat.mul_comm (sm W s 12) (sm L X 12)
  have e2 := Nat.mul_comm (sm W X 12) (sm L s 12)
  exact sbs_eq (a2.2 (by omega)) (a1.2 (by omega))
theorem BI_skip (h : BI n C L W g k X) (hv : ¬ vd n C g k) : BI n C L W g (k + 1) X := by
  rcases h with ⟨h1, h2⟩ | ⟨h1, h2⟩
  · refine Or.inl ⟨h1, fun t ht hk => ?_⟩
    by_cases e : t = k
    · rw [e] at ht
      exact hv ht
    · exact h2 t ht (by omega)
  · refine Or.inr ⟨h1, fun t ht hk => ?_⟩
    by_cases e : t = k
    · rw [e] at ht
      exact absurd ht hv
    · exact h2 t ht (by omega)
theorem BI_first (h : BI n C L W g k 0) (hv : vd n C g k) : BI n C L W g (k + 1) k := by
  rcases h with ⟨_, h2⟩ | ⟨h1, _⟩
  · refine Or.inr ⟨hv, fun t ht hk => ?_⟩
    by_cases e : t = k
    · rw [e]
      exact ⟨Nat.le_refl _, fun _ i hi => hi⟩
    · exact absurd (h2 t ht (by omega)) id
  · exact absurd rfl h1.1
theorem BI_more (hn : n ≤ 12) (hL : ∀ j, j < n → 1 ≤ L j) (h0 : X ≠ 0) (h : BI n C L W g k X) (hv : vd n C g k) (hc : sm W X 12 * sm L k 12 < sm W k 12 * sm L X 12) : BI n C L W g (k + 1) k := by
  rcases h with ⟨h1, _⟩ | ⟨h1, h2⟩
  · exact absurd h1 h0
  · refine Or.inr ⟨hv, fun t ht hk => ?_⟩
    by_cases e : t = k
    · rw [e]
      exact ⟨Nat.le_refl _, fun _ i hi => hi⟩
    · have a := (h2 t ht (by omega)).1
      have lX := L_pos hn hL h1
      have lt := L_pos hn hL ht
      have key : sm W t 12 * sm L k 12 < sm W k 12 * sm L t 12 := by
        have b1 : sm W t 12 * sm L X 12 * sm L k 12 ≤ sm W X 12 * sm L t 12 * sm L k 12 := Nat.mul_le_mul_right _ a
        have b2 : sm W X 12 * sm L k 12 * sm L t 12 < sm W k 12 * sm L X 12 * sm L t 12 := Nat.mul_lt_mul_of_pos_right hc lt
        have e1 : sm W t 12 * sm L X 12 * sm L k 12 = sm W t 12 * sm L k 12 * sm L X 12 := Nat.mul_right_comm _ _ _
        have e2 : sm W X 12 * sm L t 12 * sm L k 12 = sm W X 12 * sm L k 12 * sm L t 12 := Nat.mul_right_comm _ _ _
        have e3 : sm W k 12 * sm L X 12 * sm L t 12 = sm W k 12 * sm L t 12 * sm L X 12 := Nat.mul_right_comm _ _ _
        exact Nat.lt_of_mul_lt_mul_right (a := sm L X 12) (by omega)
      exact ⟨Nat.le_of_lt key, fun z => by omega⟩
theorem BI_less (h0 : X ≠ 0) (h : BI n C L W g k X) (hc : sm W k 12 * sm L X 12 < sm W X 12 * sm L k 12) : BI n C L W g (k + 1) X := by
  rcases h with ⟨h1, _⟩ | ⟨h1, h2⟩
  · exact absurd h1 h0
  · refine Or.inr ⟨h1, fun t ht hk => ?_⟩
    by_cases e : t = k
    · rw [e]
      exact ⟨Nat.le_of_lt hc, fun z => by omega⟩
    · exact h2 t ht (by omega)
theorem BI_same (hn : n ≤ 12) (hL : ∀ j, j < n → 1 ≤ L j) (h0 : X ≠ 0) (h : BI n C L W g k X) (hv : vd n C g k) (hc : sm W k 12 * sm L X 12 = sm W X 12 * sm L k 12) : BI n C L W g (k + 1) (X ||| k) := by
  rcases h with ⟨h1, _⟩ | ⟨h1, h2⟩
  · exact absurd h1 h0
  · have lX := L_pos hn hL h1
    have hU := vd_or h1 hv
    have lU := L_pos hn hL hU
    -- the intersection is no better, so the union is no worse
    have hI : sm W (X &&& k) 12 * sm L X 12 ≤ sm W X 12 * sm L (X &&& k) 12 := by
      by_cases e : X &&& k = 0
      · rw [e, sm_zero, sm_zero]
        omega
      · have vI := vd_and h1 hv e
        have le : X &&& k ≤ k := Nat.and_le_right
        by_cases e2 : X &&& k = k
        · rw [e2]
          omega
        · exact (h2 _ vI (by omega)).1
    have uW := sm_un W X k 12
    have uL := sm_un L X k 12
    have hUn : sm W X 12 * sm L (X ||| k) 12 ≤ sm W (X ||| k) 12 * sm L X 12 := by
      have b1 : (sm W (X ||| k) 12 + sm W (X &&& k) 12) * sm L X 12 = (sm W X 12 + sm W k 12) * sm L X 12 := by rw [uW]
      have b2 : sm W X 12 * (sm L (X ||| k) 12 + sm L (X &&& k) 12) = sm W X 12 * (sm L X 12 + sm L k 12) := by rw [uL]
      rw [Nat.add_mul, Nat.add_mul] at b1
      rw [Nat.mul_add, Nat.mul_add] at b2
      omega
    refine Or.inr ⟨hU, fun t ht hk => ?_⟩
    have lt := L_pos hn hL ht
    have a : sm W t 12 * sm L X 12 ≤ sm W X 12 * sm L t 12 := by
      by_cases e : t = k
      · rw [e]
        omega
      · exact (h2 t ht (by omega)).1
    have c1 : sm W t 12 * sm L X 12 * sm L (X ||| k) 12 ≤ sm W X 12 * sm L t 12 * sm L (X ||| k) 12 := Nat.mul_le_mul_right _ a
    have c2 : sm W X 12 * sm L (X ||| k) 12 * sm L t 12 ≤ sm W (X ||| k) 12 * sm L X 12 * sm L t 12 := Nat.mul_le_mul_right _ hUn
    have e1 : sm W t 12 * sm L X 12 * sm L (X ||| k) 12 = sm W t 12 * sm L (X ||| k) 12 * sm L X 12 := Nat.mul_right_comm _ _ _
    have e2 : sm W X 12 * sm L t 12 * sm L (X ||| k) 12 = sm W X 12 * sm L (X ||| k) 12 * sm L t 12 := Nat.mul_right_comm _ _ _
    have e3 : sm W (X ||| k) 12 * sm L X 12 * sm L t 12 = sm W (X ||| k) 12 * sm L t 12 * sm L X 12 := Nat.mul_right_comm _ _ _
    refine ⟨Nat.le_of_mul_le_mul_right (c := sm L X 12) (by omega) lX, fun z => ?_⟩
    have d1 : sm W t 12 * sm L (X ||| k) 12 * sm L X 12 = sm W (X ||| k) 12 * sm L t 12 * sm L X 12 := by rw [z]
    have d2 : sm W t 12 * sm L X 12 * sm L (X ||| k) 12 = sm W X 12 * sm L t 12 * sm L (X ||| k) 12 := by omega
    have d3 : sm W t 12 * sm L X 12 = sm W X 12 * sm L t 12 := Nat.eq_of_mul_eq_mul_right lU d2
    intro i hi
    rw [Nat.testBit_or]
    by_cases e : t = k
    · rw [e] at hi
      rw [hi, Bool.or_true]
    · rw [(h2 t ht (by omega)).2 d3 i hi]
      rfl
theorem BI_ex (hn : n ≤ 12) (hL : ∀ j, j < n → 1 ≤ L j) : ∀ k, ∃ X, BI n C L W g k X
  | 0 => ⟨0, Or.inl ⟨rfl, fun t _ h => Nat.not_lt_zero t h⟩⟩
  | k + 1 => by
    obtain ⟨X, h⟩ := BI_ex hn hL k
    by_cases hv : vd n C g k
    · by_cases h0 : X = 0
      · rw [h0] at h
        exact ⟨k, BI_first h hv⟩
      · rcases Nat.lt_trichotomy (sm W k 12 * sm L X 12) (sm W X 12 * sm L k 12) with z | z | z
        · exact ⟨X, BI_less h0 h z⟩
        · exact ⟨X ||| k, BI_same hn hL h0 h hv z⟩
        · exact ⟨k, BI_more hn hL h0 h hv z⟩
    · exact ⟨X, BI_skip h hv⟩
theorem vd_rest (hg : g < 2 ^ n) (hf : g ≠ 2 ^ n - 1) : vd n C g (cp n g) := by
  obtain ⟨j, hj, hb⟩ := not_full hg hf
  refine ⟨fun e => ?_, cp_lt hg, fun i hi => ?_, fun j hj hb a ha hc => ?_⟩
  · have := tb_cp (s := g) hj
    rw [e, Nat.zero_testBit, hb] at this
    cases this
  · rw [tb_cp (bit_lt (cp_lt hg) hi)] at hi
    simpa using hi
  · rw [tb_cp ha]
    cases g.testBit a
    · exact Or.inl rfl
    · exact Or.inr rfl
theorem BI_MB (hg : g < 2 ^ n) (hf : g ≠ 2 ^ n - 1) (h : BI n C L W g (2 ^ n) X) : MB n C L W g X := by
  rcases h with ⟨_, h2⟩ | ⟨h1, h2⟩
  · exact absurd (h2 _ (vd_rest hg hf) (cp_lt hg)) id
  · exact ⟨h1, fun t ht => h2 t ht ht.2.1⟩
end
noncomputable def blk (n : Nat) (C : Nat → Nat → Bool) (L W : Nat → Nat) (g : Nat) : Nat := @dite _ (∃ X, MB n C L W g X) (Classical.propDecidable _) (fun h => Classical.choose h) (fun _ => 0)
noncomputable def gs (n : Nat) (C : Nat → Nat → Bool) (L W : Nat → Nat) : Nat → Nat
  | 0 => 0
  | i + 1 => gs n C L W i ||| blk n C L W (gs n C L W i)
section
variable {n : Nat} {C : Nat → Nat → Bool} {L W : Nat → Nat} {g X s : Nat}
theorem blk_ok (h : ∃ X, MB n C L W g X) : MB n C L W g (blk n C L W g) := by
  unfold blk
  rw [dif_pos h]
  exact Classical.choose_spec h
theorem blk_MB (hn : n ≤ 12) (hL : ∀ j, j < n → 1 ≤ L j) (hg : g < 2 ^ n) (hf : g ≠ 2 ^ n - 1) : MB n C L W g (blk n C L W g) := by
  obtain ⟨X, h⟩ := BI_ex (C := C) (W := W) (g := g) hn hL (2 ^ n)
  exact blk_ok ⟨X, BI_MB hg hf h⟩
theorem blk_eq (h : MB n C L W g X) : blk n C L W g = X := MB_eq (blk_ok ⟨X, h⟩) h
/-- the longest of the greatest ratio is it -/
theorem blk_long (hn : n ≤ 12) (hL : ∀ j, j < n → 1 ≤ L j) (hg : g < 2 ^ n) (hf : g ≠ 2 ^ n - 1) (hX : vd n C g X) (h : ∀ t, vd n C g t → sm W t 12 * sm L X 12 ≤ sm W X 12 * sm L t 12 ∧ (sm W t 12 * sm L X 12 = sm W X 12 * sm L t 12 → sm L t 12 ≤ sm L X 12)) : blk n C L W g = X := by
  have hB := blk_MB (C := C) (L := L) (W := W) hn hL hg hf
  obtain ⟨B, eB⟩ : ∃ B, B = blk n C L W g := ⟨_, rfl⟩
  rw [← eB] at hB ⊢
  have a1 := hB.2 X hX
  have a2 := h B hB.1
  have e1 := Nat.mul_comm (sm W X 12) (sm L B 12)
  have e2 := Nat.mul_comm (sm W B 12) (sm L X 12)
  have s1 : sbs X B := a1.2 (by omega)
  have l1 : sm L B 12 ≤ sm L X 12 := a2.2 (by omega)
  refine sbs_eq (fun i hi => ?_) s1
  cases q : X.testBit i
  · exfalso
    have hin := bit_lt hB.1.2.1 hi
    have m1 := sm_ins (f := L) (s := X) (j := i) (k := 12) q (by omega)
    have m2 : sm L (ins X i) 12 ≤ sm L B 12 := sm_mono 12 (fun y _ hy => by
      rw [tb_ins, Bool.or_eq_true, decide_eq_true_eq] at hy
      rcases hy with z | z
      · exact s1 y z
      · rw [z]
        exact hi)
    have := hL i hin
    omega
  · rfl
theorem card_or (h : vd n C g X) : card n g < card n (g ||| X) := by
  unfold card
  have h1 := sm_un (fun _ => 1) g X n
  obtain ⟨i, hi⟩ := ex_bit h.1
  have h2 := sm_ge (f := fun _ => 1) n (bit_lt h.2.1 hi) hi
  have h3 : g &&& X = 0 := Nat.eq_of_testBit_eq fun i => by
    rw [Nat.testBit_and, Nat.zero_testBit]
    cases q : X.testBit i
    · rw [Bool.and_false]
    · rw [h.2.2.1 i q]
      rfl
  rw [h3, sm_zero] at h1
  omega
theorem gs_ok (hn : n ≤ 12) (hL : ∀ j, j < n → 1 ≤ L j) : ∀ i, (∀ x, x < i → gs n C L W x ≠ 2 ^ n - 1) → gs n C L W i < 2 ^ n ∧ i ≤ card n (gs n C L W i)
  | 0, _ => ⟨Nat.two_pow_pos n, Nat.zero_le _⟩
  | i + 1, h => by
    obtain ⟨h1, h2⟩ := gs_ok hn hL i (fun x hx => h x (by omega))
    have hM := blk_MB (C := C) (W := W) hn hL h1 (h i (by omega))
    have h3 := card_or hM.1
    exact ⟨Nat.or_lt_two_pow h1 hM.1.2.1, by show i + 1 ≤ card n (gs n C L W i ||| blk n C L W (gs n C L W i)); omega⟩
/-- how many blocks there are -/
theorem gs_end (hn : n ≤ 12) (hL : ∀ j, j < n → 1 ≤ L j) : ∃ m, m ≤ 12 ∧ gs n C L W m = 2 ^ n - 1 ∧ ∀ i, i < m → gs n C L W i ≠ 2 ^ n - 1 := by
  have ex : ∃ i, gs n C L W i = 2 ^ n - 1 ∧ i ≤ n := by
    refine Classical.byContradiction fun q => ?_
    have all : ∀ x, x < n + 1 → gs n C L W x ≠ 2 ^ n - 1 := fun x hx z => q ⟨x, z, by omega⟩
    have := (gs_ok (C := C) (W := W) hn hL (n + 1) all).2
    have := card_le n (gs n C L W (n + 1))
    omega
  obtain ⟨m, ⟨m1, m2⟩, m3⟩ := pk_least (fun i => gs n C L W i = 2 ^ n - 1 ∧ i ≤ n) ex
  exact ⟨m, by omega, m1, fun i hi z => m3 i hi ⟨z, by omega⟩⟩
theorem gs_one {m m' : Nat} (h1 : gs n C L W m = 2 ^ n - 1) (h2 : ∀ i, i < m → gs n C L W i ≠ 2 ^ n - 1) (h3 : gs n C L W m' = 2 ^ n - 1) (h4 : ∀ i, i < m' → gs n C L W i ≠ 2 ^ n - 1) : m = m' := by
  rcases Nat.lt_trichotomy m m' with z | z | z
  · exact absurd h1 (h4 m z)
  · exact z
  · exact absurd h3 (h2 m' z)
/-- each job is in a block -/
theorem gs_has {j : Nat} : ∀ m, (gs n C L W m).testBit j = true → ∃ i, i < m ∧ (blk n C L W (gs n C L W i)).testBit j = true
  | 0, h => by
    have h' : (0 : Nat).testBit j = true := h
    rw [Nat.zero_testBit] at h'
    cases h'
  | m + 1, h => by
    have h' : (gs n C L W m ||| blk n C L W (gs n C L W m)).testBit j = true := h
    rw [Nat.testBit_or, Bool.or_eq_true] at h'
    rcases h' with z | z
    · obtain ⟨i, i1, i2⟩ := gs_has m z
      exact ⟨i, by omega, i2⟩
    · exact ⟨m, by omega, z⟩
end
/-- the next smaller part of a set -/
theorem sub_next {r : Nat} : ∀ m s t, s ≤ m → s &&& r = s → t &&& r = t → t < s → t ≤ (s - 1) &&& r
  | 0, s, t, hm, _, _, hl => by omega
  | m + 1, s, t, hm, hs, ht, hl => by
    have d1 : s / 2 &&& r / 2 = s / 2 := by rw [← Nat.and_div_two, hs]
    have d2 : t / 2 &&& r / 2 = t / 2 := by rw [← Nat.and_div_two, ht]
    have d3 : ((s - 1) &&& r) / 2 = (s - 1) / 2 &&& r / 2 := Nat.and_div_two
    have hm2 : ∀ a b : Nat, (a &&& b) % 2 = 1 ↔ a % 2 = 1 ∧ b % 2 = 1 := fun a b => by
      have h1 : ∀ x : Nat, x % 2 = 1 ↔ x.testBit 0 = true := fun x => by rw [Nat.testBit_zero, decide_eq_true_eq]
      rw [h1, h1, h1, Nat.testBit_and, Bool.and_eq_true]
    by_cases q : s % 2 = 1
    · rw [show (s - 1) / 2 = s / 2 by omega, d1] at d3
      omega
    · have ih := sub_next (r := r / 2) m (s / 2) (t / 2) (by omega) d1 d2 (by omega)
      rw [show (s - 1) / 2 = s / 2 - 1 by omega] at d3
      rw [← d3] at ih
      by_cases p : t % 2 = 1
      · have p2 := (hm2 t r).mp (by rw [ht]; exact p)
        have p3 := (hm2 (s - 1) r).mpr ⟨by omega, p2.2⟩
        omega
      · omega
