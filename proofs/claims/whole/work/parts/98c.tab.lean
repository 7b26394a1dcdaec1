/-! The tables of the plan: least cost of what comes behind a set, and how many orders have it. -/
def stp (L W : Nat → Nat) (s j : Nat) : Nat := W j * (sm L s 12 + L j)
def ins (s j : Nat) : Nat := s ||| 2 ^ j
def nxB (n : Nat) (C : Nat → Nat → Bool) (s j : Nat) : Bool := !s.testBit j && (List.range n).all (fun a => !C a j || s.testBit a)
theorem nxB_iff {n : Nat} {C : Nat → Nat → Bool} {s j : Nat} : nxB n C s j = true ↔ Nx n C s j := by
  unfold nxB Nx
  rw [Bool.and_eq_true, List.all_eq_true]
  constructor
  · rintro ⟨h1, h2⟩
    refine ⟨by simpa using h1, fun a ha hc => ?_⟩
    have := h2 a (List.mem_range.mpr ha)
    rw [hc] at this
    simpa using this
  · rintro ⟨h1, h2⟩
    refine ⟨by rw [h1]; rfl, fun a ha => ?_⟩
    cases q : C a j
    · rfl
    · rw [h2 a (List.mem_range.mp ha) q]
      rfl
theorem tb_pow (j i : Nat) : (2 ^ j).testBit i = decide (i = j) := by
  rw [Nat.testBit_two_pow]
  exact decide_eq_decide.mpr ⟨Eq.symm, Eq.symm⟩
theorem tb_ins (s j i : Nat) : (ins s j).testBit i = (s.testBit i || decide (i = j)) := by
  unfold ins
  rw [Nat.testBit_or, tb_pow]
theorem ins_lt {s j n : Nat} (hs : s < 2 ^ n) (hj : j < n) : ins s j < 2 ^ n := Nat.or_lt_two_pow hs (Nat.pow_lt_pow_right (by decide) hj)
theorem lt_ins {s j : Nat} (h : s.testBit j = false) : s < ins s j := by
  refine Nat.lt_of_le_of_ne Nat.left_le_or fun e => ?_
  have h1 : (ins s j).testBit j = true := by
    rw [tb_ins]
    simp
  have h2 : s.testBit j = (ins s j).testBit j := congrArg (fun x => x.testBit j) e
  rw [h, h1] at h2
  cases h2
theorem sm_ins {f : Nat → Nat} {s j k : Nat} (h : s.testBit j = false) (hj : j < k) : sm f (ins s j) k = sm f s k + f j := by
  have := sm_drop (f := f) (p := ins s j) (q := s) (d := j) (by rw [tb_ins]; simp) k (fun i _ => by
    rw [tb_ins]
    by_cases e : i = j
    · subst e
      rw [h]
      simp
    · simp [e])
  rw [this, if_pos hj]
theorem sm_cut {f : Nat → Nat} {s n : Nat} (hs : s < 2 ^ n) : ∀ k, sm f s (n + k) = sm f s n
  | 0 => rfl
  | k + 1 => by
    show sm f s (n + k) + (if s.testBit (n + k) = true then f (n + k) else 0) = _
    rw [sm_cut hs k, tb_big hs (Nat.le_add_right n k)]
    simp
theorem sm_n {f : Nat → Nat} {s n : Nat} (hs : s < 2 ^ n) (hn : n ≤ 12) : sm f s 12 = sm f s n := by
  have := sm_cut (f := f) hs (12 - n)
  rw [show n + (12 - n) = 12 by omega] at this
  exact this
theorem sm_le {f : Nat → Nat} {s b : Nat} : ∀ k, (∀ j, j < k → s.testBit j = true → f j ≤ b) → sm f s k ≤ b * k
  | 0, _ => Nat.le_refl _
  | k + 1, h => by
    simp only [sm]
    have h1 := sm_le (f := f) (s := s) (b := b) k (fun j hj => h j (by omega))
    rw [Nat.mul_succ]
    by_cases q : s.testBit k = true
    · have := h k (by omega) q
      rw [if_pos q]
      omega
    · rw [if_neg q]
      omega
theorem sm_mono {f : Nat → Nat} {s t : Nat} : ∀ k, (∀ j, j < k → s.testBit j = true → t.testBit j = true) → sm f s k ≤ sm f t k
  | 0, _ => Nat.le_refl _
  | k + 1, h => by
    simp only [sm]
    have h1 := sm_mono (f := f) (s := s) (t := t) k (fun j hj => h j (by omega))
    by_cases q : s.testBit k = true
    · rw [if_pos q, if_pos (h k (by omega) q)]
      omega
    · rw [if_neg q]
      omega
theorem tb_full {n i : Nat} : (2 ^ n - 1).testBit i = decide (i < n) := Nat.testBit_two_pow_sub_one n i
theorem eq_full {s n : Nat} (hs : s < 2 ^ n) (h : ∀ j, j < n → s.testBit j = true) : s = 2 ^ n - 1 := by
  refine Nat.eq_of_testBit_eq fun i => ?_
  rw [tb_full]
  by_cases q : i < n
  · rw [h i q, decide_eq_true q]
  · rw [tb_big hs (by omega), decide_eq_false q]
theorem not_full {s n : Nat} (hs : s < 2 ^ n) (h : s ≠ 2 ^ n - 1) : ∃ j, j < n ∧ s.testBit j = false := by
  by_cases q : ∃ j, j < n ∧ s.testBit j = false
  · exact q
  · refine absurd (eq_full hs fun j hj => ?_) h
    cases e : s.testBit j
    · exact absurd ⟨j, hj, e⟩ q
    · rfl
/-- how many there are -/
def card (n s : Nat) : Nat := sm (fun _ => 1) s n
theorem card_ins {n s j : Nat} (h : s.testBit j = false) (hj : j < n) : card n (ins s j) = card n s + 1 := sm_ins h hj
theorem card_le (n s : Nat) : card n s ≤ n := by
  have := sm_le (f := fun _ => 1) (s := s) (b := 1) n (fun _ _ _ => Nat.le_refl 1)
  unfold card
  omega
theorem sm_full {n : Nat} : ∀ k, k ≤ n → sm (fun _ => 1) (2 ^ n - 1) k = k
  | 0, _ => rfl
  | k + 1, h => by
    simp only [sm]
    rw [sm_full k (by omega), tb_full, decide_eq_true (by omega)]
    rfl
theorem card_full (n : Nat) : card n (2 ^ n - 1) = n := sm_full n (Nat.le_refl n)
theorem card_0 (n : Nat) : card n 0 = 0 := by
  unfold card
  have : ∀ k, sm (fun _ => 1) 0 k = 0 := fun k => by
    induction k with
    | zero => rfl
    | succ k ih =>
      simp only [sm]
      rw [ih, Nat.zero_testBit]
      rfl
  exact this n
theorem card_lt {n s : Nat} (hs : s < 2 ^ n) (h : s ≠ 2 ^ n - 1) : card n s < n := by
  obtain ⟨j, hj, e⟩ := not_full hs h
  have h1 := card_ins e hj
  have h2 := card_le n (ins s j)
  omega
/-! the running least -/
def gm (ok : Nat → Bool) (c : Nat → Nat) (o : Nat → Int32) : Nat → Nat × Int32
  | 0 => (1000000000, 0)
  | j + 1 => if ok j = true then (if c j < (gm ok c o j).1 then (c j, o j) else if c j = (gm ok c o j).1 then ((gm ok c o j).1, (gm ok c o j).2 + o j) else gm ok c o j) else gm ok c o j
theorem gm_congr {ok ok' : Nat → Bool} {c c' : Nat → Nat} {o o' : Nat → Int32} : ∀ k, (∀ j, j < k → ok j = ok' j ∧ (ok j = true → c j = c' j ∧ o j = o' j)) → gm ok c o k = gm ok' c' o' k
  | 0, _ => rfl
  | k + 1, h => by
    simp only [gm]
    rw [gm_congr k (fun j hj => h j (by omega)), ← (h k (by omega)).1]
    by_cases q : ok k = true
    · obtain ⟨h1, h2⟩ := (h k (by omega)).2 q
      rw [if_pos q, if_pos q, h1, h2]
    · rw [if_neg q, if_neg q]
def sI (f : Nat → Int32) : Nat → Int32
  | 0 => 0
  | k + 1 => sI f k + f k
theorem sI_congr {f g : Nat → Int32} : ∀ k, (∀ j, j < k → f j = g j) → sI f k = sI g k
  | 0, _ => rfl
  | k + 1, h => by
    simp only [sI]
    rw [sI_congr k (fun j hj => h j (by omega)), h k (by omega)]
theorem sI_0 {f : Nat → Int32} : ∀ k, (∀ j, j < k → f j = 0) → sI f k = 0
  | 0, _ => rfl
  | k + 1, h => by
    simp only [sI]
    rw [sI_0 k (fun j hj => h j (by omega)), h k (by omega)]
    rfl
theorem gm_all {ok : Nat → Bool} {c : Nat → Nat} {o : Nat → Int32} : ∀ k, (∀ j, j < k → ok j = true → (gm ok c o k).1 ≤ c j) ∧ ((gm ok c o k).1 = 1000000000 ∨ ∃ j, j < k ∧ ok j = true ∧ (gm ok c o k).1 = c j) ∧ (gm ok c o k).2 = sI (fun j => if ok j = true ∧ c j = (gm ok c o k).1 then o j else 0) k
  | 0 => ⟨fun j hj => absurd hj (Nat.not_lt_zero j), Or.inl rfl, rfl⟩
  | k + 1 => by
    obtain ⟨h1, h2, h3⟩ := gm_all (ok := ok) (c := c) (o := o) k
    by_cases q : ok k = true
    · by_cases q1 : c k < (gm ok c o k).1
      · have e : gm ok c o (k + 1) = (c k, o k) := by
          simp only [gm]
          rw [if_pos q, if_pos q1]
        rw [e]
        refine ⟨fun j hj hok => ?_, Or.inr ⟨k, by omega, q, rfl⟩, ?_⟩
        · show c k ≤ c j
          by_cases e : j = k
          · rw [e]
            exact Nat.le_refl _
          · have := h1 j (by omega) hok
            omega
        · show o k = sI (fun j => if ok j = true ∧ c j = c k then o j else 0) k + (if ok k = true ∧ c k = c k then o k else 0)
          rw [if_pos ⟨q, rfl⟩, sI_0 k (fun j hj => by
            rw [if_neg]
            rintro ⟨a1, a2⟩
            have := h1 j hj a1
            omega)]
          exact (Int32.zero_add _).symm
      · by_cases q2 : c k = (gm ok c o k).1
        · have e : gm ok c o (k + 1) = ((gm ok c o k).1, (gm ok c o k).2 + o k) := by
            simp only [gm]
            rw [if_pos q, if_neg q1, if_pos q2]
          rw [e]
          refine ⟨fun j hj hok => ?_, ?_, ?_⟩
          · show (gm ok c o k).1 ≤ c j
            by_cases e : j = k
            · rw [e, q2]
              exact Nat.le_refl _
            · exact h1 j (by omega) hok
          · exact Or.inr ⟨k, by omega, q, q2.symm⟩
          · show (gm ok c o k).2 + o k = sI (fun j => if ok j = true ∧ c j = (gm ok c o k).1 then o j else 0) k + (if ok k = true ∧ c k = (gm ok c o k).1 then o k else 0)
            rw [if_pos ⟨q, q2⟩, ← h3]
        · have e : gm ok c o (k + 1) = gm ok c o k := by
            simp only [gm]
            rw [if_pos q, if_neg q1, if_neg q2]
          rw [e]
          refine ⟨fun j hj hok => ?_, ?_, ?_⟩
          · by_cases e : j = k
            · rw [e]
              omega
            · exact h1 j (by omega) hok
          · rcases h2 with h2 | ⟨j, j1, j2, j3⟩
            · exact Or.inl h2
            · exact Or.inr ⟨j, by omega, j2, j3⟩
          · show (gm ok c o k).2 = sI (fun j => if ok j = true ∧ c j = (gm ok c o k).1 then o j else 0) k + (if ok k = true ∧ c k = (gm ok c o k).1 then o k else 0)
            rw [if_neg (fun z => q2 z.2), Int32.add_zero]
            exact h3
    · have e : gm ok c o (k + 1) = gm ok c o k := by
        simp only [gm]
        rw [if_neg q]
      rw [e]
      refine ⟨fun j hj hok => ?_, ?_, ?_⟩
      · by_cases e : j = k
        · rw [e] at hok
          exact absurd hok q
        · exact h1 j (by omega) hok
      · rcases h2 with h2 | ⟨j, j1, j2, j3⟩
        · exact Or.inl h2
        · exact Or.inr ⟨j, by omega, j2, j3⟩
      · show (gm ok c o k).2 = sI (fun j => if ok j = true ∧ c j = (gm ok c o k).1 then o j else 0) k + (if ok k = true ∧ c k = (gm ok c o k).1 then o k else 0)
        rw [if_neg (fun z => q z.1), Int32.add_zero]
        exact h3
/-! the tables -/
def tbl (n : Nat) (C : Nat → Nat → Bool) (L W : Nat → Nat) : Nat → Nat → Nat × Int32
  | 0, _ => (0, 1)
  | k + 1, s => gm (fun j => nxB n C s j) (fun j => stp L W s j + (tbl n C L W k (ins s j)).1) (fun j => (tbl n C L W k (ins s j)).2) n
def bT (n : Nat) (C : Nat → Nat → Bool) (L W : Nat → Nat) (s : Nat) : Nat := (tbl n C L W (n - card n s) s).1
def bO (n : Nat) (C : Nat → Nat → Bool) (L W : Nat → Nat) (s : Nat) : Int32 := (tbl n C L W (n - card n s) s).2
section
variable {n : Nat} {C : Nat → Nat → Bool} {L W : Nat → Nat} {s j : Nat}
theorem tbl_full : bT n C L W (2 ^ n - 1) = 0 ∧ bO n C L W (2 ^ n - 1) = 1 := by
  unfold bT bO
  rw [card_full, Nat.sub_self]
  exact ⟨rfl, rfl⟩
theorem tbl_step (hs : s < 2 ^ n) (hf : s ≠ 2 ^ n - 1) : (bT n C L W s, bO n C L W s) = gm (fun j => nxB n C s j) (fun j => stp L W s j + bT n C L W (ins s j)) (fun j => bO n C L W (ins s j)) n := by
  have hc := card_lt hs hf
  obtain ⟨k, hk⟩ : ∃ k, n - card n s = k + 1 := ⟨n - card n s - 1, by omega⟩
  unfold bT bO
  rw [hk]
  simp only [tbl]
  refine gm_congr n fun j hj => ⟨rfl, fun ok => ?_⟩
  have h1 := card_ins (n := n) (nxB_iff.mp ok).1 hj
  rw [show n - card n (ins s j) = k by omega]
  exact ⟨rfl, rfl⟩
/-- the yard as the plan takes it -/
def okC (n : Nat) (C : Nat → Nat → Bool) (L W : Nat → Nat) : Prop := n ≤ 12 ∧ (∀ a b, C a b = true → a < n ∧ b < n) ∧ (∀ a b c, C a b = true → C b c = true → C a c = true) ∧ (∀ a, C a a = false) ∧ (∀ j, j < n → L j ≤ 100 ∧ W j ≤ 100)
theorem Bg_ins (hb : Bg n C s 0) (h : Nx n C s j) : Bg n C (ins s j) 0 := by
  intro i hi hsi a ha hc
  rw [tb_ins, Bool.or_eq_true, decide_eq_true_eq] at hsi
  refine Or.inl ?_
  rw [tb_ins]
  rcases hsi with q | q
  · rcases hb i hi q a ha hc with z | z
    · rw [z]
      rfl
    · rw [Nat.zero_testBit] at z
      cases z
  · rw [q] at hc
    rw [h.2 a ha hc]
    rfl
theorem cb_lt {f g : Nat → Bool} : ∀ k, (∀ i, i < k → f i = true → g i = true) → (∃ i, i < k ∧ g i = true ∧ f i = false) → cb f k < cb g k
  | 0, _, ⟨i, hi, _⟩ => absurd hi (Nat.not_lt_zero i)
  | k + 1, h, ⟨i, hi, h1, h2⟩ => by
    have le : ∀ k, (∀ i, i < k → f i = true → g i = true) → cb f k ≤ cb g k := fun k => by
      induction k with
      | zero => exact fun _ => Nat.le_refl _
      | succ k ih =>
        intro h
        simp only [cb]
        have := ih (fun i hi => h i (by omega))
        have h3 := h k (by omega)
        cases q : f k
        · simp
          omega
        · rw [h3 q]
          simpa using this
    simp only [cb]
    by_cases e : i = k
    · subst e
      rw [h1, h2]
      have := le i (fun i hi => h i (by omega))
      simp
      omega
    · have := cb_lt k (fun i hi => h i (by omega)) ⟨i, by omega, h1, h2⟩
      have h3 := h k (by omega)
      cases q : f k
      · simp
        omega
      · rw [h3 q]
        simpa using this
theorem has_next (hC : okC n C L W) (hs : s < 2 ^ n) (hf : s ≠ 2 ^ n - 1) : ∃ j, j < n ∧ Nx n C s j := by
  obtain ⟨h1, h2, h3, h4, _⟩ := hC
  have go : ∀ m j, j < n → s.testBit j = false → cb (fun a => C a j) n ≤ m → ∃ j, j < n ∧ Nx n C s j := by
    intro m
    induction m with
    | zero =>
      intro j hj hb hm
      refine ⟨j, hj, hb, fun a ha hc => ?_⟩
      have := cb_lt (f := fun _ => false) (g := fun a => C a j) n (fun _ _ z => by cases z) ⟨a, ha, hc, rfl⟩
      omega
    | succ m ih =>
      intro j hj hb hm
      by_cases q : ∃ a, a < n ∧ C a j = true ∧ s.testBit a = false
      · obtain ⟨a, ha, hc, hsa⟩ := q
        refine ih a ha hsa ?_
        have := cb_lt (f := fun i => C i a) (g := fun i => C i j) n (fun i _ z => h3 i a j z hc) ⟨a, ha, hc, h4 a⟩
        omega
      · refine ⟨j, hj, hb, fun a ha hc => ?_⟩
        cases z : s.testBit a
        · exact absurd ⟨a, ha, hc, z⟩ q
        · rfl
  obtain ⟨j, hj, e⟩ := not_full hs hf
  exact go _ j hj e (Nat.le_refl _)
theorem sm_1200 (hn : n ≤ 12) (hL : ∀ j, j < n → L j ≤ 100) (hs : s < 2 ^ n) : sm L s 12 ≤ 1200 := by
  have := sm_le (f := L) (s := s) (b := 100) 12 (fun j _ hb => hL j (by
    rcases Nat.lt_or_ge j n with q | q
    · exact q
    · rw [tb_big hs q] at hb
      cases hb))
  omega
theorem stp_eq (h : s.testBit j = false) (hj : j < 12) : stp L W s j = W j * sm L (ins s j) 12 := by
  unfold stp
  rw [sm_ins h hj]
theorem stp_le (hC : okC n C L W) (hs : s < 2 ^ n) (hj : j < n) (h : s.testBit j = false) : stp L W s j ≤ W j * 1200 := by
  rw [stp_eq h (by have := hC.1; omega)]
  exact Nat.mul_le_mul_left _ (sm_1200 hC.1 (fun j hj => (hC.2.2.2.2 j hj).1) (ins_lt hs hj))
/-- what the tables hold at a beginning, and how large it is -/
theorem bT_bd (hC : okC n C L W) : ∀ m s, s < 2 ^ n → n - card n s ≤ m → Bg n C s 0 → bT n C L W s + sm W s 12 * 1200 ≤ sm W (2 ^ n - 1) 12 * 1200 ∧ (s ≠ 2 ^ n - 1 → (∀ j, j < n → Nx n C s j → bT n C L W s ≤ stp L W s j + bT n C L W (ins s j)) ∧ (∃ j, j < n ∧ Nx n C s j ∧ bT n C L W s = stp L W s j + bT n C L W (ins s j))) := by
  have hn := hC.1
  have full : ∀ s, s = 2 ^ n - 1 → bT n C L W s + sm W s 12 * 1200 ≤ sm W (2 ^ n - 1) 12 * 1200 := fun s e => by
    rw [e, tbl_full.1]
    omega
  have W12 : sm W (2 ^ n - 1) 12 ≤ 1200 := sm_1200 hn (fun j hj => (hC.2.2.2.2 j hj).2) (Nat.sub_lt (Nat.two_pow_pos n) (by decide))
  intro m
  induction m with
  | zero =>
    intro s hs hm hb
    have e : s = 2 ^ n - 1 := by
      by_cases q : s = 2 ^ n - 1
      · exact q
      · have := card_lt hs q
        omega
    exact ⟨full s e, fun q => absurd e q⟩
  | succ m ih =>
    intro s hs hm hb
    by_cases e : s = 2 ^ n - 1
    · exact ⟨full s e, fun q => absurd e q⟩
    · have st := tbl_step (C := C) (L := L) (W := W) hs e
      obtain ⟨g1, g2, g3⟩ := gm_all (ok := fun j => nxB n C s j) (c := fun j => stp L W s j + bT n C L W (ins s j)) (o := fun j => bO n C L W (ins s j)) n
      rw [← st] at g1 g2 g3
      have bd : ∀ j, j < n → Nx n C s j → stp L W s j + bT n C L W (ins s j) + sm W s 12 * 1200 ≤ sm W (2 ^ n - 1) 12 * 1200 := fun j hj hx => by
        have h1 := (ih (ins s j) (ins_lt hs hj) (by have := card_ins (n := n) hx.1 hj; have := card_lt hs e; omega) (Bg_ins hb hx)).1
        rw [sm_ins hx.1 (by omega), Nat.add_mul] at h1
        have h2 := stp_le hC hs hj hx.1
        omega
      obtain ⟨j, hj, hx⟩ := has_next hC hs e
      have b1 := bd j hj hx
      have l1 := g1 j hj (nxB_iff.mpr hx)
      have ex : ∃ j, j < n ∧ Nx n C s j ∧ bT n C L W s = stp L W s j + bT n C L W (ins s j) := by
        rcases g2 with g2 | ⟨i, i1, i2, i3⟩
        · have g2' : bT n C L W s = 1000000000 := g2
          have l1' : bT n C L W s ≤ stp L W s j + bT n C L W (ins s j) := l1
          omega
        · exact ⟨i, i1, nxB_iff.mp i2, i3⟩
      obtain ⟨i, i1, i2, i3⟩ := ex
      exact ⟨by rw [i3]; exact bd i i1 i2, fun _ => ⟨fun j hj hx => g1 j hj (nxB_iff.mpr hx), i, i1, i2, i3⟩⟩
theorem bT_le (hC : okC n C L W) (hs : s < 2 ^ n) (hb : Bg n C s 0) : bT n C L W s ≤ 1440000 := by
  have h := (bT_bd hC _ s hs (Nat.le_refl _) hb).1
  have W12 : sm W (2 ^ n - 1) 12 ≤ 1200 := sm_1200 hC.1 (fun j hj => (hC.2.2.2.2 j hj).2) (Nat.sub_lt (Nat.two_pow_pos n) (by decide))
  omega
theorem bT_min (hC : okC n C L W) (hs : s < 2 ^ n) (hb : Bg n C s 0) (hj : j < n) (hx : Nx n C s j) : bT n C L W s ≤ stp L W s j + bT n C L W (ins s j) := ((bT_bd hC _ s hs (Nat.le_refl _) hb).2 (fun e => by
  have := hx.1
  rw [e, tb_full, decide_eq_true hj] at this
  cases this)).1 j hj hx
theorem bT_ex (hC : okC n C L W) (hs : s < 2 ^ n) (hb : Bg n C s 0) (hf : s ≠ 2 ^ n - 1) : ∃ j, j < n ∧ Nx n C s j ∧ bT n C L W s = stp L W s j + bT n C L W (ins s j) := ((bT_bd hC _ s hs (Nat.le_refl _) hb).2 hf).2
theorem bO_sum (hs : s < 2 ^ n) (hf : s ≠ 2 ^ n - 1) : bO n C L W s = sI (fun j => if nxB n C s j = true ∧ stp L W s j + bT n C L W (ins s j) = bT n C L W s then bO n C L W (ins s j) else 0) n := by
  have st := tbl_step (C := C) (L := L) (W := W) hs hf
  obtain ⟨g1, g2, g3⟩ := gm_all (ok := fun j => nxB n C s j) (c := fun j => stp L W s j + bT n C L W (ins s j)) (o := fun j => bO n C L W (ins s j)) n
  rw [← st] at g3
  exact g3
theorem Bg_0 : Bg n C 0 0 := fun j _ h => by
  rw [Nat.zero_testBit] at h
  cases h
end
