/-! series and shows: the search for four jobs. -/
def sch (f : Nat → Int32) : Nat → Nat → Int32
  | 0, _ => -1
  | k + 1, i => if f i = -1 then sch f k (i + 1) else f i
theorem sch_step {f : Nat → Int32} {z i : Nat} (hi : i < z) : sch f (z - i) i = if f i = -1 then sch f (z - (i + 1)) (i + 1) else f i := by
  obtain ⟨k, hk⟩ : ∃ k, z - i = k + 1 := ⟨z - i - 1, by omega⟩
  rw [hk, show z - (i + 1) = k by omega]
  rfl
theorem sch_dich (f : Nat → Int32) : ∀ k i, (sch f k i = -1 ∧ ∀ j, i ≤ j → j < i + k → f j = -1) ∨ ∃ p, i ≤ p ∧ p < i + k ∧ f p ≠ -1 ∧ sch f k i = f p ∧ ∀ j, i ≤ j → j < p → f j = -1
  | 0, i => Or.inl ⟨rfl, fun j h1 h2 => by omega⟩
  | k + 1, i => by
    simp only [sch]
    by_cases c : f i = -1
    · rw [if_pos c]
      rcases sch_dich f k (i + 1) with ⟨h1, h2⟩ | ⟨p, h1, h2, h3, h4, h5⟩
      · refine Or.inl ⟨h1, fun j h3 h4 => ?_⟩
        by_cases e : j = i
        · rw [e]; exact c
        · exact h2 j (by omega) (by omega)
      · refine Or.inr ⟨p, by omega, by omega, h3, h4, fun j h6 h7 => ?_⟩
        by_cases e : j = i
        · rw [e]; exact c
        · exact h5 j (by omega) (by omega)
    · rw [if_neg c]
      exact Or.inr ⟨i, by omega, by omega, c, rfl, fun j h1 h2 => by omega⟩
theorem sch_comb {f g : Nat → Int32} {m : Int32 → Int32} : ∀ k i, (∀ j, i ≤ j → j < i + k → f j = (if g j = -1 then -1 else m (g j)) ∧ (g j ≠ -1 → m (g j) ≠ -1)) → sch f k i = if sch g k i = -1 then -1 else m (sch g k i)
  | 0, i, _ => rfl
  | k + 1, i, h => by
    obtain ⟨h1, h2⟩ := h i (by omega) (by omega)
    have ih := sch_comb k (i + 1) (fun j q1 q2 => h j (by omega) (by omega))
    by_cases c : g i = -1
    · rw [if_pos c] at h1
      have eg : sch g (k + 1) i = sch g k (i + 1) := if_pos c
      have ef : sch f (k + 1) i = sch f k (i + 1) := if_pos h1
      rw [ef, eg]
      exact ih
    · rw [if_neg c] at h1
      have eg : sch g (k + 1) i = g i := if_neg c
      have ef : sch f (k + 1) i = f i := if_neg (by rw [h1]; exact h2 c)
      rw [ef, eg, if_neg c]
      exact h1
theorem sch_congr {f g : Nat → Int32} : ∀ k i, (∀ j, i ≤ j → j < i + k → f j = g j) → sch f k i = sch g k i
  | 0, _, _ => rfl
  | k + 1, i, h => by
    simp only [sch]
    rw [sch_congr k (i + 1) (fun j h1 h2 => h j (by omega) (by omega)), h i (by omega) (by omega)]
theorem sch_none {f : Nat → Int32} {k i : Nat} (h : ∀ j, i ≤ j → j < i + k → f j = -1) : sch f k i = -1 := by
  rcases sch_dich f k i with ⟨h1, _⟩ | ⟨p, h1, h2, h3, _⟩
  · exact h1
  · exact absurd (h p h1 h2) h3
/-- the least of a set -/
theorem sch_tz {x : Int32} {n : Nat} {g : Nat → Bool} (hn : n ≤ 12) (h : ∀ d, d < 32 → bt x d = (decide (d < n) && g d)) : (x = 0 ↔ sch (fun d => if g d = true then nI d else -1) n 0 = -1) ∧ (x ≠ 0 → nzF x = sch (fun d => if g d = true then nI d else -1) n 0) := by
  obtain ⟨p, hp, rfl⟩ := st_nI (x := x) fun i h1 h2 => by rw [h i h2, decide_eq_false (by omega), Bool.false_and]
  have hb : ∀ d, d < n → p.testBit d = g d := fun d hd => by
    have := h d (by omega)
    rw [bt_nI (by omega), decide_eq_true hd, Bool.true_and] at this
    exact this
  have hp0 : nI p = 0 ↔ p = 0 := nI_eq (b := 0) (by omega) (by decide)
  rcases sch_dich (fun d => if g d = true then nI d else -1) n 0 with ⟨h1, h2⟩ | ⟨q, q1, q2, q3, q4, q5⟩
  · have p0 : nI p = 0 := by
      refine b_zero.mpr fun i hi => ?_
      rw [h i hi]
      by_cases c : i < n
      · have := h2 i (by omega) (by omega)
        by_cases d : g i = true
        · have this : (if g i = true then nI i else -1) = -1 := this
          rw [if_pos d] at this
          exact absurd this (nI_ne_m1 (by omega))
        · simp [d]
      · simp [c]
    exact ⟨⟨fun _ => h1, fun _ => p0⟩, fun c => absurd p0 c⟩
  · have gq : g q = true := by
      by_cases d : g q = true
      · exact d
      · exact absurd (if_neg d) q3
    have q4' : sch (fun d => if g d = true then nI d else -1) n 0 = nI q := by rw [q4]; exact if_pos gq
    have p0 : p ≠ 0 := fun e => by
      have := hb q (by omega)
      rw [e, gq] at this
      simp at this
    refine ⟨⟨fun c => absurd (hp0.mp c) p0, fun c => ?_⟩, fun _ => ?_⟩
    · rw [q4'] at c
      exact absurd c (nI_ne_m1 (by omega))
    · rw [q4', nzF_ok p0 hp]
      obtain ⟨t1, t2, t3⟩ := tz_ok p0 hp
      have e : tz p = q := by
        rcases Nat.lt_trichotomy (tz p) q with c | c | c
        · have := q5 (tz p) (by omega) c
          have this : (if g (tz p) = true then nI (tz p) else -1) = -1 := this
          rw [← hb (tz p) (by omega), if_pos t2] at this
          exact absurd this (nI_ne_m1 (by omega))
        · exact c
        · have := t3 q c
          rw [hb q (by omega), gq] at this
          exact absurd this (by decide)
      rw [e]
def apB (C : Nat → Nat → Bool) (a b : Nat) : Bool := decide (a ≠ b) && !C a b && !C b a
def isF (C : Nat → Nat → Bool) (a b c d : Nat) : Bool := C a c && C b c && C b d && apB C a b && apB C a d && apB C c d
def cd4 (x1 x2 x3 x4 : Int32) : Int32 := ((x1 ||| (x2 <<< ((4 : Int32) &&& 31))) ||| (x3 <<< ((8 : Int32) &&& 31))) ||| (x4 <<< ((12 : Int32) &&& 31))
section
variable {u w : St} {n a b c d : Nat} {L Wt : Nat → Nat} {E C : Nat → Nat → Bool} {Post : Int32 → St → Prop}
theorem sp_apart (hn : n ≤ 12) (hC : MD w n C) (ha : a < n) (hb : b < n) (h : Post (if apB C a b = true then 1 else 0) w) : wp_X12_apart (nI a) (nI b) w Post := by
  unfold wp_X12_apart
  unfold apB at h
  have va : vp_in (nI a) 12 := vp_in_nI (by omega) (by decide)
  have vb : vp_in (nI b) 12 := vp_in_nI (by omega) (by decide)
  rw [cln (by omega), cln (by omega)]
  refine ⟨fun q => ?_, fun q => ⟨va, sp_has (by omega) ?_⟩⟩
  · rw [(nI_eq (by omega) (by omega)).mp q] at h
    simpa using h
  · have q' : a ≠ b := fun e => q (by rw [e])
    rw [hC a ha b (by omega), decide_eq_true hb, Bool.true_and]
    by_cases c1 : C b a = true
    · rw [if_pos c1]
      simp [c1] at h
      exact ⟨fun _ => h, fun q => absurd q (by decide)⟩
    · rw [if_neg c1]
      refine ⟨fun q => absurd rfl q, fun _ => ⟨vb, sp_has (by omega) ?_⟩⟩
      rw [hC b hb a (by omega), decide_eq_true ha, Bool.true_and]
      by_cases c2 : C a b = true
      · rw [if_pos c2]
        simp [c2] at h
        exact ⟨fun _ => h, fun q => absurd q (by decide)⟩
      · rw [if_neg c2]
        simp [c1, c2, q'] at h
        exact ⟨fun q => absurd rfl q, fun _ => h⟩
theorem sp_four37 {K6 : Int32 → St → Prop} {K16 : Int32 → Int32 → St → Prop} {K26 : Int32 → Int32 → Int32 → St → Prop} {f : Nat → Int32} (hn : n ≤ 12) (h0 : w 0 0 = nI n) (hC : MD w n C) (ha : a < n) (hb : b < n) (hc : c < n)
    (hf : ∀ d, d < n → f d = (if isF C a b c d = true then cd4 (nI a) (nI b) (nI c) (nI d) else -1) ∧ cd4 (nI a) (nI b) (nI c) (nI d) ≠ -1)
    (hK : sch f n 0 = -1 → K26 (nI a) (nI b) (nI (c + 1)) w) (hP : sch f n 0 ≠ -1 → Post (sch f n 0) w) : ∃ m, wl_X12_four_37 Post K6 K16 K26 m (nI a) (nI b) (nI c) 0 w := by
  refine Exists.elim (loop_0 (fun m i (_ : Unit) => wl_X12_four_37 Post K6 K16 K26 m (nI a) (nI b) (nI c) (nI i) w) (fun i _ => (sch f (n - i) i = -1 → K26 (nI a) (nI b) (nI (c + 1)) w) ∧ (sch f (n - i) i ≠ -1 → Post (sch f (n - i) i) w)) n () ⟨hK, hP⟩ ?_ ?_) (fun m hm => ⟨m, by rw [nI_0] at hm; exact hm⟩)
  · intro m _ ⟨k1, _⟩
    show wb_X12_four_37 Post K6 K16 K26 _ (nI a) (nI b) (nI c) (nI n) w
    unfold wb_X12_four_37
    rw [h0, nI_1]
    rw [Nat.sub_self] at k1
    exact ⟨fun _ => k1 rfl, fun q => absurd (Int32.le_refl _) q⟩
  · intro m d _ hd ⟨k1, k2⟩ ih
    show wb_X12_four_37 Post K6 K16 K26 _ (nI a) (nI b) (nI c) (nI d) w
    obtain ⟨f1, f2⟩ := hf d hd
    rw [sch_step hd] at k1 k2
    have va : ∀ {x}, x < n → vp_in (nI x) 12 := fun hx => vp_in_nI (by omega) (by decide)
    have hh : ∀ {x y}, x < n → y < n → bt (w 5 y) x = C x y := fun {x y} hx hy => by rw [hC y hy x (by omega), decide_eq_true hx, Bool.true_and]
    have no : isF C a b c d = false → wb_X12_four_119 Post K6 K16 K26 (fun x1 x2 x3 x4 u => wl_X12_four_37 Post K6 K16 K26 m x1 x2 x3 x4 u) (nI a) (nI b) (nI c) (nI d) w := by
      intro q
      rw [q] at f1
      have f1 : f d = -1 := f1
      rw [if_pos f1] at k1 k2
      unfold wb_X12_four_119 wb_X12_four_120
      rw [nI_1]
      exact ⟨fun _ => ih () ⟨k1, k2⟩, fun q => absurd rfl q⟩
    unfold wb_X12_four_37
    rw [h0, cln (by omega), cln (by omega)]
    refine ⟨fun q => absurd q (nle_nI hd (by omega)), fun _ => ⟨va hc, sp_has (by omega) ?_⟩⟩
    rw [hh ha hc]
    by_cases c1 : C a c = true
    rotate_left
    · rw [if_neg c1]
      exact ⟨fun _ => no (by simp [isF, c1]), fun q => absurd rfl q⟩
    rw [if_pos c1]
    refine ⟨fun q => absurd q (by decide), fun _ => ⟨va hc, sp_has (by omega) ?_⟩⟩
    rw [hh hb hc]
    by_cases c2 : C b c = true
    rotate_left
    · rw [if_neg c2]
      exact ⟨fun _ => no (by simp [isF, c2]), fun q => absurd rfl q⟩
    rw [if_pos c2]
    refine ⟨fun q => absurd q (by decide), fun _ => ⟨va hd, sp_has (by omega) ?_⟩⟩
    rw [hh hb hd]
    by_cases c3 : C b d = true
    rotate_left
    · rw [if_neg c3]
      exact ⟨fun _ => no (by simp [isF, c3]), fun q => absurd rfl q⟩
    rw [if_pos c3]
    refine ⟨fun q => absurd q (by decide), fun _ => sp_apart hn hC ha hb ?_⟩
    by_cases c4 : apB C a b = true
    rotate_left
    · rw [if_neg c4]
      exact ⟨fun _ => no (by simp [isF, c4]), fun q => absurd rfl q⟩
    rw [if_pos c4]
    refine ⟨fun q => absurd q (by decide), fun _ => sp_apart hn hC ha hd ?_⟩
    by_cases c5 : apB C a d = true
    rotate_left
    · rw [if_neg c5]
      exact ⟨fun _ => no (by simp [isF, c5]), fun q => absurd rfl q⟩
    rw [if_pos c5]
    refine ⟨fun q => absurd q (by decide), fun _ => sp_apart hn hC hc hd ?_⟩
    by_cases c6 : apB C c d = true
    rotate_left
    · rw [if_neg c6]
      exact ⟨fun _ => no (by simp [isF, c6]), fun q => absurd rfl q⟩
    rw [if_pos c6]
    refine ⟨fun q => absurd q (by decide), fun _ => ?_⟩
    rw [if_pos (show isF C a b c d = true by simp [isF, c1, c2, c3, c4, c5, c6])] at f1
    unfold wb_X12_four_120
    refine ⟨fun q => absurd q (by decide), fun _ => ?_⟩
    rw [f1, if_neg f2] at k2
    exact k2 f2
theorem sp_four26 {K6 : Int32 → St → Prop} {K16 : Int32 → Int32 → St → Prop} {f : Nat → Int32} (hn : n ≤ 12) (h0 : w 0 0 = nI n) (hC : MD w n C) (ha : a < n) (hb : b < n)
    (h4 : ∀ c d, c < n → d < n → cd4 (nI a) (nI b) (nI c) (nI d) ≠ -1) (hf : ∀ c, c < n → f c = sch (fun d => if isF C a b c d = true then cd4 (nI a) (nI b) (nI c) (nI d) else -1) n 0)
    (hK : sch f n 0 = -1 → K16 (nI a) (nI (b + 1)) w) (hP : sch f n 0 ≠ -1 → Post (sch f n 0) w) : ∃ m, wl_X12_four_26 Post K6 K16 m (nI a) (nI b) 0 w := by
  refine Exists.elim (loop_0 (fun m i (_ : Unit) => wl_X12_four_26 Post K6 K16 m (nI a) (nI b) (nI i) w) (fun i _ => (sch f (n - i) i = -1 → K16 (nI a) (nI (b + 1)) w) ∧ (sch f (n - i) i ≠ -1 → Post (sch f (n - i) i) w)) n () ⟨hK, hP⟩ ?_ ?_) (fun m hm => ⟨m, by rw [nI_0] at hm; exact hm⟩)
  · intro m _ ⟨k1, _⟩
    show wb_X12_four_26 Post K6 K16 _ (nI a) (nI b) (nI n) w
    unfold wb_X12_four_26
    rw [h0, nI_1]
    rw [Nat.sub_self] at k1
    exact ⟨fun _ => k1 rfl, fun q => absurd (Int32.le_refl _) q⟩
  · intro m c _ hc ⟨k1, k2⟩ ih
    show wb_X12_four_26 Post K6 K16 _ (nI a) (nI b) (nI c) w
    unfold wb_X12_four_26
    rw [h0]
    rw [sch_step hc] at k1 k2
    refine ⟨fun q => absurd q (nle_nI hc (by omega)), fun _ => sp_four37 (f := fun d => if isF C a b c d = true then cd4 (nI a) (nI b) (nI c) (nI d) else -1) hn h0 hC ha hb hc (fun d hd => ⟨rfl, h4 c d hc hd⟩) (fun q => ?_) (fun q => ?_)⟩
    · rw [← hf c hc] at q
      rw [if_pos q] at k1 k2
      exact ih () ⟨k1, k2⟩
    · rw [← hf c hc] at q ⊢
      rw [if_neg q] at k2
      exact k2 q
theorem sp_four16 {K6 : Int32 → St → Prop} {f : Nat → Int32} (hn : n ≤ 12) (h0 : w 0 0 = nI n) (hC : MD w n C) (ha : a < n)
    (h4 : ∀ b c d, b < n → c < n → d < n → cd4 (nI a) (nI b) (nI c) (nI d) ≠ -1) (hf : ∀ b, b < n → f b = sch (fun c => sch (fun d => if isF C a b c d = true then cd4 (nI a) (nI b) (nI c) (nI d) else -1) n 0) n 0)
    (hK : sch f n 0 = -1 → K6 (nI (a + 1)) w) (hP : sch f n 0 ≠ -1 → Post (sch f n 0) w) : ∃ m, wl_X12_four_16 Post K6 m (nI a) 0 w := by
  refine Exists.elim (loop_0 (fun m i (_ : Unit) => wl_X12_four_16 Post K6 m (nI a) (nI i) w) (fun i _ => (sch f (n - i) i = -1 → K6 (nI (a + 1)) w) ∧ (sch f (n - i) i ≠ -1 → Post (sch f (n - i) i) w)) n () ⟨hK, hP⟩ ?_ ?_) (fun m hm => ⟨m, by rw [nI_0] at hm; exact hm⟩)
  · intro m _ ⟨k1, _⟩
    show wb_X12_four_16 Post K6 _ (nI a) (nI n) w
    unfold wb_X12_four_16
    rw [h0, nI_1]
    rw [Nat.sub_self] at k1
    exact ⟨fun _ => k1 rfl, fun q => absurd (Int32.le_refl _) q⟩
  · intro m b _ hb ⟨k1, k2⟩ ih
    show wb_X12_four_16 Post K6 _ (nI a) (nI b) w
    unfold wb_X12_four_16
    rw [h0]
    rw [sch_step hb] at k1 k2
    refine ⟨fun q => absurd q (nle_nI hb (by omega)), fun _ => sp_four26 (f := fun c => sch (fun d => if isF C a b c d = true then cd4 (nI a) (nI b) (nI c) (nI d) else -1) n 0) hn h0 hC ha hb (fun c d hc hd => h4 b c d hb hc hd) (fun c hc => rfl) (fun q => ?_) (fun q => ?_)⟩
    · rw [← hf b hb] at q
      rw [if_pos q] at k1 k2
      exact ih () ⟨k1, k2⟩
    · rw [← hf b hb] at q ⊢
      rw [if_neg q] at k2
      exact k2 q
def fourF (n : Nat) (C : Nat → Nat → Bool) : Int32 := sch (fun a => sch (fun b => sch (fun c => sch (fun d => if isF C a b c d = true then cd4 (nI a) (nI b) (nI c) (nI d) else -1) n 0) n 0) n 0) n 0
theorem cd4_ne {a b c d : Nat} (ha : a < 12) (hb : b < 12) (hc : c < 12) (hd : d < 12) : cd4 (nI a) (nI b) (nI c) (nI d) ≠ -1 := by
  intro e
  have e2 : bt (cd4 (nI a) (nI b) (nI c) (nI d)) 31 = true := by rw [e]; decide
  unfold cd4 at e2
  rw [b_or, b_or, b_or] at e2
  have e0 : bt (nI a) 31 = false := (by decide +kernel : ∀ a, a < 12 → bt (nI a) 31 = false) a ha
  have e4 : bt (nI b <<< ((4 : Int32) &&& 31)) 31 = false := (by decide +kernel : ∀ a, a < 12 → bt (nI a <<< ((4 : Int32) &&& 31)) 31 = false) b hb
  have e8 : bt (nI c <<< ((8 : Int32) &&& 31)) 31 = false := (by decide +kernel : ∀ a, a < 12 → bt (nI a <<< ((8 : Int32) &&& 31)) 31 = false) c hc
  have e12 : bt (nI d <<< ((12 : Int32) &&& 31)) 31 = false := (by decide +kernel : ∀ a, a < 12 → bt (nI a <<< ((12 : Int32) &&& 31)) 31 = false) d hd
  rw [e0, e4, e8, e12] at e2
  exact absurd e2 (by decide)
theorem sp_four6 (hn : n ≤ 12) (h0 : w 0 0 = nI n) (hC : MD w n C) (h : Post (fourF n C) w) : ∃ m, wl_X12_four_6 Post m 0 w := by
  refine Exists.elim (loop_0 (fun m i (_ : Unit) => wl_X12_four_6 Post m (nI i) w) (fun i _ => Post (sch (fun a => sch (fun b => sch (fun c => sch (fun d => if isF C a b c d = true then cd4 (nI a) (nI b) (nI c) (nI d) else -1) n 0) n 0) n 0) (n - i) i) w) n () h ?_ ?_) (fun m hm => ⟨m, by rw [nI_0] at hm; exact hm⟩)
  · intro m _ k1
    show wb_X12_four_6 Post _ (nI n) w
    unfold wb_X12_four_6
    rw [h0]
    rw [Nat.sub_self] at k1
    exact ⟨fun _ => k1, fun q => absurd (Int32.le_refl _) q⟩
  · intro m a _ ha k1 ih
    show wb_X12_four_6 Post _ (nI a) w
    unfold wb_X12_four_6
    rw [h0]
    rw [sch_step ha] at k1
    refine ⟨fun q => absurd q (nle_nI ha (by omega)), fun _ => sp_four16 (f := fun b => sch (fun c => sch (fun d => if isF C a b c d = true then cd4 (nI a) (nI b) (nI c) (nI d) else -1) n 0) n 0) hn h0 hC ha (fun b c d hb hc hd => cd4_ne (by omega) (by omega) (by omega) (by omega)) (fun b hb => rfl) (fun q => ?_) (fun q => ?_)⟩
    · rw [if_pos q] at k1
      exact ih () k1
    · rw [if_neg q] at k1
      exact k1
end
