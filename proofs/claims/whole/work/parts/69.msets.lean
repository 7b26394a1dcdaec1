/-! Sets in the reference; how many beginnings. -/
def bgB (n : Nat) (C : Nat → Nat → Bool) (s g : Nat) : Bool := (List.range n).all (fun j => !s.testBit j || (List.range n).all (fun a => !C a j || s.testBit a || g.testBit a))
theorem bgB_iff {n : Nat} {C : Nat → Nat → Bool} {s g : Nat} : bgB n C s g = true ↔ Bg n C s g := by
  unfold bgB Bg
  rw [List.all_eq_true]
  constructor
  · intro h j hj hs a ha hc
    have h1 := h j (List.mem_range.mpr hj)
    rw [hs] at h1
    have h2 := List.all_eq_true.mp (by simpa using h1 : (List.range n).all (fun a => !C a j || s.testBit a || g.testBit a) = true) a (List.mem_range.mpr ha)
    rw [hc] at h2
    simpa using h2
  · intro h j hj
    have hj := List.mem_range.mp hj
    cases hs : s.testBit j
    · rfl
    · show (List.range n).all _ = true
      rw [List.all_eq_true]
      intro a ha
      have ha := List.mem_range.mp ha
      cases hc : C a j
      · rfl
      · have := h j hj hs a ha hc
        simpa using this
def cb (f : Nat → Bool) : Nat → Nat
  | 0 => 0
  | k + 1 => cb f k + (f k).toNat
theorem all_n {n : Nat} (hn : n ≤ 12) : ((1 : Int32) <<< (nI n &&& 31)) - 1 = nI (2 ^ n - 1) := co_dec (P := fun n => ((1 : Int32) <<< (nI n &&& 31)) - 1 = nI (2 ^ n - 1)) (N := 13) (by decide +kernel) (by omega)
theorem p12 {n : Nat} (hn : n ≤ 12) : 2 ^ n ≤ 4096 := Nat.pow_le_pow_right (n := 2) (by decide) hn
section
variable {w u : St} {n : Nat} {s g : Nat} {L Wt : Nat → Nat} {E C : Nat → Nat → Bool} {Post : Int32 → St → Prop}
theorem sp_all (hn : n ≤ 12) (h0 : w 0 0 = nI n) (h : Post (nI (2 ^ n - 1)) w) : wp_X12_all w Post := by
  unfold wp_X12_all
  rw [h0, all_n hn]
  exact h
theorem sp_everyJob (hn : n ≤ 12) (h0 : u 1 7 = nI n) (h : Post (nI (2 ^ n - 1)) u) : wp_X10_everyJob u Post := by
  unfold wp_X10_everyJob
  rw [h0, all_n hn]
  exact h
theorem sp_mWeightOf (hn : n ≤ 12) (h0 : w 0 0 = nI n) (hW : ∀ j, j < n → w 2 j = nI (Wt j)) (h : Post (nI (sm Wt s n)) w) : wp_X12_weightOf (nI s) w Post := by
  unfold wp_X12_weightOf
  refine Exists.elim (loop_0 (fun m i (x : Int32) => wl_X12_weightOf_4 Post m (nI s) x (nI i) w) (fun i x => x = nI (sm Wt s i)) n 0 rfl ?_ ?_) (fun m hm => ⟨m, by rw [nI_0] at hm; exact hm⟩)
  · intro m x hx
    show wb_X12_weightOf_4 Post _ (nI s) x (nI n) w
    unfold wb_X12_weightOf_4
    rw [h0, hx]
    exact ⟨fun _ => h, fun c => absurd (nI_le (Nat.le_refl n) (by omega)) c⟩
  · intro m i x hi hx ih
    show wb_X12_weightOf_4 Post _ (nI s) x (nI i) w
    unfold wb_X12_weightOf_4
    rw [h0]
    refine ⟨fun c => absurd c (nle_nI hi (by omega)), fun _ => ?_⟩
    rw [nI_1, cln (by omega)]
    refine sp_has (by omega) ?_
    rw [bt_nI (by omega), hW i hi]
    by_cases hb : s.testBit i = true
    · rw [if_pos hb]
      refine ⟨fun c => absurd c (by decide), fun _ => ⟨vp_in_nI (by omega) (by decide), ih _ ?_⟩⟩
      rw [hx, nI_add]
      simp only [sm, if_pos hb]
    · rw [if_neg hb]
      refine ⟨fun _ => ih _ ?_, fun c => absurd rfl c⟩
      rw [hx]
      simp only [sm, if_neg hb]
      show nI _ + nI 0 = _
      rw [nI_add]
theorem sp_mLengthOf (hn : n ≤ 12) (h0 : w 0 0 = nI n) (hW : ∀ j, j < n → w 1 j = nI (Wt j)) (h : Post (nI (sm Wt s n)) w) : wp_X12_lengthOf (nI s) w Post := by
  unfold wp_X12_lengthOf
  refine Exists.elim (loop_0 (fun m i (x : Int32) => wl_X12_lengthOf_4 Post m (nI s) x (nI i) w) (fun i x => x = nI (sm Wt s i)) n 0 rfl ?_ ?_) (fun m hm => ⟨m, by rw [nI_0] at hm; exact hm⟩)
  · intro m x hx
    show wb_X12_lengthOf_4 Post _ (nI s) x (nI n) w
    unfold wb_X12_lengthOf_4
    rw [h0, hx]
    exact ⟨fun _ => h, fun c => absurd (nI_le (Nat.le_refl n) (by omega)) c⟩
  · intro m i x hi hx ih
    show wb_X12_lengthOf_4 Post _ (nI s) x (nI i) w
    unfold wb_X12_lengthOf_4
    rw [h0]
    refine ⟨fun c => absurd c (nle_nI hi (by omega)), fun _ => ?_⟩
    rw [nI_1, cln (by omega)]
    refine sp_has (by omega) ?_
    rw [bt_nI (by omega), hW i hi]
    by_cases hb : s.testBit i = true
    · rw [if_pos hb]
      refine ⟨fun c => absurd c (by decide), fun _ => ⟨vp_in_nI (by omega) (by decide), ih _ ?_⟩⟩
      rw [hx, nI_add]
      simp only [sm, if_pos hb]
    · rw [if_neg hb]
      refine ⟨fun _ => ih _ ?_, fun c => absurd rfl c⟩
      rw [hx]
      simp only [sm, if_neg hb]
      show nI _ + nI 0 = _
      rw [nI_add]
/-- the reference's rows 'must' hold C -/
def MD (w : St) (n : Nat) (C : Nat → Nat → Bool) : Prop := ∀ j, j < n → ∀ a, a < 32 → bt (w 5 j) a = (decide (a < n) && C a j)
theorem sp_mIsBeginning (hn : n ≤ 12) (h0 : w 0 0 = nI n) (hC : MD w n C) (h1 : Bg n C s g → Post 1 w) (h2 : ¬ Bg n C s g → Post 0 w) : wp_X12_isBeginning (nI s) (nI g) w Post := by
  have key : ∀ i, i < n → ((w 5 i &&& ((nI s ||| nI g) ^^^ (-1 : Int32)) = 0) ↔ ∀ a, a < n → C a i = true → s.testBit a = true ∨ g.testBit a = true) := by
    intro i hi
    rw [b_zero]
    constructor
    · intro h a ha hc
      have h5 := h a (by omega)
      rw [b_and, hC i hi a (by omega), bt_not (by omega), b_or, bt_nI (by omega), bt_nI (by omega), decide_eq_true ha, hc] at h5
      cases h6 : s.testBit a
      · cases h7 : g.testBit a
        · rw [h6, h7] at h5
          cases h5
        · exact Or.inr rfl
      · exact Or.inl rfl
    · intro h a ha
      rw [b_and, hC i hi a ha, bt_not ha, b_or, bt_nI ha, bt_nI ha]
      by_cases q : a < n
      · by_cases q2 : C a i = true
        · rcases h a q q2 with r | r
          · rw [r]; simp
          · rw [r]; simp
        · rw [Bool.not_eq_true] at q2
          rw [q2]; simp
      · rw [decide_eq_false q]; simp
  unfold wp_X12_isBeginning
  refine Exists.elim (loop_0 (fun m i (x : Int32) => wl_X12_isBeginning_5 Post m (nI s) (nI g) x (nI i) w) (fun i x => (x = 1 ∧ ∀ j, j < i → s.testBit j = true → ∀ a, a < n → C a j = true → s.testBit a = true ∨ g.testBit a = true) ∨ (x = 0 ∧ ¬ Bg n C s g)) n 1 (Or.inl ⟨rfl, fun j hj => absurd hj (Nat.not_lt_zero j)⟩) ?_ ?_) (fun m hm => ⟨m, by rw [nI_0] at hm; exact hm⟩)
  · intro m x hx
    show wb_X12_isBeginning_5 Post _ (nI s) (nI g) x (nI n) w
    unfold wb_X12_isBeginning_5
    rw [h0]
    refine ⟨fun _ => ?_, fun c => absurd (nI_le (Nat.le_refl n) (by omega)) c⟩
    rcases hx with ⟨rfl, q⟩ | ⟨rfl, q⟩
    · exact ⟨Or.inr rfl, h1 q⟩
    · exact ⟨Or.inl rfl, h2 q⟩
  · intro m i x hi hx ih
    show wb_X12_isBeginning_5 Post _ (nI s) (nI g) x (nI i) w
    unfold wb_X12_isBeginning_5
    rw [h0]
    refine ⟨fun c => absurd c (nle_nI hi (by omega)), fun _ => ?_⟩
    rw [nI_1, cln (by omega)]
    rcases hx with ⟨rfl, q⟩ | ⟨rfl, q⟩
    · refine ⟨fun c => absurd c (by decide), fun _ => sp_has (by omega) ?_⟩
      rw [bt_nI (by omega)]
      by_cases hb : s.testBit i = true
      · rw [if_pos hb]
        refine ⟨fun c => absurd c (by decide), fun _ => ⟨vp_in_nI (by omega) (by decide), fun c => ih _ (Or.inr ⟨rfl, fun B => c ((key i hi).mpr (B i hi hb))⟩), fun c => ih _ (Or.inl ⟨rfl, fun j hj hsj => ?_⟩)⟩⟩
        by_cases e : j = i
        · subst e
          exact (key j hi).mp c
        · exact q j (by omega) hsj
      · rw [if_neg hb]
        refine ⟨fun _ => ih _ (Or.inl ⟨rfl, fun j hj hsj => ?_⟩), fun c => absurd rfl c⟩
        by_cases e : j = i
        · subst e
          exact absurd hsj hb
        · exact q j (by omega) hsj
    · exact ⟨fun _ => ih _ (Or.inr ⟨rfl, q⟩), fun c => absurd rfl c⟩
theorem sp_beginnings (hn : n ≤ 12) (h0 : u 1 7 = nI n) (hD : FD u n L Wt E) (h : Post (nI (cb (fun s => bgB n (Pc E n) s 0) (2 ^ n))) u) : wp_X10_beginnings u Post := by
  have hp := p12 hn
  have hp1 : 1 ≤ 2 ^ n := Nat.one_le_two_pow
  unfold wp_X10_beginnings
  refine sp_everyJob hn h0 ?_
  refine Exists.elim (loop_0 (fun m i (x : Int32) => wl_X10_beginnings_9 Post m x (nI (2 ^ n - 1)) (nI i) u) (fun i x => x = nI (cb (fun s => bgB n (Pc E n) s 0) i)) (2 ^ n) 0 rfl ?_ ?_) (fun m hm => ⟨m, by rw [nI_0] at hm; exact hm⟩)
  · intro m x hx
    show wb_X10_beginnings_9 Post _ x (nI (2 ^ n - 1)) (nI (2 ^ n)) u
    unfold wb_X10_beginnings_9
    rw [hx]
    exact ⟨fun _ => h, fun c => absurd (nI_lt (by omega) (by omega)) c⟩
  · intro m i x hi hx ih
    show wb_X10_beginnings_9 Post _ x (nI (2 ^ n - 1)) (nI i) u
    unfold wb_X10_beginnings_9
    refine ⟨fun c => absurd c (nI_nlt (by omega) (by omega)), fun _ => ?_⟩
    rw [nI_1, ← nI_0]
    refine sp_isBeginning hn hD hi (fun b => ?_) (fun b => ?_)
    · refine ⟨fun c => absurd c (by decide), fun _ => ih _ ?_⟩
      rw [hx, nI_1]
      simp only [cb, bgB_iff.mpr b, Bool.toNat_true]
    · refine ⟨fun _ => ih _ ?_, fun c => absurd rfl c⟩
      have e : bgB n (Pc E n) i 0 = false := by
        cases q : bgB n (Pc E n) i 0
        · rfl
        · exact absurd (bgB_iff.mp q) b
      rw [hx]
      simp only [cb, e, Bool.toNat_false, Nat.add_zero]
theorem sp_mBeginnings (hn : n ≤ 12) (h0 : w 0 0 = nI n) (hC : MD w n C) (h : Post (nI (cb (fun s => bgB n C s 0) (2 ^ n))) w) : ∃ m, wl_X12_beginnings_8 Post m 0 0 w := by
  have hp := p12 hn
  have hp1 : 1 ≤ 2 ^ n := Nat.one_le_two_pow
  refine Exists.elim (loop_0 (fun m i (x : Int32) => wl_X12_beginnings_8 Post m x (nI i) w) (fun i x => x = nI (cb (fun s => bgB n C s 0) i)) (2 ^ n) 0 rfl ?_ ?_) (fun m hm => ⟨m, by rw [nI_0] at hm; exact hm⟩)
  · intro m x hx
    show wb_X12_beginnings_8 Post _ x (nI (2 ^ n)) w
    unfold wb_X12_beginnings_8
    refine sp_all hn h0 ?_
    rw [hx]
    exact ⟨fun _ => h, fun c => absurd (nI_lt (by omega) (by omega)) c⟩
  · intro m i x hi hx ih
    show wb_X12_beginnings_8 Post _ x (nI i) w
    unfold wb_X12_beginnings_8
    refine sp_all hn h0 ?_
    refine ⟨fun c => absurd c (nI_nlt (by omega) (by omega)), fun _ => ?_⟩
    rw [nI_1]
    show wp_X12_isBeginning (nI i) (nI 0) w _
    refine sp_mIsBeginning hn h0 hC (fun b => ?_) (fun b => ?_)
    · refine ⟨fun c => absurd c (by decide), fun _ => ih _ ?_⟩
      rw [hx, nI_1]
      simp only [cb, bgB_iff.mpr b, Bool.toNat_true]
    · refine ⟨fun _ => ih _ ?_, fun c => absurd rfl c⟩
      have e : bgB n C i 0 = false := by
        cases q : bgB n C i 0
        · rfl
        · exact absurd (bgB_iff.mp q) b
      rw [hx]
      simp only [cb, e, Bool.toNat_false, Nat.add_zero]
      show nI _ + nI 0 = _
      rw [nI_add, Nat.add_zero]
end
