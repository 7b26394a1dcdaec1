/-! keeps and why keep the relation. -/
def bbf (row : Nat → Int32) : Nat → Int32
  | 0 => 0
  | k + 1 => bbf row k ||| ((1 : Int32) <<< (row k &&& 31))
def lkf (ah row : Nat → Int32) (p : Nat) : Int32 := ah (row p).toNatClampNeg &&& (bbf row p ^^^ (-1 : Int32))
def flf (f : Nat → Int32) : Nat → Nat → Int32
  | 0, _ => -1
  | k + 1, i => if f i = 0 then flf f k (i + 1) else nI i
theorem bbf_congr {r q : Nat → Int32} : ∀ k, (∀ i, i < k → r i = q i) → bbf r k = bbf q k
  | 0, _ => rfl
  | k + 1, h => by
    simp only [bbf]
    rw [bbf_congr k (fun i hi => h i (by omega)), h k (by omega)]
theorem flf_congr {f g : Nat → Int32} : ∀ k i, (∀ j, i ≤ j → j < i + k → f j = g j) → flf f k i = flf g k i
  | 0, _, _ => rfl
  | k + 1, i, h => by
    simp only [flf]
    rw [flf_congr k (i + 1) (fun j h1 h2 => h j (by omega) (by omega)), h i (by omega) (by omega)]
theorem flf_cases {f : Nat → Int32} : ∀ k i, flf f k i = -1 ∨ ∃ p, i ≤ p ∧ p < i + k ∧ flf f k i = nI p ∧ f p ≠ 0
  | 0, _ => Or.inl rfl
  | k + 1, i => by
    simp only [flf]
    by_cases c : f i = 0
    · rw [if_pos c]
      rcases flf_cases (f := f) k (i + 1) with h | ⟨p, h1, h2, h3, h4⟩
      · exact Or.inl h
      · exact Or.inr ⟨p, by omega, by omega, h3, h4⟩
    · rw [if_neg c]
      exact Or.inr ⟨i, by omega, by omega, rfl, c⟩
theorem bbf_bt {row : Nat → Int32} {n : Nat} (hn : n ≤ 12) : ∀ k, (∀ i, i < k → ∃ o, o < n ∧ row i = nI o) → ∀ a, a < 32 → (bt (bbf row k) a = true ↔ ∃ i, i < k ∧ row i = nI a)
  | 0, _, a, ha => by
    simp only [bbf, b_0]
    exact ⟨fun h => absurd h (by decide), fun ⟨i, hi, _⟩ => absurd hi (Nat.not_lt_zero i)⟩
  | k + 1, h, a, ha => by
    obtain ⟨o, ho, e⟩ := h k (by omega)
    simp only [bbf, b_or, Bool.or_eq_true, bbf_bt hn k (fun i hi => h i (by omega)) a ha]
    rw [e, bt_1shl (by omega) ha]
    constructor
    · rintro (⟨i, hi, e2⟩ | q)
      · exact ⟨i, by omega, e2⟩
      · exact ⟨k, by omega, by rw [e, of_decide_eq_true q]⟩
    · rintro ⟨i, hi, e2⟩
      by_cases c : i = k
      · subst c
        rw [e] at e2
        exact Or.inr (decide_eq_true ((nI_eq (by omega) (by omega)).mp e2).symm)
      · exact Or.inl ⟨i, by omega, e2⟩
theorem tz_ok {p : Nat} (h0 : p ≠ 0) (hp : p < 4096) : tz p < 12 ∧ p.testBit (tz p) = true ∧ ∀ i, i < tz p → p.testBit i = false :=
  co_dec (P := fun p => p ≠ 0 → tz p < 12 ∧ p.testBit (tz p) = true ∧ ∀ i, i < tz p → p.testBit i = false) (N := 4096) (by decide +kernel) hp h0
section
variable {u w : St} {n z p : Nat} {Post : Int32 → St → Prop}
theorem sp_lowest (h0 : p ≠ 0) (hp : p < 4096) (h : Post (nI (tz p)) w) : wp_X12_lowest (nI p) w Post := by
  obtain ⟨t1, t2, t3⟩ := tz_ok h0 hp
  unfold wp_X12_lowest
  refine Exists.elim (loop_0 (fun m i (_ : Unit) => wl_X12_lowest_2 Post m (nI p) (nI i) w) (fun _ _ => True) (tz p) () trivial ?_ ?_) (fun m hm => ⟨m, by rw [nI_0] at hm; exact hm⟩)
  · intro m _ _
    show wb_X12_lowest_2 Post _ (nI p) (nI (tz p)) w
    unfold wb_X12_lowest_2
    refine sp_has (by omega) ?_
    rw [bt_nI (by omega), if_pos t2]
    exact ⟨fun _ => h, fun c => absurd c (by decide)⟩
  · intro m i _ hi _ ih
    show wb_X12_lowest_2 Post _ (nI p) (nI i) w
    unfold wb_X12_lowest_2
    refine sp_has (by omega) ?_
    rw [bt_nI (by omega), t3 i hi, nI_1]
    exact ⟨fun c => absurd rfl c, fun _ => ih () trivial⟩
theorem sp_bitsBefore (hp : p ≤ 12) (h : Post (bbf (u 19) p) u) : wp_X6_bitsBefore (nI p) u Post := by
  unfold wp_X6_bitsBefore
  refine Exists.elim (loop_0 (fun m i (x : Int32) => wl_X6_bitsBefore_4 Post m (nI p) x (nI i) u) (fun i x => x = bbf (u 19) i) p 0 rfl ?_ ?_) (fun m hm => ⟨m, by rw [nI_0] at hm; exact hm⟩)
  · intro m x hx
    show wb_X6_bitsBefore_4 Post _ (nI p) x (nI p) u
    unfold wb_X6_bitsBefore_4
    rw [hx]
    exact ⟨fun _ => h, fun c => absurd (Int32.le_refl _) c⟩
  · intro m i x hi hx ih
    show wb_X6_bitsBefore_4 Post _ (nI p) x (nI i) u
    unfold wb_X6_bitsBefore_4
    rw [cln (by omega), nI_1]
    refine ⟨fun c => absurd c (nle_nI hi (by omega)), fun _ => ⟨vp_in_nI (by omega) (by decide), ih _ ?_⟩⟩
    rw [hx]
    rfl
theorem sp_lackingAt (hp : p < 12) (hv : vp_in (u 19 p) 12) (h : Post (lkf (u 7) (u 19) p) u) : wp_X6_lackingAt (nI p) u Post := by
  unfold wp_X6_lackingAt wp_X10_aheadOf
  rw [cln (by omega)]
  exact ⟨vp_in_nI hp (by decide), hv, sp_bitsBefore (by omega) h⟩
theorem flf_step {f : Nat → Int32} {z i : Nat} (hi : i < z) : flf f (z - i) i = if f i = 0 then flf f (z - (i + 1)) (i + 1) else nI i := by
  obtain ⟨k, hk⟩ : ∃ k, z - i = k + 1 := ⟨z - i - 1, by omega⟩
  rw [hk, show z - (i + 1) = k by omega]
  rfl
theorem sp_firstLacking (hz : z ≤ 12) (h0 : u 18 1 = nI z) (hv : ∀ i, i < z → vp_in (u 19 i) 12) (h : Post (flf (lkf (u 7) (u 19)) z 0) u) : wp_X6_firstLacking u Post := by
  unfold wp_X6_firstLacking
  refine Exists.elim (loop_0 (fun m i (_ : Unit) => wl_X6_firstLacking_2 Post m (nI i) u) (fun i _ => Post (flf (lkf (u 7) (u 19)) (z - i) i) u) z () h ?_ ?_) (fun m hm => ⟨m, by rw [nI_0] at hm; exact hm⟩)
  · intro m _ hx
    show wb_X6_firstLacking_2 Post _ (nI z) u
    unfold wb_X6_firstLacking_2
    rw [Nat.sub_self] at hx
    rw [h0]
    exact ⟨fun _ => hx, fun c => absurd (Int32.le_refl _) c⟩
  · intro m i _ hi hx ih
    show wb_X6_firstLacking_2 Post _ (nI i) u
    unfold wb_X6_firstLacking_2
    rw [h0, nI_1]
    refine ⟨fun c => absurd c (nle_nI hi (by omega)), fun _ => sp_lackingAt (by omega) (hv i hi) ?_⟩
    rw [flf_step hi] at hx
    refine ⟨fun c => ?_, fun c => ?_⟩
    · rw [if_pos c] at hx
      exact ih () hx
    · rw [if_neg c] at hx
      exact hx
/-- the reference's lacking, over rows that are the class's -/
theorem sp_lackLoop {ah row : Nat → Int32} (hz : z ≤ 12) (hn : n ≤ 12) (h0 : w 0 7 = nI z) (hj : w 0 0 = nI n) (hr : ∀ i, i < z → w 6 i = row i ∧ ∃ o, o < n ∧ row i = nI o) (ha : ∀ j, j < n → w 5 j = ah j)
    (h : ∀ q, flf (lkf ah row) z 0 = q → Post q (su w 0 17 (if q = -1 then nI (2 ^ n - 1) &&& (bbf row z ^^^ (-1 : Int32)) else lkf ah row q.toNatClampNeg))) : ∃ m, wl_X12_lacking_8 Post m 0 0 w := by
  refine Exists.elim (loop_0 (fun m i (x : Int32) => wl_X12_lacking_8 Post m x (nI i) w) (fun i x => x = bbf row i ∧ flf (lkf ah row) z 0 = flf (lkf ah row) (z - i) i) z 0 ⟨rfl, rfl⟩ ?_ ?_) (fun m hm => ⟨m, by rw [nI_0] at hm; exact hm⟩)
  · intro m x ⟨hx, hf⟩
    show wb_X12_lacking_8 Post _ x (nI z) w
    unfold wb_X12_lacking_8
    rw [h0, hj, all_n hn, hx]
    rw [Nat.sub_self] at hf
    have := h _ rfl
    rw [hf] at this
    exact ⟨fun _ => this, fun c => absurd (Int32.le_refl _) c⟩
  · intro m i x hi ⟨hx, hf⟩ ih
    show wb_X12_lacking_8 Post _ x (nI i) w
    obtain ⟨e1, o, ho, e2⟩ := hr i hi
    unfold wb_X12_lacking_8
    rw [h0, cln (by omega), e1, e2, cln (by omega), nI_1, ha o ho, hx]
    have el : ah o &&& (bbf row i ^^^ (-1 : Int32)) = lkf ah row i := by
      unfold lkf
      rw [e2, cln (by omega)]
    rw [el]
    have v12 : vp_in (nI i) 12 := vp_in_nI (by omega) (by decide)
    rw [flf_step hi] at hf
    refine ⟨fun c => absurd c (nle_nI hi (by omega)), fun _ => ⟨v12, vp_in_nI (by omega) (by decide), fun c => ⟨v12, ih _ ⟨?_, ?_⟩⟩, fun c => ?_⟩⟩
    · simp only [bbf]
      rw [e2]
    · rw [if_pos c] at hf
      exact hf
    · rw [if_neg c] at hf
      have := h _ rfl
      rw [hf, if_neg (nI_ne_m1 (by omega)), cln (by omega)] at this
      exact this
end
