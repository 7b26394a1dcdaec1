/-! The relation between the class's state and the reference's; the yard's part of it, RY, stands open here. -/
def RLn (n : Nat) (uF uM : St) : Prop := ∃ z, z ≤ 12 ∧ uF 18 1 = nI z ∧ uM 0 7 = nI z ∧ (∀ i, i < z → ∃ o, o < n ∧ uF 19 i = nI o ∧ uM 6 i = nI o) ∧ ∀ i j, i < z → j < z → uF 19 i = uF 19 j → i = j
def RTr (uF uM : St) : Prop := ∃ t, t ≤ 50 ∧ uF 25 1 = nI t ∧ uM 0 16 = nI t ∧ ∀ i, i < t → uF 26 i = uM 12 i
def RSh (uF uM : St) : Prop := ∀ s, s < 6 → (uF (34 + 2 * s) 1 = -1 ∨ uF (34 + 2 * s) 1 = 0 ∨ uF (34 + 2 * s) 1 = 1 ∨ uF (34 + 2 * s) 1 = 2) ∧ uM 9 s = uF (34 + 2 * s) 1 ∧ ∃ z, z ≤ 20 ∧ uF (34 + 2 * s) 2 = nI z ∧ uM 10 s = nI z ∧ (uF (34 + 2 * s) 1 = -1 → z = 0) ∧ ∀ i, i < z → uF (35 + 2 * s) i = uM 11 (20 * s + i)
def Rel (RY : Nat → Nat → St → St → Prop) (k : Nat) (uF uM : St) : Prop := uF 0 7 = uM 0 14 ∧ (∃ n, RY k n uF uM ∧ RLn n uF uM) ∧ RTr uF uM ∧ RSh uF uM
/-- what the yard's part must give: the number of jobs and their measures on both sides; it may be kept over one more call; it does not go by the order, the status, the trace, the sheets -/
def RYok (RY : Nat → Nat → St → St → Prop) : Prop :=
  (∀ k n uF uM, RY k n uF uM → n ≤ 12 ∧ uF 1 7 = nI n ∧ uM 0 0 = nI n ∧ ∀ q, q < 3 → ∀ j, j < n → uF (3 + q) j = uM (1 + q) j) ∧ (∀ k n uF uM, RY k n uF uM → RY (k + 1) n uF uM) ∧
  (∀ k n (uF uM vF vM : St), (∀ c, c ≠ 0 → c ≠ 18 → c ≠ 19 → c ≠ 25 → c ≠ 26 → c < 33 → vF c = uF c) → vM 0 0 = uM 0 0 → vM 0 8 = uM 0 8 → (∀ c, c ≠ 0 → c ≠ 5 → c ≠ 6 → c < 9 → vM c = uM c) → RY k n uF uM → RY k n vF vM)
section
variable {RY : Nat → Nat → St → St → Prop} {k n : Nat} {uF uM u w : St} {a : Int32} {Post : Int32 → St → Prop}
theorem Rel.mono (hY : RYok RY) (h : Rel RY k uF uM) : Rel RY (k + 1) uF uM := by
  obtain ⟨h1, ⟨n, h2, h3⟩, h4, h5⟩ := h
  exact ⟨h1, ⟨n, hY.2.1 _ _ _ _ h2, h3⟩, h4, h5⟩
theorem Rel.st (hY : RYok RY) (h : Rel RY k uF uM) (v : Int32) : Rel RY k (su uF 0 7 v) (su uM 0 14 v) := by
  obtain ⟨h1, ⟨n, h2, z, h3, h4, h5, h6, h7⟩, ⟨t, t1, t2, t3, t4⟩, h8⟩ := h
  have f : ∀ c, c ≠ 0 → su uF 0 7 v c = uF c := fun c hc => su_n _ _ _ hc
  have m : ∀ c, c ≠ 0 → su uM 0 14 v c = uM c := fun c hc => su_n _ _ _ hc
  refine ⟨by rw [su_at, su_at], ⟨n, hY.2.2 _ _ _ _ _ _ (fun c h _ _ _ _ _ => f c h) (su_ne _ _ (by decide)) (su_ne _ _ (by decide)) (fun c h _ _ _ => m c h) h2, z, h3, by rw [f 18 (by decide)]; exact h4, by rw [su_ne _ _ (by decide)]; exact h5, ?_, ?_⟩, ⟨t, t1, by rw [f 25 (by decide)]; exact t2, by rw [su_ne _ _ (by decide)]; exact t3, ?_⟩, ?_⟩
  · rw [f 19 (by decide), m 6 (by decide)]
    exact h6
  · rw [f 19 (by decide)]
    exact h7
  · rw [f 26 (by decide), m 12 (by decide)]
    exact t4
  · intro s hs
    rw [f _ (by omega), f _ (by omega), m 9 (by decide), m 10 (by decide), m 11 (by decide)]
    exact h8 s hs
theorem in_lt {a : Int32} {m : Nat} (hm : m < 2 ^ 20) : (¬ a < 0 ∧ ¬ (nI m - nI 1) < a) ↔ ∃ j, j < m ∧ a = nI j := by
  constructor
  · rintro ⟨h1, h2⟩
    obtain ⟨j, hj, rfl⟩ := nI_of h1
    refine ⟨j, ?_, rfl⟩
    rw [Int32.lt_iff_toInt_lt, pk_sub_toInt (by omega) (by omega), nI_toInt hj] at h2
    omega
  · rintro ⟨j, hj, rfl⟩
    refine ⟨nI_pos (by omega), ?_⟩
    rw [Int32.lt_iff_toInt_lt, pk_sub_toInt (by omega) (by omega), nI_toInt (by omega)]
    omega
theorem sp_hasJob (hn : n ≤ 12) (h0 : u 1 7 = nI n) (h1 : ∀ j, j < n → a = nI j → Post 1 u) (h2 : (∀ j, j < n → a ≠ nI j) → Post 0 u) : wp_X10_has a u Post := by
  unfold wp_X10_has
  rw [h0]
  refine ⟨fun c => h2 fun j hj e => ?_, fun c => ⟨fun d => h2 fun j hj e => ?_, fun d => ?_⟩⟩
  · rw [e] at c
    exact nI_pos (by omega) c
  · rw [e] at d
    exact nle_nI hj (by omega) d
  · obtain ⟨j, hj, rfl⟩ := nI_of c
    refine h1 j ?_ rfl
    rcases Nat.lt_or_ge j n with q | q
    · exact q
    · exact absurd (nI_le q hj) d
theorem sp_isJob (hn : n ≤ 12) (h0 : w 0 0 = nI n) (h1 : ∀ j, j < n → a = nI j → Post 1 w) (h2 : (∀ j, j < n → a ≠ nI j) → Post 0 w) : wp_X12_isJob a w Post := by
  unfold wp_X12_isJob wp_X12_in
  rw [h0]
  have key := in_lt (a := a) (m := n) (by omega)
  refine ⟨fun c => ⟨Or.inl rfl, h2 fun j hj e => (key.mpr ⟨j, hj, e⟩).1 c⟩, fun c => ⟨fun d => ⟨Or.inl rfl, h2 fun j hj e => (key.mpr ⟨j, hj, e⟩).2 d⟩, fun d => ⟨Or.inr rfl, ?_⟩⟩⟩
  obtain ⟨j, hj, e⟩ := key.mp ⟨c, d⟩
  exact h1 j hj e
theorem ok_status (hY : RYok RY) : Ok_status (Rel RY) := by
  intro k uF uM hk h
  exact ⟨h.1, h.mono hY⟩
theorem ok_clear (hY : RYok RY) : Ok_clear (Rel RY) := by
  intro k uF uM hk h
  obtain ⟨h1, ⟨n, h2, z, h3, h4, h5, h6, h7⟩, ht, hs⟩ := id h
  have h' : Rel RY k (su uF 18 1 0) (su uM 0 7 0) := by
    obtain ⟨t, t1, t2, t3, t4⟩ := ht
    have f : ∀ c, c ≠ 18 → su uF 18 1 0 c = uF c := fun c hc => su_n _ _ _ hc
    have m : ∀ c, c ≠ 0 → su uM 0 7 0 c = uM c := fun c hc => su_n _ _ _ hc
    refine ⟨by rw [f 0 (by decide), su_ne _ _ (by decide)]; exact h1, ⟨n, hY.2.2 _ _ _ _ _ _ (fun c _ h _ _ _ _ => f c h) (su_ne _ _ (by decide)) (su_ne _ _ (by decide)) (fun c h _ _ _ => m c h) h2, 0, by omega, by rw [su_at]; rfl, by rw [su_at]; rfl, fun i hi => absurd hi (Nat.not_lt_zero i), fun i j hi => absurd hi (Nat.not_lt_zero i)⟩, ⟨t, t1, by rw [f 25 (by decide)]; exact t2, by rw [su_ne _ _ (by decide)]; exact t3, ?_⟩, ?_⟩
    · rw [f 26 (by decide), m 12 (by decide)]
      exact t4
    · intro s hs'
      rw [f _ (by omega), f _ (by omega), m 9 (by decide), m 10 (by decide), m 11 (by decide)]
      exact hs s hs'
  have h'' := (h'.st hY 0).mono hY
  unfold wp_X11_clear wp_X6_size wp_X6_empty wp_X11_done wp_X12_clear wp_X12_done
  exact ⟨by rw [h4, h5], h''⟩
theorem ok_cost (hY : RYok RY) : Ok_cost (Rel RY) := by
  intro k uF uM hk h
  obtain ⟨h1, ⟨n, h2, z, h3, h4, h5, h6, h7⟩, ht, hs⟩ := id h
  obtain ⟨n1, n2, n3, n4⟩ := hY.1 _ _ _ _ h2
  unfold wp_X11_cost
  have vi : ∀ i, i < z → vp_in (uF 19 i) 12 ∧ vp_in (uM 6 i) 12 := fun i hi => by
    obtain ⟨o, ho, e1, e2⟩ := h6 i hi
    rw [e1, e2]
    exact ⟨vp_in_nI (by omega) (by decide), vp_in_nI (by omega) (by decide)⟩
  refine sp_waiting h3 h4 (fun i hi => (vi i hi).1) ?_
  refine sp_mCost h3 h5 (fun i hi => (vi i hi).2) ⟨?_, h.mono hY⟩
  refine ckf_congr z 0 0 0 fun j _ hj => ?_
  obtain ⟨o, ho, e1, e2⟩ := h6 j (by omega)
  rw [e1, e2, cln (by omega)]
  exact ⟨rfl, n4 0 (by omega) o ho, n4 1 (by omega) o ho, n4 2 (by omega) o ho⟩
end
