/-! floorMod over -100 .. 100; kinds. -/
def fmF (a m : Int32) : Int32 := if 0 ≤ (a ^^^ m) then a - a / m * m else if a - a / m * m = 0 then a - a / m * m else (a - a / m * m) + m
theorem sp_fm {a m : Int32} {u : St} {Post : Int32 → St → Prop} (hm : ¬ m = 0) (h : Post (fmF a m) u) : wp_J9_floorMod_7cf53 a m u Post := by
  unfold fmF at h
  refine ⟨hm, fun c => by rw [if_pos c] at h; exact h, fun c => ?_⟩
  rw [if_neg c] at h
  exact ⟨fun d => by rw [if_pos d] at h; exact h, fun d => by rw [if_neg d] at h; exact h⟩
theorem in100 {x : Int32} (h1 : ¬ x < -100) (h2 : x ≤ 100) : ∃ j, j < 201 ∧ x = nI j - 100 := by
  rw [Int32.lt_iff_toInt_lt] at h1
  rw [Int32.le_iff_toInt_le] at h2
  have e1 : (-100 : Int32).toInt = -100 := by decide
  have e2 : (100 : Int32).toInt = 100 := by decide
  rw [e1] at h1
  rw [e2] at h2
  refine ⟨(x.toInt + 100).toNat, by omega, Int32.toInt_inj.mp ?_⟩
  show _ = (nI _ - nI 100).toInt
  rw [pk_sub_toInt (by omega) (by decide)]
  omega
theorem fmo3 {x : Int32} (h1 : ¬ x < -100) (h2 : x ≤ 100) : (x - x / 3 * 3 + 3) - (x - x / 3 * 3 + 3) / 3 * 3 = fmF x 3 := by
  obtain ⟨j, hj, rfl⟩ := in100 h1 h2
  exact co_dec (P := fun j => ((nI j - 100) - (nI j - 100) / 3 * 3 + 3) - ((nI j - 100) - (nI j - 100) / 3 * 3 + 3) / 3 * 3 = fmF (nI j - 100) 3) (N := 201) (by decide +kernel) hj
theorem fmo12 {x : Int32} (h1 : ¬ x < -100) (h2 : x ≤ 100) : (x - x / 12 * 12 + 12) - (x - x / 12 * 12 + 12) / 12 * 12 = fmF x 12 := by
  obtain ⟨j, hj, rfl⟩ := in100 h1 h2
  exact co_dec (P := fun j => ((nI j - 100) - (nI j - 100) / 12 * 12 + 12) - ((nI j - 100) - (nI j - 100) / 12 * 12 + 12) / 12 * 12 = fmF (nI j - 100) 12) (N := 201) (by decide +kernel) hj
theorem fmo2 {x : Int32} (h1 : ¬ x < -100) (h2 : x ≤ 100) : (x &&& 1 = 0 ↔ fmF x 2 = 0) := by
  obtain ⟨j, hj, rfl⟩ := in100 h1 h2
  exact co_dec (P := fun j => ((nI j - 100) &&& 1 = 0 ↔ fmF (nI j - 100) 2 = 0)) (N := 201) (by decide +kernel) hj
/-- the kind, out of a job's moment, length, weight and what is ahead of it -/
def kdF (t l w b : Int32) : Int32 := if t ≤ 0 then (if l = 1 then (if b = 0 then 3 else 1) else (if w = 0 then 2 else 0)) else 4
theorem sp_kindOf {u : St} {j : Nat} {Post : Int32 → St → Prop} (hj : j < 12) (h : Post (kdF (u 5 j) (u 3 j) (u 4 j) (u 7 j)) u) : wp_X10_kindOf (nI j) u Post := by
  have v : vp_in (nI j) 12 := vp_in_nI hj (by decide)
  unfold wp_X10_kindOf
  unfold kdF at h
  rw [cln (by omega)]
  refine ⟨v, fun c => ⟨v, fun d => ⟨v, fun e => ?_, fun e => ?_⟩, fun d => ⟨v, fun e => ?_, fun e => ?_⟩⟩, fun c => ?_⟩
  · rw [if_pos c, if_neg d, if_neg e] at h; exact h
  · rw [if_pos c, if_neg d, if_pos e] at h; exact h
  · rw [if_pos c, if_pos d, if_neg e] at h; exact h
  · rw [if_pos c, if_pos d, if_pos e] at h; exact h
  · rw [if_neg c] at h; exact h
section
variable {RY : Nat → Nat → St → St → Prop} {k n j : Nat} {uF uM : St} {Post : Int32 → St → Prop}
theorem sp_mKindOf (hY : RYok RY) (hV : View RY) (hr : RY k n uF uM) (hj : j < n) (h : ∀ v : St, (∀ c, c ≠ 5 → v c = uM c) → (∀ j, j < n → v 5 j = uF 7 j) → Post (kdF (uF 5 j) (uF 3 j) (uF 4 j) (uF 7 j)) v) : wp_X12_kindOf (nI j) uM Post := by
  obtain ⟨n1, n2, n3, n4⟩ := hY.1 _ _ _ _ hr
  have v12 : vp_in (nI j) 12 := vp_in_nI (by omega) (by decide)
  unfold wp_X12_kindOf
  refine sp_cl hY hV hr fun v e1 e2 => ?_
  have h := h v e1 e2
  unfold kdF at h
  rw [cln (by omega), e1 1 (by decide), e1 2 (by decide), e1 3 (by decide), e2 j hj]
  have q0 : uF 3 j = uM 1 j := n4 0 (by omega) j hj
  have q1 : uF 4 j = uM 2 j := n4 1 (by omega) j hj
  have q2 : uF 5 j = uM 3 j := n4 2 (by omega) j hj
  rw [q0, q1, q2] at h
  refine ⟨v12, fun c => ⟨v12, fun d => ⟨v12, fun e => ?_, fun e => ?_⟩, fun d => ⟨v12, fun e => ?_, fun e => ?_⟩⟩, fun c => ?_⟩
  · rw [if_pos c, if_neg d, if_neg e] at h; exact h
  · rw [if_pos c, if_neg d, if_pos e] at h; exact h
  · rw [if_pos c, if_pos d, if_neg e] at h; exact h
  · rw [if_pos c, if_pos d, if_pos e] at h; exact h
  · rw [if_neg c] at h; exact h
theorem kdF_in (t l w b : Int32) : kdF t l w b = 0 ∨ kdF t l w b = 1 ∨ kdF t l w b = 2 ∨ kdF t l w b = 3 ∨ kdF t l w b = 4 := by
  unfold kdF
  split <;> (try split) <;> (try split) <;> simp
theorem kd_vp {x : Int32} (h : x = 0 ∨ x = 1 ∨ x = 2 ∨ x = 3 ∨ x = 4) : vp_in x 5 := by
  unfold vp_in
  rcases h with rfl | rfl | rfl | rfl | rfl <;> decide
end
