/-! forge keeps the relation. -/
def smF (r : Nat → Int32) (k : Nat) : Int32 := match k with
  | 0 => 0
  | k + 1 => smF r k + r (k + 1)
section
variable {RY : Nat → Nat → St → St → Prop} {k s : Nat} {u w : St} {Post : Int32 → St → Prop}
theorem sp_sumFrom {n : Nat} (hn : n ≤ 3) (h : Post (smF (u (35 + 2 * s)) n) u) : wp_X8_sumFrom s 1 (nI n) u Post := by
  unfold wp_X8_sumFrom
  refine Exists.elim (loop_0 (fun m i (x : Int32) => wl_X8_sumFrom_5 s Post m 1 (nI n) x (nI (1 + i)) u) (fun i x => x = smF (u (35 + 2 * s)) i) n 0 rfl ?_ ?_) (fun m hm => ⟨m, hm⟩)
  · intro m x hx
    show wb_X8_sumFrom_5 s Post _ 1 (nI n) x (nI (1 + n)) u
    unfold wb_X8_sumFrom_5
    have e : (1 : Int32) + nI n = nI (1 + n) := nI_add 1 n
    rw [e, hx]
    exact ⟨fun _ => h, fun c => absurd (Int32.le_refl _) c⟩
  · intro m i x hi hx ih
    show wb_X8_sumFrom_5 s Post _ 1 (nI n) x (nI (1 + i)) u
    unfold wb_X8_sumFrom_5
    have e : (1 : Int32) + nI n = nI (1 + n) := nI_add 1 n
    rw [e, cln (by omega), nI_1, Nat.add_assoc]
    refine ⟨fun c => absurd c (nle_nI (by omega) (by omega)), fun _ => ⟨vp_in_nI (by omega) (by decide), ih _ ?_⟩⟩
    rw [hx, Nat.add_comm 1 i]
    rfl
theorem l2i (x : Int32) : Int64.toInt32 (Int32.toInt64 x) = x := Int32.toInt32_toInt64 x
theorem sp_mSum {n : Nat} (hs : s < 6) (hn : n ≤ 3) (h : Post (smF (fun i => w 11 (20 * s + i)) n) w) : wp_X12_sum (nI s) (nI n) w Post := by
  unfold wp_X12_sum
  refine Exists.elim (loop_0 (fun m i (x : Int32) => wl_X12_sum_5 Post m (nI s) (nI n) x (nI (1 + i)) w) (fun i x => x = smF (fun i => w 11 (20 * s + i)) i) n 0 rfl ?_ ?_) (fun m hm => ⟨m, hm⟩)
  · intro m x hx
    show wb_X12_sum_5 Post _ (nI s) (nI n) x (nI (1 + n)) w
    unfold wb_X12_sum_5
    rw [hx]
    exact ⟨fun _ => h, fun c => absurd (nI_lt (by omega) (by omega)) c⟩
  · intro m i x hi hx ih
    show wb_X12_sum_5 Post _ (nI s) (nI n) x (nI (1 + i)) w
    unfold wb_X12_sum_5
    rw [ix20, cln (by omega), nI_1, Nat.add_assoc, l2i]
    refine ⟨fun c => absurd c (nI_nlt (by omega) (by omega)), fun _ => ⟨vp_in_nI (by omega) (by decide), ih _ ?_⟩⟩
    rw [hx, Nat.add_comm 1 i]
    rfl
theorem smF_congr {r q : Nat → Int32} : ∀ k, (∀ i, i ≤ k → r i = q i) → smF r k = smF q k
  | 0, _ => rfl
  | k + 1, h => by
    simp only [smF]
    rw [smF_congr k (fun i hi => h i (by omega)), h (k + 1) (Nat.le_refl _)]
end
