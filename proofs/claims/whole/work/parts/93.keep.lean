/-! A change is kept: the class's ring, the reference's snapshots. -/
theorem su_rd (u : St) (k j : Nat) (v : Int32) (a i : Nat) : su u k j v a i = if a = k ∧ i = j then v else u a i := by
  by_cases h : a = k
  · subst h
    rw [su_s]
    by_cases e : i = j
    · subst e
      rw [if_pos ⟨rfl, rfl⟩]
      exact if_pos rfl
    · rw [if_neg (fun q => e q.2)]
      exact if_neg e
  · rw [su_n _ _ _ h, if_neg (fun q => h q.1)]
theorem keep_next {nx : Nat} (h : nx < 12) : ((¬ nI nx = (11 : Int32)) → nI nx + 1 = nI ((nx + 1) % 12)) ∧ (nI nx = (11 : Int32) → (0 : Int32) = nI ((nx + 1) % 12)) := by
  refine ⟨fun c => ?_, fun c => ?_⟩
  · have h1 : nx ≠ 11 := fun e => c (by rw [e]; rfl)
    rw [nI_1, Nat.mod_eq_of_lt (by omega)]
  · have h1 : nx = 11 := (nI_eq (by omega) (by omega)).mp (c.trans (rfl : (11 : Int32) = nI 11))
    rw [h1]
    rfl
theorem keep_size {c : Nat} (h : c ≤ 12) : (if (12 : Int32) < nI c + 1 then (12 : Int32) else nI c + 1) = nI (min (c + 1) 12) := co_dec (P := fun c => (if (12 : Int32) < nI c + 1 then (12 : Int32) else nI c + 1) = nI (min (c + 1) 12)) (N := 13) (by decide +kernel) (by omega)
theorem sp_keepF {u : St} {nx c : Nat} {t a b o : Int32} (hx : nx < 12) (hc : c ≤ 12) (h4 : u 20 4 = nI nx) (h5 : u 20 5 = nI c) {Post : Int32 → St → Prop}
    (hP : ∀ v : St, (∀ x, x < 20 ∨ 24 < x → v x = u x) → v 20 4 = nI ((nx + 1) % 12) → v 20 5 = nI (min (c + 1) 12) → (v 21 nx = t ∧ v 22 nx = a ∧ v 23 nx = b ∧ v 24 nx = o) → (∀ x, 21 ≤ x → x ≤ 24 → ∀ i, i ≠ nx → v x i = u x i) → Post 0 v) : wp_X2_keep t a b o u Post := by
  have vx : vp_in (nI nx) 12 := vp_in_nI hx (by decide)
  have fin : ∀ t0 : Int32, t0 = nI ((nx + 1) % 12) → ∀ s : St, s = su (su (su (su u 21 nx t) 22 nx a) 23 nx b) 24 nx o → wb_X2_keep_61 Post t0 s := by
    intro t0 ht s hs
    have e5 : s 20 5 = nI c := by rw [hs]; simp only [su_rd]; simpa using h5
    unfold wb_X2_keep_61
    rw [su_ne _ _ (show (5 : Nat) ≠ 4 by decide), e5, keep_size hc]
    refine hP _ (fun x hx => ?_) ?_ ?_ ⟨?_, ?_, ?_, ?_⟩ (fun x x1 x2 i hi => ?_)
    · rw [su_n _ _ _ (by omega), su_n _ _ _ (by omega), hs, su_n _ _ _ (by omega), su_n _ _ _ (by omega), su_n _ _ _ (by omega), su_n _ _ _ (by omega)]
    · rw [su_ne _ _ (by decide), su_at, ht]
    · rw [su_at]
    · rw [hs]; simp only [su_rd]; simp
    · rw [hs]; simp only [su_rd]; simp
    · rw [hs]; simp only [su_rd]; simp
    · rw [hs]; simp only [su_rd]; simp
    · rw [su_n _ _ _ (by omega), su_n _ _ _ (by omega), hs]
      simp only [su_rd]
      simp [hi]
  have r : ∀ (s : St) (k j : Nat) (x : Int32), k ≠ 20 → su s k j x 20 4 = s 20 4 := fun s k j x hk => by rw [su_n _ _ _ (fun e => hk e.symm)]
  unfold wp_X2_keep
  simp only [r _ 21 _ _ (by decide), r _ 22 _ _ (by decide), r _ 23 _ _ (by decide), r _ 24 _ _ (by decide), h4, cln (i := nx) (by omega)]
  exact ⟨vx, vx, vx, vx, fun c => fin _ ((keep_next hx).1 c) _ rfl, fun c => fin _ ((keep_next hx).2 c) _ rfl⟩
set_option maxHeartbeats 1000000 in
theorem sp_keepCopy {w : St} {d : Nat} (hd : d < 12) (h8 : w 0 8 = nI d) {Post : Int32 → St → Prop}
    (hP : ∀ v : St, (∀ x, x ≠ 0 → x ≠ 8 → v x = w x) → (∀ i, i ≠ 8 → v 0 i = w 0 i) → v 0 8 = nI (d + 1) → (∀ p, p < 48 * d ∨ 48 * d + 48 ≤ p → v 8 p = w 8 p) → (∀ j, j < 12 → ∀ q, q < 4 → v 8 (48 * d + 4 * j + q) = w (1 + q) j) → Post 0 v) : ∃ m, wl_X12_keep_102 Post m 0 w := by
  refine Exists.elim (loop_0 (fun m i s => wl_X12_keep_102 Post m (nI i) s) (fun i s => (∀ x, x ≠ 8 → s x = w x) ∧ (∀ p, p < 48 * d ∨ 48 * d + 4 * i ≤ p → s 8 p = w 8 p) ∧ (∀ j, j < i → ∀ q, q < 4 → s 8 (48 * d + 4 * j + q) = w (1 + q) j)) 12 w ⟨fun _ _ => rfl, fun _ _ => rfl, fun j hj => absurd hj (Nat.not_lt_zero j)⟩ ?_ ?_) (fun m hm => ⟨m, by rw [nI_0] at hm; exact hm⟩)
  · intro m s ⟨i1, i2, i3⟩
    show wb_X12_keep_102 Post _ (nI 12) s
    unfold wb_X12_keep_102
    refine ⟨fun _ => ?_, fun c => absurd (nI_le (Nat.le_refl 12) (by omega)) c⟩
    refine hP _ (fun x h0 h8 => by rw [su_n _ _ _ h0]; exact i1 x h8) (fun i hi => by rw [su_ne _ _ hi, i1 0 (by decide)]) ?_ (fun p hp => ?_) (fun j hj q hq => ?_)
    · rw [su_at, i1 0 (by decide), h8, nI_1]
    · rw [su_n _ _ _ (by decide)]
      exact i2 p (by omega)
    · rw [su_n _ _ _ (by decide)]
      exact i3 j hj q hq
  · intro m i s hi ⟨i1, i2, i3⟩ ih
    show wb_X12_keep_102 Post _ (nI i) s
    unfold wb_X12_keep_102
    refine ⟨fun c => absurd c (nle_nI hi (by decide)), fun _ => ?_⟩
    have e0 : ((48 : Int32) * s 0 8) + ((4 : Int32) * nI i) = nI (48 * d + 4 * i) := by
      rw [i1 0 (by decide), h8]
      show nI 48 * nI d + nI 4 * nI i = _
      rw [pk_mul, pk_mul, nI_add]
    have e1 : nI (48 * d + 4 * i) + (1 : Int32) = nI (48 * d + 4 * i + 1) := nI_1 _
    have e2 : nI (48 * d + 4 * i) + (2 : Int32) = nI (48 * d + 4 * i + 2) := nI_add _ 2
    have e3 : nI (48 * d + 4 * i) + (3 : Int32) = nI (48 * d + 4 * i + 3) := nI_add _ 3
    rw [e0, e1, e2, e3, nI_1, cln (i := i) (by omega), cln (i := 48 * d + 4 * i) (by omega), cln (i := 48 * d + 4 * i + 1) (by omega), cln (i := 48 * d + 4 * i + 2) (by omega), cln (i := 48 * d + 4 * i + 3) (by omega)]
    have r : ∀ (s : St) (k j : Nat) (x : Int32), k ≠ 8 → su s 8 j x k i = s k i := fun s k j x hk => by rw [su_n _ _ _ hk]
    rw [r s 2 _ _ (by decide), r _ 3 _ _ (by decide), r _ 3 _ _ (by decide), r _ 4 _ _ (by decide), r _ 4 _ _ (by decide), r _ 4 _ _ (by decide)]
    have vi : vp_in (nI i) 12 := vp_in_nI hi (by decide)
    refine ⟨vi, vp_in_nI (by omega) (by decide), vi, vp_in_nI (by omega) (by decide), vi, vp_in_nI (by omega) (by decide), vi, vp_in_nI (by omega) (by decide), ih _ ⟨fun x hx => ?_, fun p hp => ?_, fun j hj q hq => ?_⟩⟩
    · rw [su_n _ _ _ hx, su_n _ _ _ hx, su_n _ _ _ hx, su_n _ _ _ hx]
      exact i1 x hx
    · rw [su_ne _ _ (by omega), su_ne _ _ (by omega), su_ne _ _ (by omega), su_ne _ _ (by omega)]
      exact i2 p (by omega)
    · by_cases e : j = i
      · subst e
        have c4 : q = 0 ∨ q = 1 ∨ q = 2 ∨ q = 3 := by omega
        rcases c4 with rfl | rfl | rfl | rfl
        · rw [su_ne _ _ (by omega), su_ne _ _ (by omega), su_ne _ _ (by omega), Nat.add_zero, su_at, i1 1 (by decide)]
        · rw [su_ne _ _ (by omega), su_ne _ _ (by omega), su_at, i1 2 (by decide)]
        · rw [su_ne _ _ (by omega), su_at, i1 3 (by decide)]
        · rw [su_at, i1 4 (by decide)]
      · rw [su_ne _ _ (by omega), su_ne _ _ (by omega), su_ne _ _ (by omega), su_ne _ _ (by omega)]
        exact i3 j (by omega) q hq
set_option maxHeartbeats 1000000 in
theorem sp_keepShift {w : St} (h8 : w 0 8 = nI 11) {Post : Int32 → St → Prop}
    (hP : ∀ v : St, (∀ x, x ≠ 7 → x ≠ 8 → v x = w x) → (∀ p, p < 11 → v 7 p = w 7 (p + 1)) → (∀ p, p < 528 → v 8 p = w 8 (p + 48)) → ∃ m, wl_X12_keep_102 Post m 0 (su v 7 11 (v 0 0))) : ∃ m, wl_X12_keep_21 Post m 0 w := by
  have inner : ∀ i, i < 11 → ∀ (K : Int32 → St → Prop) (s : St), (∀ v : St, (∀ x, x ≠ 8 → v x = s x) → (∀ p, v 8 p = if 48 * i ≤ p ∧ p < 48 * i + 48 then s 8 (p + 48) else s 8 p) → K (nI (i + 1)) v) → ∃ m, wl_X12_keep_45 Post K m (nI i) 0 s := by
    intro i hi K s hK
    refine Exists.elim (loop_0 (fun m k t => wl_X12_keep_45 Post K m (nI i) (nI k) t) (fun k t => (∀ x, x ≠ 8 → t x = s x) ∧ (∀ p, t 8 p = if 48 * i ≤ p ∧ p < 48 * i + k then s 8 (p + 48) else s 8 p)) 48 s ⟨fun _ _ => rfl, fun p => by rw [if_neg (by omega)]⟩ ?_ ?_) (fun m hm => ⟨m, by rw [nI_0] at hm; exact hm⟩)
    · intro m t ⟨i1, i2⟩
      show wb_X12_keep_45 Post K _ (nI i) (nI 48) t
      unfold wb_X12_keep_45
      refine ⟨fun _ => ?_, fun c => absurd (nI_le (Nat.le_refl 48) (by omega)) c⟩
      rw [nI_1]
      exact hK t i1 i2
    · intro m k t hk ⟨i1, i2⟩ ih
      show wb_X12_keep_45 Post K _ (nI i) (nI k) t
      unfold wb_X12_keep_45
      refine ⟨fun c => absurd c (nle_nI hk (by decide)), fun _ => ?_⟩
      have e0 : ((48 : Int32) * (nI i + (1 : Int32))) + nI k = nI (48 * i + k + 48) := by
        rw [nI_1]
        show nI 48 * nI (i + 1) + nI k = _
        rw [pk_mul, nI_add]
        congr 1
        omega
      have e1 : ((48 : Int32) * nI i) + nI k = nI (48 * i + k) := by
        show nI 48 * nI i + nI k = _
        rw [pk_mul, nI_add]
      rw [e0, e1, nI_1, cln (i := 48 * i + k + 48) (by omega), cln (i := 48 * i + k) (by omega)]
      refine ⟨vp_in_nI (by omega) (by decide), vp_in_nI (by omega) (by decide), ih _ ⟨fun x hx => by rw [su_n _ _ _ hx]; exact i1 x hx, fun p => ?_⟩⟩
      by_cases e : p = 48 * i + k
      · subst e
        rw [su_at, i2, if_neg (by omega), if_pos (by omega)]
      · rw [su_ne _ _ e, i2]
        by_cases q : 48 * i ≤ p ∧ p < 48 * i + k
        · rw [if_pos q, if_pos (by omega)]
        · rw [if_neg q, if_neg (by omega)]
  refine Exists.elim (loop_0 (fun m i s => wl_X12_keep_21 Post m (nI i) s) (fun i s => (∀ x, x ≠ 7 → x ≠ 8 → s x = w x) ∧ (∀ p, s 7 p = if p < i then w 7 (p + 1) else w 7 p) ∧ (∀ p, s 8 p = if p < 48 * i then w 8 (p + 48) else w 8 p)) 11 w ⟨fun _ _ _ => rfl, fun p => by rw [if_neg (by omega)], fun p => by rw [if_neg (by omega)]⟩ ?_ ?_) (fun m hm => ⟨m, by rw [nI_0] at hm; exact hm⟩)
  · intro m s ⟨i1, i2, i3⟩
    show wb_X12_keep_21 Post _ (nI 11) s
    unfold wb_X12_keep_21
    rw [i1 0 (by decide) (by decide), h8]
    refine ⟨fun _ => ⟨vp_in_nI (by omega) (by decide), ?_⟩, fun c => absurd (nI_le (Nat.le_refl 11) (by omega)) c⟩
    have h := hP s i1 (fun p hp => by rw [i2, if_pos hp]) (fun p hp => by rw [i3, if_pos (by omega)])
    rw [i1 0 (by decide) (by decide)] at h
    rw [cln (i := 11) (by omega)]
    exact h
  · intro m i s hi ⟨i1, i2, i3⟩ ih
    show wb_X12_keep_21 Post _ (nI i) s
    unfold wb_X12_keep_21
    rw [i1 0 (by decide) (by decide), h8]
    refine ⟨fun c => absurd c (nle_nI hi (by omega)), fun _ => ⟨?_, vp_in_nI (by omega) (by decide), ?_⟩⟩
    · rw [nI_1]
      exact vp_in_nI (by omega) (by decide)
    · rw [nI_1, cln (i := i) (by omega), cln (i := i + 1) (by omega)]
      refine inner i hi _ _ fun v v1 v2 => ih v ⟨fun x h7 h8 => ?_, fun p => ?_, fun p => ?_⟩
      · rw [v1 x h8, su_n _ _ _ h7]
        exact i1 x h7 h8
      · rw [v1 7 (by decide)]
        by_cases e : p = i
        · subst e
          rw [su_at, i2, if_neg (by omega), if_pos (by omega)]
        · rw [su_ne _ _ e, i2]
          by_cases q : p < i
          · rw [if_pos q, if_pos (by omega)]
          · rw [if_neg q, if_neg (by omega)]
      · rw [v2, su_n _ _ _ (by decide), i3, i3]
        by_cases q : p < 48 * i
        · rw [if_neg (by omega), if_pos q, if_pos (by omega)]
        · by_cases q2 : p < 48 * i + 48
          · rw [if_pos (by omega), if_neg (by omega), if_pos (by omega)]
          · rw [if_neg (by omega), if_neg (by omega), if_neg (by omega)]
theorem SN_of {Y : YA} {w v : St} {d : Nat} (h7 : v 7 d = w 0 0) (h8 : ∀ j, j < 12 → ∀ q, q < 4 → v 8 (48 * d + 4 * j + q) = w (1 + q) j) (hn : Y.n ≤ 12) (hM : MY Y w) : SN d Y v := by
  obtain ⟨m1, m2, m3⟩ := hM
  refine ⟨h7.trans m1, fun q hq j hj => ?_, fun b hb a ha => ?_⟩
  · rw [h8 j (by omega) q (by omega)]
    exact m2 q hq j hj
  · rw [h8 b (by omega) 3 (by omega)]
    exact m3 b hb a ha
theorem sp_keepM {w : St} {c : Nat} {Y : Nat → YA} (hc : c ≤ 12) (h8 : w 0 8 = nI c) (hn : (Y c).n ≤ 12) (hM : MY (Y c) w) (hS : ∀ i, i < c → (Y i).n ≤ 12 ∧ SN i (Y i) w) {Post : Int32 → St → Prop}
    (hP : ∀ v : St, (∀ x, x ≠ 0 → x ≠ 7 → x ≠ 8 → v x = w x) → (∀ i, i ≠ 8 → v 0 i = w 0 i) → v 0 8 = nI (min (c + 1) 12) → (∀ i, i < min (c + 1) 12 → SN i (Y (i + (c + 1 - min (c + 1) 12))) v) → Post 0 v) : wp_X12_keep w Post := by
  unfold wp_X12_keep
  rw [h8]
  refine ⟨fun e => ?_, fun e => ?_⟩
  · have hc' : c < 12 := by
      rcases Nat.lt_or_ge c 12 with q | q
      · exact q
      · have : c = 12 := by omega
        exact absurd (by rw [this]; rfl) e
    have hm : min (c + 1) 12 = c + 1 := by omega
    rw [hm] at hP
    refine ⟨vp_in_nI hc' (by decide), ?_⟩
    rw [cln (i := c) (by omega)]
    refine sp_keepCopy hc' (by rw [su_n _ _ _ (by decide)]; exact h8) fun v v1 v2 v3 v4 v5 => hP v (fun x x0 x7 x8 => by rw [v1 x x0 x8, su_n _ _ _ x7]) (fun i hi => by rw [v2 i hi, su_n _ _ _ (by decide)]) v3 (fun i hi => ?_)
    rw [show i + (c + 1 - (c + 1)) = i by omega]
    by_cases q : i = c
    · subst q
      refine SN_of (w := w) (by rw [v1 7 (by decide) (by decide), su_at]) (fun j hj q hq => ?_) hn hM
      rw [v5 j hj q hq, su_n _ _ _ (by omega)]
    · obtain ⟨n0, s1, s2, s3⟩ := hS i (by omega)
      refine ⟨by rw [v1 7 (by decide) (by decide), su_ne _ _ q]; exact s1, fun q hq j hj => ?_, fun b hb a ha => ?_⟩
      · rw [v4 _ (by omega), su_n _ _ _ (by decide)]
        exact s2 q hq j hj
      · rw [v4 _ (by omega), su_n _ _ _ (by decide)]
        exact s3 b hb a ha
  · have hc' : c = 12 := (nI_eq (by omega) (by omega)).mp (e.trans (rfl : (12 : Int32) = nI 12))
    subst hc'
    have e11 : nI 12 - (1 : Int32) = nI 11 := nI_pred 11
    rw [e11]
    have hm : min (12 + 1) 12 = 12 := by omega
    rw [hm] at hP
    refine sp_keepShift (by rw [su_at]) fun v v1 v2 v3 => ?_
    have w0 : ∀ x, x ≠ 0 → su w 0 8 (nI 11) x = w x := fun x hx => su_n _ _ _ hx
    refine sp_keepCopy (d := 11) (by omega) (by rw [su_n _ _ _ (by decide), v1 0 (by decide) (by decide), su_at]) fun z z1 z2 z3 z4 z5 => hP z (fun x x0 x7 x8 => by rw [z1 x x0 x8, su_n _ _ _ x7, v1 x x7 x8, w0 x x0]) (fun i hi => by rw [z2 i hi, su_n _ _ _ (by decide), v1 0 (by decide) (by decide), su_ne _ _ hi]) z3 (fun i hi => ?_)
    rw [show i + (12 + 1 - 12) = i + 1 by omega]
    by_cases q : i = 11
    · subst q
      refine SN_of (w := w) (by rw [z1 7 (by decide) (by decide), su_at, v1 0 (by decide) (by decide), su_ne _ _ (by decide)]) (fun j hj q hq => ?_) hn hM
      rw [z5 j hj q hq, su_n _ _ _ (by omega), v1 _ (by omega) (by omega), w0 _ (by omega)]
    · obtain ⟨n0, s1, s2, s3⟩ := hS (i + 1) (by omega)
      refine ⟨by rw [z1 7 (by decide) (by decide), su_ne _ _ q, v2 i (by omega), w0 7 (by decide)]; exact s1, fun q hq j hj => ?_, fun b hb a ha => ?_⟩
      · rw [z4 _ (by omega), su_n _ _ _ (by decide), v3 _ (by omega), w0 8 (by decide), show 48 * i + 4 * j + q + 48 = 48 * (i + 1) + 4 * j + q by omega]
        exact s2 q hq j hj
      · rw [z4 _ (by omega), su_n _ _ _ (by decide), v3 _ (by omega), w0 8 (by decide), show 48 * i + 4 * b + 3 + 48 = 48 * (i + 1) + 4 * b + 3 by omega]
        exact s3 b hb a ha
/-- a change kept on both sides -/
theorem RYc_grow {PL : PLt} {k c nx v' : Nat} {Y : Nat → YA} {Z : YA} {uF vF vM : St} {t a b o : Int32} (c1 : c ≤ 12) (c2 : nx < 12) (c3 : v' ≤ k) (c5 : ∀ i, i ≤ c → okY (Y i)) (z5 : okY Z) (f : FY Z vF) (fv : vF 1 9 = nI v') (m : MY Z vM) (g1 : vF 20 4 = nI ((nx + 1) % 12)) (g2 : vF 20 5 = nI (min (c + 1) 12)) (g3 : vM 0 8 = nI (min (c + 1) 12))
    (hh : ∀ i, i < c → chg (Y i) (Y (i + 1)) (uF 21 (rg nx c i)) (uF 22 (rg nx c i)) (uF 23 (rg nx c i)) (uF 24 (rg nx c i))) (hz : chg (Y c) Z t a b o) (ht : vF 21 nx = t ∧ vF 22 nx = a ∧ vF 23 nx = b ∧ vF 24 nx = o) (hr : ∀ x, 21 ≤ x → x ≤ 24 → ∀ i, i ≠ nx → vF x i = uF x i) (hs : ∀ i, i < min (c + 1) 12 → SN i (Y (i + (c + 1 - min (c + 1) 12))) vM) (hp : PL v' Z.n (Z.m 0) (Z.m 1) Z.E vF) : RYc PL k Z.n vF vM := by
  obtain ⟨d, hd⟩ : ∃ d, d = min (c + 1) 12 := ⟨_, rfl⟩
  rw [← hd] at g2 g3 hs
  obtain ⟨Y', hY'⟩ : ∃ Y' : Nat → YA, Y' = fun i => if i < d then Y (i + (c + 1 - d)) else Z := ⟨_, rfl⟩
  have y1 : ∀ i, i < d → Y' i = Y (i + (c + 1 - d)) := fun i hi => by rw [hY']; exact if_pos hi
  have y2 : ∀ i, ¬ i < d → Y' i = Z := fun i hi => by rw [hY']; exact if_neg hi
  have y2d := y2 d (Nat.lt_irrefl d)
  refine ⟨d, Y', (nx + 1) % 12, v', ⟨by omega, by omega, c3, by rw [y2d], fun i hi => ?_⟩, by rw [y2d]; exact f, fv, by rw [y2d]; exact m, ⟨g1, g2, g3⟩, fun i hi => ?_, fun i hi => by rw [y1 i hi]; exact hs i hi, by rw [y2d]; exact hp⟩
  · by_cases q : i < d
    · rw [y1 i q]
      exact c5 _ (by omega)
    · rw [y2 i q]
      exact z5
  · rw [y1 i hi]
    by_cases q : i + 1 < d
    · rw [y1 _ q]
      have e : rg ((nx + 1) % 12) d i = rg nx c (i + (c + 1 - d)) := by
        unfold rg
        omega
      have ne : rg nx c (i + (c + 1 - d)) ≠ nx := by
        unfold rg
        omega
      rw [e, hr 21 (by decide) (by decide) _ ne, hr 22 (by decide) (by decide) _ ne, hr 23 (by decide) (by decide) _ ne, hr 24 (by decide) (by decide) _ ne]
      have := hh (i + (c + 1 - d)) (by omega)
      rw [show i + (c + 1 - d) + 1 = i + 1 + (c + 1 - d) by omega] at this
      exact this
    · rw [y2 _ q]
      have e : rg ((nx + 1) % 12) d i = nx := by
        unfold rg
        omega
      have e2 : i + (c + 1 - d) = c := by omega
      rw [e, e2, ht.1, ht.2.1, ht.2.2.1, ht.2.2.2]
      exact hz
