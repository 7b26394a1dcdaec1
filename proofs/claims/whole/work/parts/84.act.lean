/-! act keeps the relation. -/
theorem sh1 {x : Int32} {j : Nat} (hj : j < 32) : (x >>> (nI j &&& 31)) &&& 1 = nI (bt x j).toNat := by
  cases q : bt x j
  · exact (bt_has0 hj).mpr q
  · exact (bt_has hj).mpr q
theorem sp_bits {x : Int32} {w : St} {Post : Int32 → St → Prop} (h : Post (nI (cb (bt x) 12)) w) : wp_X12_bits x w Post := by
  unfold wp_X12_bits
  refine Exists.elim (loop_0 (fun m i (y : Int32) => wl_X12_bits_4 Post m x y (nI i) w) (fun i y => y = nI (cb (bt x) i)) 12 0 rfl ?_ ?_) (fun m hm => ⟨m, by rw [nI_0] at hm; exact hm⟩)
  · intro m y hy
    show wb_X12_bits_4 Post _ x y (nI 12) w
    unfold wb_X12_bits_4
    rw [hy]
    exact ⟨fun _ => h, fun c => absurd (Int32.le_refl _) c⟩
  · intro m i y hi hy ih
    show wb_X12_bits_4 Post _ x y (nI i) w
    unfold wb_X12_bits_4
    refine ⟨fun c => absurd c (nle_nI (b := 12) hi (by decide)), fun _ => ?_⟩
    rw [nI_1]
    refine ih _ ?_
    rw [hy, sh1 (by omega), nI_add]
    rfl
theorem st_nI {x : Int32} (h : ∀ i, 12 ≤ i → i < 32 → bt x i = false) : ∃ p, p < 4096 ∧ x = nI p := by
  refine ⟨x.toBitVec.toNat, ?_, ?_⟩
  · refine Nat.lt_pow_two_of_testBit (n := 12) _ fun i hi => ?_
    by_cases c : i < 32
    · exact h i hi c
    · exact b_big (x := x) (by omega)
  · exact b_ext fun i hi => by rw [bt_nI hi]; rfl
theorem cb_congr {f g : Nat → Bool} : ∀ k, (∀ i, i < k → f i = g i) → cb f k = cb g k
  | 0, _ => rfl
  | k + 1, h => by
    simp only [cb]
    rw [cb_congr k (fun i hi => h i (by omega)), h k (by omega)]
theorem bcF_cb {x : Int32} (h : ∀ i, 12 ≤ i → i < 32 → bt x i = false) : bcF x = nI (cb (bt x) 12) := by
  obtain ⟨p, hp, rfl⟩ := st_nI h
  rw [bcF_ok hp, cb_congr 12 (g := p.testBit) (fun i hi => bt_nI (by omega))]
  simp only [cb, pc, Nat.zero_add]
/-- the trace: the newest body stands first in the list -/
def rdl : List Int32 → Nat → Int32
  | [], _ => 0
  | a :: l, j => if j = l.length then a else rdl l j
def tF (u : St) (l : List Int32) : St := fun c j => if c = 25 then (if j = 1 then nI l.length else u 25 j) else if c = 26 then (if j < l.length then rdl l j else u 26 j) else u c j
def tM (w : St) (l : List Int32) : St := fun c j => if c = 0 then (if j = 16 then nI l.length else w 0 j) else if c = 12 then (if j < l.length then rdl l j else w 12 j) else w c j
theorem tF_n (u : St) (l : List Int32) {c : Nat} (h1 : c ≠ 25) (h2 : c ≠ 26) : tF u l c = u c := funext fun j => by
  unfold tF
  rw [if_neg h1, if_neg h2]
theorem tF_5 (u : St) (l : List Int32) {j : Nat} (h1 : j ≠ 1) : tF u l 25 j = u 25 j := by
  unfold tF
  rw [if_pos rfl, if_neg h1]
theorem tM_n (w : St) (l : List Int32) {c : Nat} (h1 : c ≠ 0) (h2 : c ≠ 12) : tM w l c = w c := funext fun j => by
  unfold tM
  rw [if_neg h1, if_neg h2]
theorem tM_0 (w : St) (l : List Int32) {j : Nat} (h1 : j ≠ 16) : tM w l 0 j = w 0 j := by
  unfold tM
  rw [if_pos rfl, if_neg h1]
theorem tF_c (u : St) (l : List Int32) : tF u l 25 1 = nI l.length := rfl
theorem tM_c (w : St) (l : List Int32) : tM w l 0 16 = nI l.length := rfl
theorem su_ap (u : St) (k j : Nat) (v : Int32) (c i : Nat) : su u k j v c i = if c = k then (if i = j then v else u k i) else u c i := by
  by_cases e : c = k
  · subst e
    rw [if_pos rfl, su_s]
    rfl
  · rw [if_neg e, su_n _ _ _ e]
theorem tF_su (u : St) (l : List Int32) (a : Int32) : su (su (tF u l) 26 l.length a) 25 1 (nI l.length + 1) = tF u (a :: l) := by
  funext c j
  rw [su_ap, su_ap, su_ap]
  unfold tF
  simp only [List.length_cons, rdl]
  by_cases e1 : c = 25
  · subst e1
    simp only [if_true]
    by_cases e2 : j = 1
    · rw [if_pos e2, if_pos e2, nI_1]
    · rw [if_neg e2, if_neg e2, if_neg (by decide), if_neg e2]
  · simp only [e1, if_false]
    by_cases e2 : c = 26
    · simp only [e2, if_true]
      by_cases e3 : j = l.length
      · rw [if_pos e3, if_pos (by omega), if_pos e3]
      · rw [if_neg e3, if_neg (by decide)]
        by_cases e4 : j < l.length
        · rw [if_pos e4, if_pos (by omega), if_neg e3]
        · rw [if_neg e4, if_neg (by omega)]
    · simp only [e2, if_false]
theorem tM_su (u : St) (l : List Int32) (a : Int32) : su (su (tM u l) 12 l.length a) 0 16 (nI l.length + 1) = tM u (a :: l) := by
  funext c j
  rw [su_ap, su_ap, su_ap]
  unfold tM
  simp only [List.length_cons, rdl]
  by_cases e1 : c = 0
  · subst e1
    simp only [if_true]
    by_cases e2 : j = 16
    · rw [if_pos e2, if_pos e2, nI_1]
    · rw [if_neg e2, if_neg e2, if_neg (by decide), if_neg e2]
  · simp only [e1, if_false]
    by_cases e2 : c = 12
    · simp only [e2, if_true]
      by_cases e3 : j = l.length
      · rw [if_pos e3, if_pos (by omega), if_pos e3]
      · rw [if_neg e3, if_neg (by decide)]
        by_cases e4 : j < l.length
        · rw [if_pos e4, if_pos (by omega), if_neg e3]
        · rw [if_neg e4, if_neg (by omega)]
    · simp only [e2, if_false]
theorem begin_eq {u : St} {l : List Int32} {a : Int32} {Post : Int32 → St → Prop} (hl : l.length < 50) : wp_X0_begin a (tF u l) Post = Post 0 (tF u (a :: l)) := by
  unfold wp_X0_begin
  rw [tF_c, cln (by omega), su_n _ _ _ (show (25 : Nat) ≠ 26 by decide), tF_c, tF_su]
  refine propext ⟨fun h => (h.2 (nle_nI (b := 50) hl (by decide))).2, fun h => ⟨fun c => absurd c (nle_nI (b := 50) hl (by decide)), fun _ => ⟨vp_in_nI hl (by decide), h⟩⟩⟩
theorem sp_ran {w : St} {l : List Int32} {a : Int32} {Post : Int32 → St → Prop} (hl : l.length < 50) (h : Post 0 (tM w (a :: l))) : wp_X12_ran a (tM w l) Post := by
  unfold wp_X12_ran
  rw [tM_c, cln (by omega), su_n _ _ _ (show (0 : Nat) ≠ 12 by decide), tM_c, tM_su]
  exact ⟨fun c => absurd c (nle_nI (b := 50) hl (by decide)), fun _ => ⟨vp_in_nI hl (by decide), h⟩⟩
section
variable {w : St} {j : Nat} {l : List Int32} {x : Int32} {Post : Int32 → St → Prop}
theorem sp_jobLast (hj : j < 12) (hl : l.length < 50) (h : Post (x + w 1 j) (tM w (10 :: l))) : wp_X12_jobLast (nI j) x (tM w l) Post := by
  unfold wp_X12_jobLast
  refine sp_ran hl ⟨vp_in_nI hj (by decide), ?_⟩
  rw [cln (by omega), tM_n _ _ (by decide) (by decide)]
  exact h
theorem sp_unitLast (hj : j < 12) (hl : l.length < 49) (h : Post ((x + w 1 j) * 2) (tM w (10 :: 20 :: l))) : wp_X12_unitLast (nI j) x (tM w l) Post := by
  unfold wp_X12_unitLast
  exact sp_ran (by omega) (sp_jobLast hj (by simp only [List.length_cons]; omega) h)
theorem sp_jobFollow (hj : j < 12) (hl : l.length < 50) (h : Post (x + nI (cb (bt (w 5 j)) 12)) (tM w (12 :: l))) : wp_X12_jobFollow (nI j) x (tM w l) Post := by
  unfold wp_X12_jobFollow
  refine sp_ran hl ⟨vp_in_nI hj (by decide), ?_⟩
  rw [cln (by omega), tM_n _ _ (by decide) (by decide)]
  exact sp_bits h
def bLast : Nat → List Int32
  | 1 => [10, 20]
  | 3 => [12, 10, 20, 41]
  | 4 => [10, 50]
  | _ => [10]
def vLast (le mo bc : Int32) : Nat → Int32 → Int32
  | 1, x => (x + le) * 2
  | 3, x => (x + le) * 2 + (x + bc)
  | 4, x => (x + mo) + le
  | _, x => x + le
def bFollow : Nat → List Int32
  | 3 => [12, 40]
  | _ => [12]
def vFollow (bc : Int32) : Nat → Int32 → Int32
  | 3, x => (x + bc) - 7
  | _, x => x + bc
def bWeigh : Nat → List Int32
  | 2 => [10, 11, 30]
  | d => bLast d ++ [11]
def vWeigh (le we mo bc : Int32) : Nat → Int32 → Int32
  | 2, x => vLast le mo bc 2 x * we + le
  | d, x => vLast le mo bc d x * we
theorem sp_mLast {d : Nat} (hd : d < 5) (hj : j < 12) (hl : l.length < 40) (h : Post (vLast (w 1 j) (w 3 j) (nI (cb (bt (w 5 j)) 12)) d x) (tM w (bLast d ++ l))) : wp_X12_last (nI j) (nI d) x (tM w l) Post := by
  unfold wp_X12_last
  have L : ∀ a : List Int32, a.length < 9 → (a ++ l).length < 49 := fun a ha => by rw [List.length_append]; omega
  match d, hd with
  | 0, _ => exact ⟨fun c => absurd c (by decide), fun c => absurd c (by decide), fun c => absurd c (by decide), fun c => absurd c (by decide), fun _ _ _ _ => sp_jobLast hj (by omega) h⟩
  | 1, _ => exact ⟨fun _ => sp_unitLast hj (by omega) h, fun c => absurd c (by decide), fun c => absurd c (by decide), fun c => absurd c (by decide), fun c => absurd rfl c⟩
  | 2, _ => exact ⟨fun c => absurd c (by decide), fun _ => sp_jobLast hj (by omega) h, fun c => absurd c (by decide), fun c => absurd c (by decide), fun _ c => absurd rfl c⟩
  | 3, _ => exact ⟨fun c => absurd c (by decide), fun c => absurd c (by decide), fun _ => sp_ran (by omega) (sp_unitLast hj (L [41] (by decide)) (sp_jobFollow hj (Nat.lt_succ_of_lt (L [10, 20, 41] (by decide))) h)), fun c => absurd c (by decide), fun _ _ c => absurd rfl c⟩
  | 4, _ =>
    refine ⟨fun c => absurd c (by decide), fun c => absurd c (by decide), fun c => absurd c (by decide), fun _ => sp_ran (by omega) ⟨vp_in_nI hj (by decide), ?_⟩, fun _ _ _ c => absurd rfl c⟩
    rw [cln (by omega), tM_n _ _ (show (3 : Nat) ≠ 0 by decide) (by decide)]
    exact sp_jobLast hj (Nat.lt_succ_of_lt (L [50] (by decide))) h
theorem sp_mFollow {d : Nat} (hd : d < 5) (hj : j < 12) (hl : l.length < 40) (h : Post (vFollow (nI (cb (bt (w 5 j)) 12)) d x) (tM w (bFollow d ++ l))) : wp_X12_follow (nI j) (nI d) x (tM w l) Post := by
  unfold wp_X12_follow
  match d, hd with
  | 0, _ => exact ⟨fun _ => sp_jobFollow hj (by omega) h, fun c => absurd c (by decide)⟩
  | 1, _ => exact ⟨fun _ => sp_jobFollow hj (by omega) h, fun c => absurd c (by decide)⟩
  | 2, _ => exact ⟨fun _ => sp_jobFollow hj (by omega) h, fun c => absurd c (by decide)⟩
  | 3, _ => exact ⟨fun c => absurd rfl c, fun _ => sp_ran (by omega) (sp_jobFollow hj (by simp only [List.length_cons]; omega) h)⟩
  | 4, _ => exact ⟨fun _ => sp_jobFollow hj (by omega) h, fun c => absurd c (by decide)⟩
theorem sp_m11 {d : Nat} (hd : d < 5) (hj : j < 12) (hl : l.length < 39) (h : Post (if d = 2 then vLast (w 1 j) (w 3 j) (nI (cb (bt (w 5 j)) 12)) d x * w 2 j + w 1 j else vLast (w 1 j) (w 3 j) (nI (cb (bt (w 5 j)) 12)) d x * w 2 j) (tM w (bLast d ++ 11 :: l))) : wb_X12_weigh_11 Post (nI j) (nI d) x (tM w l) := by
  unfold wb_X12_weigh_11
  have v := vp_in_nI hj (show 12 < 2 ^ 31 by decide)
  refine sp_ran (by omega) (sp_mLast hd hj (by simp only [List.length_cons]; omega) ⟨v, ?_⟩)
  rw [cln (by omega), tM_n _ _ (show (2 : Nat) ≠ 0 by decide) (by decide), tM_n _ _ (show (1 : Nat) ≠ 0 by decide) (by decide)]
  have e : nI d = 2 ↔ d = 2 := nI_eq (b := 2) (by omega) (by decide)
  by_cases c : d = 2
  · rw [if_pos c] at h
    exact ⟨fun q => absurd (e.mpr c) q, fun _ => ⟨v, h⟩⟩
  · rw [if_neg c] at h
    exact ⟨fun _ => h, fun q => absurd (e.mp q) c⟩
theorem sp_mWeigh {d : Nat} (hd : d < 5) (hj : j < 12) (hl : l.length < 30) (h : Post (vWeigh (w 1 j) (w 2 j) (w 3 j) (nI (cb (bt (w 5 j)) 12)) d x) (tM w (bWeigh d ++ l))) : wp_X12_weigh (nI j) (nI d) x (tM w l) Post := by
  unfold wp_X12_weigh
  match d, hd with
  | 0, _ => exact ⟨fun _ => sp_m11 (by omega) hj (by omega) h, fun c => absurd c (by decide)⟩
  | 1, _ => exact ⟨fun _ => sp_m11 (by omega) hj (by omega) h, fun c => absurd c (by decide)⟩
  | 2, _ => exact ⟨fun c => absurd rfl c, fun _ => sp_ran (by omega) (sp_m11 (by omega) hj (by simp only [List.length_cons]; omega) h)⟩
  | 3, _ => exact ⟨fun _ => sp_m11 (by omega) hj (by omega) h, fun c => absurd c (by decide)⟩
  | 4, _ => exact ⟨fun _ => sp_m11 (by omega) hj (by omega) h, fun c => absurd c (by decide)⟩
def bJT (d : Nat) : List Int32 := bFollow d ++ (bWeigh d ++ [13])
def vJT (le we mo bc : Int32) (d : Nat) (x : Int32) : Int32 := vWeigh le we mo bc d x - vFollow bc d x
theorem bW_len {d : Nat} (hd : d < 5) : (bWeigh d).length < 6 ∧ (bFollow d).length < 6 := (by decide : ∀ d, d < 5 → (bWeigh d).length < 6 ∧ (bFollow d).length < 6) d hd
theorem sp_mJobTell {d : Nat} (hd : d < 5) (hj : j < 12) (hl : l.length < 20) (h : Post (vJT (w 1 j) (w 2 j) (w 3 j) (nI (cb (bt (w 5 j)) 12)) d x) (tM w (bJT d ++ l))) : wp_X12_jobTell (nI j) (nI d) x (tM w l) Post := by
  unfold wp_X12_jobTell
  have q := bW_len hd
  refine sp_ran (by omega) (sp_mWeigh hd hj (by simp only [List.length_cons]; omega) (sp_mFollow hd hj (by simp only [List.length_cons, List.length_append]; omega) ?_))
  unfold bJT at h
  rw [List.append_assoc, List.append_assoc] at h
  exact h
def bTell : Nat → List Int32
  | 1 => bJT 1 ++ [21]
  | 3 => bJT 3 ++ [21]
  | 4 => bJT 4 ++ (bFollow 4 ++ [51])
  | d => bJT d
def vTell (le we mo bc : Int32) : Nat → Int32 → Int32
  | 1, x => vJT le we mo bc 1 (x + 1) ^^^ 3
  | 3, x => vJT le we mo bc 3 (x + 1) ^^^ 3
  | 4, x => vFollow bc 4 x * vJT le we mo bc 4 x
  | d, x => vJT le we mo bc d x
theorem sp_mTell {d : Nat} (hd : d < 5) (hj : j < 12) (hl : l.length < 5) (h : Post (vTell (w 1 j) (w 2 j) (w 3 j) (nI (cb (bt (w 5 j)) 12)) d x) (tM w (bTell d ++ l))) : wp_X12_tell (nI j) (nI d) x (tM w l) Post := by
  unfold wp_X12_tell
  match d, hd with
  | 0, _ => exact ⟨fun c => absurd c (by decide), fun c => absurd c (by decide), fun c => absurd c (by decide), fun c => absurd c (by decide), fun _ _ _ _ => sp_mJobTell (by omega) hj (by omega) h⟩
  | 1, _ => exact ⟨fun _ => sp_ran (by omega) (sp_mJobTell (by omega) hj (by simp only [List.length_cons]; omega) h), fun c => absurd c (by decide), fun c => absurd c (by decide), fun c => absurd c (by decide), fun c => absurd rfl c⟩
  | 2, _ => exact ⟨fun c => absurd c (by decide), fun _ => sp_mJobTell (by omega) hj (by omega) h, fun c => absurd c (by decide), fun c => absurd c (by decide), fun _ c => absurd rfl c⟩
  | 3, _ => exact ⟨fun c => absurd c (by decide), fun c => absurd c (by decide), fun _ => sp_ran (by omega) (sp_mJobTell (by omega) hj (by simp only [List.length_cons]; omega) h), fun c => absurd c (by decide), fun _ _ c => absurd rfl c⟩
  | 4, _ => exact ⟨fun c => absurd c (by decide), fun c => absurd c (by decide), fun c => absurd c (by decide), fun _ => sp_ran (by omega) (sp_mFollow (by omega) hj (by simp only [List.length_cons]; omega) (sp_mJobTell (by omega) hj (by simp only [List.length_cons, bFollow, List.length_append, List.length_nil]; omega) h)), fun _ _ _ c => absurd rfl c⟩
end
