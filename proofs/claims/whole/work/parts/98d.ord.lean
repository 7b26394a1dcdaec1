/-! The class's search of the orders. -/
def YF (u : St) (n : Nat) (L W : Nat → Nat) (E : Nat → Nat → Bool) : Prop := u 1 7 = nI n ∧ (∀ j, j < n → u 3 j = nI (L j)) ∧ (∀ j, j < n → u 4 j = nI (W j)) ∧ FD u n L W E
theorem YF_congr {u v : St} {n : Nat} {L W : Nat → Nat} {E : Nat → Nat → Bool} (h : ∀ c, 1 ≤ c → c ≤ 11 → v c = u c) (hY : YF u n L W E) : YF v n L W E := by
  obtain ⟨h1, h2, h3, h4⟩ := hY
  refine ⟨by rw [h 1 (by decide) (by decide)]; exact h1, by rw [h 3 (by decide) (by decide)]; exact h2, by rw [h 4 (by decide) (by decide)]; exact h3, FD_congr (fun c a b => h c (by omega) b) h4⟩
theorem or_ins {s j : Nat} (hj : j < 32) : nI s ||| ((1 : Int32) <<< (nI j &&& 31)) = nI (ins s j) := b_ext fun i hi => by rw [b_or, bt_nI hi, bt_1shl hj hi, bt_nI hi, tb_ins]
theorem okC_of {n : Nat} {L W : Nat → Nat} {E : Nat → Nat → Bool} (hn : n ≤ 12) (hin : ∀ a b, E a b = true → a < n ∧ b < n) (hac : ∀ a, a < n → Pc E n a a = false) (hL : ∀ j, j < n → L j ≤ 100 ∧ W j ≤ 100) : okC n (Pc E n) L W := by
  refine ⟨hn, Pc_in hin n, fun a b c h1 h2 => Pc_trans hin h1 h2, fun a => ?_, hL⟩
  cases q : Pc E n a a
  · rfl
  · have := (Pc_in hin n a a q).1
    rw [hac a this] at q
    cases q
section
variable {u : St} {n : Nat} {L W : Nat → Nat} {E : Nat → Nat → Bool} {s j : Nat} {Post : Int32 → St → Prop}
theorem sp_costNext {t : Nat} (hn : n ≤ 12) (hY : YF u n L W E) (hj : j < n) (h : Post (nI (W j * (t + L j))) u) : wp_X10_costNext (nI t) (nI j) u Post := by
  unfold wp_X10_costNext
  have vj : vp_in (nI j) 12 := vp_in_nI (by omega) (by decide)
  refine ⟨vj, vj, ?_⟩
  rw [cln (i := j) (by omega), hY.2.1 j hj, hY.2.2.1 j hj, nI_add, pk_mul]
  exact h
theorem gm_le9 {ok : Nat → Bool} {c : Nat → Nat} {o : Nat → Int32} : ∀ k, (gm ok c o k).1 ≤ 1000000000
  | 0 => Nat.le_refl _
  | k + 1 => by
    have := gm_le9 (ok := ok) (c := c) (o := o) k
    simp only [gm]
    by_cases q : ok k = true
    · rw [if_pos q]
      by_cases q1 : c k < (gm ok c o k).1
      · rw [if_pos q1]
        show c k ≤ _
        omega
      · rw [if_neg q1]
        by_cases q2 : c k = (gm ok c o k).1
        · rw [if_pos q2]
          exact this
        · rw [if_neg q2]
          exact this
    · rw [if_neg q]
      exact this
theorem sp_goOnFrom (hC : okC n (Pc E n) L W) (hY : YF u n L W E) (hs : s < 2 ^ n) (hb : Bg n (Pc E n) s 0) (hf : s ≠ 2 ^ n - 1) (ht : ∀ j, j < n → Nx n (Pc E n) s j → u 14 (ins s j) = nI (bT n (Pc E n) L W (ins s j)) ∧ u 15 (ins s j) = bO n (Pc E n) L W (ins s j)) (h : Post 0 (su (su u 14 s (nI (bT n (Pc E n) L W s))) 15 s (bO n (Pc E n) L W s))) : wp_X7_goOnFrom (nI s) u Post := by
  have hn := hC.1
  have h4 := pow12 hs hn
  have st := tbl_step (C := Pc E n) (L := L) (W := W) hs hf
  obtain ⟨g, hg⟩ : ∃ g : Nat → Nat × Int32, g = gm (fun j => nxB n (Pc E n) s j) (fun j => stp L W s j + bT n (Pc E n) L W (ins s j)) (fun j => bO n (Pc E n) L W (ins s j)) := ⟨_, rfl⟩
  rw [← hg] at st
  unfold wp_X7_goOnFrom wp_X10_jobs
  rw [hY.1]
  refine sp_lengthOf hn hY.2.2.2 hs ?_
  refine Exists.elim (loop_0 (fun m i (p : Nat × Int32) => wl_X7_goOnFrom_22 Post m (nI s) (nI n) (nI (sm L s 12)) (nI p.1) p.2 (nI i) u) (fun i p => p = g i) n (1000000000, 0) (by rw [hg]; rfl) ?_ ?_) (fun m hm => ⟨m, by rw [nI_0] at hm; exact hm⟩)
  · intro m p hp
    show wb_X7_goOnFrom_22 Post _ (nI s) (nI n) (nI (sm L s 12)) (nI p.1) p.2 (nI n) u
    unfold wb_X7_goOnFrom_22
    have vs : vp_in (nI s) 4096 := vp_in_nI h4 (by decide)
    refine ⟨fun _ => ⟨vs, vs, ?_⟩, fun c => absurd (nI_le (Nat.le_refl n) (by omega)) c⟩
    rw [cln (i := s) (by omega), hp, ← st]
    exact h
  · intro m i p hi hp ih
    show wb_X7_goOnFrom_22 Post _ (nI s) (nI n) (nI (sm L s 12)) (nI p.1) p.2 (nI i) u
    unfold wb_X7_goOnFrom_22
    refine ⟨fun c => absurd c (nle_nI hi (by omega)), fun _ => ?_⟩
    have p9 : p.1 ≤ 1000000000 := by rw [hp, hg]; exact gm_le9 i
    refine sp_mayComeNext hn hY.2.2.2 hs hi (fun hx => ⟨fun c => absurd c (by decide), fun _ => ?_⟩) (fun hx => ⟨fun _ => ?_, fun c => absurd rfl c⟩)
    · refine sp_costNext hn hY hi ?_
      have ei : ins s i < 4096 := pow12 (ins_lt hs hi) hn
      have b1 := bT_le hC (ins_lt hs hi) (Bg_ins hb hx)
      have b2 := stp_le hC hs hi hx.1
      have b3 := (hC.2.2.2.2 i hi).2
      have b4 : stp L W s i ≤ 120000 := Nat.le_trans b2 (Nat.mul_le_mul_right 1200 b3)
      obtain ⟨t1, t2⟩ := ht i hi hx
      have vi : vp_in (nI (ins s i)) 4096 := vp_in_nI ei (by decide)
      have nx := nxB_iff.mpr hx
      rw [or_ins (by omega), cln (i := ins s i) (by omega), t1, t2, nI_add]
      show vp_in (nI (ins s i)) 4096 ∧ ((nI p.1 ≤ nI (stp L W s i + bT n (Pc E n) L W (ins s i)) → _) ∧ _)
      refine ⟨vi, fun c => ⟨fun d => ?_, fun d => ⟨vi, ?_⟩⟩, fun c => ⟨vi, ?_⟩⟩
      · rw [nI_1]
        have c1 : ¬ stp L W s i + bT n (Pc E n) L W (ins s i) < p.1 := fun z => nle_nI z (by omega) c
        have c2 : ¬ stp L W s i + bT n (Pc E n) L W (ins s i) = p.1 := fun z => d (by rw [← z]; rfl)
        refine ih p ?_
        rw [hp] at c1 c2 ⊢
        rw [hg] at c1 c2 ⊢
        simp only [gm]
        rw [if_pos nx, if_neg c1, if_neg c2]
      · rw [nI_1]
        have c2 : stp L W s i + bT n (Pc E n) L W (ins s i) = p.1 := (nI_eq (by omega) (by omega)).mp d
        have c1 : ¬ stp L W s i + bT n (Pc E n) L W (ins s i) < p.1 := by omega
        refine ih (p.1, p.2 + bO n (Pc E n) L W (ins s i)) ?_
        rw [hp] at c1 c2 ⊢
        rw [hg] at c1 c2 ⊢
        simp only [gm]
        rw [if_pos nx, if_neg c1, if_pos c2]
      · rw [nI_1]
        have c1 : stp L W s i + bT n (Pc E n) L W (ins s i) < p.1 := by
          rcases Nat.lt_or_ge (stp L W s i + bT n (Pc E n) L W (ins s i)) p.1 with z | z
          · exact z
          · exact absurd (nI_le z (by omega)) c
        refine ih (stp L W s i + bT n (Pc E n) L W (ins s i), bO n (Pc E n) L W (ins s i)) ?_
        rw [hp] at c1
        rw [hg] at c1 ⊢
        simp only [gm]
        rw [if_pos nx, if_pos c1]
    · rw [nI_1]
      refine ih p ?_
      rw [hp, hg]
      simp only [gm]
      rw [if_neg (fun z => hx (nxB_iff.mp z))]
/-- j is a best next one behind s -/
def bnB (n : Nat) (C : Nat → Nat → Bool) (L W : Nat → Nat) (s j : Nat) : Bool := nxB n C s j && decide (stp L W s j + bT n C L W (ins s j) = bT n C L W s)
theorem bnB_iff {C : Nat → Nat → Bool} : bnB n C L W s j = true ↔ Nx n C s j ∧ stp L W s j + bT n C L W (ins s j) = bT n C L W s := by
  unfold bnB
  rw [Bool.and_eq_true, nxB_iff, decide_eq_true_eq]
theorem sp_isBestNext (hC : okC n (Pc E n) L W) (hY : YF u n L W E) (hs : s < 2 ^ n) (hb : Bg n (Pc E n) s 0) (hj : j < n) (t0 : u 14 s = nI (bT n (Pc E n) L W s)) (t1 : Nx n (Pc E n) s j → u 14 (ins s j) = nI (bT n (Pc E n) L W (ins s j))) (h : Post (if bnB n (Pc E n) L W s j = true then 1 else 0) u) : wp_X7_isBestNext (nI s) (nI j) u Post := by
  have hn := hC.1
  have h4 := pow12 hs hn
  unfold wp_X7_isBestNext
  refine sp_mayComeNext hn hY.2.2.2 hs hj (fun hx => ⟨fun c => absurd c (by decide), fun _ => ?_⟩) (fun hx => ⟨fun _ => ?_, fun c => absurd rfl c⟩)
  · refine sp_lengthOf hn hY.2.2.2 hs ?_
    refine sp_costNext hn hY hj ?_
    have ei : ins s j < 4096 := pow12 (ins_lt hs hj) hn
    have b1 := bT_le hC (ins_lt hs hj) (Bg_ins hb hx)
    have b0 := bT_le hC hs hb
    have b2 := stp_le hC hs hj hx.1
    have b3 := (hC.2.2.2.2 j hj).2
    have b4 : stp L W s j ≤ 120000 := Nat.le_trans b2 (Nat.mul_le_mul_right 1200 b3)
    rw [or_ins (by omega), cln (i := ins s j) (by omega), cln (i := s) (by omega), t0, t1 hx, nI_add]
    show vp_in (nI (ins s j)) 4096 ∧ vp_in (nI s) 4096 ∧ ((¬ nI (stp L W s j + bT n (Pc E n) L W (ins s j)) = nI (bT n (Pc E n) L W s) → _) ∧ _)
    refine ⟨vp_in_nI ei (by decide), vp_in_nI h4 (by decide), fun c => ?_, fun c => ?_⟩
    · rw [if_neg (fun z => c (by rw [(bnB_iff.mp z).2]))] at h
      exact h
    · have := (nI_eq (a := stp L W s j + bT n (Pc E n) L W (ins s j)) (by omega) (by omega)).mp c
      rw [if_pos (bnB_iff.mpr ⟨hx, this⟩)] at h
      exact h
  · rw [if_neg (fun z => hx (bnB_iff.mp z).1)] at h
    exact h
end
def fsJ (p : Nat → Bool) : Nat → Nat → Nat
  | 0, i => i
  | k + 1, i => if p i = true then i else fsJ p k (i + 1)
theorem fsJ_ok {p : Nat → Bool} : ∀ k i, (∃ j, i ≤ j ∧ j < i + k ∧ p j = true ∧ fsJ p k i = j ∧ ∀ x, i ≤ x → x < j → p x = false) ∨ (fsJ p k i = i + k ∧ ∀ x, i ≤ x → x < i + k → p x = false)
  | 0, i => Or.inr ⟨rfl, fun x h1 h2 => by omega⟩
  | k + 1, i => by
    simp only [fsJ]
    by_cases q : p i = true
    · rw [if_pos q]
      exact Or.inl ⟨i, Nat.le_refl i, by omega, q, rfl, fun x h1 h2 => by omega⟩
    · rw [if_neg q]
      have q' : p i = false := by simpa using q
      rcases fsJ_ok (p := p) k (i + 1) with ⟨j, j1, j2, j3, j4, j5⟩ | ⟨j1, j2⟩
      · refine Or.inl ⟨j, by omega, by omega, j3, j4, fun x h1 h2 => ?_⟩
        by_cases e : x = i
        · rw [e]
          exact q'
        · exact j5 x (by omega) h2
      · refine Or.inr ⟨by omega, fun x h1 h2 => ?_⟩
        by_cases e : x = i
        · rw [e]
          exact q'
        · exact j2 x (by omega) (by omega)
/-- the least best next one; the sets that BEST begins with -/
def bj (n : Nat) (C : Nat → Nat → Bool) (L W : Nat → Nat) (s : Nat) : Nat := fsJ (bnB n C L W s) (n - 1) 0
def bs (n : Nat) (C : Nat → Nat → Bool) (L W : Nat → Nat) : Nat → Nat
  | 0 => 0
  | i + 1 => ins (bs n C L W i) (bj n C L W (bs n C L W i))
section
variable {n : Nat} {C : Nat → Nat → Bool} {L W : Nat → Nat} {s : Nat}
theorem bj_ok (hC : okC n C L W) (hs : s < 2 ^ n) (hb : Bg n C s 0) (hf : s ≠ 2 ^ n - 1) : bj n C L W s < n ∧ bnB n C L W s (bj n C L W s) = true ∧ ∀ x, x < bj n C L W s → bnB n C L W s x = false := by
  obtain ⟨j, hj, hx, he⟩ := bT_ex hC hs hb hf
  have hjb : bnB n C L W s j = true := bnB_iff.mpr ⟨hx, he.symm⟩
  unfold bj
  rcases fsJ_ok (p := bnB n C L W s) (n - 1) 0 with ⟨i, i1, i2, i3, i4, i5⟩ | ⟨i1, i2⟩
  · rw [i4]
    exact ⟨by omega, i3, fun x hx => i5 x (Nat.zero_le x) hx⟩
  · have e : j = n - 1 := by
      rcases Nat.lt_or_ge j (n - 1) with z | z
      · rw [i2 j (Nat.zero_le j) (by omega)] at hjb
        cases hjb
      · omega
    rw [i1, Nat.zero_add, ← e]
    exact ⟨hj, hjb, fun x hx => i2 x (Nat.zero_le x) (by omega)⟩
theorem bs_ok (hC : okC n C L W) : ∀ i, i ≤ n → bs n C L W i < 2 ^ n ∧ Bg n C (bs n C L W i) 0 ∧ card n (bs n C L W i) = i
  | 0, _ => ⟨Nat.two_pow_pos n, Bg_0, card_0 n⟩
  | i + 1, h => by
    obtain ⟨h1, h2, h3⟩ := bs_ok hC i (by omega)
    have hf : bs n C L W i ≠ 2 ^ n - 1 := fun e => by
      have := card_full n
      rw [← e] at this
      omega
    obtain ⟨b1, b2, b3⟩ := bj_ok hC h1 h2 hf
    obtain ⟨x1, x2⟩ := bnB_iff.mp b2
    exact ⟨ins_lt h1 b1, Bg_ins h2 x1, (card_ins x1.1 b1).trans (by rw [h3])⟩
theorem bs_nf (hC : okC n C L W) {i : Nat} (hi : i < n) : bs n C L W i ≠ 2 ^ n - 1 := fun e => by
  have h3 := (bs_ok hC i (by omega)).2.2
  rw [e, card_full] at h3
  omega
end
section
variable {u : St} {n : Nat} {L W : Nat → Nat} {E : Nat → Nat → Bool} {s j : Nat} {Post : Int32 → St → Prop}
/-- the table of costs -/
def TB (u : St) (n : Nat) (L W : Nat → Nat) (E : Nat → Nat → Bool) : Prop := ∀ s, s < 2 ^ n → (Bg n (Pc E n) s 0 → u 14 s = nI (bT n (Pc E n) L W s)) ∧ (¬ Bg n (Pc E n) s 0 → u 14 s = 1000000000)
theorem sp_leastBestNext (hC : okC n (Pc E n) L W) (hY : YF u n L W E) (hT : TB u n L W E) (hs : s < 2 ^ n) (hb : Bg n (Pc E n) s 0) (h0 : 0 < n) (h : Post (nI (bj n (Pc E n) L W s)) u) : wp_X7_leastBestNext (nI s) u Post := by
  have hn := hC.1
  have e1 : nI n - (1 : Int32) = nI (n - 1) := pk_sub (a := n) (b := 1) h0
  have go : ∀ k i, i + k = n - 1 → Post (nI (fsJ (bnB n (Pc E n) L W s) k i)) u → ∃ m, wl_X7_leastBestNext_2 Post m (nI s) (nI i) u := by
    intro k
    induction k with
    | zero =>
      intro i hi hp
      refine ⟨1, ?_⟩
      show wb_X7_leastBestNext_2 Post _ (nI s) (nI i) u
      unfold wb_X7_leastBestNext_2
      simp only [wp_X10_jobs, hY.1, e1]
      refine ⟨fun _ => ?_, fun c => absurd (nI_le (by omega) (by omega)) c⟩
      rw [show n - 1 = i by omega]
      exact hp
    | succ k ih =>
      intro i hi hp
      simp only [fsJ] at hp
      by_cases q : bnB n (Pc E n) L W s i = true
      · rw [if_pos q] at hp
        refine ⟨1, ?_⟩
        show wb_X7_leastBestNext_2 Post _ (nI s) (nI i) u
        unfold wb_X7_leastBestNext_2
        simp only [wp_X10_jobs, hY.1, e1]
        refine ⟨fun c => absurd c (nle_nI (by omega) (by omega)), fun _ => ?_⟩
        refine sp_isBestNext hC hY hs hb (by omega) ((hT s hs).1 hb) (fun hx => (hT _ (ins_lt hs (by omega))).1 (Bg_ins hb hx)) ?_
        rw [if_pos q]
        exact ⟨fun c => absurd c (by decide), fun _ => hp⟩
      · rw [if_neg q] at hp
        obtain ⟨m, hm⟩ := ih (i + 1) (by omega) hp
        refine ⟨m + 1, ?_⟩
        show wb_X7_leastBestNext_2 Post _ (nI s) (nI i) u
        unfold wb_X7_leastBestNext_2
        simp only [wp_X10_jobs, hY.1, e1, nI_1]
        refine ⟨fun c => absurd c (nle_nI (by omega) (by omega)), fun _ => ?_⟩
        refine sp_isBestNext hC hY hs hb (by omega) ((hT s hs).1 hb) (fun hx => (hT _ (ins_lt hs (by omega))).1 (Bg_ins hb hx)) ?_
        rw [if_neg q]
        exact ⟨fun _ => hm, fun c => absurd rfl c⟩
  obtain ⟨m, hm⟩ := go (n - 1) 0 (by omega) h
  exact ⟨m, by rw [nI_0] at hm; exact hm⟩
theorem TB_congr {v : St} (e : v 14 = u 14) (h : TB u n L W E) : TB v n L W E := by
  unfold TB
  rw [e]
  exact h
theorem sp_readBestRow (hC : okC n (Pc E n) L W) (hY : YF u n L W E) (hT : TB u n L W E) (h : ∀ v : St, (∀ c, c ≠ 16 → v c = u c) → (∀ i, i < n → v 16 i = nI (bj n (Pc E n) L W (bs n (Pc E n) L W i))) → Post 0 v) : wp_X7_readBestRow u Post := by
  have hn := hC.1
  unfold wp_X7_readBestRow
  refine Exists.elim (loop_0 (fun m i v => wl_X7_readBestRow_4 Post m (nI (bs n (Pc E n) L W i)) (nI i) v) (fun i v => (∀ c, c ≠ 16 → v c = u c) ∧ (∀ x, x < i → v 16 x = nI (bj n (Pc E n) L W (bs n (Pc E n) L W x)))) n u ⟨fun _ _ => rfl, fun x hx => absurd hx (Nat.not_lt_zero x)⟩ ?_ ?_) (fun m hm => ⟨m, by
    have e : nI (bs n (Pc E n) L W 0) = 0 := nI_0
    rw [e, nI_0] at hm
    exact hm⟩)
  · intro m v ⟨i1, i2⟩
    show wb_X7_readBestRow_4 Post _ (nI (bs n (Pc E n) L W n)) (nI n) v
    unfold wb_X7_readBestRow_4 wp_X10_jobs
    rw [i1 1 (by decide), hY.1]
    exact ⟨fun _ => h v i1 i2, fun c => absurd (nI_le (Nat.le_refl n) (by omega)) c⟩
  · intro m i v hi ⟨i1, i2⟩ ih
    show wb_X7_readBestRow_4 Post _ (nI (bs n (Pc E n) L W i)) (nI i) v
    unfold wb_X7_readBestRow_4 wp_X10_jobs
    rw [i1 1 (by decide), hY.1]
    refine ⟨fun c => absurd c (nle_nI hi (by omega)), fun _ => ?_⟩
    obtain ⟨b1, b2, b3⟩ := bs_ok hC i (by omega)
    have hY' : YF v n L W E := YF_congr (fun c h1 h2 => i1 c (by omega)) hY
    refine sp_leastBestNext hC hY' (TB_congr (i1 14 (by decide)) hT) b1 b2 (by omega) ?_
    obtain ⟨j1, j2, j3⟩ := bj_ok hC b1 b2 (bs_nf hC hi)
    refine ⟨vp_in_nI (by omega) (by decide), ?_⟩
    rw [or_ins (by omega), nI_1, cln (i := i) (by omega)]
    refine ih _ ⟨fun c hc => by rw [su_n _ _ _ hc]; exact i1 c hc, fun x hx => ?_⟩
    by_cases e : x = i
    · rw [e, su_at]
    · rw [su_ne _ _ e]
      exact i2 x (by omega)
/-- findOrders, when it works -/
theorem sp_findOrders (hC : okC n (Pc E n) L W) (hY : YF u n L W E) (h0 : u 12 6 = u 1 9 → Post 0 u) (h1 : ¬ u 12 6 = u 1 9 → ∀ v : St, (∀ c, c ≠ 12 → c ≠ 14 → c ≠ 15 → c ≠ 16 → v c = u c) → v 12 = upd (u 12) 6 (u 1 9) → TB v n L W E → v 15 0 = bO n (Pc E n) L W 0 → (∀ i, i < n → v 16 i = nI (bj n (Pc E n) L W (bs n (Pc E n) L W i))) → Post 0 v) : wp_X7_findOrders u Post := by
  have hn := hC.1
  have hp := p12 hn
  have hp1 : 1 ≤ 2 ^ n := Nat.one_le_two_pow
  unfold wp_X7_findOrders wp_X10_version
  refine ⟨fun c => ?_, fun c => h0 c⟩
  have hY0 : YF (su u 12 6 (u 1 9)) n L W E := YF_congr (fun c h1 h2 => su_n _ _ _ (by omega)) hY
  refine sp_everyJob hn hY0.1 ?_
  have vf : vp_in (nI (2 ^ n - 1)) 4096 := vp_in_nI (by omega) (by decide)
  refine ⟨vf, vf, ?_⟩
  rw [cln (i := 2 ^ n - 1) (by omega)]
  obtain ⟨u0, hu0⟩ : ∃ u0 : St, u0 = su u 12 6 (u 1 9) := ⟨_, rfl⟩
  rw [← hu0] at hY0 ⊢
  have e1 : nI (2 ^ n - 1) - (1 : Int32) = nI (2 ^ n - 1) + (-1) := Int32.sub_eq_add_neg _ _
  rw [e1]
  have key := pk_loopD (fun m i (v : St) => wl_X7_findOrders_43 Post m (nI i + (-1)) v) (fun i v => i < 2 ^ n ∧ (∀ c, c ≠ 14 → c ≠ 15 → v c = u0 c) ∧ ∀ t, i ≤ t → t < 2 ^ n → (Bg n (Pc E n) t 0 → v 14 t = nI (bT n (Pc E n) L W t) ∧ v 15 t = bO n (Pc E n) L W t) ∧ (¬ Bg n (Pc E n) t 0 → v 14 t = 1000000000)) ?_ ?_ (2 ^ n - 1) (su (su u0 14 (2 ^ n - 1) 0) 15 (2 ^ n - 1) 1) ⟨by omega, fun c h14 h15 => by rw [su_n _ _ _ h15, su_n _ _ _ h14], fun t t1 t2 => ?_⟩
  · exact ⟨_, key⟩
  · intro m v ⟨_, i1, i2⟩
    show wb_X7_findOrders_43 Post _ (nI 0 + (-1)) v
    unfold wb_X7_findOrders_43
    refine ⟨fun _ => ?_, fun c => absurd (by decide) c⟩
    have hT : TB v n L W E := fun t ht => ⟨fun b => ((i2 t (Nat.zero_le t) ht).1 b).1, (i2 t (Nat.zero_le t) ht).2⟩
    have hYv : YF v n L W E := YF_congr (fun c h1 h2 => i1 c (by omega) (by omega)) hY0
    refine sp_readBestRow hC hYv hT fun w w1 w2 => h1 c w (fun c c12 c14 c15 c16 => ?_) ?_ (TB_congr (w1 14 (by decide)) hT) ?_ w2
    · rw [w1 c c16, i1 c c14 c15, hu0, su_n _ _ _ c12]
    · rw [w1 12 (by decide), i1 12 (by decide) (by decide), hu0, su_s]
    · rw [w1 15 (by decide)]
      exact ((i2 0 (Nat.le_refl 0) (by omega)).1 Bg_0).2
  · intro m i v ⟨i0, i1, i2⟩ ih
    show wb_X7_findOrders_43 Post _ (nI (i + 1) + (-1)) v
    unfold wb_X7_findOrders_43
    rw [pk_m1]
    refine ⟨fun c => absurd c (nI_pos (by omega)), fun _ => ?_⟩
    have hYv : YF v n L W E := YF_congr (fun c h1 h2 => i1 c (by omega) (by omega)) hY0
    rw [← nI_0]
    refine sp_isBeginning hn hYv.2.2.2 (by omega) (fun b => ⟨fun c => absurd c (by decide), fun _ => ?_⟩) (fun b => ⟨fun _ => ⟨vp_in_nI (by omega) (by decide), ?_⟩, fun c => absurd rfl c⟩)
    · refine sp_goOnFrom hC hYv (by omega) b (by omega) (fun j hj hx => ?_) ?_
      · have l1 := lt_ins hx.1
        exact (i2 (ins i j) (by omega) (ins_lt (by omega) hj)).1 (Bg_ins b hx)
      · refine ih _ ⟨by omega, fun c h14 h15 => by rw [su_n _ _ _ h15, su_n _ _ _ h14]; exact i1 c h14 h15, fun t t1 t2 => ?_⟩
        by_cases e : t = i
        · rw [e]
          refine ⟨fun _ => ⟨by rw [su_n _ _ _ (by decide), su_at], su_at _ _ _ _⟩, fun nb => absurd b nb⟩
        · rw [su_n _ _ _ (show (14 : Nat) ≠ 15 by decide), su_ne _ _ e, su_ne _ _ e, su_n _ _ _ (by decide)]
          exact i2 t (by omega) t2
    · rw [cln (i := i) (by omega)]
      refine ih _ ⟨by omega, fun c h14 h15 => by rw [su_n _ _ _ h14]; exact i1 c h14 h15, fun t t1 t2 => ?_⟩
      by_cases e : t = i
      · rw [e]
        exact ⟨fun b' => absurd b' b, fun _ => su_at _ _ _ _⟩
      · rw [su_ne _ _ e, su_n _ _ _ (show (15 : Nat) ≠ 14 by decide)]
        exact i2 t (by omega) t2
  · have e : t = 2 ^ n - 1 := by omega
    rw [e, su_n _ _ _ (show (14 : Nat) ≠ 15 by decide), su_at, su_at]
    refine ⟨fun _ => ?_, fun nb => absurd (fun j hj _ a ha _ => Or.inl (by rw [tb_full, decide_eq_true ha])) nb⟩
    rw [tbl_full.1, tbl_full.2]
    exact ⟨nI_0.symm, rfl⟩
end
