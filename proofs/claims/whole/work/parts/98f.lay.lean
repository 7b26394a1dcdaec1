/-! The reference's layAll. -/
def MT (w : St) (n : Nat) (C : Nat → Nat → Bool) (L W : Nat → Nat) : Prop := w 0 0 = nI n ∧ (∀ j, j < n → w 17 j = nI (L j)) ∧ (∀ j, j < n → w 18 j = nI (W j)) ∧ (∀ j, j < n → ∀ a, a < 32 → bt (w 19 j) a = (decide (a < n) && C a j))
theorem MT_congr {v w : St} {n : Nat} {C : Nat → Nat → Bool} {L W : Nat → Nat} (e0 : v 0 0 = w 0 0) (e : ∀ c, 17 ≤ c → c ≤ 19 → v c = w c) (h : MT w n C L W) : MT v n C L W := by
  obtain ⟨h1, h2, h3, h4⟩ := h
  exact ⟨e0.trans h1, by rw [e 17 (by decide) (by decide)]; exact h2, by rw [e 18 (by decide) (by decide)]; exact h3, by rw [e 19 (by decide) (by decide)]; exact h4⟩
section
variable {w : St} {n : Nat} {C : Nat → Nat → Bool} {L W : Nat → Nat} {s j : Nat} {Post : Int32 → St → Prop}
theorem m_next (hn : n ≤ 12) (hM : MT w n C L W) (hj : j < n) : w 19 j &&& (nI s ^^^ (-1 : Int32)) = 0 ↔ ∀ a, a < n → C a j = true → s.testBit a = true := by
  rw [b_zero]
  constructor
  · intro h a ha hc
    have := h a (by omega)
    rw [b_and, hM.2.2.2 j hj a (by omega), bt_not (by omega), bt_nI (by omega), decide_eq_true ha, hc] at this
    simpa using this
  · intro h a ha
    rw [b_and, hM.2.2.2 j hj a ha, bt_not ha, bt_nI ha]
    by_cases q : a < n
    · by_cases q2 : C a j = true
      · rw [h a q q2]
        simp
      · rw [Bool.not_eq_true] at q2
        rw [q2]
        simp
    · rw [decide_eq_false q]
      simp
theorem sp_lay50 {K2 : Int32 → St → Prop} (hn : n ≤ 12) (hM : MT w n C L W) (hs : s < 2 ^ n) (h0 : w 13 s = 0) (hK : ∀ v : St, (∀ c, c ≠ 13 → v c = w c) → (∀ t, t ≠ s → v 13 t = w 13 t) → v 13 s = nI (sm L s n) → K2 (nI (s + 1)) v) : ∃ m, wl_X12_layAll_50 Post K2 m (nI s) 0 w := by
  have h4 := pow12 hs hn
  have vs : vp_in (nI s) 4096 := vp_in_nI h4 (by decide)
  refine Exists.elim (loop_0 (fun m i (v : St) => wl_X12_layAll_50 Post K2 m (nI s) (nI i) v) (fun i v => (∀ c, c ≠ 13 → v c = w c) ∧ (∀ t, t ≠ s → v 13 t = w 13 t) ∧ v 13 s = nI (sm L s i)) n w ⟨fun _ _ => rfl, fun _ _ => rfl, h0.trans nI_0.symm⟩ ?_ ?_) (fun m hm => ⟨m, by rw [nI_0] at hm; exact hm⟩)
  · intro m v ⟨i1, i2, i3⟩
    show wb_X12_layAll_50 Post K2 _ (nI s) (nI n) v
    unfold wb_X12_layAll_50
    rw [i1 0 (by decide), hM.1, nI_1]
    exact ⟨fun _ => hK v i1 i2 i3, fun c => absurd (nI_le (Nat.le_refl n) (by omega)) c⟩
  · intro m i v hi ⟨i1, i2, i3⟩ ih
    show wb_X12_layAll_50 Post K2 _ (nI s) (nI i) v
    unfold wb_X12_layAll_50
    rw [i1 0 (by decide), hM.1, nI_1, nI_1, cln (i := s) (by omega), cln (i := i) (by omega)]
    refine ⟨fun c => absurd c (nle_nI hi (by omega)), fun _ => ⟨vs, sp_has (by omega) ?_⟩⟩
    rw [bt_nI (by omega), i3]
    have go : ∀ x : Int32, x = nI (sm L s (i + 1)) → wl_X12_layAll_50 Post K2 m (nI s) (nI (i + 1)) (su v 13 s x) := fun x hx => by
      refine ih _ ⟨fun c hc => by rw [su_n _ _ _ hc]; exact i1 c hc, fun t ht => by rw [su_ne _ _ ht]; exact i2 t ht, by rw [su_at]; exact hx⟩
    by_cases q : s.testBit i = true
    · rw [if_pos q]
      refine ⟨fun c => absurd c (by decide), fun _ => ⟨vp_in_nI (by omega) (by decide), vs, go _ ?_⟩⟩
      rw [i1 17 (by decide), hM.2.1 i hi, nI_add]
      simp only [sm, if_pos q]
    · rw [if_neg q]
      refine ⟨fun _ => ⟨vs, go _ ?_⟩, fun c => absurd rfl c⟩
      rw [Int32.add_zero]
      simp only [sm, if_neg q, Nat.add_zero]
def FR0 (t : Nat) : Nat := if t = 0 then 0 else 2000000000
theorem sp_lay1 (hn : n ≤ 12) (hM : MT w n C L W) (hP : ∀ v : St, (∀ c, c ≠ 13 → c ≠ 14 → c ≠ 15 → v c = w c) → (∀ s, s < 2 ^ n → v 13 s = nI (sm L s n) ∧ v 14 s = nI (FR0 s) ∧ v 15 s = if s = 0 then 1 else 0) → ∃ m, wl_X12_layAll_99 Post m 0 v) : wp_X12_layAll w Post := by
  have hp := p12 hn
  have hp1 : 1 ≤ 2 ^ n := Nat.one_le_two_pow
  unfold wp_X12_layAll
  refine Exists.elim (loop_0 (fun m i (v : St) => wl_X12_layAll_2 Post m (nI i) v) (fun i v => (∀ c, c ≠ 13 → c ≠ 14 → c ≠ 15 → v c = w c) ∧ (∀ s, s < i → v 13 s = nI (sm L s n) ∧ v 14 s = nI (FR0 s) ∧ v 15 s = if s = 0 then 1 else 0)) (2 ^ n) w ⟨fun _ _ _ _ => rfl, fun s hs => absurd hs (Nat.not_lt_zero s)⟩ ?_ ?_) (fun m hm => ⟨m, by rw [nI_0] at hm; exact hm⟩)
  · intro m v ⟨i1, i2⟩
    show wb_X12_layAll_2 Post _ (nI (2 ^ n)) v
    unfold wb_X12_layAll_2
    refine sp_all hn (by rw [i1 0 (by decide) (by decide) (by decide)]; exact hM.1) ?_
    exact ⟨fun _ => hP v i1 i2, fun c => absurd (nI_lt (by omega) (by omega)) c⟩
  · intro m i v hi ⟨i1, i2⟩ ih
    show wb_X12_layAll_2 Post _ (nI i) v
    unfold wb_X12_layAll_2
    refine sp_all hn (by rw [i1 0 (by decide) (by decide) (by decide)]; exact hM.1) ?_
    have vi : vp_in (nI i) 4096 := vp_in_nI (by omega) (by decide)
    have go : ∀ x y : Int32, x = nI (FR0 i) → (y = if i = 0 then 1 else 0) → ∃ m', wl_X12_layAll_50 Post (wl_X12_layAll_2 Post m) m' (nI i) 0 (su (su (su v 14 i x) 15 i y) 13 i 0) := by
      intro x y hx hy
      have fr : ∀ c, c ≠ 13 → c ≠ 14 → c ≠ 15 → su (su (su v 14 i x) 15 i y) 13 i 0 c = w c := fun c c13 c14 c15 => by rw [su_n _ _ _ c13, su_n _ _ _ c15, su_n _ _ _ c14]; exact i1 c c13 c14 c15
      refine sp_lay50 hn (MT_congr (w := w) (by rw [fr 0 (by decide) (by decide) (by decide)]) (fun c h1 h2 => fr c (by omega) (by omega) (by omega)) hM) hi (su_at _ _ _ _) fun z z1 z2 z3 => ih z ⟨fun c c13 c14 c15 => by rw [z1 c c13]; exact fr c c13 c14 c15, fun s hs => ?_⟩
      rw [z1 14 (by decide), z1 15 (by decide)]
      by_cases e : s = i
      · subst e
        refine ⟨z3, ?_, ?_⟩
        · rw [su_n _ _ _ (by decide), su_n _ _ _ (by decide), su_at]
          exact hx
        · rw [su_n _ _ _ (by decide), su_at]
          exact hy
      · rw [z2 s e, su_ne _ _ e, su_n _ _ _ (by decide), su_n _ _ _ (by decide), su_n _ _ _ (by decide), su_n _ _ _ (by decide), su_ne _ _ e, su_n _ _ _ (by decide), su_ne _ _ e, su_n _ _ _ (by decide)]
        exact i2 s (by omega)
    refine ⟨fun c => absurd c (nI_nlt (by omega) (by omega)), fun _ => ⟨fun c => ?_, fun c => ?_⟩⟩
    · have e : i ≠ 0 := fun e => c (by rw [e]; rfl)
      unfold wb_X12_layAll_25
      rw [cln (i := i) (by omega)]
      refine ⟨vi, fun _ => ⟨vi, vi, go _ _ ?_ ?_⟩, fun c' => absurd c' c⟩
      · unfold FR0
        rw [if_neg e]
        rfl
      · rw [if_neg e]
    · have e : i = 0 := (nI_eq (by omega) (by omega)).mp (c.trans nI_0.symm)
      unfold wb_X12_layAll_25
      rw [cln (i := i) (by omega)]
      refine ⟨vi, fun c' => absurd c c', fun _ => ⟨vi, vi, go _ _ ?_ ?_⟩⟩
      · unfold FR0
        rw [if_pos e]
        rfl
      · rw [if_pos e]
theorem sp_goes {i t x c : Nat} (hi : i < 4096) (ht : t < 4096) (hne : i ≠ t) (hx : w 14 t = nI x) (x9 : x < 2 ^ 31) (c9 : c < 2 ^ 31) (h : ∀ v : St, (∀ a, a ≠ 14 → a ≠ 15 → v a = w a) → (∀ y, y ≠ t → v 14 y = w 14 y ∧ v 15 y = w 15 y) → ((c < x ∧ v 14 t = nI c ∧ v 15 t = w 15 i) ∨ (c = x ∧ v 14 t = nI x ∧ v 15 t = w 15 t + w 15 i) ∨ (x < c ∧ v 14 t = nI x ∧ v 15 t = w 15 t)) → Post 0 v) : wp_X12_goes (nI i) (nI t) (nI c) w Post := by
  unfold wp_X12_goes
  rw [cln (i := t) (by omega), cln (i := i) (by omega), hx]
  have vt : vp_in (nI t) 4096 := vp_in_nI ht (by decide)
  have vi : vp_in (nI i) 4096 := vp_in_nI hi (by decide)
  refine ⟨vt, fun c1 => ⟨vt, fun c2 => ?_, fun c2 => ⟨vt, vi, vt, ?_⟩⟩, fun c1 => ⟨vt, vi, vt, ?_⟩⟩
  · refine h w (fun _ _ _ => rfl) (fun _ _ => ⟨rfl, rfl⟩) (Or.inr (Or.inr ⟨?_, hx, rfl⟩))
    have h1 : ¬ c < x := fun z => nle_nI z x9 c1
    have h2 : c ≠ x := fun z => c2 (by rw [z])
    omega
  · refine h _ (fun a a1 a2 => su_n _ _ _ a2) (fun y hy => ⟨by rw [su_n _ _ _ (by decide)], su_ne _ _ hy⟩) (Or.inr (Or.inl ⟨(nI_eq c9 x9).mp c2, by rw [su_n _ _ _ (by decide)]; exact hx, su_at _ _ _ _⟩))
  · refine h _ (fun a a1 a2 => by rw [su_n _ _ _ a2, su_n _ _ _ a1]) (fun y hy => ⟨by rw [su_n _ _ _ (by decide), su_ne _ _ hy], by rw [su_ne _ _ hy, su_n _ _ _ (by decide)]⟩) (Or.inl ⟨?_, by rw [su_n _ _ _ (by decide), su_at], by rw [su_at, su_n _ _ _ (by decide)]⟩)
    rcases Nat.lt_or_ge c x with z | z
    · exact z
    · exact absurd (nI_le z c9) c1
theorem sp_lay109 {K99 : Int32 → St → Prop} {i : Nat} {F : Nat → Nat} (hC : okC n C L W) (hM : MT w n C L W) (hL : ∀ s, s < 2 ^ n → w 13 s = nI (sm L s n)) (hi : i < 2 ^ n) (hF : ∀ t, t < 2 ^ n → w 14 t = nI (F t)) (hS : FS n C L W i 0 F) (hU : FU n C L W i 0 F (w 15))
    (hK : ∀ (v : St) (F' : Nat → Nat) (j : Nat), (∀ c, c ≠ 14 → c ≠ 15 → v c = w c) → (∀ t, t < 2 ^ n → v 14 t = nI (F' t)) → FS n C L W i j F' → FU n C L W i j F' (v 15) → (F' i = 2000000000 ∨ n ≤ j) → K99 (nI (i + 1)) v) : ∃ m, wl_X12_layAll_109 Post K99 m (nI i) 0 w := by
  have hn := hC.1
  have h4 := pow12 hi hn
  have vi : vp_in (nI i) 4096 := vp_in_nI h4 (by decide)
  have F9 : ∀ (j : Nat) (F : Nat → Nat), FS n C L W i j F → ∀ t, t < 2 ^ n → F t ≤ 2000000000 := fun j F hS t ht => by
    rcases hS.2.1 t ht with z | z
    · omega
    · have := W1200 hC ht
      omega
  refine Exists.elim (loop_0 (fun m j (v : St) => wl_X12_layAll_109 Post K99 m (nI i) (nI j) v) (fun j v => (∀ c, c ≠ 14 → c ≠ 15 → v c = w c) ∧ ∃ F' : Nat → Nat, (∀ t, t < 2 ^ n → v 14 t = nI (F' t)) ∧ FS n C L W i j F' ∧ FU n C L W i j F' (v 15)) n w ⟨fun _ _ _ => rfl, F, hF, hS, hU⟩ ?_ ?_) (fun m hm => ⟨m, by rw [nI_0] at hm; exact hm⟩)
  · intro m v ⟨i1, F', f1, f2, f3⟩
    show wb_X12_layAll_109 Post K99 _ (nI i) (nI n) v
    unfold wb_X12_layAll_109
    rw [i1 0 (by decide) (by decide), hM.1, nI_1]
    exact ⟨fun _ => hK v F' n i1 f1 f2 f3 (Or.inr (Nat.le_refl n)), fun c => absurd (nI_le (Nat.le_refl n) (by omega)) c⟩
  · intro m j v hj ⟨i1, F', f1, f2, f3⟩ ih
    show wb_X12_layAll_109 Post K99 _ (nI i) (nI j) v
    unfold wb_X12_layAll_109
    rw [i1 0 (by decide) (by decide), hM.1, nI_1, nI_1, cln (i := i) (by omega), cln (i := j) (by omega), f1 i hi]
    have Fi9 := F9 j F' f2 i hi
    refine ⟨fun c => absurd c (nle_nI hj (by omega)), fun _ => ⟨vi, fun c => ?_, fun c => ?_⟩⟩
    · refine hK v F' j i1 f1 f2 f3 (Or.inl ?_)
      have : ¬ F' i < 2000000000 := fun z => nle_nI (b := 2000000000) z (by omega) c
      omega
    · have Fi : F' i ≠ 2000000000 := fun z => c (by rw [z]; exact nI_le (Nat.le_refl _) (by omega))
      have hMv : MT v n C L W := MT_congr (w := w) (by rw [i1 0 (by decide) (by decide)]) (fun c h1 h2 => i1 c (by omega) (by omega)) hM
      refine sp_has (by omega) ?_
      rw [bt_nI (by omega)]
      by_cases q : i.testBit j = true
      · rw [if_pos q]
        have hx : ¬ Nx n C i j := fun z => by
          have := z.1
          rw [q] at this
          cases this
        exact ⟨fun _ => ih v ⟨i1, F', f1, FS_skip f2 hx, FU_skip hj f3 hx⟩, fun c => absurd c (by decide)⟩
      · rw [if_neg q]
        have q' : i.testBit j = false := by simpa using q
        refine ⟨fun c => absurd rfl c, fun _ => ⟨vp_in_nI (by omega) (by decide), fun d => ?_, fun d => ?_⟩⟩
        · have hx : ¬ Nx n C i j := fun z => d ((m_next hn hMv hj).mpr z.2)
          exact ih v ⟨i1, F', f1, FS_skip f2 hx, FU_skip hj f3 hx⟩
        · have hx : Nx n C i j := ⟨q', (m_next hn hMv hj).mp d⟩
          have vj : vp_in (nI j) 12 := vp_in_nI (by omega) (by decide)
          refine ⟨vi, vj, vi, vj, ?_⟩
          have ti := ins_lt hi hj
          have l1 := lt_ins hx.1
          have b1 := (f2.2.1 i hi).resolve_left Fi
          have b2 := W1200 hC hi
          have b3 := stp_le hC hi hj hx.1
          have b4 := Nat.mul_le_mul_right 1200 (hC.2.2.2.2 j hj).2
          rw [i1 13 (by decide) (by decide), hL i hi, i1 17 (by decide) (by decide), hM.2.1 j hj, i1 18 (by decide) (by decide), hM.2.2.1 j hj, f1 i hi, nI_add, pk_mul, nI_add, ← sm_n hi hn, or_ins (by omega)]
          have Ft9 := F9 j F' f2 _ ti
          refine sp_goes (c := F' i + stp L W i j) h4 (pow12 ti hn) (by omega) (f1 _ ti) (by omega) (by omega) fun z z1 z2 z3 => ?_
          obtain ⟨F2, hF2⟩ : ∃ F2 : Nat → Nat, F2 = fun t => if t = ins i j then min (F' (ins i j)) (F' i + stp L W i j) else F' t := ⟨_, rfl⟩
          have e1 : ∀ t, t ≠ ins i j → F2 t = F' t := fun t ht => by rw [hF2]; exact if_neg ht
          have e2 : F2 (ins i j) = min (F' (ins i j)) (F' i + stp L W i j) := by rw [hF2]; exact if_pos rfl
          refine ih z ⟨fun c c14 c15 => by rw [z1 c c14 c15]; exact i1 c c14 c15, F2, fun t ht => ?_, FS_step hC f2 hi hj hx Fi e1 e2, FU_step hC f2 f3 hi hj hx Fi (fun t ht => ⟨e1 t ht, (z2 t ht).2⟩) ?_⟩
          · by_cases e : t = ins i j
            · rw [e, e2]
              rcases z3 with ⟨y1, y2, y3⟩ | ⟨y1, y2, y3⟩ | ⟨y1, y2, y3⟩
              · rw [y2, Nat.min_eq_right (by omega)]
              · rw [y2, Nat.min_eq_left (by omega)]
              · rw [y2, Nat.min_eq_left (by omega)]
            · rw [e1 t e, (z2 t e).1]
              exact f1 t ht
          · rcases z3 with ⟨y1, y2, y3⟩ | ⟨y1, y2, y3⟩ | ⟨y1, y2, y3⟩
            · exact Or.inl ⟨y1, by rw [e2, Nat.min_eq_right (by omega)], y3⟩
            · exact Or.inr (Or.inl ⟨y1, by rw [e2, Nat.min_eq_left (by omega)], y3⟩)
            · exact Or.inr (Or.inr ⟨y1, by rw [e2, Nat.min_eq_left (by omega)], y3⟩)
theorem sp_lay2 (hC : okC n C L W) (hM : MT w n C L W) (hL : ∀ s, s < 2 ^ n → w 13 s = nI (sm L s n)) (h14 : ∀ s, s < 2 ^ n → w 14 s = nI (FR0 s) ∧ w 15 s = if s = 0 then 1 else 0)
    (hP : ∀ (v : St) (F : Nat → Nat), (∀ c, c ≠ 14 → c ≠ 15 → v c = w c) → (∀ t, t < 2 ^ n → v 14 t = nI (F t)) → FS n C L W (2 ^ n) 0 F → F (2 ^ n - 1) = bT n C L W 0 → v 15 (2 ^ n - 1) = bO n C L W 0 → ∃ m, wl_X12_layAll_203 Post m (nI (2 ^ n - 1)) v) : ∃ m, wl_X12_layAll_99 Post m 0 w := by
  have hn := hC.1
  have hp := p12 hn
  have hp1 : 1 ≤ 2 ^ n := Nat.one_le_two_pow
  obtain ⟨g1, g2⟩ := FU_first hC
  have g2' : FU n C L W 0 0 FR0 (w 15) := by
    obtain ⟨a1, a2⟩ := g2
    refine ⟨?_, a2⟩
    have e1 : sI (fun t => if 0 < t then con n C L W FR0 (w 15) t else 0) (2 ^ n) = sI (fun t => if 0 < t then con n C L W (fun t => if t = 0 then 0 else 2000000000) (fun t => if t = 0 then 1 else 0) t else 0) (2 ^ n) := sI_congr _ fun t ht => by
      unfold con
      rw [(h14 t ht).2]
      rfl
    have e2 : tl n C L W FR0 (w 15) 0 0 = tl n C L W (fun t => if t = 0 then 0 else 2000000000) (fun t => if t = 0 then 1 else 0) 0 0 := by
      unfold tl
      rw [(h14 0 (by omega)).2]
      rfl
    rw [e1, e2]
    exact a1
  refine Exists.elim (loop_0 (fun m i (v : St) => wl_X12_layAll_99 Post m (nI i) v) (fun i v => (∀ c, c ≠ 14 → c ≠ 15 → v c = w c) ∧ ∃ F : Nat → Nat, (∀ t, t < 2 ^ n → v 14 t = nI (F t)) ∧ FS n C L W i 0 F ∧ (i < 2 ^ n → FU n C L W i 0 F (v 15)) ∧ (i = 2 ^ n → F (2 ^ n - 1) = bT n C L W 0 ∧ v 15 (2 ^ n - 1) = bO n C L W 0)) (2 ^ n) w ⟨fun _ _ _ => rfl, FR0, fun t ht => (h14 t ht).1, g1, fun _ => g2', fun e => absurd e (by omega)⟩ ?_ ?_) (fun m hm => ⟨m, by rw [nI_0] at hm; exact hm⟩)
  · intro m v ⟨i1, F, f1, f2, f3, f4⟩
    show wb_X12_layAll_99 Post _ (nI (2 ^ n)) v
    unfold wb_X12_layAll_99
    have h0 : v 0 0 = nI n := by rw [i1 0 (by decide) (by decide)]; exact hM.1
    refine sp_all hn h0 ⟨fun _ => sp_all hn h0 ?_, fun c => absurd (nI_lt (by omega) (by omega)) c⟩
    exact hP v F i1 f1 f2 (f4 rfl).1 (f4 rfl).2
  · intro m i v hi ⟨i1, F, f1, f2, f3, f4⟩ ih
    show wb_X12_layAll_99 Post _ (nI i) v
    unfold wb_X12_layAll_99
    have h0 : v 0 0 = nI n := by rw [i1 0 (by decide) (by decide)]; exact hM.1
    refine sp_all hn h0 ⟨fun c => absurd c (nI_nlt (by omega) (by omega)), fun _ => ?_⟩
    refine sp_lay109 hC (MT_congr (w := w) (by rw [i1 0 (by decide) (by decide)]) (fun c h1 h2 => i1 c (by omega) (by omega)) hM) (fun s hs => by rw [i1 13 (by decide) (by decide)]; exact hL s hs) hi f1 f2 (f3 hi) fun z F' j z1 z2 z3 z4 z5 => ?_
    refine ih z ⟨fun c c14 c15 => by rw [z1 c c14 c15]; exact i1 c c14 c15, F', z2, FS_row z3 z5, fun l => FU_row l hC z3 z4 z5, fun e => ?_⟩
    have ei : i = 2 ^ n - 1 := by omega
    rw [ei] at z4
    exact FU_last z4
end
