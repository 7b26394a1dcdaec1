/-! fixed: the sets that best orders begin with. -/
section
variable {n : Nat} {C : Nat → Nat → Bool} {L W : Nat → Nat} {s j : Nat}
theorem Mk_0 : Mk n C L W 0 := fun _ h _ => h
theorem Mk_ins (h : Mk n C L W s) (hj : j < n) (hb : bnB n C L W s j = true) : Mk n C L W (ins s j) := fun P p0 p1 => p1 s j (h P p0 p1) hj hb
theorem Mk_ok (h : Mk n C L W s) : s < 2 ^ n ∧ Bg n C s 0 := h (fun s => s < 2 ^ n ∧ Bg n C s 0) ⟨Nat.two_pow_pos n, Bg_0⟩ (fun t j ⟨h1, h2⟩ hj hb => ⟨ins_lt h1 hj, Bg_ins h2 (bnB_iff.mp hb).1⟩)
theorem Mk_inv (h : Mk n C L W s) : s = 0 ∨ ∃ t j, Mk n C L W t ∧ j < n ∧ bnB n C L W t j = true ∧ s = ins t j := (h (fun s => Mk n C L W s ∧ (s = 0 ∨ ∃ t j, Mk n C L W t ∧ j < n ∧ bnB n C L W t j = true ∧ s = ins t j)) ⟨Mk_0, Or.inl rfl⟩ (fun t j ⟨h1, _⟩ hj hb => ⟨Mk_ins h1 hj hb, Or.inr ⟨t, j, h1, hj, hb, rfl⟩⟩)).2
theorem Mk_F {F : Nat → Nat} (hC : okC n C L W) (hS : FS n C L W (2 ^ n) 0 F) : ∀ s, s < 2 ^ n → (Mk n C L W s ↔ onB n C L W F s = true) := by
  have h1 : ∀ s, Mk n C L W s → onB n C L W F s = true := fun s h => (h (fun s => s < 2 ^ n ∧ Bg n C s 0 ∧ onB n C L W F s = true) ⟨Nat.two_pow_pos n, Bg_0, onB_iff.mpr ⟨by rw [hS.1]; decide, by rw [hS.1]; omega⟩⟩ (fun t j ⟨a1, a2, a3⟩ hj hb => by
    obtain ⟨b1, b2⟩ := bnB_iff.mp hb
    obtain ⟨c1, c2⟩ := onB_iff.mp a3
    have d1 := hS.2.2.1 t j a1 hj b1 c1 (Or.inl a1)
    have ti := ins_lt a1 hj
    have d2 := (hS.2.1 t a1).resolve_left c1
    have d3 := W1200 hC a1
    have d4 := stp_le hC a1 hj b1.1
    have d5 := Nat.mul_le_mul_right 1200 (hC.2.2.2.2 j hj).2
    have nf : F (ins t j) ≠ 2000000000 := by omega
    have d6 := FS_ge hC hS _ (ins t j) (Nat.le_refl _) ti nf
    exact ⟨ti, Bg_ins a2 b1, onB_iff.mpr ⟨nf, by omega⟩⟩)).2.2
  have h2 : ∀ m s, s ≤ m → s < 2 ^ n → onB n C L W F s = true → Mk n C L W s := by
    intro m
    induction m with
    | zero =>
      intro s hs _ _
      rw [show s = 0 by omega]
      exact Mk_0
    | succ m ih =>
      intro s hs hs2 ho
      by_cases e : s = 0
      · rw [e]
        exact Mk_0
      · obtain ⟨o1, o2⟩ := onB_iff.mp ho
        obtain ⟨t, x, t1, t2, t3, t4, t5, t6, t7⟩ := hS.2.2.2 s hs2 e o1
        have l1 := lt_ins t3.1
        rw [← t4] at l1
        have g1 := FS_ge hC hS t t (Nat.le_refl t) t1 t6
        have g2 := bT_min hC t1 ((hS.2.1 t t1).resolve_left t6).2 t2 t3
        rw [← t4] at g2
        have hm := ih t (by omega) t1 (onB_iff.mpr ⟨t6, by omega⟩)
        rw [t4]
        exact Mk_ins hm t2 (bnB_iff.mpr ⟨t3, by rw [← t4]; omega⟩)
  exact fun s hs => ⟨h1 s, h2 s s (Nat.le_refl s) hs⟩
/-- without j -/
def dl (s j : Nat) : Nat := s &&& (s ^^^ 2 ^ j)
theorem tb_dl (s j i : Nat) : (dl s j).testBit i = (s.testBit i && decide (i ≠ j)) := by
  unfold dl
  rw [Nat.testBit_and, Nat.testBit_xor, tb_pow]
  by_cases e : i = j
  · subst e
    simp
  · simp [e]
theorem dl_ins (h : s.testBit j = true) : ins (dl s j) j = s := Nat.eq_of_testBit_eq fun i => by
  rw [tb_ins, tb_dl]
  by_cases e : i = j
  · subst e
    simp [h]
  · simp [e]
theorem dl_lt (h : s.testBit j = true) : dl s j < s := by
  have h1 := lt_ins (s := dl s j) (j := j) (by rw [tb_dl]; simp)
  rw [dl_ins h] at h1
  exact h1
theorem ins_dl (h : s.testBit j = false) : dl (ins s j) j = s := Nat.eq_of_testBit_eq fun i => by
  rw [tb_dl, tb_ins]
  by_cases e : i = j
  · subst e
    simp [h]
  · simp [e]
theorem dl_no (h : s.testBit j = false) : dl s j = s := Nat.eq_of_testBit_eq fun i => by
  rw [tb_dl]
  by_cases e : i = j
  · subst e
    simp [h]
  · simp [e]
theorem and_dl (hj : j < 32) : nI s &&& (((1 : Int32) <<< (nI j &&& 31)) ^^^ (-1 : Int32)) = nI (dl s j) := b_ext fun i hi => by
  rw [b_and, bt_nI hi, bt_not hi, bt_1shl hj hi, bt_nI hi, tb_dl]
  by_cases e : i = j
  · simp [e]
  · simp [e]
/-- Mk, the last job taken away -/
theorem Mk_dl (h0 : s ≠ 0) : Mk n C L W s ↔ ∃ j, j < n ∧ s.testBit j = true ∧ Mk n C L W (dl s j) ∧ bnB n C L W (dl s j) j = true := by
  constructor
  · intro h
    rcases Mk_inv h with z | ⟨t, j, t1, t2, t3, t4⟩
    · exact absurd z h0
    · have e : dl s j = t := by
        rw [t4]
        exact ins_dl (bnB_iff.mp t3).1.1
      exact ⟨j, t2, by rw [t4, tb_ins]; simp, by rw [e]; exact t1, by rw [e]; exact t3⟩
  · rintro ⟨j, j1, j2, j3, j4⟩
    have := Mk_ins j3 j1 j4
    rw [dl_ins j2] at this
    exact this
end
section
variable {u : St} {n : Nat} {L W : Nat → Nat} {E : Nat → Nat → Bool} {s j : Nat} {Post : Int32 → St → Prop}
theorem sp_begins (hC : okC n (Pc E n) L W) (hY : YF u n L W E) (hs : s < 2 ^ n) (h0 : s ≠ 0) (hT : u 14 s = nI (bT n (Pc E n) L W s)) (hlow : ∀ t, t < s → (Mk n (Pc E n) L W t → u 14 t = nI (bT n (Pc E n) L W t)) ∧ (¬ Mk n (Pc E n) L W t → u 14 t = 1000000000)) (h1 : Mk n (Pc E n) L W s → Post 1 u) (h2 : ¬ Mk n (Pc E n) L W s → Post 0 u) : wp_X7_beginsBestOrder (nI s) u Post := by
  have hn := hC.1
  have h4 := pow12 hs hn
  unfold wp_X7_beginsBestOrder
  refine Exists.elim (loop_0 (fun m i (_ : Unit) => wl_X7_beginsBestOrder_2 Post m (nI s) (nI i) u) (fun i _ => ∀ y, y < i → ¬ (s.testBit y = true ∧ Mk n (Pc E n) L W (dl s y) ∧ bnB n (Pc E n) L W (dl s y) y = true)) n () (fun y hy => absurd hy (Nat.not_lt_zero y)) ?_ ?_) (fun m hm => ⟨m, by rw [nI_0] at hm; exact hm⟩)
  · intro m _ hi
    show wb_X7_beginsBestOrder_2 Post _ (nI s) (nI n) u
    unfold wb_X7_beginsBestOrder_2
    simp only [wp_X10_jobs, hY.1]
    refine ⟨fun _ => h2 fun z => ?_, fun c => absurd (nI_le (Nat.le_refl n) (by omega)) c⟩
    obtain ⟨j, j1, j2, j3, j4⟩ := (Mk_dl h0).mp z
    exact hi j j1 ⟨j2, j3, j4⟩
  · intro m i _ hi hI ih
    show wb_X7_beginsBestOrder_2 Post _ (nI s) (nI i) u
    unfold wb_X7_beginsBestOrder_2
    simp only [wp_X10_jobs, hY.1]
    rw [and_dl (by omega), nI_1]
    have keep : ¬ (s.testBit i = true ∧ Mk n (Pc E n) L W (dl s i) ∧ bnB n (Pc E n) L W (dl s i) i = true) → wl_X7_beginsBestOrder_2 Post m (nI s) (nI (i + 1)) u := fun z => ih () fun y hy => by
      by_cases e : y = i
      · rw [e]
        exact z
      · exact hI y (by omega)
    refine ⟨fun c => absurd c (nle_nI hi (by omega)), fun _ => ⟨fun c => keep fun z => ?_, fun c => ?_⟩⟩
    · have l1 := dl_lt z.1
      have := (nI_eq (by omega) (by omega)).mp c
      omega
    · have hb : s.testBit i = true := by
        cases q : s.testBit i
        · exact absurd (by rw [dl_no q]) c
        · rfl
      have l1 := dl_lt hb
      rw [cln (i := dl s i) (by omega)]
      refine ⟨vp_in_nI (by omega) (by decide), fun d => keep fun z => ?_, fun d => ?_⟩
      · rw [(hlow _ l1).1 z.2.1] at d
        have b1 := bT_le hC (Mk_ok z.2.1).1 (Mk_ok z.2.1).2
        have := (nI_eq (b := 1000000000) (by omega) (by omega)).mp d
        omega
      · have hm : Mk n (Pc E n) L W (dl s i) := Classical.byContradiction fun z => d ((hlow _ l1).2 z)
        obtain ⟨m1, m2⟩ := Mk_ok hm
        refine sp_isBestNext hC hY m1 m2 hi ((hlow _ l1).1 hm) (fun _ => by rw [dl_ins hb]; exact hT) ?_
        by_cases q : bnB n (Pc E n) L W (dl s i) i = true
        · rw [if_pos q]
          exact ⟨fun c => absurd c (by decide), fun _ => h1 ((Mk_dl h0).mpr ⟨i, hi, hb, hm, q⟩)⟩
        · rw [if_neg q]
          exact ⟨fun _ => keep fun z => q z.2.2, fun c => absurd rfl c⟩
theorem sp_note (hn : n ≤ 12) (h0 : u 1 7 = nI n) (hs : s < 2 ^ n) (h : ∀ v : St, (∀ c, c ≠ 17 → v c = u c) → (∀ a, a < n → ∀ b, b < n → bt (v 17 a) b = (bt (u 17 a) b || (s.testBit a && !s.testBit b))) → Post 0 v) : wp_X7_noteStanding (nI s) u Post := by
  have h4 := pow12 hs hn
  unfold wp_X7_noteStanding
  simp only [wp_X10_jobs, h0]
  refine sp_everyJob hn h0 ?_
  obtain ⟨r, hr⟩ : ∃ r : Int32, r = nI (2 ^ n - 1) &&& (nI s ^^^ (-1 : Int32)) := ⟨_, rfl⟩
  have rb : ∀ b, b < n → bt r b = !s.testBit b := fun b hb => by
    rw [hr, b_and, bt_nI (by omega), bt_not (by omega), bt_nI (by omega), tb_full, decide_eq_true hb, Bool.true_and]
  rw [← hr]
  refine Exists.elim (loop_0 (fun m i (v : St) => wl_X7_noteStanding_18 Post m (nI s) (nI n) r (nI i) v) (fun i v => (∀ c, c ≠ 17 → v c = u c) ∧ (∀ a, i ≤ a → v 17 a = u 17 a) ∧ (∀ a, a < i → ∀ b, b < n → bt (v 17 a) b = (bt (u 17 a) b || (s.testBit a && !s.testBit b)))) n u ⟨fun _ _ => rfl, fun _ _ => rfl, fun a ha => absurd ha (Nat.not_lt_zero a)⟩ ?_ ?_) (fun m hm => ⟨m, by rw [nI_0] at hm; exact hm⟩)
  · intro m v ⟨i1, i2, i3⟩
    show wb_X7_noteStanding_18 Post _ (nI s) (nI n) r (nI n) v
    unfold wb_X7_noteStanding_18
    exact ⟨fun _ => h v i1 i3, fun c => absurd (nI_le (Nat.le_refl n) (by omega)) c⟩
  · intro m i v hi ⟨i1, i2, i3⟩ ih
    show wb_X7_noteStanding_18 Post _ (nI s) (nI n) r (nI i) v
    unfold wb_X7_noteStanding_18
    rw [nI_1, cln (i := i) (by omega), bt_has (by omega), bt_nI (by omega)]
    have vi : vp_in (nI i) 12 := vp_in_nI (by omega) (by decide)
    refine ⟨fun c => absurd c (nle_nI hi (by omega)), fun _ => ⟨fun c => ih v ⟨i1, fun a ha => i2 a (by omega), fun a ha b hb => ?_⟩, fun c => ⟨vi, vi, ih _ ⟨fun x hx => by rw [su_n _ _ _ hx]; exact i1 x hx, fun a ha => by rw [su_ne _ _ (by omega)]; exact i2 a (by omega), fun a ha b hb => ?_⟩⟩⟩⟩
    · by_cases e : a = i
      · rw [e, i2 i (Nat.le_refl i)]
        have : s.testBit i = false := by simpa using c
        rw [this]
        simp
      · exact i3 a (by omega) b hb
    · by_cases e : a = i
      · rw [e, su_at, b_or, i2 i (Nat.le_refl i), rb b hb, c]
        simp
      · rw [su_ne _ _ e]
        exact i3 a (by omega) b hb
theorem sp_findStanding (hC : okC n (Pc E n) L W) (hY : YF u n L W E) (hT : TB u n L W E) (h : ∀ v : St, (∀ c, c ≠ 14 → c ≠ 17 → v c = u c) → v 14 0 = u 14 0 → ST v n L W E → Post 0 v) : wp_X7_findStanding u Post := by
  have hn := hC.1
  have hp := p12 hn
  have hp1 : 1 ≤ 2 ^ n := Nat.one_le_two_pow
  have main : ∀ u0 : St, (∀ c, c ≠ 17 → u0 c = u c) → (∀ a, a < n → u0 17 a = 0) → ∃ m, wl_X7_findStanding_30 Post m (nI (2 ^ n - 1)) 1 u0 := by
    intro u0 z1 z2
    refine Exists.elim (pk_loop (fun m i (v : St) => wl_X7_findStanding_30 Post m (nI (2 ^ n - 1)) (nI i) v) (fun i v => 1 ≤ i ∧ (∀ c, c ≠ 14 → c ≠ 17 → v c = u c) ∧ v 14 0 = u 14 0 ∧ (∀ t, t < i → (Mk n (Pc E n) L W t → v 14 t = nI (bT n (Pc E n) L W t)) ∧ (¬ Mk n (Pc E n) L W t → v 14 t = 1000000000)) ∧ (∀ t, i ≤ t → v 14 t = u 14 t) ∧ (∀ a, a < n → ∀ b, b < n → (bt (v 17 a) b = true ↔ ∃ t, t < i ∧ Mk n (Pc E n) L W t ∧ t.testBit a = true ∧ t.testBit b = false))) (2 ^ n) 1 u0 hp1 ⟨Nat.le_refl 1, fun c c14 c17 => z1 c c17, by rw [z1 14 (by decide)], fun t ht => ?_, fun t _ => by rw [z1 14 (by decide)], fun a ha b hb => ?_⟩ ?_ ?_) (fun m hm => ⟨m, hm⟩)
    · have e : t = 0 := by omega
      rw [e]
      refine ⟨fun _ => ?_, fun q => absurd Mk_0 q⟩
      rw [z1 14 (by decide)]
      exact (hT 0 (Nat.two_pow_pos n)).1 Bg_0
    · rw [z2 a ha, b_0]
      refine ⟨fun q => absurd q (by decide), ?_⟩
      rintro ⟨t, t1, _, t3, _⟩
      rw [show t = 0 by omega, Nat.zero_testBit] at t3
      cases t3
    · intro m v ⟨_, i1, i2, i3, i4, i5⟩
      show wb_X7_findStanding_30 Post _ (nI (2 ^ n - 1)) (nI (2 ^ n)) v
      unfold wb_X7_findStanding_30
      exact ⟨fun _ => h v i1 i2 i5, fun c => absurd (nI_lt (by omega) (by omega)) c⟩
    · intro m i v hi ⟨i0, i1, i2, i3, i4, i5⟩ ih
      show wb_X7_findStanding_30 Post _ (nI (2 ^ n - 1)) (nI i) v
      unfold wb_X7_findStanding_30
      rw [nI_1, cln (i := i) (by omega)]
      have vi : vp_in (nI i) 4096 := vp_in_nI (by omega) (by decide)
      have hYv : YF v n L W E := YF_congr (fun c h1 h2 => i1 c (by omega) (by omega)) hY
      have none : ¬ Mk n (Pc E n) L W i → ∀ v' : St, (∀ c, c ≠ 14 → v' c = v c) → (∀ t, t ≠ i → v' 14 t = v 14 t) → v' 14 i = 1000000000 → wl_X7_findStanding_30 Post m (nI (2 ^ n - 1)) (nI (i + 1)) v' := by
        intro nm v' e1 e2 e3
        refine ih v' ⟨by omega, fun c c14 c17 => by rw [e1 c c14]; exact i1 c c14 c17, by rw [e2 0 (by omega)]; exact i2, fun t ht => ?_, fun t ht => by rw [e2 t (by omega)]; exact i4 t (by omega), fun a ha b hb => ?_⟩
        · by_cases e : t = i
          · rw [e]
            exact ⟨fun q => absurd q nm, fun _ => e3⟩
          · rw [e2 t e]
            exact i3 t (by omega)
        · rw [e1 17 (by decide), i5 a ha b hb]
          constructor
          · rintro ⟨t, t1, t2⟩
            exact ⟨t, by omega, t2⟩
          · rintro ⟨t, t1, t2⟩
            by_cases e : t = i
            · rw [e] at t2
              exact absurd t2.1 nm
            · exact ⟨t, by omega, t2⟩
      refine ⟨fun c => absurd c (nI_nlt (by omega) (by omega)), fun _ => ⟨vi, fun c => ?_, fun c => ?_⟩⟩
      · refine none (fun q => ?_) v (fun _ _ => rfl) (fun _ _ => rfl) c
        rw [i4 i (Nat.le_refl i), (hT i hi).1 (Mk_ok q).2] at c
        have b1 := bT_le hC hi (Mk_ok q).2
        have := (nI_eq (b := 1000000000) (by omega) (by omega)).mp c
        omega
      · have hb : Bg n (Pc E n) i 0 := Classical.byContradiction fun q => c (by rw [i4 i (Nat.le_refl i)]; exact (hT i hi).2 q)
        have h14 : v 14 i = nI (bT n (Pc E n) L W i) := by rw [i4 i (Nat.le_refl i)]; exact (hT i hi).1 hb
        refine sp_begins hC hYv hi (by omega) h14 i3 (fun hm => ⟨fun c => absurd c (by decide), fun _ => ?_⟩) (fun hm => ⟨fun _ => ⟨vi, none hm _ (fun x hx => su_n _ _ _ hx) (fun t ht => su_ne _ _ ht) (su_at _ _ _ _)⟩, fun c => absurd rfl c⟩)
        refine sp_note hn hYv.1 hi fun y y1 y2 => ih y ⟨by omega, fun x x14 x17 => by rw [y1 x x17]; exact i1 x x14 x17, by rw [y1 14 (by decide)]; exact i2, fun t ht => ?_, fun t ht => by rw [y1 14 (by decide)]; exact i4 t (by omega), fun a ha b hb => ?_⟩
        · rw [y1 14 (by decide)]
          by_cases e : t = i
          · rw [e]
            exact ⟨fun _ => h14, fun q => absurd hm q⟩
          · exact i3 t (by omega)
        · rw [y2 a ha b hb, Bool.or_eq_true, i5 a ha b hb]
          constructor
          · rintro (⟨t, t1, t2⟩ | q)
            · exact ⟨t, by omega, t2⟩
            · refine ⟨i, by omega, hm, ?_⟩
              simpa using q
          · rintro ⟨t, t1, t2, t3, t4⟩
            by_cases e : t = i
            · rw [e] at t3 t4
              exact Or.inr (by rw [t3, t4]; rfl)
            · exact Or.inl ⟨t, by omega, t2, t3, t4⟩
  unfold wp_X7_findStanding
  refine Exists.elim (loop_0 (fun m i (v : St) => wl_X7_findStanding_2 Post m (nI i) v) (fun i v => (∀ c, c ≠ 17 → v c = u c) ∧ ∀ a, a < i → v 17 a = 0) n u ⟨fun _ _ => rfl, fun a ha => absurd ha (Nat.not_lt_zero a)⟩ ?_ ?_) (fun m hm => ⟨m, by rw [nI_0] at hm; exact hm⟩)
  · intro m v ⟨i1, i2⟩
    show wb_X7_findStanding_2 Post _ (nI n) v
    have h17 : v 1 7 = nI n := by rw [i1 1 (by decide)]; exact hY.1
    unfold wb_X7_findStanding_2
    simp only [wp_X10_jobs, h17]
    exact ⟨fun _ => sp_everyJob hn h17 (main v i1 i2), fun c => absurd (nI_le (Nat.le_refl n) (by omega)) c⟩
  · intro m i v hi ⟨i1, i2⟩ ih
    show wb_X7_findStanding_2 Post _ (nI i) v
    have h17 : v 1 7 = nI n := by rw [i1 1 (by decide)]; exact hY.1
    unfold wb_X7_findStanding_2
    simp only [wp_X10_jobs, h17]
    rw [nI_1, cln (i := i) (by omega)]
    refine ⟨fun c => absurd c (nle_nI hi (by omega)), fun _ => ⟨vp_in_nI (by omega) (by decide), ih _ ⟨fun c hc => by rw [su_n _ _ _ hc]; exact i1 c hc, fun a ha => ?_⟩⟩⟩
    by_cases e : a = i
    · rw [e, su_at]
    · rw [su_ne _ _ e]
      exact i2 a (by omega)
end
section
variable {BK : BKt} {w : St} {n : Nat} {C : Nat → Nat → Bool} {L W : Nat → Nat} {Post : Int32 → St → Prop} {a b : Nat}
theorem sp_fixed32 {F : Nat → Nat} (hC : okC n C L W) (hM : MT w n C L W) (h14 : ∀ t, t < 2 ^ n → w 14 t = nI (F t)) (hS : FS n C L W (2 ^ n) 0 F) (hF : F (2 ^ n - 1) = bT n C L W 0) (h16 : ∀ s, s < 2 ^ n → Bg n C s 0 → w 16 s = nI (bT n C L W s)) (ha : a < n) (hb : b < n) (h1 : (∀ s, s < 2 ^ n → ¬ (Mk n C L W s ∧ s.testBit b = true ∧ s.testBit a = false)) → Post 1 w) (h0 : (∃ s, s < 2 ^ n ∧ Mk n C L W s ∧ s.testBit b = true ∧ s.testBit a = false) → Post 0 w) : ∃ m, wl_X12_fixed_32 Post m (nI a) (nI b) 1 0 w := by
  have hn := hC.1
  have hp := p12 hn
  have hp1 : 1 ≤ 2 ^ n := Nat.one_le_two_pow
  have b0 := bT_le hC (Nat.two_pow_pos n) Bg_0
  refine Exists.elim (loop_0 (fun m i (x3 : Int32) => wl_X12_fixed_32 Post m (nI a) (nI b) x3 (nI i) w) (fun i x3 => (x3 = 1 ∧ ∀ s, s < i → ¬ (Mk n C L W s ∧ s.testBit b = true ∧ s.testBit a = false)) ∨ (x3 = 0 ∧ ∃ s, s < 2 ^ n ∧ Mk n C L W s ∧ s.testBit b = true ∧ s.testBit a = false)) (2 ^ n) 1 (Or.inl ⟨rfl, fun s hs => absurd hs (Nat.not_lt_zero s)⟩) ?_ ?_) (fun m hm => ⟨m, by rw [nI_0] at hm; exact hm⟩)
  · intro m x3 hx
    show wb_X12_fixed_32 Post _ (nI a) (nI b) x3 (nI (2 ^ n)) w
    unfold wb_X12_fixed_32
    refine sp_all hn hM.1 ⟨fun _ => ?_, fun c => absurd (nI_lt (by omega) (by omega)) c⟩
    rcases hx with ⟨e, z⟩ | ⟨e, z⟩
    · rw [e]
      exact ⟨fun c => absurd c (by decide), fun _ => h1 z⟩
    · rw [e]
      exact ⟨fun _ => h0 z, fun c => absurd rfl c⟩
  · intro m i x3 hi hx ih
    show wb_X12_fixed_32 Post _ (nI a) (nI b) x3 (nI i) w
    unfold wb_X12_fixed_32
    have no : ¬ (Mk n C L W i ∧ i.testBit b = true ∧ i.testBit a = false) → wb_X12_fixed_87 Post (wl_X12_fixed_32 Post m) (nI a) (nI b) x3 (nI i) w := fun z => by
      unfold wb_X12_fixed_87 wb_X12_fixed_88
      rw [nI_1]
      rcases hx with ⟨e, y⟩ | ⟨e, y⟩
      · rw [e]
        refine ⟨fun c => absurd c (by decide), fun _ => ⟨fun _ => ih 1 (Or.inl ⟨rfl, fun s hs => ?_⟩), fun c => absurd rfl c⟩⟩
        by_cases q : s = i
        · rw [q]
          exact z
        · exact y s (by omega)
      · rw [e]
        exact ⟨fun _ => ih 0 (Or.inr ⟨rfl, y⟩), fun c => absurd rfl c⟩
    refine sp_all hn hM.1 ⟨fun c => absurd c (nI_nlt (by omega) (by omega)), fun _ => sp_has (by omega) ?_⟩
    rw [bt_nI (by omega)]
    by_cases qb : i.testBit b = true
    · rw [if_pos qb]
      refine ⟨fun c => absurd c (by decide), fun _ => sp_has (by omega) ?_⟩
      rw [bt_nI (by omega)]
      by_cases qa : i.testBit a = true
      · rw [if_pos qa]
        refine ⟨fun _ => no fun z => ?_, fun c => absurd c (by decide)⟩
        rw [qa] at z
        cases z.2.2
      · rw [if_neg qa]
        have vi : vp_in (nI i) 4096 := vp_in_nI (by omega) (by decide)
        refine ⟨fun c => absurd rfl c, fun _ => ⟨vi, ?_⟩⟩
        rw [cln (i := i) (by omega), h14 i hi]
        have F9 : F i ≤ 2000000000 := by
          rcases hS.2.1 i hi with z | z
          · omega
          · have := W1200 hC hi
            omega
        refine ⟨fun c => no fun z => ?_, fun c => ⟨vi, ?_⟩⟩
        · have := (onB_iff.mp ((Mk_F hC hS i hi).mp z.1)).1
          exact nle_nI (a := F i) (b := 2000000000) (by omega) (by omega) c
        · have Fi : F i ≠ 2000000000 := fun z => c (by rw [z]; exact nI_le (Nat.le_refl _) (by omega))
          have f2 := (hS.2.1 i hi).resolve_left Fi
          have f3 := W1200 hC hi
          have b1 := bT_le hC hi f2.2
          rw [h16 i hi f2.2]
          refine ⟨fun d => absurd d (nle_nI (a := bT n C L W i) (b := 2000000000) (by omega) (by omega)), fun _ => ?_⟩
          unfold wb_X12_fixed_88
          rw [nI_1]
          rcases hx with ⟨e, y⟩ | ⟨e, y⟩
          · rw [e]
            refine ⟨fun c => absurd c (by decide), fun _ => ⟨fun c => absurd c (by decide), fun _ => ⟨vi, vi, sp_all hn hM.1 ⟨vp_in_nI (by omega) (by decide), ?_⟩⟩⟩⟩
            rw [cln (i := i) (by omega), cln (i := 2 ^ n - 1) (by omega), h14 i hi, h16 i hi f2.2, h14 (2 ^ n - 1) (by omega), hF, nI_add, nI_eq (by omega) (by omega)]
            refine ⟨fun d => ih 0 (Or.inr ⟨rfl, i, hi, (Mk_F hC hS i hi).mpr (onB_iff.mpr ⟨Fi, d⟩), qb, by simpa using qa⟩), fun d => ih 1 (Or.inl ⟨rfl, fun s hs => ?_⟩)⟩
            by_cases q : s = i
            · rw [q]
              exact fun z => d (onB_iff.mp ((Mk_F hC hS i hi).mp z.1)).2
            · exact y s (by omega)
          · rw [e]
            exact ⟨fun _ => ih 0 (Or.inr ⟨rfl, y⟩), fun c => absurd rfl c⟩
    · rw [if_neg qb]
      exact ⟨fun _ => no fun z => qb z.2.1, fun c => absurd rfl c⟩
theorem ok_fixed (hB : BKok BK) : Ok_fixed (Rel (RYc (PLd BK))) := by
  have hK := PLd_ok hB
  have hY := RYc_ok hK
  intro k a1 a2 uF uM hk h
  obtain ⟨h1, ⟨n, hr, hl⟩, ht, hs⟩ := id h
  obtain ⟨n1, n2, n3, n4⟩ := hY.1 _ _ _ _ hr
  unfold wp_X11_fixed
  refine sp_hasJob n1 n2 (fun a ha e => ⟨fun c => absurd c (by decide), fun _ => ?_⟩) (fun hno => ⟨fun _ => ?_, fun c => absurd rfl c⟩)
  · subst e
    refine sp_hasJob n1 n2 (fun b hb e => ⟨fun c => absurd c (by decide), fun _ => ?_⟩) (fun hno => ⟨fun _ => ?_, fun c => absurd rfl c⟩)
    · subst e
      refine ⟨fun ne => ?_, fun e => ?_⟩
      · have vb : vp_in (nI b) 12 := vp_in_nI (by omega) (by decide)
        unfold wp_X7_mayStandAhead
        refine sp_fo hB hk hr fun v L W E hS hy fr hO hT hback hST => ?_
        have fin : ∀ y : St, SH y uM n L W E → Rel (RYc (PLd BK)) k y uM → ST y n L W E → wp_X11_hasBit (y 17 (Int32.toNatClampNeg (nI b))) (nI a) y (fun r36 u36 => (r36 = 0 ∨ r36 = 1) ∧ (((¬ r36 = 0) → (wp_X11_asNumber (0 : Int32) u36 (fun r50 u50 => (fun r uF2 => wp_X12_fixed (nI a) (nI b) uM (fun r2 uM2 => r = r2 ∧ Rel (RYc (PLd BK)) (k + 1) uF2 uM2)) r50 u50))) ∧ ((r36 = 0) → (wp_X11_asNumber (1 : Int32) u36 (fun r50 u50 => (fun r uF2 => wp_X12_fixed (nI a) (nI b) uM (fun r2 uM2 => r = r2 ∧ Rel (RYc (PLd BK)) (k + 1) uF2 uM2)) r50 u50))))) := by
          intro y hSy hRy hsy
          rw [cln (i := b) (by omega)]
          refine sp_hasBit (by omega) ?_
          have mm : ∀ r : Int32, ((∀ s, s < 2 ^ n → ¬ (Mk n (Pc E n) L W s ∧ s.testBit b = true ∧ s.testBit a = false)) → r = 1) → ((∃ s, s < 2 ^ n ∧ Mk n (Pc E n) L W s ∧ s.testBit b = true ∧ s.testBit a = false) → r = 0) → wp_X12_fixed (nI a) (nI b) uM (fun r2 uM2 => r = r2 ∧ Rel (RYc (PLd BK)) (k + 1) y uM2) := by
            intro r r1 r0
            unfold wp_X12_fixed
            refine sp_isJob n1 n3 (fun _ _ _ => ⟨fun c => absurd c (by decide), fun _ => ?_⟩) (fun hno => absurd rfl (hno a ha))
            refine sp_isJob n1 n3 (fun _ _ _ => ⟨fun c => absurd c (by decide), fun _ => ⟨fun _ => ?_, fun c => absurd c ne⟩⟩) (fun hno => absurd rfl (hno b hb))
            refine sp_look hSy fun w F b1 b2 b3 b4 b5 b6 b7 b8 => ?_
            have hR := (hRy.mm hY (vM := w) (fun i _ => by rw [b1 0 (by decide) (by decide)]) (fun c _ c5 c13 => b1 c c5 c13)).mono hY
            exact sp_fixed32 hSy.1 b2 b3 b4 b5 b8 ha hb (fun z => ⟨r1 z, hR⟩) (fun z => ⟨r0 z, hR⟩)
          have hb' := hsy b hb a ha
          unfold wp_X11_asNumber
          by_cases q : bt (y 17 b) a = true
          · rw [if_pos q]
            obtain ⟨s, s1, s2⟩ := hb'.mp q
            exact ⟨Or.inr rfl, fun _ => ⟨fun _ => mm 0 (fun z => absurd s2 (z s s1)) (fun _ => rfl), fun c => absurd rfl c⟩, fun c => absurd c (by decide)⟩
          · rw [if_neg q]
            exact ⟨Or.inl rfl, fun c => absurd rfl c, fun _ => ⟨fun c => absurd c (by decide), fun _ => mm 1 (fun _ => rfl) (fun z => absurd (hb'.mpr z) q)⟩⟩
        simp only [wp_X10_version]
        refine ⟨fun e => ⟨vb, ?_⟩, fun e => ?_⟩
        · exact fin v hS (Rel_plan h hl hy fr) (hST e)
        · refine sp_findStanding hS.1 hS.2.1 (hT e) fun z z1 z2 z3 => ⟨vb, ?_⟩
          obtain ⟨y, ey⟩ : ∃ y : St, y = su z 12 8 (z 1 9) := ⟨_, rfl⟩
          rw [← ey]
          have e1 : ∀ c, c ≠ 12 → c ≠ 14 → c ≠ 17 → y c = v c := fun c c12 c14 c17 => by rw [ey, su_n _ _ _ c12]; exact z1 c c14 c17
          have e1' : ∀ c, c < 12 ∨ 17 < c → y c = v c := fun c hc => e1 c (by omega) (by omega) (by omega)
          have e3 : ST y n L W E := by
            unfold ST
            rw [ey, su_n _ _ _ (by decide)]
            exact z3
          have hyy : RYc (PLd BK) k n y uM := hback y e1' e1 (fun i hi => by rw [ey, su_ne _ _ hi, z1 12 (by decide) (by decide)]) (by rw [ey, su_at, z1 1 (by decide) (by decide)]) (by rw [ey, su_n _ _ _ (by decide)]; exact z2) e3
          have hSy : SH y uM n L W E := by
            obtain ⟨s1, s2, s3⟩ := hS
            exact ⟨s1, YF_congr (fun c h1 h2 => e1' c (by omega)) s2, s3⟩
          exact fin y hSy (Rel_plan h hl hyy (fun c hc => by rw [e1' c hc, fr c hc])) e3
      · unfold wp_X12_fixed
        refine sp_isJob n1 n3 (fun _ _ _ => ⟨fun c => absurd c (by decide), fun _ => ?_⟩) (fun hno => absurd rfl (hno a ha))
        exact sp_isJob n1 n3 (fun _ _ _ => ⟨fun c => absurd c (by decide), fun _ => ⟨fun c => absurd e c, fun _ => ⟨rfl, h.mono hY⟩⟩⟩) (fun hno => absurd rfl (hno b hb))
    · unfold wp_X12_fixed
      refine sp_isJob n1 n3 (fun _ _ _ => ⟨fun c => absurd c (by decide), fun _ => ?_⟩) (fun hno => absurd rfl (hno a ha))
      exact sp_isJob n1 n3 (fun j hj e => absurd e (hno j hj)) (fun _ => ⟨fun _ => ⟨rfl, h.mono hY⟩, fun c => absurd rfl c⟩)
  · unfold wp_X12_fixed
    exact sp_isJob n1 n3 (fun j hj e => absurd e (hno j hj)) (fun _ => ⟨fun _ => ⟨rfl, h.mono hY⟩, fun c => absurd rfl c⟩)
end
