/-! The reference's way from the empty set up: F the costs (2000000000: none), G the ways. -/
theorem sI_one {f g : Nat → Int32} {t : Nat} {d : Int32} (h1 : ∀ x, x ≠ t → g x = f x) (h2 : g t = f t + d) : ∀ N, t < N → sI g N = sI f N + d
  | 0, h => absurd h (Nat.not_lt_zero t)
  | N + 1, h => by
    simp only [sI]
    by_cases e : t = N
    · subst e
      rw [sI_congr t (fun x hx => h1 x (by omega)), h2, Int32.add_assoc]
    · rw [sI_one h1 h2 N (by omega), h1 N (fun z => e z.symm), Int32.add_assoc, Int32.add_assoc, Int32.add_comm d]
theorem sI_add {f g : Nat → Int32} : ∀ N, sI (fun x => f x + g x) N = sI f N + sI g N
  | 0 => rfl
  | N + 1 => by
    simp only [sI]
    rw [sI_add N, Int32.add_assoc, Int32.add_assoc, ← Int32.add_assoc (sI g N), Int32.add_comm (sI g N) (f N), Int32.add_assoc]
theorem sI_mul {f : Nat → Int32} {a : Int32} : ∀ N, sI (fun x => a * f x) N = a * sI f N
  | 0 => (Int32.mul_zero).symm
  | N + 1 => by
    simp only [sI]
    rw [sI_mul N, Int32.mul_add]
def onB (n : Nat) (C : Nat → Nat → Bool) (L W : Nat → Nat) (F : Nat → Nat) (t : Nat) : Bool := decide (F t ≠ 2000000000) && decide (F t + bT n C L W t = bT n C L W 0)
def con (n : Nat) (C : Nat → Nat → Bool) (L W : Nat → Nat) (F : Nat → Nat) (G : Nat → Int32) (t : Nat) : Int32 := if onB n C L W F t = true then G t * bO n C L W t else 0
def tl (n : Nat) (C : Nat → Nat → Bool) (L W : Nat → Nat) (F : Nat → Nat) (G : Nat → Int32) (i j : Nat) : Int32 := if onB n C L W F i = true then G i * (if i = 2 ^ n - 1 then 1 else sI (fun x => if j ≤ x ∧ bnB n C L W i x = true then bO n C L W (ins i x) else 0) n) else 0
/-- what the way has come to: all sets below i, and of set i all jobs below j -/
def FS (n : Nat) (C : Nat → Nat → Bool) (L W : Nat → Nat) (i j : Nat) (F : Nat → Nat) : Prop :=
  F 0 = 0 ∧ (∀ t, t < 2 ^ n → F t = 2000000000 ∨ (F t ≤ sm W t 12 * sm L t 12 ∧ Bg n C t 0)) ∧
  (∀ s x, s < 2 ^ n → x < n → Nx n C s x → F s ≠ 2000000000 → (s < i ∨ (s = i ∧ x < j)) → F (ins s x) ≤ F s + stp L W s x) ∧
  (∀ t, t < 2 ^ n → t ≠ 0 → F t ≠ 2000000000 → ∃ s x, s < 2 ^ n ∧ x < n ∧ Nx n C s x ∧ t = ins s x ∧ (s < i ∨ (s = i ∧ x < j)) ∧ F s ≠ 2000000000 ∧ F t = F s + stp L W s x)
def FU (n : Nat) (C : Nat → Nat → Bool) (L W : Nat → Nat) (i j : Nat) (F : Nat → Nat) (G : Nat → Int32) : Prop :=
  sI (fun t => if i < t then con n C L W F G t else 0) (2 ^ n) + tl n C L W F G i j = bO n C L W 0 ∧
  ((∃ t, t < 2 ^ n ∧ i < t ∧ onB n C L W F t = true) ∨ (onB n C L W F i = true ∧ (i = 2 ^ n - 1 ∨ ∃ x, j ≤ x ∧ x < n ∧ bnB n C L W i x = true)))
section
variable {n : Nat} {C : Nat → Nat → Bool} {L W : Nat → Nat} {i j : Nat} {F : Nat → Nat} {G : Nat → Int32}
theorem onB_iff {t : Nat} : onB n C L W F t = true ↔ F t ≠ 2000000000 ∧ F t + bT n C L W t = bT n C L W 0 := by
  unfold onB
  rw [Bool.and_eq_true, decide_eq_true_eq, decide_eq_true_eq]
theorem W1200 (hC : okC n C L W) {t : Nat} (ht : t < 2 ^ n) : sm W t 12 * sm L t 12 ≤ 1440000 := by
  have h1 := sm_1200 hC.1 (fun j hj => (hC.2.2.2.2 j hj).2) ht
  have h2 := sm_1200 hC.1 (fun j hj => (hC.2.2.2.2 j hj).1) ht
  exact Nat.le_trans (Nat.mul_le_mul h1 h2) (by decide)
theorem FS_ge (hC : okC n C L W) (h : FS n C L W i j F) : ∀ m t, t ≤ m → t < 2 ^ n → F t ≠ 2000000000 → bT n C L W 0 ≤ F t + bT n C L W t := by
  obtain ⟨h0, h1, h2, h3⟩ := h
  intro m
  induction m with
  | zero =>
    intro t ht _ _
    rw [show t = 0 by omega]
    omega
  | succ m ih =>
    intro t ht ht2 hf
    by_cases e : t = 0
    · rw [e]
      omega
    · obtain ⟨s, x, s1, s2, s3, s4, s5, s6, s7⟩ := h3 t ht2 e hf
      have l1 := lt_ins s3.1
      rw [← s4] at l1
      have := ih s (by omega) s1 s6
      have b := bT_min hC s1 ((h1 s s1).resolve_left s6).2 s2 s3
      rw [← s4] at b
      omega
theorem FS_skip (h : FS n C L W i j F) (hx : ¬ Nx n C i j) : FS n C L W i (j + 1) F := by
  obtain ⟨h0, h1, h2, h3⟩ := h
  refine ⟨h0, h1, fun s x a1 a2 a3 a4 a5 => ?_, fun t t1 t2 t3 => ?_⟩
  · refine h2 s x a1 a2 a3 a4 ?_
    rcases a5 with z | ⟨z1, z2⟩
    · exact Or.inl z
    · by_cases e : x = j
      · rw [z1, e] at a3
        exact absurd a3 hx
      · exact Or.inr ⟨z1, by omega⟩
  · obtain ⟨s, x, s1, s2, s3, s4, s5, s6, s7⟩ := h3 t t1 t2 t3
    exact ⟨s, x, s1, s2, s3, s4, by omega, s6, s7⟩
theorem FS_row (h : FS n C L W i j F) (hx : F i = 2000000000 ∨ n ≤ j) : FS n C L W (i + 1) 0 F := by
  obtain ⟨h0, h1, h2, h3⟩ := h
  refine ⟨h0, h1, fun s x a1 a2 a3 a4 a5 => ?_, fun t t1 t2 t3 => ?_⟩
  · by_cases e : s = i
    · rcases hx with z | z
      · rw [e] at a4
        exact absurd z a4
      · exact h2 s x a1 a2 a3 a4 (Or.inr ⟨e, by omega⟩)
    · exact h2 s x a1 a2 a3 a4 (by omega)
  · obtain ⟨s, x, s1, s2, s3, s4, s5, s6, s7⟩ := h3 t t1 t2 t3
    exact ⟨s, x, s1, s2, s3, s4, by omega, s6, s7⟩
/-- one step: t is reached from i by j at c -/
theorem FS_step (hC : okC n C L W) (h : FS n C L W i j F) (hi : i < 2 ^ n) (hj : j < n) (hx : Nx n C i j) (hf : F i ≠ 2000000000) {F' : Nat → Nat} (e1 : ∀ t, t ≠ ins i j → F' t = F t) (e2 : F' (ins i j) = min (F (ins i j)) (F i + stp L W i j)) : FS n C L W i (j + 1) F' := by
  obtain ⟨h0, h1, h2, h3⟩ := h
  have l1 := lt_ins hx.1
  have hn := hC.1
  have low : ∀ s, s ≤ i → F' s = F s := fun s hs => e1 s (by omega)
  obtain ⟨c, hc⟩ : ∃ c, c = F i + stp L W i j := ⟨_, rfl⟩
  have hb := ((h1 i hi).resolve_left hf)
  have cb : c ≤ sm W (ins i j) 12 * sm L (ins i j) 12 := by
    rw [hc, stp_eq hx.1 (by omega), sm_ins (f := W) hx.1 (by omega), Nat.add_mul]
    have h1 : sm L i 12 ≤ sm L (ins i j) 12 := sm_mono 12 (fun x _ hx => by rw [tb_ins, hx]; rfl)
    have := Nat.mul_le_mul_left (sm W i 12) h1
    omega
  have c9 := W1200 hC (ins_lt hi hj)
  rw [← hc] at e2
  refine ⟨by rw [low 0 (Nat.zero_le i)]; exact h0, fun t ht => ?_, fun s x a1 a2 a3 a4 a5 => ?_, fun t t1 t2 t3 => ?_⟩
  · by_cases e : t = ins i j
    · subst e
      refine Or.inr ⟨?_, Bg_ins hb.2 hx⟩
      rw [e2]
      exact Nat.le_trans (Nat.min_le_right _ _) cb
    · rw [e1 t e]
      exact h1 t ht
  · have s5 : s ≤ i := by omega
    rw [low s s5] at a4 ⊢
    by_cases e : s = i ∧ x = j
    · rw [e.1, e.2, e2, ← hc]
      exact Nat.min_le_right _ _
    · have := h2 s x a1 a2 a3 a4 (by omega)
      by_cases e' : ins s x = ins i j
      · rw [e', e2]
        rw [e'] at this
        exact Nat.le_trans (Nat.min_le_left _ _) this
      · rw [e1 _ e']
        exact this
  · by_cases e : t = ins i j
    · subst e
      by_cases q : F (ins i j) ≤ c
      · have em : F' (ins i j) = F (ins i j) := by rw [e2]; exact Nat.min_eq_left q
        rw [em] at t3 ⊢
        obtain ⟨s, x, s1, s2, s3, s4, s5, s6, s7⟩ := h3 _ t1 t2 t3
        have sl : s ≤ i := by omega
        exact ⟨s, x, s1, s2, s3, s4, by omega, by rw [low s sl]; exact s6, by rw [low s sl]; exact s7⟩
      · have em : F' (ins i j) = c := by rw [e2]; exact Nat.min_eq_right (by omega)
        refine ⟨i, j, hi, hj, hx, rfl, Or.inr ⟨rfl, by omega⟩, by rw [low i (Nat.le_refl i)]; exact hf, by rw [em, low i (Nat.le_refl i)]; exact hc⟩
    · rw [e1 t e] at t3 ⊢
      obtain ⟨s, x, s1, s2, s3, s4, s5, s6, s7⟩ := h3 t t1 t2 t3
      have sl : s ≤ i := by omega
      exact ⟨s, x, s1, s2, s3, s4, by omega, by rw [low s sl]; exact s6, by rw [low s sl]; exact s7⟩
theorem tl_step (hj : j < n) (hf : i ≠ 2 ^ n - 1) : tl n C L W F G i j = tl n C L W F G i (j + 1) + (if onB n C L W F i = true ∧ bnB n C L W i j = true then G i * bO n C L W (ins i j) else 0) := by
  unfold tl
  by_cases q : onB n C L W F i = true
  · rw [if_pos q, if_pos q, if_neg hf, if_neg hf]
    have := sI_one (f := fun x => if j + 1 ≤ x ∧ bnB n C L W i x = true then bO n C L W (ins i x) else 0) (g := fun x => if j ≤ x ∧ bnB n C L W i x = true then bO n C L W (ins i x) else 0) (t := j) (d := if bnB n C L W i j = true then bO n C L W (ins i j) else 0) (fun x hx => by
      by_cases z : j ≤ x
      · simp only [z, show j + 1 ≤ x by omega]
      · simp only [z, show ¬ j + 1 ≤ x by omega]) (by
      simp only [Nat.le_refl, show ¬ j + 1 ≤ j by omega, true_and, false_and, if_false]
      exact (Int32.zero_add _).symm) n hj
    rw [this, Int32.mul_add]
    congr 1
    by_cases z : bnB n C L W i j = true
    · rw [if_pos z, if_pos ⟨q, z⟩]
    · rw [if_neg z, if_neg (fun y => z y.2), Int32.mul_zero]
  · rw [if_neg q, if_neg q, if_neg (fun y => q y.1)]
    rfl
theorem FU_skip (hj : j < n) (h : FU n C L W i j F G) (hx : ¬ Nx n C i j) : FU n C L W i (j + 1) F G := by
  have nb : ¬ bnB n C L W i j = true := fun z => hx (bnB_iff.mp z).1
  obtain ⟨h1, h2⟩ := h
  refine ⟨?_, ?_⟩
  · by_cases hf : i = 2 ^ n - 1
    · have e : tl n C L W F G i (j + 1) = tl n C L W F G i j := by
        unfold tl
        rw [if_pos hf, if_pos hf]
      rw [e]
      exact h1
    · rw [tl_step hj hf, if_neg (fun y => nb y.2), Int32.add_zero] at h1
      exact h1
  · rcases h2 with z | ⟨z1, z2⟩
    · exact Or.inl z
    · refine Or.inr ⟨z1, ?_⟩
      rcases z2 with z | ⟨x, x1, x2, x3⟩
      · exact Or.inl z
      · refine Or.inr ⟨x, ?_, x2, x3⟩
        by_cases e : x = j
        · rw [e] at x3
          exact absurd x3 nb
        · omega
theorem FU_step (hC : okC n C L W) (hs : FS n C L W i j F) (h : FU n C L W i j F G) (hi : i < 2 ^ n) (hj : j < n) (hx : Nx n C i j) (hf : F i ≠ 2000000000) {F' : Nat → Nat} {G' : Nat → Int32} (e1 : ∀ t, t ≠ ins i j → F' t = F t ∧ G' t = G t)
    (e2 : (F i + stp L W i j < F (ins i j) ∧ F' (ins i j) = F i + stp L W i j ∧ G' (ins i j) = G i) ∨ (F i + stp L W i j = F (ins i j) ∧ F' (ins i j) = F (ins i j) ∧ G' (ins i j) = G (ins i j) + G i) ∨ (F (ins i j) < F i + stp L W i j ∧ F' (ins i j) = F (ins i j) ∧ G' (ins i j) = G (ins i j))) : FU n C L W i (j + 1) F' G' := by
  have l1 := lt_ins hx.1
  have hn := hC.1
  have ht := ins_lt hi hj
  have hb := (hs.2.1 i hi).resolve_left hf
  have nf : i ≠ 2 ^ n - 1 := by omega
  obtain ⟨t, et⟩ : ∃ t, t = ins i j := ⟨_, rfl⟩
  obtain ⟨c, hc⟩ : ∃ c, c = F i + stp L W i j := ⟨_, rfl⟩
  have g1 := FS_ge hC hs i i (Nat.le_refl i) hi hf
  have g2 := bT_min hC hi hb.2 hj hx
  have c9 : c < 2000000000 := by
    have a1 := hb.1
    have a2 := W1200 hC hi
    have a3 := stp_le hC hi hj hx.1
    have a4 := (hC.2.2.2.2 j hj).2
    have a5 := Nat.mul_le_mul_right 1200 a4
    omega
  have gt : F t ≠ 2000000000 → bT n C L W 0 ≤ F t + bT n C L W t := fun z => FS_ge hC hs t t (Nat.le_refl t) (by omega) z
  rw [← et] at g2 e1 e2 l1 ht
  rw [← hc] at e2
  have key : c + bT n C L W t = bT n C L W 0 ↔ (onB n C L W F i = true ∧ bnB n C L W i j = true) := by
    rw [onB_iff, bnB_iff, ← et]
    constructor
    · intro z
      exact ⟨⟨hf, by omega⟩, hx, by omega⟩
    · rintro ⟨⟨_, z1⟩, _, z2⟩
      omega
  obtain ⟨d, hd⟩ : ∃ d : Int32, d = (if onB n C L W F i = true ∧ bnB n C L W i j = true then G i * bO n C L W t else 0) := ⟨_, rfl⟩
  have conS : ∀ x, x ≠ t → con n C L W F' G' x = con n C L W F G x := fun x hx' => by
    unfold con onB
    rw [(e1 x hx').1, (e1 x hx').2]
  have conT : con n C L W F' G' t = con n C L W F G t + d := by
    rw [hd]
    unfold con
    rcases e2 with ⟨z1, z2, z3⟩ | ⟨z1, z2, z3⟩ | ⟨z1, z2, z3⟩
    · have no : ¬ onB n C L W F t = true := fun y => by
        have y1 := onB_iff.mp y
        have := gt y1.1
        omega
      rw [if_neg no, z3, Int32.zero_add]
      by_cases q : onB n C L W F i = true ∧ bnB n C L W i j = true
      · have k1 := key.mpr q
        rw [if_pos q, if_pos (onB_iff.mpr ⟨by omega, by omega⟩)]
      · rw [if_neg q, if_neg (fun y => q (key.mp (by have := (onB_iff.mp y).2; omega)))]
    · by_cases q : onB n C L W F i = true ∧ bnB n C L W i j = true
      · have k1 := key.mpr q
        rw [if_pos q, if_pos (onB_iff.mpr ⟨by omega, by omega⟩), if_pos (onB_iff.mpr ⟨by omega, by omega⟩), z3, Int32.add_mul]
      · rw [if_neg q, if_neg (fun y => q (key.mp (by have := (onB_iff.mp y).2; omega))), if_neg (fun y => q (key.mp (by have := (onB_iff.mp y).2; omega)))]
        rfl
    · have no : ¬ (onB n C L W F i = true ∧ bnB n C L W i j = true) := fun y => by
        have k1 := key.mpr y
        have := gt (by omega)
        omega
      rw [if_neg no, Int32.add_zero, z3]
      unfold onB
      rw [z2]
  have oni : onB n C L W F' i = onB n C L W F i := by
    unfold onB
    rw [(e1 i (by omega)).1]
  have tli : tl n C L W F' G' i (j + 1) = tl n C L W F G i (j + 1) := by
    unfold tl
    rw [oni, (e1 i (by omega)).2]
  obtain ⟨h1, h2⟩ := h
  refine ⟨?_, ?_⟩
  · have s1 := sI_one (f := fun x => if i < x then con n C L W F G x else 0) (g := fun x => if i < x then con n C L W F' G' x else 0) (t := t) (d := d) (fun x hx' => by
      show (if i < x then con n C L W F' G' x else 0) = (if i < x then con n C L W F G x else 0)
      rw [conS x hx']) (by
      show (if i < t then con n C L W F' G' t else 0) = (if i < t then con n C L W F G t else 0) + d
      rw [if_pos l1, if_pos l1]
      exact conT) (2 ^ n) ht
    rw [s1, tli]
    rw [tl_step hj nf, ← et, ← hd] at h1
    rw [← h1, Int32.add_assoc, Int32.add_comm d]
  · have onK : ∀ x, onB n C L W F x = true → onB n C L W F' x = true := fun x hx' => by
      by_cases e : x = t
      · subst e
        have y := onB_iff.mp hx'
        rcases e2 with ⟨z1, z2, z3⟩ | ⟨z1, z2, z3⟩ | ⟨z1, z2, z3⟩
        · have := gt y.1
          omega
        · exact onB_iff.mpr ⟨by omega, by omega⟩
        · exact onB_iff.mpr ⟨by omega, by omega⟩
      · unfold onB
        rw [(e1 x e).1]
        exact hx'
    rcases h2 with ⟨x, x1, x2, x3⟩ | ⟨z1, z2⟩
    · exact Or.inl ⟨x, x1, x2, onK x x3⟩
    · rcases z2 with z | ⟨x, x1, x2, x3⟩
      · exact absurd z nf
      · by_cases e : x = j
        · refine Or.inl ⟨t, ht, l1, ?_⟩
          rw [e] at x3
          have k1 := key.mpr ⟨z1, x3⟩
          rcases e2 with ⟨y1, y2, y3⟩ | ⟨y1, y2, y3⟩ | ⟨y1, y2, y3⟩
          · exact onB_iff.mpr ⟨by omega, by omega⟩
          · exact onB_iff.mpr ⟨by omega, by omega⟩
          · have := gt (by omega)
            omega
        · exact Or.inr ⟨by rw [oni]; exact z1, Or.inr ⟨x, by omega, x2, x3⟩⟩
/-- a row's end -/
theorem FU_row (hi : i + 1 < 2 ^ n) (hC : okC n C L W) (hs : FS n C L W i j F) (h : FU n C L W i j F G) (hx : F i = 2000000000 ∨ n ≤ j) : FU n C L W (i + 1) 0 F G := by
  have nf : i ≠ 2 ^ n - 1 := by omega
  obtain ⟨h1, h2⟩ := h
  have t0 : tl n C L W F G i j = 0 := by
    unfold tl
    rcases hx with z | z
    · rw [if_neg (fun y => (onB_iff.mp y).1 z)]
    · rw [if_neg nf, sI_0 n (fun x hx => if_neg (fun y => by omega)), Int32.mul_zero]
      exact ite_self _
  rw [t0, Int32.add_zero] at h1
  have t1 : tl n C L W F G (i + 1) 0 = con n C L W F G (i + 1) := by
    unfold tl con
    by_cases q : onB n C L W F (i + 1) = true
    · rw [if_pos q, if_pos q]
      by_cases e : i + 1 = 2 ^ n - 1
      · rw [if_pos e, e, tbl_full.2]
      · rw [if_neg e, bO_sum hi e]
        congr 1
        refine sI_congr n fun x hx => ?_
        by_cases z : bnB n C L W (i + 1) x = true
        · obtain ⟨z1, z2⟩ := bnB_iff.mp z
          rw [if_pos ⟨Nat.zero_le x, z⟩, if_pos ⟨nxB_iff.mpr z1, z2⟩]
        · rw [if_neg (fun y => z y.2), if_neg (fun y => z (bnB_iff.mpr ⟨nxB_iff.mp y.1, y.2⟩))]
    · rw [if_neg q, if_neg q]
  refine ⟨?_, ?_⟩
  · rw [t1, ← h1]
    exact (sI_one (f := fun t => if i + 1 < t then con n C L W F G t else 0) (g := fun t => if i < t then con n C L W F G t else 0) (t := i + 1) (d := con n C L W F G (i + 1)) (fun x hx => by
      by_cases z : i < x
      · simp only [z, show i + 1 < x by omega]
      · simp only [z, show ¬ i + 1 < x by omega]) (by
      simp only [show ¬ i + 1 < i + 1 by omega, show i < i + 1 by omega, if_true, if_false]
      exact (Int32.zero_add _).symm) (2 ^ n) hi).symm
  · have hb : onB n C L W F (i + 1) = true → i + 1 = 2 ^ n - 1 ∨ ∃ x, 0 ≤ x ∧ x < n ∧ bnB n C L W (i + 1) x = true := fun q => by
      by_cases e : i + 1 = 2 ^ n - 1
      · exact Or.inl e
      · obtain ⟨x, x1, x2, x3⟩ := bT_ex hC hi ((hs.2.1 _ hi).resolve_left (onB_iff.mp q).1).2 e
        exact Or.inr ⟨x, Nat.zero_le x, x1, bnB_iff.mpr ⟨x2, x3.symm⟩⟩
    rcases h2 with ⟨t, a1, a2, a3⟩ | ⟨z1, z2⟩
    · by_cases e : t = i + 1
      · rw [e] at a3
        exact Or.inr ⟨a3, hb a3⟩
      · exact Or.inl ⟨t, a1, by omega, a3⟩
    · rcases hx with z | z
      · exact absurd z (onB_iff.mp z1).1
      · rcases z2 with y | ⟨x, x1, x2, x3⟩
        · exact absurd y nf
        · omega
theorem FU_last (h : FU n C L W (2 ^ n - 1) j F G) : F (2 ^ n - 1) = bT n C L W 0 ∧ G (2 ^ n - 1) = bO n C L W 0 := by
  obtain ⟨h1, h2⟩ := h
  have hp1 : 1 ≤ 2 ^ n := Nat.one_le_two_pow
  have on : onB n C L W F (2 ^ n - 1) = true := by
    rcases h2 with ⟨t, a1, a2, a3⟩ | ⟨z1, z2⟩
    · omega
    · exact z1
  rw [sI_0 _ (fun t ht => if_neg (by omega)), Int32.zero_add] at h1
  unfold tl at h1
  rw [if_pos on, if_pos rfl, Int32.mul_one] at h1
  have := (onB_iff.mp on).2
  rw [tbl_full.1] at this
  exact ⟨by omega, h1⟩
theorem FU_first (hC : okC n C L W) : FS n C L W 0 0 (fun t => if t = 0 then 0 else 2000000000) ∧ FU n C L W 0 0 (fun t => if t = 0 then 0 else 2000000000) (fun t => if t = 0 then 1 else 0) := by
  have hp1 : 1 ≤ 2 ^ n := Nat.one_le_two_pow
  have on0 : onB n C L W (fun t => if t = 0 then 0 else 2000000000) 0 = true := onB_iff.mpr ⟨by simp, by simp⟩
  refine ⟨⟨rfl, fun t ht => ?_, fun s x _ _ _ _ z => by omega, fun t t1 t2 t3 => ?_⟩, ?_, ?_⟩
  · by_cases e : t = 0
    · refine Or.inr ⟨?_, by rw [e]; exact Bg_0⟩
      rw [e]
      exact Nat.zero_le _
    · exact Or.inl (if_neg e)
  · exact absurd (if_neg t2) t3
  · rw [sI_0 _ (fun t ht => ?_), Int32.zero_add]
    · unfold tl
      rw [if_pos on0]
      show (1 : Int32) * _ = _
      rw [Int32.one_mul]
      by_cases e : 0 = 2 ^ n - 1
      · rw [if_pos e]
        have := (tbl_full (n := n) (C := C) (L := L) (W := W)).2
        rw [← e] at this
        exact this.symm
      · rw [if_neg e, bO_sum (Nat.two_pow_pos n) e]
        refine sI_congr n fun x hx => ?_
        by_cases z : bnB n C L W 0 x = true
        · obtain ⟨z1, z2⟩ := bnB_iff.mp z
          rw [if_pos ⟨Nat.zero_le x, z⟩, if_pos ⟨nxB_iff.mpr z1, z2⟩]
        · rw [if_neg (fun y => z y.2), if_neg (fun y => z (bnB_iff.mpr ⟨nxB_iff.mp y.1, y.2⟩))]
    · by_cases e : t = 0
      · rw [e]
        rfl
      · unfold con
        have no : ¬ onB n C L W (fun t => if t = 0 then 0 else 2000000000) t = true := fun y => (onB_iff.mp y).1 (if_neg e)
        rw [if_neg no]
        exact ite_self _
  · refine Or.inr ⟨on0, ?_⟩
    by_cases e : 0 = 2 ^ n - 1
    · exact Or.inl e
    · obtain ⟨x, x1, x2, x3⟩ := bT_ex hC (Nat.two_pow_pos n) Bg_0 e
      exact Or.inr ⟨x, Nat.zero_le x, x1, bnB_iff.mpr ⟨x2, x3.symm⟩⟩
end
