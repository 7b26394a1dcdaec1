/-! What the plan keeps; least, many, best. -/
def Mk (n : Nat) (C : Nat → Nat → Bool) (L W : Nat → Nat) (s : Nat) : Prop := ∀ P : Nat → Prop, P 0 → (∀ t j, P t → j < n → bnB n C L W t j = true → P (ins t j)) → P s
def ST (u : St) (n : Nat) (L W : Nat → Nat) (E : Nat → Nat → Bool) : Prop := ∀ a, a < n → ∀ b, b < n → (bt (u 17 a) b = true ↔ ∃ s, s < 2 ^ n ∧ Mk n (Pc E n) L W s ∧ s.testBit a = true ∧ s.testBit b = false)
abbrev BKt := St → Nat → (Nat → Nat) → (Nat → Nat) → (Nat → Nat → Bool) → Prop
def BKok (BK : BKt) : Prop := ∀ (u u' : St) n L W E, u' 12 1 = u 12 1 → u' 13 = u 13 → BK u n L W E → BK u' n L W E
def OR (u : St) (n : Nat) (L W : Nat → Nat) (E : Nat → Nat → Bool) : Prop := u 14 0 = nI (bT n (Pc E n) L W 0) ∧ u 15 0 = bO n (Pc E n) L W 0 ∧ ∀ i, i < n → u 16 i = nI (bj n (Pc E n) L W (bs n (Pc E n) L W i))
def PLd (BK : BKt) : PLt := fun v n L W E u =>
  (u 12 2 = -1 ∨ ∃ x, x ≤ v ∧ u 12 2 = nI x ∧ (x = v → BK u n L W E)) ∧
  (u 12 6 = -1 ∨ ∃ x, x ≤ v ∧ u 12 6 = nI x ∧ (x = v → OR u n L W E ∧ (u 12 8 ≠ nI v → TB u n L W E))) ∧
  (u 12 8 = -1 ∨ ∃ x, x ≤ v ∧ u 12 8 = nI x ∧ (x = v → ST u n L W E))
theorem PLd_ok {BK : BKt} (hB : BKok BK) : PLok (PLd BK) := by
  refine ⟨?_, ?_⟩
  · intro v n L W E u u' h ⟨h1, h2, h3⟩
    have e12 := h 12 (by decide) (by decide)
    refine ⟨?_, ?_, ?_⟩
    · rw [e12]
      rcases h1 with z | ⟨x, x1, x2, x3⟩
      · exact Or.inl z
      · exact Or.inr ⟨x, x1, x2, fun e => hB u u' _ _ _ _ (by rw [e12]) (h 13 (by decide) (by decide)) (x3 e)⟩
    · rw [e12]
      rcases h2 with z | ⟨x, x1, x2, x3⟩
      · exact Or.inl z
      · refine Or.inr ⟨x, x1, x2, fun e => ?_⟩
        obtain ⟨a1, a2⟩ := x3 e
        refine ⟨?_, fun z => TB_congr (h 14 (by decide) (by decide)) (a2 z)⟩
        unfold OR
        rw [h 14 (by decide) (by decide), h 15 (by decide) (by decide), h 16 (by decide) (by decide)]
        exact a1
    · rw [e12]
      rcases h3 with z | ⟨x, x1, x2, x3⟩
      · exact Or.inl z
      · refine Or.inr ⟨x, x1, x2, fun e => ?_⟩
        unfold ST
        rw [h 17 (by decide) (by decide)]
        exact x3 e
  · intro v n L W E n' L' W' E' u ⟨h1, h2, h3⟩
    refine ⟨?_, ?_, ?_⟩
    · rcases h1 with z | ⟨x, x1, x2, _⟩
      · exact Or.inl z
      · exact Or.inr ⟨x, by omega, x2, fun e => by omega⟩
    · rcases h2 with z | ⟨x, x1, x2, _⟩
      · exact Or.inl z
      · exact Or.inr ⟨x, by omega, x2, fun e => by omega⟩
    · rcases h3 with z | ⟨x, x1, x2, _⟩
      · exact Or.inl z
      · exact Or.inr ⟨x, by omega, x2, fun e => by omega⟩
/-- what both sides show of the newest yard -/
def SH (uF uM : St) (n : Nat) (L W : Nat → Nat) (E : Nat → Nat → Bool) : Prop := okC n (Pc E n) L W ∧ YF uF n L W E ∧ uM 0 0 = nI n ∧ (∀ j, j < n → uM 1 j = nI (L j)) ∧ (∀ j, j < n → uM 2 j = nI (W j)) ∧ (∀ b, b < n → ∀ a, a < 32 → bt (uM 4 b) a = E a b) ∧ (∀ a b, E a b = true → a < n ∧ b < n) ∧ (∀ j, j < n → 1 ≤ L j)
section
variable {PL : PLt} {BK : BKt} {k n : Nat} {uF uM v w : St} {L W : Nat → Nat} {E : Nat → Nat → Bool} {Post : Int32 → St → Prop}
/-- the relation, opened -/
theorem RYc_open (hr : RYc PL k n uF uM) : ∃ (L W : Nat → Nat) (E : Nat → Nat → Bool) (x : Nat), x ≤ k ∧ uF 1 9 = nI x ∧ SH uF uM n L W E ∧ PL x n L W E uF ∧ ∀ v : St, (∀ c, c < 12 ∨ 17 < c → v c = uF c) → PL x n L W E v → RYc PL k n v uM := by
  obtain ⟨c, Y, nx, x, ⟨c1, c2, c3, rfl, c5⟩, f, fv, m, g, hh, hs, hp⟩ := hr
  obtain ⟨y1, y2, y3, y4⟩ := c5 c (Nat.le_refl c)
  refine ⟨(Y c).m 0, (Y c).m 1, (Y c).E, x, c3, fv, ⟨okC_of y1 y3 y4 (fun j hj => ⟨(y2 j hj).2.1, (y2 j hj).2.2.1⟩), ⟨f.1, fun j hj => f.2.1 0 (by decide) j hj, fun j hj => f.2.1 1 (by decide) j hj, f.2.2.2.2.1⟩, m.1, fun j hj => m.2.1 0 (by decide) j hj, fun j hj => m.2.1 1 (by decide) j hj, m.2.2, y3, fun j hj => (y2 j hj).1⟩, hp, fun v e hp' => ?_⟩
  refine ⟨c, Y, nx, x, ⟨c1, c2, c3, rfl, c5⟩, FY_congr (fun c h1 h2 => e c (by omega)) f, by rw [e 1 (by decide)]; exact fv, m, ?_, ?_, hs, hp'⟩
  · rw [e 20 (by decide)]
    exact g
  · rw [e 21 (by decide), e 22 (by decide), e 23 (by decide), e 24 (by decide)]
    exact hh
theorem Rel_plan (h : Rel (RYc PL) k uF uM) (hl : RLn n uF uM) (hy : RYc PL k n v uM) (e : ∀ c, c < 12 ∨ 17 < c → v c = uF c) : Rel (RYc PL) k v uM := by
  obtain ⟨h1, _, ht, hs⟩ := h
  exact ⟨by rw [e 0 (by decide)]; exact h1, ⟨n, hy, hl.mono (Nat.le_refl n) (e 18 (by decide)) (e 19 (by decide)) rfl rfl⟩, ht.cg (e 25 (by decide)) (e 26 (by decide)) rfl rfl, hs.cg (fun c hc => e c (by omega)) (fun _ _ _ => rfl)⟩
theorem sp_closeMD (hn : n ≤ 12) (h0 : w 0 0 = nI n) (h4 : ∀ b, b < n → ∀ a, a < 32 → bt (w 4 b) a = E a b) (hin : ∀ a b, E a b = true → a < n ∧ b < n) (h : ∀ v : St, (∀ c, c ≠ 5 → v c = w c) → MD v n (Pc E n) → Post 0 v) : wp_X12_close w Post := by
  refine sp_close hn h0 fun v e1 e2 => h v e1 fun j hj a ha => ?_
  rw [e2 j hj a ha]
  have e3 : Pc (fun j a => bt (w 4 j) a) n j a = Pc (fun x y => E y x) n j a := Pc_congr (n := n) (fun j hj a ha => h4 j hj a ha) n (Nat.le_refl n) (by omega) j hj a ha
  rw [e3, Pc_flip]
  cases q : Pc E n a j
  · rw [Bool.and_false]
  · rw [decide_eq_true (Pc_in hin n a j q).1]
    rfl
theorem sp_look (hS : SH uF w n L W E) (hP : ∀ (v : St) (F : Nat → Nat), (∀ c, c ≠ 5 → c < 13 → v c = w c) → MT v n (Pc E n) L W → (∀ t, t < 2 ^ n → v 14 t = nI (F t)) → FS n (Pc E n) L W (2 ^ n) 0 F → F (2 ^ n - 1) = bT n (Pc E n) L W 0 → v 15 (2 ^ n - 1) = bO n (Pc E n) L W 0 → (∀ s, s < 2 ^ n → v 13 s = nI (sm L s n)) → (∀ s, s < 2 ^ n → Bg n (Pc E n) s 0 → v 16 s = nI (bT n (Pc E n) L W s)) → Post 0 v) : wp_X12_look w Post := by
  obtain ⟨s1, s2, s3, s4, s5, s6, s7, s8⟩ := hS
  have hn := s1.1
  unfold wp_X12_look wp_X12_yard
  refine sp_closeMD hn s3 s6 s7 fun v1 a1 a2 => ?_
  refine sp_yard0 hn (by rw [a1 0 (by decide)]; exact s3) (by rw [a1 1 (by decide)]; exact s4) (by rw [a1 2 (by decide)]; exact s5) a2 fun v2 b1 b2 => ?_
  refine sp_layAll s1 b2 fun v3 F d1 d2 d3 d4 d5 d6 d7 => hP v3 F (fun c c5 c13 => by rw [d1 c (by omega) (by omega) (by omega) (by omega), b1 c (by omega) (by omega) (by omega), a1 c c5]) (MT_congr (w := v2) (by rw [d1 0 (by decide) (by decide) (by decide) (by decide)]) (fun c h1 h2 => d1 c (by omega) (by omega) (by omega) (by omega)) b2) d2 d3 d4 d5 d6 d7
/-- findOrders under the relation -/
theorem sp_fo (hB : BKok BK) (hk : k < 512) (hr : RYc (PLd BK) k n uF uM) (h : ∀ (v : St) (L W : Nat → Nat) (E : Nat → Nat → Bool), SH v uM n L W E → RYc (PLd BK) k n v uM → (∀ c, c < 12 ∨ 17 < c → v c = uF c) → OR v n L W E → (v 12 8 ≠ v 1 9 → TB v n L W E) → (∀ v' : St, (∀ c, c < 12 ∨ 17 < c → v' c = v c) → (∀ c, c ≠ 12 → c ≠ 14 → c ≠ 17 → v' c = v c) → (∀ i, i ≠ 8 → v' 12 i = v 12 i) → v' 12 8 = v 1 9 → v' 14 0 = v 14 0 → ST v' n L W E → RYc (PLd BK) k n v' uM) → (v 12 8 = v 1 9 → ST v n L W E) → Post 0 v) : wp_X7_findOrders uF Post := by
  obtain ⟨L, W, E, x, x1, x2, hS, hp, hback⟩ := RYc_open hr
  obtain ⟨p1, p2, p3⟩ := hp
  have v8 : ∀ y, y ≤ x → nI y = nI x → y = x := fun y hy e => (nI_eq (by omega) (by omega)).mp e
  have m1 : (-1 : Int32) ≠ nI x := fun e => nI_pos (n := x) (by omega) (by rw [← e]; decide)
  have std : ∀ v : St, OR v n L W E → v 1 9 = nI x → (v 12 2 = -1 ∨ ∃ y, y ≤ x ∧ v 12 2 = nI y ∧ (y = x → BK v n L W E)) → v 12 6 = nI x → (∀ c, c < 12 ∨ 17 < c → v c = uF c) → ∀ v' : St, (∀ c, c < 12 ∨ 17 < c → v' c = v c) → (∀ c, c ≠ 12 → c ≠ 14 → c ≠ 17 → v' c = v c) → (∀ i, i ≠ 8 → v' 12 i = v 12 i) → v' 12 8 = v 1 9 → v' 14 0 = v 14 0 → ST v' n L W E → RYc (PLd BK) k n v' uM := by
    intro v hO h9 h2 h6 hf v' e1 e2 e3 e4 e5 e6
    refine hback v' (fun c hc => by rw [e1 c hc, hf c hc]) ⟨?_, Or.inr ⟨x, Nat.le_refl x, ?_, fun _ => ⟨?_, fun z => absurd (e4.trans h9) z⟩⟩, Or.inr ⟨x, Nat.le_refl x, e4.trans h9, fun _ => e6⟩⟩
    · rw [e3 2 (by decide)]
      rcases h2 with z | ⟨y, y1, y2, y3⟩
      · exact Or.inl z
      · exact Or.inr ⟨y, y1, y2, fun e => hB v v' _ _ _ _ (e3 1 (by decide)) (e2 13 (by decide) (by decide) (by decide)) (y3 e)⟩
    · rw [e3 6 (by decide)]
      exact h6
    · unfold OR
      rw [e5, e2 15 (by decide) (by decide) (by decide), e2 16 (by decide) (by decide) (by decide)]
      exact hO
  refine sp_findOrders hS.1 hS.2.1 (fun e => ?_) (fun e v a1 a2 a3 a4 a5 => ?_)
  · rw [x2] at e
    rcases p2 with z | ⟨y, y1, y2, y3⟩
    · rw [z] at e
      exact absurd e m1
    · obtain ⟨o1, o2⟩ := y3 (v8 y y1 (y2.symm.trans e))
      refine h uF L W E hS hr (fun _ _ => rfl) o1 (fun z => o2 (by rw [← x2]; exact z)) (std uF o1 x2 p1 e (fun _ _ => rfl)) (fun z => ?_)
      rw [x2] at z
      rcases p3 with z' | ⟨y', y1', y2', y3'⟩
      · rw [z'] at z
        exact absurd z m1
      · exact y3' (v8 y' y1' (y2'.symm.trans z))
  · have fr : ∀ c, c < 12 ∨ 17 < c → v c = uF c := fun c hc => a1 c (by omega) (by omega) (by omega) (by omega)
    have v19 : v 1 9 = nI x := by rw [fr 1 (by decide)]; exact x2
    have e12 : ∀ i, i ≠ 6 → v 12 i = uF 12 i := fun i hi => by rw [a2]; exact if_neg hi
    have e126 : v 12 6 = nI x := by rw [a2, x2]; exact if_pos rfl
    have hO : OR v n L W E := ⟨(a3 0 (Nat.two_pow_pos n)).1 Bg_0, a4, a5⟩
    have hSv : SH v uM n L W E := by
      obtain ⟨s1, s2, s3⟩ := hS
      exact ⟨s1, YF_congr (fun c h1 h2 => fr c (by omega)) s2, s3⟩
    have q2 : v 12 2 = -1 ∨ ∃ y, y ≤ x ∧ v 12 2 = nI y ∧ (y = x → BK v n L W E) := by
      rw [e12 2 (by decide)]
      rcases p1 with z | ⟨y, y1, y2, y3⟩
      · exact Or.inl z
      · exact Or.inr ⟨y, y1, y2, fun e => hB uF v _ _ _ _ (e12 1 (by decide)) (a1 13 (by decide) (by decide) (by decide) (by decide)) (y3 e)⟩
    have q8 : v 12 8 = -1 ∨ ∃ y, y ≤ x ∧ v 12 8 = nI y ∧ (y = x → ST v n L W E) := by
      rw [e12 8 (by decide)]
      rcases p3 with z | ⟨y, y1, y2, y3⟩
      · exact Or.inl z
      · refine Or.inr ⟨y, y1, y2, fun e => ?_⟩
        unfold ST
        rw [a1 17 (by decide) (by decide) (by decide) (by decide)]
        exact y3 e
    refine h v L W E hSv (hback v fr ⟨q2, Or.inr ⟨x, Nat.le_refl x, e126, fun _ => ⟨hO, fun _ => a3⟩⟩, q8⟩) fr hO (fun _ => a3) (std v hO v19 q2 e126 fr) (fun z => ?_)
    rw [v19] at z
    rcases q8 with z' | ⟨y', y1', y2', y3'⟩
    · rw [z'] at z
      exact absurd z m1
    · exact y3' (v8 y' y1' (y2'.symm.trans z))
theorem ok_least (hB : BKok BK) : Ok_least (Rel (RYc (PLd BK))) := by
  have hK := PLd_ok hB
  have hY := RYc_ok hK
  intro k uF uM hk h
  obtain ⟨h1, ⟨n, hr, hl⟩, ht, hs⟩ := id h
  unfold wp_X11_least wp_X7_leastCost
  refine sp_fo hB hk hr fun v L W E hS hy fr hO _ _ _ => ⟨by unfold vp_in; decide, ?_⟩
  have hn := hS.1.1
  have hp := p12 hn
  have hp1 : 1 ≤ 2 ^ n := Nat.one_le_two_pow
  unfold wp_X12_least
  refine sp_look hS fun w F b1 b2 b3 b4 b5 b6 b7 b8 => sp_all hn b2.1 ⟨vp_in_nI (by omega) (by decide), ?_, ?_⟩
  · rw [tn_0, cln (i := 2 ^ n - 1) (by omega), hO.1, b3 _ (by omega), b5]
  · exact ((Rel_plan h hl hy fr).mm hY (fun i _ => by rw [b1 0 (by decide) (by decide)]) (fun c _ c5 c13 => b1 c c5 c13)).mono hY
theorem ok_many (hB : BKok BK) : Ok_many (Rel (RYc (PLd BK))) := by
  have hK := PLd_ok hB
  have hY := RYc_ok hK
  intro k uF uM hk h
  obtain ⟨h1, ⟨n, hr, hl⟩, ht, hs⟩ := id h
  unfold wp_X11_many wp_X7_bestOrders
  refine sp_fo hB hk hr fun v L W E hS hy fr hO _ _ _ => ⟨by unfold vp_in; decide, ?_⟩
  have hn := hS.1.1
  have hp := p12 hn
  have hp1 : 1 ≤ 2 ^ n := Nat.one_le_two_pow
  unfold wp_X12_many
  refine sp_look hS fun w F b1 b2 b3 b4 b5 b6 b7 b8 => sp_all hn b2.1 ⟨vp_in_nI (by omega) (by decide), ?_, ?_⟩
  · rw [tn_0, cln (i := 2 ^ n - 1) (by omega), hO.2.1, b6]
  · exact ((Rel_plan h hl hy fr).mm hY (fun i _ => by rw [b1 0 (by decide) (by decide)]) (fun c _ c5 c13 => b1 c c5 c13)).mono hY
end
