/-! job, set, lay, free: a change on both sides. -/
def InR (x : Int32) (lo hi : Nat) : Prop := ∃ j, x = nI j ∧ lo ≤ j ∧ j ≤ hi
def loN (q : Nat) : Nat := if q = 0 then 1 else 0
def hiN (q : Nat) : Nat := if q = 2 then 500 else 100
section
variable {PL : PLt} {k n lo hi q : Nat} {x y : Int32} {u w uF uM vF vM : St} {Post : Int32 → St → Prop}
theorem InR_iff (hlo : lo < 2 ^ 20) (hhi : hi < 2 ^ 20) : (¬ x < nI lo ∧ ¬ nI hi < x) ↔ InR x lo hi := by
  constructor
  · rintro ⟨h1, h2⟩
    rw [Int32.lt_iff_toInt_lt, nI_toInt (by omega)] at h1 h2
    have h0 : ¬ x < 0 := fun c => by
      rw [Int32.lt_iff_toInt_lt] at c
      have : (0 : Int32).toInt = 0 := rfl
      omega
    obtain ⟨j, hj, rfl⟩ := nI_of h0
    rw [nI_toInt hj] at h1 h2
    exact ⟨j, rfl, by omega, by omega⟩
  · rintro ⟨j, rfl, h1, h2⟩
    exact ⟨nI_nlt h1 (by omega), nI_nlt h2 (by omega)⟩
theorem sp_mIn (hlo : lo < 2 ^ 20) (hhi : hi < 2 ^ 20) (h1 : InR x lo hi → Post 1 w) (h0 : ¬ InR x lo hi → Post 0 w) : wp_X12_in x (nI lo) (nI hi) w Post := by
  unfold wp_X12_in
  exact ⟨fun c => h0 fun q => ((InR_iff hlo hhi).mpr q).1 c, fun c => ⟨fun d => h0 fun q => ((InR_iff hlo hhi).mpr q).2 d, fun d => h1 ((InR_iff hlo hhi).mp ⟨c, d⟩)⟩⟩
theorem q3 (h : q < 3) : q = 0 ∨ q = 1 ∨ q = 2 := by omega
theorem loT_N (h : q < 3) : loT q = nI (loN q) := by rcases q3 h with rfl | rfl | rfl <;> rfl
theorem hiT_N (h : q < 3) : hiT q = nI (hiN q) := by rcases q3 h with rfl | rfl | rfl <;> rfl
theorem lh_N (h : q < 3) : loN q < 2 ^ 20 ∧ hiN q < 2 ^ 20 := by rcases q3 h with rfl | rfl | rfl <;> decide
theorem sp_allows (hq : q < 3) (h1 : InR x (loN q) (hiN q) → Post 1 u) (h0 : ¬ InR x (loN q) (hiN q) → Post 0 u) : wp_X10_allows (nI q) x u Post := by
  unfold wp_X10_allows
  rw [cln (i := q) (by omega), loT_N hq, hiT_N hq]
  obtain ⟨hlo, hhi⟩ := lh_N hq
  have vq : vp_in (nI q) 3 := vp_in_nI hq (by decide)
  refine ⟨fun c => absurd c (nI_pos (by omega)), fun _ => ⟨fun c => absurd c (nI_nlt (a := 2) (b := q) (by omega) (by omega)), fun _ => ⟨vq, fun c => h0 fun q => ((InR_iff hlo hhi).mpr q).1 c, fun c => ⟨vq, fun d => h0 fun q => ((InR_iff hlo hhi).mpr q).2 d, fun d => h1 ((InR_iff hlo hhi).mp ⟨c, d⟩)⟩⟩⟩⟩
theorem sp_allowsX (h1 : ∀ q, q < 3 → y = nI q → InR x (loN q) (hiN q) → Post 1 u) (h0 : (∀ q, q < 3 → y = nI q → ¬ InR x (loN q) (hiN q)) → Post 0 u) : wp_X10_allows y x u Post := by
  by_cases e : ∃ q, q < 3 ∧ y = nI q
  · obtain ⟨q, hq, rfl⟩ := e
    refine sp_allows hq (fun r => h1 q hq rfl r) (fun r => h0 fun q' hq' e => ?_)
    have : q = q' := (nI_eq (by omega) (by omega)).mp e
    rw [← this]
    exact r
  · have h0' : Post 0 u := h0 fun q hq e' => absurd ⟨q, hq, e'⟩ e
    unfold wp_X10_allows
    refine ⟨fun _ => h0', fun c => ⟨fun _ => h0', fun d => ?_⟩⟩
    obtain ⟨j, hj, rfl⟩ := nI_of c
    refine absurd ⟨j, ?_, rfl⟩ e
    rcases Nat.lt_or_ge j 3 with z | z
    · exact z
    · exact absurd (nI_lt (a := 2) (b := j) (by omega) hj) d
theorem RLn.mono {n' : Nat} (hn : n ≤ n') (e1 : vF 18 = uF 18) (e2 : vF 19 = uF 19) (e3 : vM 0 7 = uM 0 7) (e4 : vM 6 = uM 6) (h : RLn n uF uM) : RLn n' vF vM := by
  obtain ⟨z, h3, h4, h5, h6, h7⟩ := h
  refine ⟨z, h3, by rw [e1]; exact h4, by rw [e3]; exact h5, fun i hi => ?_, by rw [e2]; exact h7⟩
  obtain ⟨o, o1, o2, o3⟩ := h6 i hi
  exact ⟨o, by omega, by rw [e2]; exact o2, by rw [e4]; exact o3⟩
theorem RTr.cg (e1 : vF 25 = uF 25) (e2 : vF 26 = uF 26) (e3 : vM 0 16 = uM 0 16) (e4 : vM 12 = uM 12) (h : RTr uF uM) : RTr vF vM := by
  obtain ⟨t, t1, t2, t3, t4⟩ := h
  exact ⟨t, t1, by rw [e1]; exact t2, by rw [e3]; exact t3, by rw [e2, e4]; exact t4⟩
theorem RSh.cg (e1 : ∀ c, 33 < c → vF c = uF c) (e2 : ∀ c, 8 < c → c < 12 → vM c = uM c) (h : RSh uF uM) : RSh vF vM := by
  intro s hs
  rw [e1 _ (by omega), e1 _ (by omega), e2 9 (by decide) (by decide), e2 10 (by decide) (by decide), e2 11 (by decide) (by decide)]
  exact h s hs
theorem Rel_new (hK : PLok PL) (hy : RYc PL k n vF vM) (hl : RLn n vF vM) (ht : RTr vF vM) (hs : RSh vF vM) (r : Int32) : Rel (RYc PL) k (su vF 0 7 r) (su vM 0 14 r) := by
  have f : ∀ c, c ≠ 0 → su vF 0 7 r c = vF c := fun c hc => su_n _ _ _ hc
  have m : ∀ c, c ≠ 0 → su vM 0 14 r c = vM c := fun c hc => su_n _ _ _ hc
  refine ⟨by rw [su_at, su_at], ⟨n, (RYc_ok hK).2.2 _ _ _ _ _ _ (fun c h _ _ _ _ _ => f c h) (su_ne _ _ (by decide)) (su_ne _ _ (by decide)) (fun c h _ _ _ => m c h) hy, hl.mono (Nat.le_refl n) (f 18 (by decide)) (f 19 (by decide)) (su_ne _ _ (by decide)) (m 6 (by decide))⟩, ht.cg (f 25 (by decide)) (f 26 (by decide)) (su_ne _ _ (by decide)) (m 12 (by decide)), hs.cg (fun c hc => f c (by omega)) (fun c hc _ => m c (by omega))⟩
theorem MY_congr {Y : YA} (h0 : vM 0 0 = uM 0 0) (h : ∀ c, 1 ≤ c → c ≤ 4 → vM c = uM c) (hM : MY Y uM) : MY Y vM := by
  obtain ⟨m1, m2, m3⟩ := hM
  refine ⟨h0.trans m1, fun q hq j hj => ?_, ?_⟩
  · rw [h (1 + q) (by omega) (by omega)]
    exact m2 q hq j hj
  · rw [h 4 (by decide) (by decide)]
    exact m3
end
section
variable {PL : PLt} {k n : Nat} {uF uM : St} {Post : Int32 → St → Prop}
set_option maxHeartbeats 1000000 in
/-- a job comes, on both sides -/
theorem sp_bring (hK : PLok PL) (h : Rel (RYc PL) k uF uM) (hr : RYc PL k n uF uM) (hl : RLn n uF uM) {l g : Nat} (hn : n < 12) (hl1 : 1 ≤ l) (hl2 : l ≤ 100) (hg : g ≤ 100) (hp : ∀ r u', wp_X12_made (nI l) (nI g) uM (fun r2 uM2 => r = r2 ∧ Rel (RYc PL) (k + 1) u' uM2) → Post r u') : wp_X11_bringJob (nI l) (nI g) uF (fun r u => wp_X11_done r u Post) := by
  obtain ⟨_, _, ht, hs⟩ := h
  obtain ⟨c, Y, nx, v, ⟨c1, c2, c3, rfl, c5⟩, f, fv, m, ⟨g1, g2, g3⟩, hh, hsn, hpl⟩ := hr
  obtain ⟨y1, y2, y3, y4⟩ := c5 c (Nat.le_refl c)
  obtain ⟨N, hN⟩ : ∃ N, N = (Y c).n := ⟨_, rfl⟩
  obtain ⟨T, hT⟩ : ∃ T : YA, T = yA (N + 1) (fun w j => if j = N then (if w = 0 then l else if w = 1 then g else 0) else (Y c).m w j) (Y c).E := ⟨_, rfl⟩
  have T1 : T.n = N + 1 := by rw [hT]; rfl
  have T2 : T.E = (Y c).E := by rw [hT]; rfl
  have T3 : ∀ w j, T.m w j = if j = N then (if w = 0 then l else if w = 1 then g else 0) else (Y c).m w j := fun w j => by rw [hT]; rfl
  have zok : okY T := by
    refine ⟨by omega, fun j hj => ?_, fun a b hab => ?_, ?_⟩
    · rw [T3, T3, T3]
      by_cases e : j = N
      · rw [if_pos e, if_pos e, if_pos e]
        exact ⟨hl1, hl2, hg, Nat.zero_le _⟩
      · rw [if_neg e, if_neg e, if_neg e]
        exact y2 j (by omega)
    · rw [T2] at hab
      have := y3 a b hab
      omega
    · rw [T1, T2, hN]
      exact ac_more y3 y4
  unfold wp_X11_bringJob
  refine sp_add (T := T) f fv hn (by omega) T2 (fun w j hj => by rw [T3, if_neg (by omega)]) (by rw [T3, if_pos hN.symm, if_pos rfl]) (by rw [T3, if_pos hN.symm, if_neg (by decide), if_pos rfl]) (by rw [T3, if_pos hN.symm, if_neg (by decide), if_neg (by decide)]) fun w1 a1 a2 a3 => ?_
  refine sp_keepF c2 c1 (by rw [a1 20 (by decide)]; exact g1) (by rw [a1 20 (by decide)]; exact g2) fun w2 b1 b2 b3 b4 b5 => ?_
  refine hp _ _ ?_
  unfold wp_X12_made
  refine sp_keepM c1 g3 y1 m (fun i hi => ⟨(c5 i (by omega)).1, hsn i hi⟩) fun v1 d1 d2 d3 d4 => ?_
  have d0 : v1 0 0 = nI N := by rw [d2 0 (by decide), m.1, hN]
  have r : ∀ (s : St) (k j : Nat) (x : Int32), k ≠ 0 → su s k j x 0 0 = s 0 0 := fun s k j x hk => by rw [su_n _ _ _ (fun e => hk e.symm)]
  simp only [r _ 1 _ _ (by decide), r _ 2 _ _ (by decide), r _ 3 _ _ (by decide), r _ 4 _ _ (by decide), d0, cln (i := N) (by omega), su_at, nI_1, nI_pred]
  have vn : vp_in (nI N) 12 := vp_in_nI (by omega) (by decide)
  have m1 : ∀ x, 1 ≤ x → x ≤ 4 → v1 x = uM x := fun x h1 h4 => d1 x (by omega) (by omega) (by omega)
  refine ⟨vn, vn, vn, vn, by rw [hN], Rel_new hK (n := T.n) (RYc_grow (Z := T) (v' := v + 1) c1 c2 (by omega) c5 zok ?_ ?_ ⟨?_, fun q hq j hj => ?_, fun b hb a ha => ?_⟩ b2 b3 ?_ hh (Or.inl ⟨rfl, by omega, T2, fun w j hj => by rw [T3, if_neg (by omega)]⟩) b4 (fun x x1 x2 i hi => by rw [b5 x x1 x2 i hi, a1 x (by omega)]) (fun i hi => ?_) ?_) ?_ ?_ ?_ 0⟩
  · exact FY_congr (fun c h1 h2 => b1 c (by omega)) a3
  · rw [b1 1 (by decide)]
    exact a2
  · rw [su_at, T1]
  · rw [T3]
    by_cases e : j = N
    · rw [if_pos e, e]
      rcases q3 hq with rfl | rfl | rfl
      · simp only [su_rd]
        simp
      · simp only [su_rd]
        simp
      · simp only [su_rd]
        simp [nI_0]
    · rw [if_neg e]
      have hj2 : j < (Y c).n := by omega
      rcases q3 hq with rfl | rfl | rfl
      · have := m.2.1 0 (by decide) j hj2
        rw [← m1 (1 + 0) (by decide) (by decide)] at this
        simp only [su_rd]
        simpa [e] using this
      · have := m.2.1 1 (by decide) j hj2
        rw [← m1 (1 + 1) (by decide) (by decide)] at this
        simp only [su_rd]
        simpa [e] using this
      · have := m.2.1 2 (by decide) j hj2
        rw [← m1 (1 + 2) (by decide) (by decide)] at this
        simp only [su_rd]
        simpa [e] using this
  · rw [su_n _ _ _ (by decide), su_rd]
    by_cases e : b = N
    · rw [if_pos ⟨rfl, e⟩, b_0, T2]
      cases q : (Y c).E a b
      · rfl
      · have := y3 a b q
        omega
    · rw [if_neg (fun z => e z.2), su_n _ _ _ (by decide), su_n _ _ _ (by decide), su_n _ _ _ (by decide), m1 4 (by decide) (by decide), T2]
      exact m.2.2 b (by omega) a ha
  · rw [su_ne _ _ (by decide), su_n _ _ _ (by decide), su_n _ _ _ (by decide), su_n _ _ _ (by decide), su_n _ _ _ (by decide)]
    exact d3
  · exact SN_congr (u := v1) (by rw [su_n _ _ _ (by decide), su_n _ _ _ (by decide), su_n _ _ _ (by decide), su_n _ _ _ (by decide), su_n _ _ _ (by decide)]) (by rw [su_n _ _ _ (by decide), su_n _ _ _ (by decide), su_n _ _ _ (by decide), su_n _ _ _ (by decide), su_n _ _ _ (by decide)]) (d4 i hi)
  · refine hK.2 _ _ _ _ _ _ _ _ _ _ (hK.1 _ _ _ _ _ uF _ (fun x h1 h2 => ?_) hpl)
    rw [b1 x (by omega), a1 x (by omega)]
  · refine hl.mono (by omega) (by rw [b1 18 (by decide), a1 18 (by decide)]) (by rw [b1 19 (by decide), a1 19 (by decide)]) ?_ ?_
    · rw [su_ne _ _ (by decide), su_n _ _ _ (by decide), su_n _ _ _ (by decide), su_n _ _ _ (by decide), su_n _ _ _ (by decide), d2 7 (by decide)]
    · rw [su_n _ _ _ (by decide), su_n _ _ _ (by decide), su_n _ _ _ (by decide), su_n _ _ _ (by decide), su_n _ _ _ (by decide), d1 6 (by decide) (by decide) (by decide)]
  · refine ht.cg (by rw [b1 25 (by decide), a1 25 (by decide)]) (by rw [b1 26 (by decide), a1 26 (by decide)]) ?_ ?_
    · rw [su_ne _ _ (by decide), su_n _ _ _ (by decide), su_n _ _ _ (by decide), su_n _ _ _ (by decide), su_n _ _ _ (by decide), d2 16 (by decide)]
    · rw [su_n _ _ _ (by decide), su_n _ _ _ (by decide), su_n _ _ _ (by decide), su_n _ _ _ (by decide), su_n _ _ _ (by decide), d1 12 (by decide) (by decide) (by decide)]
  · refine hs.cg (fun x hx => by rw [b1 x (by omega), a1 x (by omega)]) (fun x h1 h2 => ?_)
    rw [su_n _ _ _ (by omega), su_n _ _ _ (by omega), su_n _ _ _ (by omega), su_n _ _ _ (by omega), su_n _ _ _ (by omega), d1 x (by omega) (by omega) (by omega)]
theorem ok_job (hK : PLok PL) : Ok_job (Rel (RYc PL)) := by
  have hY := RYc_ok hK
  intro k a1 a2 uF uM hk h
  obtain ⟨h1, ⟨n, hr, hl⟩, ht, hs⟩ := id h
  obtain ⟨n1, n2, n3, n4⟩ := hY.1 _ _ _ _ hr
  unfold wp_X11_job
  have no : ∀ r : Int32, Rel (RYc PL) (k + 1) (su uF 0 7 r) (su uM 0 14 r) := fun r => (h.st hY r).mono hY
  refine sp_allows (q := 0) (by decide) (fun q => ⟨fun c => absurd c (by decide), fun _ => ?_⟩) (fun q => ⟨fun _ => ?_, fun c => absurd rfl c⟩)
  · refine sp_allows (q := 1) (by decide) (fun q2 => ⟨fun _ => ?_, fun c => absurd c (by decide)⟩) (fun q2 => ⟨fun c => absurd rfl c, fun _ => ?_⟩)
    · unfold wp_X10_isFull
      rw [n2]
      obtain ⟨l, rfl, l1, l2⟩ := id q
      obtain ⟨g, rfl, g1, g2⟩ := id q2
      refine pk_lt n 12 (fun c => ⟨fun _ => ?_, fun c => absurd rfl c⟩) (fun c => ⟨fun c => absurd c (by decide), fun _ => ?_⟩)
      · refine sp_bring hK h hr hl c l1 l2 g2 fun r u' hm => ?_
        unfold wp_X12_job
        refine sp_mIn (lo := 1) (hi := 100) (by decide) (by decide) (fun _ => ⟨fun c => absurd c (by decide), fun _ => ?_⟩) (fun q' => absurd q q')
        refine sp_mIn (lo := 0) (hi := 100) (by decide) (by decide) (fun _ => ⟨fun _ => ?_, fun c => absurd c (by decide)⟩) (fun q' => absurd q2 q')
        refine ⟨fun _ => hm, fun c' => ?_⟩
        rw [n3] at c'
        have := (nI_eq (a := n) (b := 12) (by omega) (by omega)).mp c'
        omega
      · unfold wp_X11_refused wp_X12_job
        refine sp_mIn (lo := 1) (hi := 100) (by decide) (by decide) (fun _ => ⟨fun c => absurd c (by decide), fun _ => ?_⟩) (fun q' => absurd q q')
        refine sp_mIn (lo := 0) (hi := 100) (by decide) (by decide) (fun _ => ⟨fun _ => ?_, fun c => absurd c (by decide)⟩) (fun q' => absurd q2 q')
        refine ⟨fun c' => absurd ?_ c', fun _ => ⟨rfl, no 2⟩⟩
        rw [n3, show n = 12 by omega]
        rfl
    · unfold wp_X11_refused wp_X12_job
      refine sp_mIn (lo := 1) (hi := 100) (by decide) (by decide) (fun _ => ⟨fun c => absurd c (by decide), fun _ => ?_⟩) (fun q' => absurd q q')
      exact sp_mIn (lo := 0) (hi := 100) (by decide) (by decide) (fun q' => absurd q' q2) (fun _ => ⟨fun c => absurd rfl c, fun _ => ⟨rfl, no 1⟩⟩)
  · unfold wp_X11_refused wp_X12_job
    exact sp_mIn (lo := 1) (hi := 100) (by decide) (by decide) (fun q' => absurd q' q) (fun _ => ⟨fun _ => ⟨rfl, no 1⟩, fun c => absurd rfl c⟩)
end
