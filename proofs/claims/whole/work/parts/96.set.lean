/-! set, lay, free. -/
section
variable {PL : PLt} {k n : Nat} {uF uM w : St} {x1 x2 x3 t0 : Int32} {Post : Int32 → St → Prop}
theorem sp_m50no (hn : n ≤ 12) (h0 : w 0 0 = nI n) (hno : t0 = 0 ∨ ∀ j, j < n → x1 ≠ nI j) (h : Post (-1) (su w 0 14 1)) : wb_X12_set_50 Post x1 x2 x3 t0 w := by
  unfold wb_X12_set_50
  refine sp_isJob hn h0 (fun j hj e => ⟨fun c => absurd c (by decide), fun _ => ⟨fun c => ?_, fun _ => h⟩⟩) (fun _ => ⟨fun _ => h, fun c => absurd rfl c⟩)
  rcases hno with q | q
  · exact absurd q c
  · exact absurd e (q j hj)
theorem sp_mSetNo (hn : n ≤ 12) (h0 : w 0 0 = nI n) (hno : (∀ j, j < n → x1 ≠ nI j) ∨ ∀ q, q < 3 → x2 = nI q → ¬ InR x3 (loN q) (hiN q)) (h : Post (-1) (su w 0 14 1)) : wp_X12_set x1 x2 x3 w Post := by
  unfold wp_X12_set
  have go : ∀ q, q < 3 → x2 = nI q → ∀ lo hi, lo = loN q → hi = hiN q → ∀ r : Int32, (r = 1 → InR x3 lo hi) → (r = 1 ∨ r = 0) → wb_X12_set_50 Post x1 x2 x3 r w := by
    intro q hq e lo hi el eh r hr hr2
    refine sp_m50no hn h0 ?_ h
    rcases hno with z | z
    · exact Or.inr z
    · rcases hr2 with r1 | r0
      · exact absurd (by rw [← el, ← eh]; exact hr r1) (z q hq e)
      · exact Or.inl r0
  refine ⟨fun c0 => ⟨fun c1 => ⟨fun c2 => ?_, fun c2 => ?_⟩, fun c1 => ?_⟩, fun c0 => ?_⟩
  · exact sp_m50no hn h0 (Or.inl rfl) h
  · refine sp_mIn (lo := 0) (hi := 500) (by decide) (by decide) (fun r => ⟨fun c => absurd c (by decide), fun _ => ?_⟩) (fun r => ⟨fun _ => sp_m50no hn h0 (Or.inl rfl) h, fun c => absurd rfl c⟩)
    exact go 2 (by decide) c2 0 500 rfl rfl 1 (fun _ => r) (Or.inl rfl)
  · exact sp_mIn (lo := 0) (hi := 100) (by decide) (by decide) (fun r => go 1 (by decide) c1 0 100 rfl rfl 1 (fun _ => r) (Or.inl rfl)) (fun r => go 1 (by decide) c1 0 100 rfl rfl 0 (fun e => absurd e (by decide)) (Or.inr rfl))
  · exact sp_mIn (lo := 1) (hi := 100) (by decide) (by decide) (fun r => go 0 (by decide) c0 1 100 rfl rfl 1 (fun _ => r) (Or.inl rfl)) (fun r => go 0 (by decide) c0 1 100 rfl rfl 0 (fun e => absurd e (by decide)) (Or.inr rfl))
theorem sp_mSetYes {j q : Nat} (hn : n ≤ 12) (h0 : w 0 0 = nI n) (hj : j < n) (hq : q < 3) (hi : InR x3 (loN q) (hiN q)) (h : ∀ P : Int32 → St → Prop, (∀ v : St, Post (v (1 + q) j) (su (su v (1 + q) j x3) 0 14 0) → P 0 v) → wp_X12_keep w P) : wp_X12_set (nI j) (nI q) x3 w Post := by
  have vj : vp_in (nI j) 12 := vp_in_nI (by omega) (by decide)
  unfold wp_X12_set
  rcases q3 hq with rfl | rfl | rfl
  · refine ⟨fun c => absurd (rfl : nI 0 = 0) c, fun _ => sp_mIn (lo := 1) (hi := 100) (by decide) (by decide) (fun r => ?_) (fun r => absurd hi r)⟩
    unfold wb_X12_set_50
    refine sp_isJob hn h0 (fun _ _ _ => ⟨fun c => absurd c (by decide), fun _ => ⟨fun _ => h _ fun v p => ?_, fun c => absurd c (by decide)⟩⟩) (fun e => absurd rfl (e j hj))
    unfold wb_X12_set_108
    rw [cln (i := j) (by omega)]
    exact ⟨fun c => absurd (rfl : nI 0 = 0) c, fun _ => ⟨vj, fun c => absurd (rfl : nI 0 = 0) c, fun _ => ⟨vj, p⟩⟩⟩
  · refine ⟨fun _ => ⟨fun c => absurd (rfl : nI 1 = 1) c, fun _ => sp_mIn (lo := 0) (hi := 100) (by decide) (by decide) (fun r => ?_) (fun r => absurd hi r)⟩, fun c => absurd c (by decide)⟩
    unfold wb_X12_set_50
    refine sp_isJob hn h0 (fun _ _ _ => ⟨fun c => absurd c (by decide), fun _ => ⟨fun _ => h _ fun v p => ?_, fun c => absurd c (by decide)⟩⟩) (fun e => absurd rfl (e j hj))
    unfold wb_X12_set_108
    rw [cln (i := j) (by omega)]
    exact ⟨fun _ => ⟨fun c => absurd (rfl : nI 1 = 1) c, fun _ => ⟨vj, fun _ => ⟨fun c => absurd (rfl : nI 1 = 1) c, fun _ => ⟨vj, p⟩⟩, fun c => absurd c (by decide)⟩⟩, fun c => absurd c (by decide)⟩
  · refine ⟨fun _ => ⟨fun _ => ⟨fun c => absurd (rfl : nI 2 = 2) c, fun _ => sp_mIn (lo := 0) (hi := 500) (by decide) (by decide) (fun r => ⟨fun c => absurd c (by decide), fun _ => ?_⟩) (fun r => absurd hi r)⟩, fun c => absurd c (by decide)⟩, fun c => absurd c (by decide)⟩
    unfold wb_X12_set_50
    refine sp_isJob hn h0 (fun _ _ _ => ⟨fun c => absurd c (by decide), fun _ => ⟨fun _ => h _ fun v p => ?_, fun c => absurd c (by decide)⟩⟩) (fun e => absurd rfl (e j hj))
    unfold wb_X12_set_108
    rw [cln (i := j) (by omega)]
    exact ⟨fun _ => ⟨fun _ => ⟨vj, fun _ => ⟨fun _ => ⟨vj, p⟩, fun c => absurd c (by decide)⟩, fun c => absurd c (by decide)⟩, fun c => absurd c (by decide)⟩, fun c => absurd c (by decide)⟩
set_option maxHeartbeats 1000000 in
theorem ok_set (hK : PLok PL) : Ok_set (Rel (RYc PL)) := by
  have hY := RYc_ok hK
  intro k a1 a2 a3 uF uM hk h
  obtain ⟨h1, ⟨n, hr, hl⟩, ht, hs⟩ := id h
  obtain ⟨n1, n2, n3, n4⟩ := hY.1 _ _ _ _ hr
  unfold wp_X11_set
  have no : ∀ r : Int32, Rel (RYc PL) (k + 1) (su uF 0 7 r) (su uM 0 14 r) := fun r => (h.st hY r).mono hY
  refine sp_hasJob n1 n2 (fun j hj e => ⟨fun c => absurd c (by decide), fun _ => ?_⟩) (fun hno => ⟨fun _ => ?_, fun c => absurd rfl c⟩)
  · subst e
    refine sp_allowsX (fun q hq e hi => ⟨fun _ => ?_, fun c => absurd c (by decide)⟩) (fun hno => ⟨fun c => absurd rfl c, fun _ => ?_⟩)
    · subst e
      obtain ⟨x, rfl, x1, x2⟩ := id hi
      obtain ⟨c, Y, nx, v, ⟨c1, c2, c3, rfl, c5⟩, f, fv, m, ⟨g1, g2, g3⟩, hh, hsn, hpl⟩ := id hr
      obtain ⟨y1, y2, y3, y4⟩ := c5 c (Nat.le_refl c)
      obtain ⟨T, hT⟩ : ∃ T : YA, T = yA (Y c).n (fun w i => if w = q ∧ i = j then x else (Y c).m w i) (Y c).E := ⟨_, rfl⟩
      have T1 : T.n = (Y c).n := by rw [hT]; rfl
      have T2 : T.E = (Y c).E := by rw [hT]; rfl
      have T3 : ∀ w i, T.m w i = if w = q ∧ i = j then x else (Y c).m w i := fun w i => by rw [hT]; rfl
      have zok : okY T := by
        refine ⟨by omega, fun i hi => ?_, fun a b hab => ?_, ?_⟩
        · obtain ⟨b1, b2, b3, b4⟩ := y2 i (by omega)
          rw [T3, T3, T3]
          by_cases e : i = j
          · rcases q3 hq with rfl | rfl | rfl
            · rw [if_pos ⟨rfl, e⟩, if_neg (by omega), if_neg (by omega)]
              exact ⟨x1, x2, b3, b4⟩
            · rw [if_neg (by omega), if_pos ⟨rfl, e⟩, if_neg (by omega)]
              exact ⟨b1, b2, x2, b4⟩
            · rw [if_neg (by omega), if_neg (by omega), if_pos ⟨rfl, e⟩]
              exact ⟨b1, b2, b3, x2⟩
          · rw [if_neg (fun z => e z.2), if_neg (fun z => e z.2), if_neg (fun z => e z.2)]
            exact ⟨b1, b2, b3, b4⟩
        · rw [T2] at hab
          rw [T1]
          exact y3 a b hab
        · rw [T1, T2]
          exact y4
      unfold wp_X10_measure
      rw [cln (i := q) (by omega), cln (i := j) (by omega)]
      refine ⟨vp_in_nI hq (by decide), vp_in_nI (by omega) (by decide), ?_⟩
      rw [f.2.1 q hq j hj]
      refine sp_measureAnew (T := T) hK hpl f fv y1 hq hj T1 T2 (fun w i e => by rw [T3, if_neg e]) (by rw [T3, if_pos ⟨rfl, rfl⟩]) fun w1 v' hv a1 a2 a3 a4 => ?_
      refine sp_keepF c2 c1 (by rw [a1 20 (by decide)]; exact g1) (by rw [a1 20 (by decide)]; exact g2) fun w2 b1 b2 b3 b4 b5 => ?_
      unfold wp_X11_done
      refine sp_mSetYes n1 n3 hj hq hi fun P hPP => ?_
      refine sp_keepM c1 g3 y1 m (fun i hi => ⟨(c5 i (by omega)).1, hsn i hi⟩) fun v1 d1 d2 d3 d4 => hPP v1 ?_
      have m1 : ∀ x, 1 ≤ x → x ≤ 4 → v1 x = uM x := fun x h1 h4 => d1 x (by omega) (by omega) (by omega)
      refine ⟨by rw [m1 (1 + q) (by omega) (by omega), m.2.1 q hq j hj], Rel_new hK (n := T.n) (RYc_grow (Z := T) (v' := v') c1 c2 (by omega) c5 zok (FY_congr (fun c h1 h2 => b1 c (by omega)) a3) (by rw [b1 1 (by decide)]; exact a2) ⟨?_, fun q' hq' i hi => ?_, fun b hb a ha => ?_⟩ b2 b3 ?_ hh (Or.inr (Or.inl ⟨rfl, T1, T2, j, q, hj, hq, rfl, rfl, rfl, fun w i e => by rw [T3, if_neg e]⟩)) b4 (fun x x1 x2 i hi => by rw [b5 x x1 x2 i hi, a1 x (by omega)]) (fun i hi => ?_) ?_) ?_ ?_ ?_ 0⟩
      · rw [su_n _ _ _ (by omega), d2 0 (by decide), T1]
        exact m.1
      · rw [T3, su_rd]
        by_cases e : q' = q ∧ i = j
        · rw [if_pos ⟨by omega, e.2⟩, if_pos e]
        · rw [if_neg (fun z => e ⟨by omega, z.2⟩), if_neg e, m1 (1 + q') (by omega) (by omega)]
          exact m.2.1 q' hq' i (by omega)
      · rw [su_n _ _ _ (by omega), m1 4 (by decide) (by decide), T2]
        exact m.2.2 b (by omega) a ha
      · rw [su_n _ _ _ (by omega)]
        exact d3
      · exact SN_congr (u := v1) (su_n _ _ _ (by omega)) (su_n _ _ _ (by omega)) (d4 i hi)
      · exact hK.1 _ _ _ _ _ _ _ (fun x h1 h2 => b1 x (by omega)) a4
      · exact hl.mono (by omega) (by rw [b1 18 (by decide), a1 18 (by decide)]) (by rw [b1 19 (by decide), a1 19 (by decide)]) (by rw [su_n _ _ _ (by omega), d2 7 (by decide)]) (by rw [su_n _ _ _ (by omega), d1 6 (by decide) (by decide) (by decide)])
      · exact ht.cg (by rw [b1 25 (by decide), a1 25 (by decide)]) (by rw [b1 26 (by decide), a1 26 (by decide)]) (by rw [su_n _ _ _ (by omega), d2 16 (by decide)]) (by rw [su_n _ _ _ (by omega), d1 12 (by decide) (by decide) (by decide)])
      · exact hs.cg (fun x hx => by rw [b1 x (by omega), a1 x (by omega)]) (fun x h1 h2 => by rw [su_n _ _ _ (by omega), d1 x (by omega) (by omega) (by omega)])
    · unfold wp_X11_refused
      exact sp_mSetNo n1 n3 (Or.inr hno) ⟨rfl, no 1⟩
  · unfold wp_X11_refused
    exact sp_mSetNo n1 n3 (Or.inl hno) ⟨rfl, no 1⟩
end
