/-! lay, free. -/
section
variable {PL : PLt} {k n : Nat} {uF uM w : St} {Post : Int32 → St → Prop}
set_option maxHeartbeats 2000000 in
theorem ok_lay (hK : PLok PL) : Ok_lay (Rel (RYc PL)) := by
  have hY := RYc_ok hK
  have hV : View (RYc PL) := RYc_view
  intro k a1 a2 uF uM hk h
  obtain ⟨h1, ⟨n, hr, hl⟩, ht, hs⟩ := id h
  obtain ⟨n1, n2, n3, n4⟩ := hY.1 _ _ _ _ hr
  unfold wp_X11_lay
  refine sp_hasJob n1 n2 (fun a ha e => ⟨fun c => absurd c (by decide), fun _ => ?_⟩) (fun hno => ⟨fun _ => ?_, fun c => absurd rfl c⟩)
  · subst e
    refine sp_hasJob n1 n2 (fun b hb e => ⟨fun _ => ?_, fun c => absurd c (by decide)⟩) (fun hno => ⟨fun c => absurd rfl c, fun _ => ?_⟩)
    · subst e
      obtain ⟨c, Y, nx, v, ⟨c1, c2, c3, rfl, c5⟩, f, fv, m, ⟨g1, g2, g3⟩, hh, hsn, hpl⟩ := id hr
      obtain ⟨y1, y2, y3, y4⟩ := c5 c (Nat.le_refl c)
      have hD := f.2.2.2.2.1
      have va : vp_in (nI a) 12 := vp_in_nI (by omega) (by decide)
      have vb : vp_in (nI b) 12 := vp_in_nI (by omega) (by decide)
      have hM : ∀ (r : Int32) (u' : St), ((a = b ∨ (Y c).E a b = true ∨ Pc (Y c).E (Y c).n b a = true) → r = -1 ∧ u' = su uF 0 7 3) → (a ≠ b → (Y c).E a b = false → Pc (Y c).E (Y c).n b a = false → ∀ v, (∀ x, x ≠ 5 → v x = uM x) → wp_X12_keep v (fun _ u64 => vp_in (nI b) 12 ∧ (vp_in (nI b) 12 ∧ (wp_X12_done (1 : Int32) (su u64 4 (Int32.toNatClampNeg (nI b)) ((u64 4 (Int32.toNatClampNeg (nI b))) ||| ((1 : Int32) <<< (nI a &&& 31)))) (fun r81 u81 => r = r81 ∧ Rel (RYc PL) (k + 1) u' u81))))) → wp_X12_lay (nI a) (nI b) uM (fun r2 uM2 => r = r2 ∧ Rel (RYc PL) (k + 1) u' uM2) := by
        intro r u' hno hyes
        unfold wp_X12_lay
        refine sp_isJob n1 n3 (fun _ _ _ => ⟨fun c => absurd c (by decide), fun _ => ?_⟩) (fun hno => absurd rfl (hno a ha))
        refine sp_isJob n1 n3 (fun _ _ _ => ⟨fun _ => ?_, fun c => absurd c (by decide)⟩) (fun hno => absurd rfl (hno b hb))
        refine sp_cl hY hV hr fun v e1 e2 => ?_
        have hR : Rel (RYc PL) (k + 1) (su uF 0 7 3) (su v 0 14 3) := (((h.closed hY e1).st hY 3).mono hY)
        have fin : (a = b ∨ (Y c).E a b = true ∨ Pc (Y c).E (Y c).n b a = true) → r = -1 ∧ Rel (RYc PL) (k + 1) u' (su v 0 14 3) := fun q => by
          obtain ⟨q1, q2⟩ := hno q
          rw [q2]
          exact ⟨q1, hR⟩
        refine ⟨fun e => fin (Or.inl ((nI_eq (by omega) (by omega)).mp e)), fun e => ⟨vb, ?_⟩⟩
        rw [cln (i := b) (by omega), cln (i := a) (by omega), e1 4 (by decide)]
        refine sp_has (by omega) ?_
        rw [m.2.2 b hb a (by omega)]
        by_cases q : (Y c).E a b = true
        · rw [if_pos q]
          exact ⟨fun _ => fin (Or.inr (Or.inl q)), fun c => absurd c (by decide)⟩
        · rw [if_neg q]
          refine ⟨fun c => absurd rfl c, fun _ => ⟨va, ?_⟩⟩
          rw [e2 a ha]
          refine sp_has (by omega) ?_
          rw [hD.2.1 a ha b (by omega), decide_eq_true hb, Bool.true_and]
          by_cases q2 : Pc (Y c).E (Y c).n b a = true
          · rw [if_pos q2]
            exact ⟨fun c => absurd c (by decide), fun _ => fin (Or.inr (Or.inr q2))⟩
          · rw [if_neg q2]
            refine ⟨fun _ => ?_, fun c => absurd rfl c⟩
            have := hyes (fun z => e (by rw [z])) (by simpa using q) (by simpa using q2) v e1
            rw [cln (i := b) (by omega)] at this
            exact this
      have bad : ∀ (P : Int32 → St → Prop), (∀ r u', P r u' ↔ wp_X12_lay (nI a) (nI b) uM (fun r2 uM2 => r = r2 ∧ Rel (RYc PL) (k + 1) u' uM2)) → (a = b ∨ (Y c).E a b = true ∨ Pc (Y c).E (Y c).n b a = true) → P (-1) (su uF 0 7 3) := by
        intro P hP q
        refine (hP _ _).mpr (hM (-1) _ (fun _ => ⟨rfl, rfl⟩) (fun z1 z2 z3 => ?_))
        rcases q with q | q | q
        · exact absurd q z1
        · rw [z2] at q
          cases q
        · rw [z3] at q
          cases q
      refine ⟨fun e => bad _ (fun _ _ => Iff.rfl) (Or.inl ((nI_eq (by omega) (by omega)).mp e)), fun e => ?_⟩
      have hne : a ≠ b := fun z => e (by rw [z])
      unfold wp_X10_isLaid
      rw [cln (i := a) (by omega)]
      refine ⟨va, sp_hasBit (by omega) ?_⟩
      rw [f.2.2.1 a (by omega) b (by omega)]
      by_cases q : (Y c).E a b = true
      · rw [if_pos q]
        exact ⟨Or.inr rfl, fun _ => bad _ (fun _ _ => Iff.rfl) (Or.inr (Or.inl q)), fun c => absurd c (by decide)⟩
      · rw [if_neg q]
        refine ⟨Or.inl rfl, fun c => absurd rfl c, fun _ => ?_⟩
        unfold wp_X10_isAhead
        rw [cln (i := b) (by omega)]
        refine ⟨vb, sp_hasBit (by omega) ?_⟩
        rw [hD.1 b hb a (by omega)]
        by_cases q2 : Pc (Y c).E (Y c).n b a = true
        · rw [if_pos q2]
          exact ⟨Or.inr rfl, fun c => absurd c (by decide), fun _ => bad _ (fun _ _ => Iff.rfl) (Or.inr (Or.inr q2))⟩
        · rw [if_neg q2]
          refine ⟨Or.inl rfl, fun _ => ?_, fun c => absurd rfl c⟩
          have q' : (Y c).E a b = false := by simpa using q
          have q2' : Pc (Y c).E (Y c).n b a = false := by simpa using q2
          obtain ⟨T, hT⟩ : ∃ T : YA, T = yA (Y c).n (Y c).m (fun i j => (Y c).E i j || (decide (i = a) && decide (j = b))) := ⟨_, rfl⟩
          have T1 : T.n = (Y c).n := by rw [hT]; rfl
          have T2 : T.m = (Y c).m := by rw [hT]; rfl
          have T3 : ∀ i j, T.E i j = ((Y c).E i j || (decide (i = a) && decide (j = b))) := fun i j => by rw [hT]; rfl
          have zok : okY T := by
            refine ⟨by omega, fun j hj => ?_, fun i j hij => ?_, ?_⟩
            · rw [T2]
              exact y2 j (by omega)
            · rw [T3, Bool.or_eq_true, Bool.and_eq_true, decide_eq_true_eq, decide_eq_true_eq] at hij
              rw [T1]
              rcases hij with z | ⟨z1, z2⟩
              · exact y3 i j z
              · omega
            · rw [T1]
              exact ac_bind y3 y4 hne q2' T3
          refine sp_bind (T := T) f fv y1 ha hb q' T1 T2 T3 fun w1 a1 a2 a3 => ?_
          refine sp_keepF c2 c1 (by rw [a1 20 (by decide)]; exact g1) (by rw [a1 20 (by decide)]; exact g2) fun w2 b1 b2 b3 b4 b5 => ?_
          unfold wp_X11_done
          refine hM 1 _ (fun z => ?_) (fun _ _ _ v0 e0 => ?_)
          · rcases z with z | z | z
            · exact absurd z hne
            · exact absurd z q
            · exact absurd z q2
          · refine sp_keepM (Y := Y) c1 (by rw [e0 0 (by decide)]; exact g3) y1 (MY_congr (uM := uM) (by rw [e0 0 (by decide)]) (fun x h1 h4 => e0 x (by omega)) m) (fun i hi => ⟨(c5 i (by omega)).1, SN_congr (u := uM) (e0 7 (by decide)) (e0 8 (by decide)) (hsn i hi)⟩) fun v1 d1 d2 d3 d4 => ⟨vb, vb, rfl, ?_⟩
            rw [cln (i := b) (by omega)]
            have m1 : ∀ x, 1 ≤ x → x ≤ 4 → v1 x = uM x := fun x h1 h4 => by rw [d1 x (by omega) (by omega) (by omega), e0 x (by omega)]
            refine Rel_new hK (n := T.n) (RYc_grow (Z := T) (v' := v + 1) c1 c2 (by omega) c5 zok (FY_congr (fun c h1 h2 => b1 c (by omega)) a3) (by rw [b1 1 (by decide)]; exact a2) ⟨?_, fun q' hq' i hi => ?_, fun j hj i hi => ?_⟩ b2 b3 ?_ hh (Or.inr (Or.inr (Or.inl ⟨rfl, T1, T2, a, b, ha, hb, rfl, rfl, q', T3⟩))) b4 (fun x x1 x2 i hi => by rw [b5 x x1 x2 i hi, a1 x (by omega)]) (fun i hi => ?_) ?_) ?_ ?_ ?_ 0
            · rw [su_n _ _ _ (by decide), d2 0 (by decide), e0 0 (by decide), T1]
              exact m.1
            · rw [su_n _ _ _ (by omega), m1 (1 + q') (by omega) (by omega), T2]
              exact m.2.1 q' hq' i (by omega)
            · rw [su_rd, T3]
              by_cases e : j = b
              · rw [if_pos ⟨rfl, e⟩, b_or, bt_1shl (by omega) hi, m1 4 (by decide) (by decide), m.2.2 b hb i hi, e]
                simp
              · rw [if_neg (fun z => e z.2), m1 4 (by decide) (by decide), m.2.2 j (by omega) i hi, decide_eq_false e]
                simp
            · rw [su_n _ _ _ (by decide)]
              exact d3
            · exact SN_congr (u := v1) (su_n _ _ _ (by decide)) (su_n _ _ _ (by decide)) (d4 i hi)
            · refine hK.2 _ _ _ _ _ _ _ _ _ _ (hK.1 _ _ _ _ _ uF _ (fun x h1 h2 => ?_) hpl)
              rw [b1 x (by omega), a1 x (by omega)]
            · exact hl.mono (by omega) (by rw [b1 18 (by decide), a1 18 (by decide)]) (by rw [b1 19 (by decide), a1 19 (by decide)]) (by rw [su_n _ _ _ (by decide), d2 7 (by decide), e0 0 (by decide)]) (by rw [su_n _ _ _ (by decide), d1 6 (by decide) (by decide) (by decide), e0 6 (by decide)])
            · exact ht.cg (by rw [b1 25 (by decide), a1 25 (by decide)]) (by rw [b1 26 (by decide), a1 26 (by decide)]) (by rw [su_n _ _ _ (by decide), d2 16 (by decide), e0 0 (by decide)]) (by rw [su_n _ _ _ (by decide), d1 12 (by decide) (by decide) (by decide), e0 12 (by decide)])
            · exact hs.cg (fun x hx => by rw [b1 x (by omega), a1 x (by omega)]) (fun x h1 h2 => by rw [su_n _ _ _ (by omega), d1 x (by omega) (by omega) (by omega), e0 x (by omega)])
    · unfold wp_X11_refused wp_X12_lay
      refine sp_isJob n1 n3 (fun _ _ _ => ⟨fun c => absurd c (by decide), fun _ => ?_⟩) (fun hno => absurd rfl (hno a ha))
      exact sp_isJob n1 n3 (fun j hj e => absurd e (hno j hj)) (fun _ => ⟨fun c => absurd rfl c, fun _ => ⟨rfl, (h.st hY 1).mono hY⟩⟩)
  · unfold wp_X11_refused wp_X12_lay
    exact sp_isJob n1 n3 (fun j hj e => absurd e (hno j hj)) (fun _ => ⟨fun _ => ⟨rfl, (h.st hY 1).mono hY⟩, fun c => absurd rfl c⟩)
set_option maxHeartbeats 2000000 in
theorem ok_free (hK : PLok PL) : Ok_free (Rel (RYc PL)) := by
  have hY := RYc_ok hK
  intro k a1 a2 uF uM hk h
  obtain ⟨h1, ⟨n, hr, hl⟩, ht, hs⟩ := id h
  obtain ⟨n1, n2, n3, n4⟩ := hY.1 _ _ _ _ hr
  unfold wp_X11_free
  refine sp_hasJob n1 n2 (fun a ha e => ⟨fun c => absurd c (by decide), fun _ => ?_⟩) (fun hno => ⟨fun _ => ?_, fun c => absurd rfl c⟩)
  · subst e
    refine sp_hasJob n1 n2 (fun b hb e => ⟨fun _ => ?_, fun c => absurd c (by decide)⟩) (fun hno => ⟨fun c => absurd rfl c, fun _ => ?_⟩)
    · subst e
      obtain ⟨c, Y, nx, v, ⟨c1, c2, c3, rfl, c5⟩, f, fv, m, ⟨g1, g2, g3⟩, hh, hsn, hpl⟩ := id hr
      obtain ⟨y1, y2, y3, y4⟩ := c5 c (Nat.le_refl c)
      have va : vp_in (nI a) 12 := vp_in_nI (by omega) (by decide)
      have vb : vp_in (nI b) 12 := vp_in_nI (by omega) (by decide)
      unfold wp_X10_isLaid
      rw [cln (i := a) (by omega)]
      refine ⟨va, sp_hasBit (by omega) ?_⟩
      rw [f.2.2.1 a (by omega) b (by omega)]
      by_cases q : (Y c).E a b = true
      · rw [if_pos q]
        refine ⟨Or.inr rfl, fun _ => ?_, fun c => absurd c (by decide)⟩
        obtain ⟨T, hT⟩ : ∃ T : YA, T = yA (Y c).n (Y c).m (fun i j => (Y c).E i j && !(decide (i = a) && decide (j = b))) := ⟨_, rfl⟩
        have T1 : T.n = (Y c).n := by rw [hT]; rfl
        have T2 : T.m = (Y c).m := by rw [hT]; rfl
        have T3 : ∀ i j, T.E i j = ((Y c).E i j && !(decide (i = a) && decide (j = b))) := fun i j => by rw [hT]; rfl
        have sub : ∀ i j, T.E i j = true → (Y c).E i j = true := fun i j z => by
          rw [T3, Bool.and_eq_true] at z
          exact z.1
        have zok : okY T := by
          refine ⟨by omega, fun j hj => ?_, fun i j hij => ?_, ?_⟩
          · rw [T2]
            exact y2 j (by omega)
          · rw [T1]
            exact y3 i j (sub i j hij)
          · rw [T1]
            exact ac_unbind y4 sub
        refine sp_unbind (T := T) f fv y1 ha hb q T1 T2 T3 fun w1 a1 a2 a3 => ?_
        refine sp_keepF c2 c1 (by rw [a1 20 (by decide)]; exact g1) (by rw [a1 20 (by decide)]; exact g2) fun w2 b1 b2 b3 b4 b5 => ?_
        unfold wp_X11_done wp_X12_free
        refine sp_isJob n1 n3 (fun _ _ _ => ⟨fun c => absurd c (by decide), fun _ => ?_⟩) (fun hno => absurd rfl (hno a ha))
        refine sp_isJob n1 n3 (fun _ _ _ => ⟨fun _ => ⟨vb, ?_⟩, fun c => absurd c (by decide)⟩) (fun hno => absurd rfl (hno b hb))
        rw [cln (i := b) (by omega)]
        refine sp_has (by omega) ?_
        rw [m.2.2 b hb a (by omega), if_pos q]
        refine ⟨fun _ => ?_, fun c => absurd c (by decide)⟩
        refine sp_keepM (Y := Y) c1 g3 y1 m (fun i hi => ⟨(c5 i (by omega)).1, hsn i hi⟩) fun v1 d1 d2 d3 d4 => ⟨vb, vb, rfl, ?_⟩
        have m1 : ∀ x, 1 ≤ x → x ≤ 4 → v1 x = uM x := fun x h1 h4 => d1 x (by omega) (by omega) (by omega)
        refine Rel_new hK (n := T.n) (RYc_grow (Z := T) (v' := v + 1) c1 c2 (by omega) c5 zok (FY_congr (fun c h1 h2 => b1 c (by omega)) a3) (by rw [b1 1 (by decide)]; exact a2) ⟨?_, fun q' hq' i hi => ?_, fun j hj i hi => ?_⟩ b2 b3 ?_ hh (Or.inr (Or.inr (Or.inr ⟨rfl, T1, T2, a, b, ha, hb, rfl, rfl, q, T3⟩))) b4 (fun x x1 x2 i hi => by rw [b5 x x1 x2 i hi, a1 x (by omega)]) (fun i hi => ?_) ?_) ?_ ?_ ?_ 0
        · rw [su_n _ _ _ (by decide), d2 0 (by decide), T1]
          exact m.1
        · rw [su_n _ _ _ (by omega), m1 (1 + q') (by omega) (by omega), T2]
          exact m.2.1 q' hq' i (by omega)
        · rw [su_rd, T3]
          by_cases e : j = b
          · rw [if_pos ⟨rfl, e⟩, b_and, bt_not hi, bt_1shl (by omega) hi, m1 4 (by decide) (by decide), m.2.2 b hb i hi, e]
            simp
          · rw [if_neg (fun z => e z.2), m1 4 (by decide) (by decide), m.2.2 j (by omega) i hi, decide_eq_false e]
            simp
        · rw [su_n _ _ _ (by decide)]
          exact d3
        · exact SN_congr (u := v1) (su_n _ _ _ (by decide)) (su_n _ _ _ (by decide)) (d4 i hi)
        · refine hK.2 _ _ _ _ _ _ _ _ _ _ (hK.1 _ _ _ _ _ uF _ (fun x h1 h2 => ?_) hpl)
          rw [b1 x (by omega), a1 x (by omega)]
        · exact hl.mono (by omega) (by rw [b1 18 (by decide), a1 18 (by decide)]) (by rw [b1 19 (by decide), a1 19 (by decide)]) (by rw [su_n _ _ _ (by decide), d2 7 (by decide)]) (by rw [su_n _ _ _ (by decide), d1 6 (by decide) (by decide) (by decide)])
        · exact ht.cg (by rw [b1 25 (by decide), a1 25 (by decide)]) (by rw [b1 26 (by decide), a1 26 (by decide)]) (by rw [su_n _ _ _ (by decide), d2 16 (by decide)]) (by rw [su_n _ _ _ (by decide), d1 12 (by decide) (by decide) (by decide)])
        · exact hs.cg (fun x hx => by rw [b1 x (by omega), a1 x (by omega)]) (fun x h1 h2 => by rw [su_n _ _ _ (by omega), d1 x (by omega) (by omega) (by omega)])
      · rw [if_neg q]
        refine ⟨Or.inl rfl, fun c => absurd rfl c, fun _ => ?_⟩
        unfold wp_X11_refused wp_X12_free
        refine sp_isJob n1 n3 (fun _ _ _ => ⟨fun c => absurd c (by decide), fun _ => ?_⟩) (fun hno => absurd rfl (hno a ha))
        refine sp_isJob n1 n3 (fun _ _ _ => ⟨fun _ => ⟨vb, ?_⟩, fun c => absurd c (by decide)⟩) (fun hno => absurd rfl (hno b hb))
        rw [cln (i := b) (by omega)]
        refine sp_has (by omega) ?_
        rw [m.2.2 b hb a (by omega), if_neg q]
        exact ⟨fun c => absurd rfl c, fun _ => ⟨rfl, (h.st hY 3).mono hY⟩⟩
    · unfold wp_X11_refused wp_X12_free
      refine sp_isJob n1 n3 (fun _ _ _ => ⟨fun c => absurd c (by decide), fun _ => ?_⟩) (fun hno => absurd rfl (hno a ha))
      exact sp_isJob n1 n3 (fun j hj e => absurd e (hno j hj)) (fun _ => ⟨fun c => absurd rfl c, fun _ => ⟨rfl, (h.st hY 1).mono hY⟩⟩)
  · unfold wp_X11_refused wp_X12_free
    exact sp_isJob n1 n3 (fun j hj e => absurd e (hno j hj)) (fun _ => ⟨fun _ => ⟨rfl, (h.st hY 1).mono hY⟩, fun c => absurd rfl c⟩)
end
