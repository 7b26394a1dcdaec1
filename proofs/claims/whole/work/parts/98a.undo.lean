/-! undo. -/
section
variable {PL : PLt} {k n : Nat} {uF uM w : St} {Post : Int32 → St → Prop}
set_option maxHeartbeats 1000000 in
theorem sp_mUndo {d : Nat} (hd : d < 12) (h8 : w 0 8 = nI (d + 1)) (hP : ∀ v : St, (∀ x, x ≠ 0 → x ≠ 1 → x ≠ 2 → x ≠ 3 → x ≠ 4 → v x = w x) → v 0 0 = w 7 d → v 0 8 = nI d → v 0 7 = 0 → v 0 16 = w 0 16 → (∀ j, j < 12 → ∀ q, q < 4 → v (1 + q) j = w 8 (48 * d + 4 * j + q)) → Post 1 (su v 0 14 0)) : wp_X12_undo w Post := by
  unfold wp_X12_undo
  rw [h8, nI_pred, su_at, cln (i := d) (by omega), su_n w 8 (nI d) (show (7 : Nat) ≠ 0 by decide)]
  refine ⟨fun _ => ⟨vp_in_nI hd (by decide), ?_⟩, fun c => absurd c (nI_ne0 (by omega) (by omega))⟩
  obtain ⟨s0, hs0⟩ : ∃ s0 : St, s0 = su (su w 0 8 (nI d)) 0 0 (w 7 d) := ⟨_, rfl⟩
  rw [← hs0]
  have s08 : s0 0 8 = nI d := by rw [hs0, su_ne _ _ (by decide), su_at]
  have s00 : s0 0 0 = w 7 d := by rw [hs0, su_at]
  have s016 : s0 0 16 = w 0 16 := by rw [hs0, su_ne _ _ (by decide), su_ne _ _ (by decide)]
  have s0x : ∀ x, x ≠ 0 → s0 x = w x := fun x hx => by rw [hs0, su_n _ _ _ hx, su_n _ _ _ hx]
  refine Exists.elim (loop_0 (fun m i s => wl_X12_undo_38 Post m (nI i) s) (fun i s => (∀ x, x ≠ 1 → x ≠ 2 → x ≠ 3 → x ≠ 4 → s x = s0 x) ∧ (∀ j, j < i → ∀ q, q < 4 → s (1 + q) j = w 8 (48 * d + 4 * j + q))) 12 s0 ⟨fun _ _ _ _ _ => rfl, fun j hj => absurd hj (Nat.not_lt_zero j)⟩ ?_ ?_) (fun m hm => ⟨m, by rw [nI_0] at hm; exact hm⟩)
  · intro m s ⟨i1, i2⟩
    show wb_X12_undo_38 Post _ (nI 12) s
    unfold wb_X12_undo_38
    refine ⟨fun _ => ?_, fun c => absurd (nI_le (Nat.le_refl 12) (by omega)) c⟩
    have z0 := i1 0 (by decide) (by decide) (by decide) (by decide)
    refine hP (su s 0 7 0) (fun x x0 x1 x2 x3 x4 => by rw [su_n _ _ _ x0, i1 x x1 x2 x3 x4, s0x x x0]) ?_ ?_ (su_at _ _ _ _) ?_ (fun j hj q hq => ?_)
    · rw [su_ne _ _ (by decide), z0]
      exact s00
    · rw [su_ne _ _ (by decide), z0]
      exact s08
    · rw [su_ne _ _ (by decide), z0]
      exact s016
    · rw [su_n _ _ _ (by omega)]
      exact i2 j hj q hq
  · intro m i s hi ⟨i1, i2⟩ ih
    show wb_X12_undo_38 Post _ (nI i) s
    unfold wb_X12_undo_38
    refine ⟨fun c => absurd c (nle_nI hi (by decide)), fun _ => ?_⟩
    have e0 : ((48 : Int32) * s 0 8) + ((4 : Int32) * nI i) = nI (48 * d + 4 * i) := by
      rw [i1 0 (by decide) (by decide) (by decide) (by decide), s08]
      show nI 48 * nI d + nI 4 * nI i = _
      rw [pk_mul, pk_mul, nI_add]
    have e1 : nI (48 * d + 4 * i) + (1 : Int32) = nI (48 * d + 4 * i + 1) := nI_1 _
    have e2 : nI (48 * d + 4 * i) + (2 : Int32) = nI (48 * d + 4 * i + 2) := nI_add _ 2
    have e3 : nI (48 * d + 4 * i) + (3 : Int32) = nI (48 * d + 4 * i + 3) := nI_add _ 3
    rw [e0, e1, e2, e3, nI_1, cln (i := i) (by omega), cln (i := 48 * d + 4 * i) (by omega), cln (i := 48 * d + 4 * i + 1) (by omega), cln (i := 48 * d + 4 * i + 2) (by omega), cln (i := 48 * d + 4 * i + 3) (by omega)]
    have vi : vp_in (nI i) 12 := vp_in_nI hi (by decide)
    have s8 : s 8 = w 8 := by rw [i1 8 (by decide) (by decide) (by decide) (by decide), s0x 8 (by decide)]
    have r1 : ∀ x : Int32, su s 1 i x 8 = w 8 := fun x => by rw [su_n _ _ _ (by decide), s8]
    have r2 : ∀ x y : Int32, su (su s 1 i x) 2 i y 8 = w 8 := fun x y => by rw [su_n _ _ _ (by decide), r1]
    have r3 : ∀ x y z : Int32, su (su (su s 1 i x) 2 i y) 3 i z 8 = w 8 := fun x y z => by rw [su_n _ _ _ (by decide), r2]
    rw [r3, r2, r1, s8]
    refine ⟨vp_in_nI (by omega) (by decide), vi, vp_in_nI (by omega) (by decide), vi, vp_in_nI (by omega) (by decide), vi, vp_in_nI (by omega) (by decide), vi, ih _ ⟨fun x h1 h2 h3 h4 => ?_, fun j hj q hq => ?_⟩⟩
    · rw [su_n _ _ _ h4, su_n _ _ _ h3, su_n _ _ _ h2, su_n _ _ _ h1]
      exact i1 x h1 h2 h3 h4
    · have c4 : q = 0 ∨ q = 1 ∨ q = 2 ∨ q = 3 := by omega
      by_cases e : j = i
      · subst e
        rcases c4 with rfl | rfl | rfl | rfl
        · rw [su_n _ _ _ (by decide), su_n _ _ _ (by decide), su_n _ _ _ (by decide), su_at, Nat.add_zero]
        · rw [su_n _ _ _ (by decide), su_n _ _ _ (by decide), su_at]
        · rw [su_n _ _ _ (by decide), su_at]
        · rw [su_at]
      · have hj2 := i2 j (by omega) q hq
        rcases c4 with rfl | rfl | rfl | rfl
        · rw [su_n _ _ _ (by decide), su_n _ _ _ (by decide), su_n _ _ _ (by decide), su_ne _ _ e]
          exact hj2
        · rw [su_n _ _ _ (by decide), su_n _ _ _ (by decide), su_ne _ _ e, su_n _ _ _ (by decide)]
          exact hj2
        · rw [su_n _ _ _ (by decide), su_ne _ _ e, su_n _ _ _ (by decide), su_n _ _ _ (by decide)]
          exact hj2
        · rw [su_ne _ _ e, su_n _ _ _ (by decide), su_n _ _ _ (by decide), su_n _ _ _ (by decide)]
          exact hj2
theorem back_next {nx : Nat} (h : nx < 12) : ((¬ nI nx = 0) → nI nx - 1 = nI ((nx + 11) % 12)) ∧ (nI nx = 0 → (11 : Int32) = nI ((nx + 11) % 12)) := by
  refine ⟨fun c => ?_, fun c => ?_⟩
  · have h1 : nx ≠ 0 := fun e => c (by rw [e]; rfl)
    have h2 : nI nx - nI 1 = nI (nx - 1) := pk_sub (by omega)
    rw [show (nx + 11) % 12 = nx - 1 by omega]
    exact h2
  · have h1 : nx = 0 := (nI_eq (by omega) (by omega)).mp (c.trans (rfl : (0 : Int32) = nI 0))
    rw [h1]
    rfl
set_option maxHeartbeats 2000000 in
theorem ok_undo (hK : PLok PL) : Ok_undo (Rel (RYc PL)) := by
  have hY := RYc_ok hK
  intro k uF uM hk h
  obtain ⟨h1, ⟨n, hr, hl⟩, ht, hs⟩ := id h
  obtain ⟨n1, n2, n3, n4⟩ := hY.1 _ _ _ _ hr
  obtain ⟨c, Y, nx, v, ⟨c1, c2, c3, rfl, c5⟩, f, fv, m, ⟨g1, g2, g3⟩, hh, hsn, hpl⟩ := id hr
  unfold wp_X11_undo wp_X2_size
  rw [g2]
  refine ⟨fun c0 => ?_, fun c0 => ?_⟩
  · obtain ⟨d, rfl⟩ : ∃ d, c = d + 1 := by
      cases c with
      | zero => exact absurd rfl c0
      | succ d => exact ⟨d, rfl⟩
    obtain ⟨y1, y2, y3, y4⟩ := c5 (d + 1) (Nat.le_refl _)
    obtain ⟨z1, z2, z3, z4⟩ := c5 d (by omega)
    have nx' : (nx + 11) % 12 < 12 := Nat.mod_lt _ (by decide)
    have erg : rg nx (d + 1) d = (nx + 11) % 12 := by
      unfold rg
      omega
    have hc := hh d (by omega)
    rw [erg] at hc
    have fin : ∀ (w1 : St) (v' : Nat), v' ≤ v + 1 → w1 20 4 = nI ((nx + 11) % 12) → w1 20 5 = nI d → (∀ x, 12 ≤ x → x ≠ 20 → w1 x = uF x) → w1 1 9 = nI v' → FY (Y d) w1 → PL v' (Y d).n ((Y d).m 0) ((Y d).m 1) (Y d).E w1 → wp_X6_empty w1 (fun _ u31 => wp_X11_done (1 : Int32) u31 (fun r36 u36 => (fun r uF2 => wp_X12_undo uM (fun r2 uM2 => r = r2 ∧ Rel (RYc PL) (k + 1) uF2 uM2)) r36 u36)) := by
      intro w1 v' hv b4 b5 bx b9 bF bP
      unfold wp_X6_empty wp_X11_done
      refine sp_mUndo (d := d) (by omega) g3 fun x1 e1 e2 e3 e4 e5 e6 => ⟨rfl, ?_⟩
      obtain ⟨s1, s2, s3⟩ := hsn d (by omega)
      refine Rel_new hK (n := (Y d).n) ⟨d, Y, (nx + 11) % 12, v', ⟨by omega, nx', by omega, rfl, fun i hi => c5 i (by omega)⟩, FY_congr (fun x h1 h2 => su_n _ _ _ (by omega)) bF, by rw [su_n _ _ _ (by decide)]; exact b9, ⟨e2.trans s1, fun q hq j hj => ?_, fun b hb a ha => ?_⟩, ⟨by rw [su_n _ _ _ (by decide)]; exact b4, by rw [su_n _ _ _ (by decide)]; exact b5, e3⟩, fun i hi => ?_, fun i hi => ?_, hK.1 _ _ _ _ _ _ _ (fun x h1 h2 => su_n _ _ _ (by omega)) bP⟩ ⟨0, by omega, (su_at w1 18 1 0).trans nI_0.symm, e4.trans nI_0.symm, fun i hi => absurd hi (Nat.not_lt_zero i), fun i j hi => absurd hi (Nat.not_lt_zero i)⟩ (ht.cg ?_ ?_ e5 ?_) (hs.cg (fun x hx => ?_) (fun x h1 h2 => ?_)) 0
      · rw [e6 j (by omega) q (by omega)]
        exact s2 q hq j hj
      · have := e6 b (by omega) 3 (by omega)
        have e43 : x1 4 b = uM 8 (48 * d + 4 * b + 3) := this
        rw [e43]
        exact s3 b hb a ha
      · have e : rg ((nx + 11) % 12) d i = rg nx (d + 1) i := by
          unfold rg
          omega
        rw [e, su_n _ _ _ (by decide), su_n _ _ _ (by decide), su_n _ _ _ (by decide), su_n _ _ _ (by decide), bx 21 (by decide) (by decide), bx 22 (by decide) (by decide), bx 23 (by decide) (by decide), bx 24 (by decide) (by decide)]
        exact hh i (by omega)
      · exact SN_congr (u := uM) (e1 7 (by decide) (by decide) (by decide) (by decide) (by decide)) (e1 8 (by decide) (by decide) (by decide) (by decide) (by decide)) (hsn i (by omega))
      · rw [su_n _ _ _ (by decide), bx 25 (by decide) (by decide)]
      · rw [su_n _ _ _ (by decide), bx 26 (by decide) (by decide)]
      · exact e1 12 (by decide) (by decide) (by decide) (by decide) (by decide)
      · rw [su_n _ _ _ (by omega), bx x (by omega) (by omega)]
      · exact e1 x (by omega) (by omega) (by omega) (by omega) (by omega)
    have go : ∀ t0 : Int32, t0 = nI ((nx + 11) % 12) → wb_X2_takeBack_19 (fun _ u24 => wp_X6_empty u24 (fun _ u31 => wp_X11_done (1 : Int32) u31 (fun r36 u36 => (fun r uF2 => wp_X12_undo uM (fun r2 uM2 => r = r2 ∧ Rel (RYc PL) (k + 1) uF2 uM2)) r36 u36))) t0 uF := by
      intro t0 e0
      unfold wb_X2_takeBack_19
      obtain ⟨s, es⟩ : ∃ s, s = su (su uF 20 4 t0) 20 5 (((su uF 20 4 t0) 20 5) - (1 : Int32)) := ⟨_, rfl⟩
      rw [← es]
      have s4 : s 20 4 = nI ((nx + 11) % 12) := by rw [es, su_ne _ _ (by decide), su_at, e0]
      have s5 : s 20 5 = nI d := by rw [es, su_at, su_ne _ _ (by decide), g2, nI_pred]
      have sx : ∀ x, x ≠ 20 → s x = uF x := fun x hx => by rw [es, su_n _ _ _ hx, su_n _ _ _ hx]
      have sF : FY (Y (d + 1)) s := FY_congr (fun x h1 h2 => sx x (by omega)) f
      have s9 : s 1 9 = nI v := by rw [sx 1 (by decide)]; exact fv
      have sP : PL v (Y (d + 1)).n ((Y (d + 1)).m 0) ((Y (d + 1)).m 1) (Y (d + 1)).E s := hK.1 _ _ _ _ _ _ _ (fun x h1 h2 => sx x (by omega)) hpl
      have vx : vp_in (nI ((nx + 11) % 12)) 12 := vp_in_nI nx' (by decide)
      rw [s4, cln (i := (nx + 11) % 12) (by omega), sx 21 (by decide), sx 22 (by decide), sx 23 (by decide), sx 24 (by decide)]
      have fin2 : ∀ (w1 : St), (∀ x, x = 0 ∨ 12 ≤ x → w1 x = s x) → w1 1 9 = nI (v + 1) → FY (Y d) w1 → wp_X6_empty w1 (fun _ u31 => wp_X11_done (1 : Int32) u31 (fun r36 u36 => (fun r uF2 => wp_X12_undo uM (fun r2 uM2 => r = r2 ∧ Rel (RYc PL) (k + 1) uF2 uM2)) r36 u36)) := fun w1 a1 a2 a3 =>
        fin w1 (v + 1) (by omega) (by rw [a1 20 (by decide)]; exact s4) (by rw [a1 20 (by decide)]; exact s5) (fun x h1 h2 => by rw [a1 x (by omega), sx x h2]) a2 a3 (hK.2 _ _ _ _ _ _ _ _ _ _ (hK.1 _ _ _ _ _ _ _ (fun x h1 h2 => a1 x (by omega)) sP))
      refine ⟨vx, ?_⟩
      rcases hc with ⟨t, q1, q2, q3⟩ | ⟨t, q1, q2, x, y, q3, q4, q5, q6, q7, q8⟩ | ⟨t, q1, q2, x, y, q3, q4, q5, q6, q7, q8⟩ | ⟨t, q1, q2, x, y, q3, q4, q5, q6, q7, q8⟩
      · rw [t]
        refine ⟨fun _ => ?_, fun c => absurd c (by decide), fun c => absurd c (by decide), fun c => absurd rfl c⟩
        exact sp_removeLast (T := Y d) sF s9 y1 q1 q2.symm (fun w j hj => (q3 w j hj).symm) fin2
      · rw [t]
        refine ⟨fun c => absurd c (by decide), fun _ => ⟨vx, vx, vx, ?_⟩, fun c => absurd c (by decide), fun _ c => absurd rfl c⟩
        rw [q5, q6, q7]
        refine sp_measureAnew (T := Y d) hK sP sF s9 y1 q4 (by omega) q1.symm q2.symm (fun w j e => (q8 w j e).symm) rfl fun w1 v' hv a1 a2 a3 a4 => ?_
        exact fin w1 v' hv (by rw [a1 20 (by decide)]; exact s4) (by rw [a1 20 (by decide)]; exact s5) (fun x h1 h2 => by rw [a1 x (by omega), sx x h2]) a2 a3 a4
      · rw [t]
        refine ⟨fun c => absurd c (by decide), fun c => absurd c (by decide), fun _ => ⟨vx, vx, ?_⟩, fun _ _ c => absurd rfl c⟩
        rw [q5, q6]
        refine sp_unbind (T := Y d) sF s9 y1 (by omega) (by omega) (by rw [q8]; simp) q1.symm q2.symm (fun i j => ?_) fin2
        rw [q8]
        by_cases e : i = x ∧ j = y
        · rw [e.1, e.2, q7]
          simp
        · have e2 : (decide (i = x) && decide (j = y)) = false := by
            rw [Bool.and_eq_false_iff, decide_eq_false_iff_not, decide_eq_false_iff_not]
            by_cases q : i = x
            · exact Or.inr (fun z => e ⟨q, z⟩)
            · exact Or.inl q
          rw [e2]
          simp
      · rw [t]
        refine ⟨fun c => absurd c (by decide), fun c => absurd c (by decide), fun c => absurd c (by decide), fun _ _ _ => ⟨vx, vx, ?_⟩⟩
        rw [q5, q6]
        refine sp_bind (T := Y d) sF s9 y1 (by omega) (by omega) (by rw [q8]; simp) q1.symm q2.symm (fun i j => ?_) fin2
        rw [q8]
        by_cases e : i = x ∧ j = y
        · rw [e.1, e.2, q7]
          simp
        · have e2 : (decide (i = x) && decide (j = y)) = false := by
            rw [Bool.and_eq_false_iff, decide_eq_false_iff_not, decide_eq_false_iff_not]
            by_cases q : i = x
            · exact Or.inr (fun z => e ⟨q, z⟩)
            · exact Or.inl q
          rw [e2]
          simp
    unfold wp_X2_takeBack
    rw [g1]
    exact ⟨fun c => go _ ((back_next c2).1 c), fun c => go _ ((back_next c2).2 c)⟩
  · unfold wp_X11_refused wp_X12_undo
    rw [g3]
    exact ⟨fun c => absurd c0 c, fun _ => ⟨rfl, (h.st hY 3).mono hY⟩⟩
end
