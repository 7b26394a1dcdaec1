/-! The class's yard changes. -/
def RawY (Z : YA) (s : St) : Prop := s 1 7 = nI Z.n ∧ (∀ w, w < 3 → ∀ j, j < Z.n → s (3 + w) j = nI (Z.m w j)) ∧ (∀ a, a < 12 → ∀ b, b < 32 → bt (s 6 a) b = Z.E a b) ∧ s 1 8 = nI (prs Z.E 12) ∧ FZ s
section
variable {PL : PLt} {Y T : YA} {u : St} {v : Nat} {Post : Int32 → St → Prop}
theorem sp_renewY (hn : T.n ≤ 12) (h : RawY T u) (h9 : u 1 9 = nI v) (hP : ∀ w : St, (∀ c, c = 0 ∨ 12 ≤ c → w c = u c) → w 1 9 = nI (v + 1) → FY T w → Post 0 w) : wp_X10_renew u Post := by
  obtain ⟨r1, r2, r3, r4, r5⟩ := h
  refine sp_renew (L := T.m 0) (Wt := T.m 1) (E := T.E) hn r1 (fun j hj => r2 0 (by decide) j hj) (fun j hj => r2 1 (by decide) j hj) (fun a ha b hb => r3 a (by omega) b hb) r5 fun w w1 w2 w3 w4 => hP w (fun c hc => w1 c (by omega) (by omega) (by omega) (by omega) (by omega) (by omega)) ?_ ⟨?_, fun q hq j hj => ?_, fun a ha b hb => ?_, ?_, w3, w4⟩
  · rw [w2, h9, nI_1]
    exact if_pos rfl
  · rw [w2]
    exact (if_neg (by decide)).trans r1
  · rw [w1 (3 + q) (by omega) (by omega) (by omega) (by omega) (by omega) (by omega)]
    exact r2 q hq j hj
  · rw [w1 6 (by decide) (by decide) (by decide) (by decide) (by decide) (by decide)]
    exact r3 a ha b hb
  · rw [w2]
    exact (if_neg (by decide)).trans r4
theorem FZ_cg {w : St} (e9 : w 9 = u 9) (e10 : w 10 = u 10) (e11 : w 11 = u 11) (h : FZ u) : FZ w := by
  unfold FZ at h ⊢
  rw [e9, e10, e11]
  exact h
theorem FZ_su {k j : Nat} {x : Int32} (hk : k < 9) (h : FZ u) : FZ (su u k j x) := FZ_cg (su_n _ _ _ (by omega)) (su_n _ _ _ (by omega)) (su_n _ _ _ (by omega)) h
theorem sp_add {l g : Nat} (hF : FY Y u) (h9 : u 1 9 = nI v) (hn : Y.n < 12) (t1 : T.n = Y.n + 1) (t2 : T.E = Y.E) (t3 : ∀ w j, j < Y.n → T.m w j = Y.m w j) (t4 : T.m 0 Y.n = l) (t5 : T.m 1 Y.n = g) (t6 : T.m 2 Y.n = 0) (hP : ∀ w : St, (∀ c, c = 0 ∨ 12 ≤ c → w c = u c) → w 1 9 = nI (v + 1) → FY T w → Post (nI Y.n) w) : wp_X10_add (nI l) (nI g) u Post := by
  obtain ⟨f1, f2, f3, f4, f5, f6⟩ := hF
  unfold wp_X10_add
  rw [f1, cln (i := Y.n) (by omega)]
  have vn : vp_in (nI Y.n) 12 := vp_in_nI hn (by decide)
  have e17 : su (su (su u 3 Y.n (nI l)) 4 Y.n (nI g)) 5 Y.n 0 1 7 = nI Y.n := by
    rw [su_n _ _ _ (by decide), su_n _ _ _ (by decide), su_n _ _ _ (by decide)]
    exact f1
  rw [e17, nI_1]
  refine ⟨vn, vn, vn, sp_renewY (T := T) (by omega) ⟨?_, fun w hw j hj => ?_, fun a ha b hb => ?_, ?_, ?_⟩ (v := v) ?_ fun w w1 w2 w3 => hP w (fun c hc => ?_) w2 w3⟩
  · rw [su_at, t1]
  · have c3 : w = 0 ∨ w = 1 ∨ w = 2 := by omega
    by_cases e : j = Y.n
    · subst e
      rcases c3 with rfl | rfl | rfl
      · simp only [su_rd]
        simpa using congrArg nI t4.symm
      · simp only [su_rd]
        simpa using congrArg nI t5.symm
      · simp only [su_rd]
        simpa using (nI_0.symm.trans (congrArg nI t6.symm))
    · have hj2 : j < Y.n := by omega
      rw [t3 w j hj2]
      rcases c3 with rfl | rfl | rfl
      · simp only [su_rd]
        simpa [e] using f2 0 (by decide) j hj2
      · simp only [su_rd]
        simpa [e] using f2 1 (by decide) j hj2
      · simp only [su_rd]
        simpa [e] using f2 2 (by decide) j hj2
  · rw [su_n _ _ _ (by decide), su_n _ _ _ (by decide), su_n _ _ _ (by decide), su_n _ _ _ (by decide), t2]
    exact f3 a ha b hb
  · rw [su_ne _ _ (by decide), su_n _ _ _ (by decide), su_n _ _ _ (by decide), su_n _ _ _ (by decide), t2]
    exact f4
  · exact FZ_su (by decide) (FZ_su (by decide) (FZ_su (by decide) (FZ_su (by decide) f6)))
  · rw [su_ne _ _ (by decide), su_n _ _ _ (by decide), su_n _ _ _ (by decide), su_n _ _ _ (by decide)]
    exact h9
  · rw [w1 c hc, su_n _ _ _ (by omega), su_n _ _ _ (by omega), su_n _ _ _ (by omega), su_n _ _ _ (by omega)]
theorem sp_removeLast (hF : FY Y u) (h9 : u 1 9 = nI v) (hn : Y.n ≤ 12) (t1 : Y.n = T.n + 1) (t2 : T.E = Y.E) (t3 : ∀ w j, j < T.n → T.m w j = Y.m w j) (hP : ∀ w : St, (∀ c, c = 0 ∨ 12 ≤ c → w c = u c) → w 1 9 = nI (v + 1) → FY T w → Post 0 w) : wp_X10_removeLast u Post := by
  obtain ⟨f1, f2, f3, f4, f5, f6⟩ := hF
  unfold wp_X10_removeLast
  rw [f1, t1, nI_pred]
  refine ⟨fun c => absurd c (nI_nle (by omega) (by omega)), fun _ => sp_renewY (T := T) (by omega) ⟨?_, fun w hw j hj => ?_, fun a ha b hb => ?_, ?_, ?_⟩ (v := v) ?_ fun w w1 w2 w3 => hP w (fun c hc => ?_) w2 w3⟩
  · rw [su_at]
  · rw [su_n _ _ _ (by omega), t3 w j hj]
    exact f2 w hw j (by omega)
  · rw [su_n _ _ _ (by decide), t2]
    exact f3 a ha b hb
  · rw [su_ne _ _ (by decide), t2]
    exact f4
  · exact FZ_su (by decide) f6
  · rw [su_ne _ _ (by decide)]
    exact h9
  · rw [w1 c hc, su_n _ _ _ (by omega)]
theorem sp_measureAnew {q j x : Nat} (hK : PLok PL) (hp : PL v Y.n (Y.m 0) (Y.m 1) Y.E u) (hF : FY Y u) (h9 : u 1 9 = nI v) (hn : Y.n ≤ 12) (hq : q < 3) (hj : j < Y.n) (t1 : T.n = Y.n) (t2 : T.E = Y.E) (t3 : ∀ w i, ¬ (w = q ∧ i = j) → T.m w i = Y.m w i) (t4 : T.m q j = x)
    (hP : ∀ (w : St) (v' : Nat), v' ≤ v + 1 → (∀ c, c = 0 ∨ 12 ≤ c → w c = u c) → w 1 9 = nI v' → FY T w → PL v' T.n (T.m 0) (T.m 1) T.E w → Post 0 w) : wp_X10_measureAnew (nI j) (nI q) (nI x) u Post := by
  obtain ⟨f1, f2, f3, f4, f5, f6⟩ := hF
  unfold wp_X10_measureAnew
  rw [cln (i := q) (by omega), cln (i := j) (by omega)]
  have m3 : ∀ w, w < 3 → ∀ i, i < T.n → su u (3 + q) j (nI x) (3 + w) i = nI (T.m w i) := fun w hw i hi => by
    rw [su_rd]
    by_cases e : w = q ∧ i = j
    · rw [if_pos ⟨by omega, e.2⟩, e.1, e.2, t4]
    · rw [if_neg (fun z => e ⟨by omega, z.2⟩), t3 w i e]
      exact f2 w hw i (by omega)
  have fz : FZ (su u (3 + q) j (nI x)) := FZ_su (by omega) f6
  refine ⟨vp_in_nI hq (by decide), vp_in_nI (by omega) (by decide), fun c => ?_, fun c => ?_⟩
  · have hq2 : q = 2 := (nI_eq (by omega) (by omega)).mp (c.trans (rfl : (2 : Int32) = nI 2))
    subst hq2
    have e0 : T.m 0 = Y.m 0 := funext fun i => t3 0 i (by omega)
    have e1 : T.m 1 = Y.m 1 := funext fun i => t3 1 i (by omega)
    refine hP _ v (by omega) (fun c hc => su_n _ _ _ (by omega)) (by rw [su_n _ _ _ (by decide)]; exact h9) ⟨?_, m3, ?_, ?_, ?_, fz⟩ ?_
    · rw [su_n _ _ _ (by decide), t1]
      exact f1
    · rw [su_n _ _ _ (by decide), t2]
      exact f3
    · rw [su_n _ _ _ (by decide), t2]
      exact f4
    · rw [t1, t2, e0, e1]
      exact FD_congr (fun c h1 h2 => su_n _ _ _ (by omega)) f5
    · rw [t1, t2, e0, e1]
      exact hK.1 _ _ _ _ _ _ _ (fun c h1 h2 => su_n _ _ _ (by omega)) hp
  · refine sp_renewY (T := T) (by omega) ⟨?_, m3, fun a ha b hb => ?_, ?_, fz⟩ (v := v) ?_ fun w w1 w2 w3 => ?_
    · rw [su_n _ _ _ (by omega), t1]
      exact f1
    · rw [su_n _ _ _ (by omega), t2]
      exact f3 a ha b hb
    · rw [su_n _ _ _ (by omega), t2]
      exact f4
    · rw [su_n _ _ _ (by omega)]
      exact h9
    · have wc : ∀ c, c = 0 ∨ 12 ≤ c → w c = u c := fun c hc => by rw [w1 c hc, su_n _ _ _ (by omega)]
      exact hP w (v + 1) (by omega) wc w2 w3 (hK.2 _ _ _ _ _ _ _ _ _ _ (hK.1 _ _ _ _ _ _ _ (fun c h1 h2 => wc c (by omega)) hp))
theorem sp_bind {a b : Nat} (hF : FY Y u) (h9 : u 1 9 = nI v) (hn : Y.n ≤ 12) (ha : a < Y.n) (hb : b < Y.n) (h0 : Y.E a b = false) (t1 : T.n = Y.n) (t2 : T.m = Y.m) (t3 : ∀ i j, T.E i j = (Y.E i j || (decide (i = a) && decide (j = b)))) (hP : ∀ w : St, (∀ c, c = 0 ∨ 12 ≤ c → w c = u c) → w 1 9 = nI (v + 1) → FY T w → Post 0 w) : wp_X10_bind (nI a) (nI b) u Post := by
  obtain ⟨f1, f2, f3, f4, f5, f6⟩ := hF
  unfold wp_X10_bind
  rw [cln (i := a) (by omega), su_n _ _ _ (show (1 : Nat) ≠ 6 by decide), f4, nI_1]
  have va : vp_in (nI a) 12 := vp_in_nI (by omega) (by decide)
  refine ⟨va, va, sp_renewY (T := T) (by omega) ⟨?_, fun w hw j hj => ?_, fun i hi j hj => ?_, ?_, ?_⟩ (v := v) ?_ fun w w1 w2 w3 => hP w (fun c hc => ?_) w2 w3⟩
  · rw [su_ne _ _ (by decide), su_n _ _ _ (by decide), t1]
    exact f1
  · rw [su_n _ _ _ (by omega), su_n _ _ _ (by omega), t2]
    exact f2 w hw j (by omega)
  · rw [su_n _ _ _ (by decide), su_rd, t3]
    by_cases e : i = a
    · rw [if_pos ⟨rfl, e⟩, b_or, bt_1shl (by omega) hj, e, f3 a (by omega) j hj]
      simp
    · rw [if_neg (fun z => e z.2), f3 i hi j hj, decide_eq_false e]
      simp
  · have := prs_one (show b < 12 by omega) h0 t3 12
    rw [if_pos (by omega)] at this
    rw [su_at, this]
  · exact FZ_su (by decide) (FZ_su (by decide) f6)
  · rw [su_ne _ _ (by decide), su_n _ _ _ (by decide)]
    exact h9
  · rw [w1 c hc, su_n _ _ _ (by omega), su_n _ _ _ (by omega)]
theorem sp_unbind {a b : Nat} (hF : FY Y u) (h9 : u 1 9 = nI v) (hn : Y.n ≤ 12) (ha : a < Y.n) (hb : b < Y.n) (h0 : Y.E a b = true) (t1 : T.n = Y.n) (t2 : T.m = Y.m) (t3 : ∀ i j, T.E i j = (Y.E i j && !(decide (i = a) && decide (j = b)))) (hP : ∀ w : St, (∀ c, c = 0 ∨ 12 ≤ c → w c = u c) → w 1 9 = nI (v + 1) → FY T w → Post 0 w) : wp_X10_unbind (nI a) (nI b) u Post := by
  obtain ⟨f1, f2, f3, f4, f5, f6⟩ := hF
  unfold wp_X10_unbind
  have p1 : prs Y.E 12 = prs T.E 12 + 1 := by
    have := prs_one (E := T.E) (F := Y.E) (x := a) (y := b) (show b < 12 by omega) (by rw [t3]; simp) (fun i j => by
      rw [t3]
      by_cases e : i = a ∧ j = b
      · rw [e.1, e.2, h0]
        simp
      · have e2 : (decide (i = a) && decide (j = b)) = false := by
          rw [Bool.and_eq_false_iff, decide_eq_false_iff_not, decide_eq_false_iff_not]
          by_cases q : i = a
          · exact Or.inr (fun z => e ⟨q, z⟩)
          · exact Or.inl q
        rw [e2]
        simp) 12
    rw [if_pos (by omega)] at this
    exact this
  rw [cln (i := a) (by omega), su_n _ _ _ (show (1 : Nat) ≠ 6 by decide), f4, p1, nI_pred]
  have va : vp_in (nI a) 12 := vp_in_nI (by omega) (by decide)
  refine ⟨va, va, sp_renewY (T := T) (by omega) ⟨?_, fun w hw j hj => ?_, fun i hi j hj => ?_, ?_, ?_⟩ (v := v) ?_ fun w w1 w2 w3 => hP w (fun c hc => ?_) w2 w3⟩
  · rw [su_ne _ _ (by decide), su_n _ _ _ (by decide), t1]
    exact f1
  · rw [su_n _ _ _ (by omega), su_n _ _ _ (by omega), t2]
    exact f2 w hw j (by omega)
  · rw [su_n _ _ _ (by decide), su_rd, t3]
    by_cases e : i = a
    · rw [if_pos ⟨rfl, e⟩, b_and, bt_not hj, bt_1shl (by omega) hj, e, f3 a (by omega) j hj]
      simp
    · rw [if_neg (fun z => e z.2), f3 i hi j hj, decide_eq_false e]
      simp
  · rw [su_at]
  · exact FZ_su (by decide) (FZ_su (by decide) f6)
  · rw [su_ne _ _ (by decide), su_n _ _ _ (by decide)]
    exact h9
  · rw [w1 c hc, su_n _ _ _ (by omega), su_n _ _ _ (by omega)]
end
