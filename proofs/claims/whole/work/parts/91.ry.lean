/-! The yards: the newest one on both sides, and the former ones as the class's history and the reference's snapshots keep them. -/
def YA : Type := Nat × (Nat → Nat → Nat) × (Nat → Nat → Bool)
def YA.n (Y : YA) : Nat := Y.1
def YA.m (Y : YA) : Nat → Nat → Nat := Y.2.1
def YA.E (Y : YA) : Nat → Nat → Bool := Y.2.2
def yA (n : Nat) (m : Nat → Nat → Nat) (E : Nat → Nat → Bool) : YA := (n, m, E)
def okY (Y : YA) : Prop := Y.n ≤ 12 ∧ (∀ j, j < Y.n → 1 ≤ Y.m 0 j ∧ Y.m 0 j ≤ 100 ∧ Y.m 1 j ≤ 100 ∧ Y.m 2 j ≤ 500) ∧ (∀ a b, Y.E a b = true → a < Y.n ∧ b < Y.n) ∧ (∀ a, a < Y.n → Pc Y.E Y.n a a = false)
/-- the number of pairs -/
def prs (E : Nat → Nat → Bool) : Nat → Nat
  | 0 => 0
  | a + 1 => prs E a + cb (E a) 12
def FY (Y : YA) (u : St) : Prop := u 1 7 = nI Y.n ∧ (∀ w, w < 3 → ∀ j, j < Y.n → u (3 + w) j = nI (Y.m w j)) ∧ (∀ a, a < 12 → ∀ b, b < 32 → bt (u 6 a) b = Y.E a b) ∧ u 1 8 = nI (prs Y.E 12) ∧ FD u Y.n (Y.m 0) (Y.m 1) Y.E ∧ FZ u
def MY (Y : YA) (w : St) : Prop := w 0 0 = nI Y.n ∧ (∀ q, q < 3 → ∀ j, j < Y.n → w (1 + q) j = nI (Y.m q j)) ∧ (∀ b, b < Y.n → ∀ a, a < 32 → bt (w 4 b) a = Y.E a b)
def SN (i : Nat) (Y : YA) (w : St) : Prop := w 7 i = nI Y.n ∧ (∀ q, q < 3 → ∀ j, j < Y.n → w 8 (48 * i + 4 * j + q) = nI (Y.m q j)) ∧ (∀ b, b < Y.n → ∀ a, a < 32 → bt (w 8 (48 * i + 4 * b + 3)) a = Y.E a b)
/-- how a yard came of another -/
def chg (Y Z : YA) (t a b o : Int32) : Prop :=
  (t = 0 ∧ Z.n = Y.n + 1 ∧ Z.E = Y.E ∧ ∀ w j, j < Y.n → Z.m w j = Y.m w j) ∨
  (t = 1 ∧ Z.n = Y.n ∧ Z.E = Y.E ∧ ∃ x y, x < Y.n ∧ y < 3 ∧ a = nI x ∧ b = nI y ∧ o = nI (Y.m y x) ∧ ∀ w j, ¬ (w = y ∧ j = x) → Z.m w j = Y.m w j) ∨
  (t = 2 ∧ Z.n = Y.n ∧ Z.m = Y.m ∧ ∃ x y, x < Y.n ∧ y < Y.n ∧ a = nI x ∧ b = nI y ∧ Y.E x y = false ∧ ∀ i j, Z.E i j = (Y.E i j || (decide (i = x) && decide (j = y)))) ∨
  (t = 3 ∧ Z.n = Y.n ∧ Z.m = Y.m ∧ ∃ x y, x < Y.n ∧ y < Y.n ∧ a = nI x ∧ b = nI y ∧ Y.E x y = true ∧ ∀ i j, Z.E i j = (Y.E i j && !(decide (i = x) && decide (j = y))))
abbrev PLt := Nat → Nat → (Nat → Nat) → (Nat → Nat) → (Nat → Nat → Bool) → St → Prop
def rg (nx c i : Nat) : Nat := (nx + 12 - (c - i)) % 12
def RYc (PL : PLt) (k n : Nat) (uF uM : St) : Prop := ∃ (c : Nat) (Y : Nat → YA) (nx v : Nat), (c ≤ 12 ∧ nx < 12 ∧ v ≤ k ∧ n = (Y c).n ∧ (∀ i, i ≤ c → okY (Y i))) ∧ FY (Y c) uF ∧ uF 1 9 = nI v ∧ MY (Y c) uM ∧ (uF 20 4 = nI nx ∧ uF 20 5 = nI c ∧ uM 0 8 = nI c) ∧
  (∀ i, i < c → chg (Y i) (Y (i + 1)) (uF 21 (rg nx c i)) (uF 22 (rg nx c i)) (uF 23 (rg nx c i)) (uF 24 (rg nx c i))) ∧ (∀ i, i < c → SN i (Y i) uM) ∧ PL v (Y c).n ((Y c).m 0) ((Y c).m 1) (Y c).E uF
/-- what the plan's part must give -/
def PLok (PL : PLt) : Prop := (∀ v n L W E (u u' : St), (∀ c, 12 ≤ c → c ≤ 17 → u' c = u c) → PL v n L W E u → PL v n L W E u') ∧ (∀ v n L W E n' L' W' E' u, PL v n L W E u → PL (v + 1) n' L' W' E' u)
theorem FD_congr {u v : St} {n : Nat} {L Wt : Nat → Nat} {E : Nat → Nat → Bool} (h : ∀ c, 7 ≤ c → c ≤ 11 → v c = u c) (hD : FD u n L Wt E) : FD v n L Wt E := by
  unfold FD at hD ⊢
  rw [h 7 (by decide) (by decide), h 8 (by decide) (by decide), h 9 (by decide) (by decide), h 10 (by decide) (by decide), h 11 (by decide) (by decide)]
  exact hD
theorem FZ_congr {u v : St} (h : ∀ c, 7 ≤ c → c ≤ 11 → v c = u c) (hD : FZ u) : FZ v := by
  unfold FZ at hD ⊢
  rw [h 9 (by decide) (by decide), h 10 (by decide) (by decide), h 11 (by decide) (by decide)]
  exact hD
theorem FY_congr {Y : YA} {u v : St} (h : ∀ c, 1 ≤ c → c ≤ 11 → v c = u c) (hD : FY Y u) : FY Y v := by
  obtain ⟨h1, h2, h3, h4, h5, h6⟩ := hD
  refine ⟨by rw [h 1 (by decide) (by decide)]; exact h1, fun w hw j hj => ?_, by rw [h 6 (by decide) (by decide)]; exact h3, by rw [h 1 (by decide) (by decide)]; exact h4, FD_congr (fun c h1 h2 => h c (by omega) h2) h5, FZ_congr (fun c h1 h2 => h c (by omega) h2) h6⟩
  rw [h (3 + w) (by omega) (by omega)]
  exact h2 w hw j hj
theorem SN_congr {i : Nat} {Y : YA} {u v : St} (h7 : v 7 = u 7) (h8 : v 8 = u 8) (hD : SN i Y u) : SN i Y v := by
  unfold SN at hD ⊢
  rw [h7, h8]
  exact hD
theorem RYc_ok {PL : PLt} (hP : PLok PL) : RYok (RYc PL) := by
  refine ⟨?_, ?_, ?_⟩
  · rintro k n uF uM ⟨c, Y, nx, v, ⟨c1, c2, c3, rfl, c5⟩, f, fv, m, g, hh, hs, hp⟩
    refine ⟨(c5 c (Nat.le_refl c)).1, f.1, m.1, fun q hq j hj => ?_⟩
    rw [f.2.1 q hq j hj, m.2.1 q hq j hj]
  · rintro k n uF uM ⟨c, Y, nx, v, ⟨c1, c2, c3, c4, c5⟩, rest⟩
    exact ⟨c, Y, nx, v, ⟨c1, c2, by omega, c4, c5⟩, rest⟩
  · rintro k n uF uM vF vM eF e0 e8 eM ⟨c, Y, nx, v, c1, f, fv, ⟨m1, m2, m3⟩, ⟨g1, g2, g3⟩, hh, hs, hp⟩
    have eF' : ∀ c, 1 ≤ c → c ≤ 17 → vF c = uF c := fun c h1 h2 => eF c (by omega) (by omega) (by omega) (by omega) (by omega) (by omega)
    have eH : ∀ c, 20 ≤ c → c ≤ 24 → vF c = uF c := fun c h1 h2 => eF c (by omega) (by omega) (by omega) (by omega) (by omega) (by omega)
    have eM' : ∀ c, c ≠ 0 → c ≠ 5 → c ≠ 6 → c < 9 → vM c = uM c := eM
    refine ⟨c, Y, nx, v, c1, FY_congr (fun c h1 h2 => eF' c h1 (by omega)) f, by rw [eF' 1 (by decide) (by decide)]; exact fv, ⟨by rw [e0]; exact m1, fun q hq j hj => ?_, by rw [eM 4 (by decide) (by decide) (by decide) (by decide)]; exact m3⟩, ⟨by rw [eH 20 (by decide) (by decide)]; exact g1, by rw [eH 20 (by decide) (by decide)]; exact g2, by rw [e8]; exact g3⟩, ?_, fun i hi => SN_congr (eM 7 (by decide) (by decide) (by decide) (by decide)) (eM 8 (by decide) (by decide) (by decide) (by decide)) (hs i hi), hP.1 _ _ _ _ _ _ _ (fun c h1 h2 => eF' c (by omega) h2) hp⟩
    · rw [eM (1 + q) (by omega) (by omega) (by omega) (by omega)]
      exact m2 q hq j hj
    · rw [eH 21 (by decide) (by decide), eH 22 (by decide) (by decide), eH 23 (by decide) (by decide), eH 24 (by decide) (by decide)]
      exact hh
theorem RYc_view {PL : PLt} : View (RYc PL) := by
  rintro k n uF uM ⟨c, Y, nx, v, ⟨c1, c2, c3, rfl, c5⟩, ⟨f1, f2, f3, f4, f5, f6⟩, fv, ⟨m1, m2, m3⟩, g, hh, hs, hp⟩
  obtain ⟨y1, y2, y3, y4⟩ := c5 c (Nat.le_refl c)
  refine ⟨(Y c).m 0, (Y c).m 1, (Y c).m 2, (Y c).E, fun j hj => ?_, f5, fun a ha b hb => f3 a (by omega) b hb, m3, y3, y4⟩
  obtain ⟨q1, q2, q3, q4⟩ := y2 j hj
  exact ⟨f2 0 (by decide) j hj, q1, q2, f2 1 (by decide) j hj, q3, f2 2 (by decide) j hj, q4⟩
