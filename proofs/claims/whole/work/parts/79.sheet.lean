/-! sheet keeps the relation. -/
section
variable {RY : Nat → Nat → St → St → Prop} {k : Nat} {uF uM u w : St} {a1 a2 a3 : Int32} {s : Nat} {Post : Int32 → St → Prop}
theorem sp_make (h : ∀ v : St, (∀ c, c ≠ 34 + 2 * s → c ≠ 35 + 2 * s → v c = u c) → v (34 + 2 * s) 1 = a1 → v (34 + 2 * s) 2 = a2 → (∀ i, i < 20 → v (35 + 2 * s) i = 0) → Post 0 v) : wp_X8_make s a1 a2 u Post := by
  unfold wp_X8_make
  refine Exists.elim (loop_0 (fun m i v => wl_X8_make_12 s Post m (nI i) v) (fun i v => (∀ c, c ≠ 34 + 2 * s → c ≠ 35 + 2 * s → v c = u c) ∧ v (34 + 2 * s) 1 = a1 ∧ v (34 + 2 * s) 2 = a2 ∧ (∀ j, j < i → v (35 + 2 * s) j = 0)) 20 (su (su u (34 + 2 * s) 1 a1) (34 + 2 * s) 2 a2) ⟨fun c h1 h2 => by rw [su_n _ _ _ h1, su_n _ _ _ h1], by rw [su_ne _ _ (by decide), su_at], by rw [su_at], fun j hj => absurd hj (Nat.not_lt_zero j)⟩ ?_ ?_) (fun m hm => ⟨m, by rw [nI_0] at hm; exact hm⟩)
  · intro m v ⟨i1, i2, i3, i4⟩
    show wb_X8_make_12 s Post _ (nI 20) v
    unfold wb_X8_make_12
    exact ⟨fun _ => h v i1 i2 i3 i4, fun c => absurd (Int32.le_refl _) c⟩
  · intro m i v hi ⟨i1, i2, i3, i4⟩ ih
    show wb_X8_make_12 s Post _ (nI i) v
    unfold wb_X8_make_12
    refine ⟨fun c => absurd c (nle_nI (b := 20) hi (by decide)), fun _ => ⟨vp_in_nI hi (by decide), ?_⟩⟩
    rw [cln (by omega), nI_1]
    refine ih _ ⟨fun c h1 h2 => by rw [su_n _ _ _ h2]; exact i1 c h1 h2, by rw [su_n _ _ _ (by omega)]; exact i2, by rw [su_n _ _ _ (by omega)]; exact i3, fun j hj => ?_⟩
    by_cases e : j = i
    · subst e
      rw [su_at]
    · rw [su_ne _ _ e]
      exact i4 j (by omega)
theorem sp_m65 (hs : s < 6) (v0 : St) (h : ∀ v : St, (∀ c, c ≠ 11 → v c = v0 c) → (∀ x, (∀ i, i < 20 → x ≠ 20 * s + i) → v 11 x = v0 11 x) → (∀ i, i < 20 → v 11 (20 * s + i) = 0) → Post 1 (su v 0 14 0)) : ∃ m, wl_X12_sheet_65 Post m (nI s) 0 v0 := by
  refine Exists.elim (loop_0 (fun m i v => wl_X12_sheet_65 Post m (nI s) (nI i) v) (fun i v => (∀ c, c ≠ 11 → v c = v0 c) ∧ (∀ x, (∀ i, i < 20 → x ≠ 20 * s + i) → v 11 x = v0 11 x) ∧ ∀ j, j < i → v 11 (20 * s + j) = 0) 20 v0 ⟨fun _ _ => rfl, fun _ _ => rfl, fun j hj => absurd hj (Nat.not_lt_zero j)⟩ ?_ ?_) (fun m hm => ⟨m, by rw [nI_0] at hm; exact hm⟩)
  · intro m v ⟨i1, i2, i3⟩
    show wb_X12_sheet_65 Post _ (nI s) (nI 20) v
    unfold wb_X12_sheet_65
    exact ⟨fun _ => h v i1 i2 i3, fun c => absurd (Int32.le_refl _) c⟩
  · intro m i v hi ⟨i1, i2, i3⟩ ih
    show wb_X12_sheet_65 Post _ (nI s) (nI i) v
    unfold wb_X12_sheet_65
    rw [ix20, cln (by omega), nI_1]
    refine ⟨fun c => absurd c (nle_nI (b := 20) hi (by decide)), fun _ => ⟨vp_in_nI (by omega) (by decide), ih _ ⟨fun c hc => by rw [su_n _ _ _ hc]; exact i1 c hc, fun x hx => ?_, fun j hj => ?_⟩⟩⟩
    · rw [su_ne _ _ (hx i hi)]
      exact i2 x hx
    · by_cases e : j = i
      · subst e
        rw [su_at]
      · rw [su_ne _ _ (by omega)]
        exact i3 j (by omega)
theorem sp_m39 (hs : s < 6) (h : ∀ v : St, (∀ c, c ≠ 9 → c ≠ 10 → c ≠ 11 → v c = w c) → v 9 = upd (w 9) s a2 → v 10 = upd (w 10) s (if a2 = -1 then 0 else a3) → (∀ x, (∀ i, i < 20 → x ≠ 20 * s + i) → v 11 x = w 11 x) → (∀ i, i < 20 → v 11 (20 * s + i) = 0) → Post 1 (su v 0 14 0)) : wb_X12_sheet_39 Post (nI s) a2 a3 w := by
  have v6 : vp_in (nI s) 6 := vp_in_nI hs (by decide)
  unfold wb_X12_sheet_39
  rw [cln (by omega)]
  have go : ∀ y : Int32, y = (if a2 = -1 then 0 else a3) → ∃ m, wl_X12_sheet_65 Post m (nI s) 0 (su (su w 9 s a2) 10 s y) := fun y hy => by
    refine sp_m65 hs _ fun v i1 i2 i3 => h v (fun c h9 h10 h11 => ?_) ?_ ?_ ?_ i3
    · rw [i1 c h11, su_n _ _ _ h10, su_n _ _ _ h9]
    · rw [i1 9 (by decide), su_n _ _ _ (by decide), su_s]
    · rw [i1 10 (by decide), su_s, su_n _ _ _ (by decide), hy]
    · intro x hx
      rw [i2 x hx, su_n _ _ _ (by decide), su_n _ _ _ (by decide)]
  exact ⟨v6, fun c => ⟨v6, go _ (by rw [if_neg c])⟩, fun c => ⟨v6, go _ (by rw [if_pos c])⟩⟩
theorem srt {x : Int32} (h1 : ¬ x < -1) (h2 : x ≤ 2) : x = -1 ∨ x = 0 ∨ x = 1 ∨ x = 2 := by
  rw [Int32.lt_iff_toInt_lt] at h1
  rw [Int32.le_iff_toInt_le] at h2
  have e1 : (-1 : Int32).toInt = -1 := by decide
  have e2 : (2 : Int32).toInt = 2 := by decide
  rw [e1] at h1
  rw [e2] at h2
  rcases (show x.toInt = -1 ∨ x.toInt = 0 ∨ x.toInt = 1 ∨ x.toInt = 2 by omega) with e | e | e | e
  · exact Or.inl (Int32.toInt_inj.mp (by rw [e]; decide))
  · exact Or.inr (Or.inl (Int32.toInt_inj.mp (by rw [e]; decide)))
  · exact Or.inr (Or.inr (Or.inl (Int32.toInt_inj.mp (by rw [e]; decide))))
  · exact Or.inr (Or.inr (Or.inr (Int32.toInt_inj.mp (by rw [e]; decide))))
/-- a sheet made anew on both sides -/
theorem sh_new (hY : RYok RY) (h : Rel RY k uF uM) (hs : s < 6) {vF vM : St} {z : Nat} (hz : z ≤ 20) (hso : a2 = -1 ∨ a2 = 0 ∨ a2 = 1 ∨ a2 = 2) (hm : a2 = -1 → z = 0)
    (f : ∀ c, c ≠ 34 + 2 * s → c ≠ 35 + 2 * s → vF c = uF c) (f1 : vF (34 + 2 * s) 1 = a2) (f2 : vF (34 + 2 * s) 2 = nI z) (f3 : ∀ i, i < z → vF (35 + 2 * s) i = 0)
    (g : ∀ c, c ≠ 9 → c ≠ 10 → c ≠ 11 → vM c = uM c) (g9 : vM 9 = upd (uM 9) s a2) (g10 : vM 10 = upd (uM 10) s (nI z)) (g11 : ∀ x, (∀ i, i < 20 → x ≠ 20 * s + i) → vM 11 x = uM 11 x) (g0 : ∀ i, i < 20 → vM 11 (20 * s + i) = 0) : Rel RY k vF vM := by
  refine h.sheet hY (fun c hc => f c (by omega) (by omega)) g fun s' hs' => ?_
  by_cases e : s' = s
  · subst e
    rw [f1, f2, g9, g10]
    refine ⟨hso, if_pos rfl, z, hz, rfl, if_pos rfl, hm, fun i hi => ?_⟩
    rw [f3 i hi, g0 i (by omega)]
  · obtain ⟨r1, r2, z', r3, r4, r5, r6, r7⟩ := h.2.2.2 s' hs'
    rw [f _ (by omega) (by omega), f _ (by omega) (by omega), g9, g10]
    refine ⟨r1, (if_neg e).trans r2, z', r3, r4, (if_neg e).trans r5, r6, fun i hi => ?_⟩
    rw [g11 _ (fun i' hi' => by omega)]
    exact r7 i hi
theorem ok_sheet (hY : RYok RY) : Ok_sheet (Rel RY) := by
  intro k a1 a2 a3 uF uM hk h
  have bad : ∀ P : Prop, wp_X12_refused 1 uM (fun r2 uM2 => (-1 : Int32) = r2 ∧ Rel RY (k + 1) (su uF 0 7 1) uM2) := fun _ => ⟨rfl, (h.st hY 1).mono hY⟩
  unfold wp_X11_sheet wp_X12_sheet wp_X11_refused wp_X11_done wp_X8_remove
  refine sp_isSheet (fun s hs e => ⟨fun c => absurd c (by decide), fun _ => ?_⟩) (fun hno => ⟨fun _ => ?_, fun c => absurd rfl c⟩)
  · subst e
    have inS : ∀ P : Int32 → St → Prop, P 1 uM → wp_X12_in (nI s) 0 5 uM P := fun P hP => sp_in0 (m := 6) (by decide) (by decide) (fun _ _ _ => hP) (fun hno => absurd rfl (hno s hs))
    have v6 : vp_in (nI s) 6 := vp_in_nI hs (by decide)
    rw [cln (by omega)]
    refine ⟨fun c => ?_, fun c => ⟨fun d => ⟨fun e => ⟨fun c3 => ?_, fun c3 => ⟨fun d3 => ⟨v6, ?_⟩, fun d3 => ?_⟩⟩, fun e => ⟨v6, ?_⟩⟩, fun d => ?_⟩⟩
    · refine inS _ ⟨fun c => absurd c (by decide), fun _ => ?_⟩
      exact ⟨fun _ => ⟨fun _ => bad True, fun c => absurd rfl c⟩, fun q => absurd c q⟩
    · refine inS _ ⟨fun c => absurd c (by decide), fun _ => ⟨fun q => absurd q c, fun _ => ⟨fun q => absurd q (Int32.not_lt.mpr d), fun _ => ⟨fun c => absurd c (by decide), fun _ => ⟨fun q => absurd q e, fun _ => ?_⟩⟩⟩⟩⟩
      exact ⟨fun _ => ⟨fun q => absurd rfl q, fun _ => bad True⟩, fun q => absurd c3 q⟩
    · refine sp_make fun v f f1 f2 f3 => ?_
      refine inS _ ⟨fun c => absurd c (by decide), fun _ => ⟨fun q => absurd q c, fun _ => ⟨fun q => absurd q (Int32.not_lt.mpr d), fun _ => ⟨fun c => absurd c (by decide), fun _ => ⟨fun q => absurd q e, fun _ => ?_⟩⟩⟩⟩⟩
      refine ⟨fun q => absurd q c3, fun _ => ⟨fun q => absurd q (Int32.not_lt.mpr d3), fun _ => ⟨fun _ => ?_, fun c => absurd c (by decide)⟩⟩⟩
      refine sp_m39 hs fun w g g9 g10 g11 g0 => ⟨rfl, ?_⟩
      obtain ⟨z, hz, rfl⟩ := nI_of2 (M := 20) (n := 20) (by decide) c3 d3
      rw [if_neg e] at g10
      exact ((sh_new hY h hs hz (srt c d) (fun q => absurd q e) f f1 f2 (fun i hi => f3 i (by omega)) g g9 g10 g11 g0).st hY 0).mono hY
    · refine inS _ ⟨fun c => absurd c (by decide), fun _ => ⟨fun q => absurd q c, fun _ => ⟨fun q => absurd q (Int32.not_lt.mpr d), fun _ => ⟨fun c => absurd c (by decide), fun _ => ⟨fun q => absurd q e, fun _ => ?_⟩⟩⟩⟩⟩
      exact ⟨fun q => absurd q c3, fun _ => ⟨fun _ => ⟨fun q => absurd rfl q, fun _ => bad True⟩, fun q => absurd (Int32.not_le.mp d3) q⟩⟩
    · refine inS _ ⟨fun c => absurd c (by decide), fun _ => ⟨fun q => absurd q c, fun _ => ⟨fun q => absurd q (Int32.not_lt.mpr d), fun _ => ⟨fun c => absurd c (by decide), fun _ => ⟨fun _ => ?_, fun q => absurd e q⟩⟩⟩⟩⟩
      refine sp_m39 hs fun w g g9 g10 g11 g0 => ⟨rfl, ?_⟩
      rw [if_pos e] at g10
      refine ((sh_new hY h hs (z := 0) (by omega) (Or.inl e) (fun _ => rfl) (fun c h1 h2 => by rw [su_n _ _ _ h1, su_n _ _ _ h1]) (by rw [su_ne _ _ (by decide), su_at, e]) (by rw [su_at]; rfl) (fun i hi => absurd hi (Nat.not_lt_zero i)) g g9 g10 g11 g0).st hY 0).mono hY
    · refine inS _ ⟨fun c => absurd c (by decide), fun _ => ⟨fun q => absurd q c, fun _ => ⟨fun _ => ⟨fun _ => bad True, fun c => absurd rfl c⟩, fun q => absurd (Int32.not_le.mp d) q⟩⟩⟩
  · refine sp_in0 (m := 6) (by decide) (by decide) (fun j hj e => absurd e (hno j hj)) (fun _ => ⟨fun _ => bad True, fun c => absurd rfl c⟩)
end
