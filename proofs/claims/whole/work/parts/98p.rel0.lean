/-! The start, and the relation that all calls keep. -/
theorem uF0_z {k : Nat} (h1 : k ≠ 12) (h2 : k < 34) (j : Nat) : uF0 k j = 0 := by
  unfold uF0
  rw [if_neg h1, if_neg (by omega)]
theorem uM0_z {k : Nat} (h1 : k ≠ 9) (j : Nat) : uM0 k j = 0 := by
  unfold uM0
  rw [if_neg h1]
theorem uM0_9 : ∀ s, s < 6 → uM0 9 s = -1 := by decide
theorem uF0_s : ∀ s, s < 6 → uF0 (34 + 2 * s) 1 = -1 ∧ uF0 (34 + 2 * s) 2 = 0 := by decide
theorem ob_zero (f : Nat → Nat → Bool) (a : Nat) : ∀ k, ob f 0 a k = false
  | 0 => rfl
  | k + 1 => by
    simp only [ob]
    rw [ob_zero f a k, Nat.zero_testBit]
    rfl
theorem rel_0 : Rel (RYc (PLd BKd)) 0 uF0 uM0 := by
  have y0 : okY (yA 0 (fun _ _ => 0) (fun _ _ => false)) := ⟨Nat.zero_le _, fun j hj => absurd hj (Nat.not_lt_zero j), fun a b q => absurd q (by decide : ¬ (false = true)), fun a ha => absurd ha (Nat.not_lt_zero a)⟩
  have p0 : prs (fun _ _ => false) 12 = 0 := by decide
  have fz : FZ uF0 := ⟨uF0_z (by decide) (by decide) _, uF0_z (by decide) (by decide) _, uF0_z (by decide) (by decide) _, uF0_z (by decide) (by decide) _, uF0_z (by decide) (by decide) _, uF0_z (by decide) (by decide) _⟩
  have z9 : ∀ x, uF0 9 x = 0 := fun x => uF0_z (by decide) (by decide) x
  have z10 : ∀ x, uF0 10 x = 0 := fun x => uF0_z (by decide) (by decide) x
  have z11 : ∀ x, uF0 11 x = 0 := fun x => uF0_z (by decide) (by decide) x
  have fd : FD uF0 0 (fun _ => 0) (fun _ => 0) (fun _ _ => false) := by
    refine ⟨fun a ha => absurd ha (Nat.not_lt_zero a), fun a ha => absurd ha (Nat.not_lt_zero a), fun p hp => ?_, fun p hp => ?_⟩
    · have e : p = 0 := by
        have h1 : p < 1 := hp
        omega
      subst e
      rw [z9, z10, z11, sm_zero]
      exact ⟨nI_0.symm, nI_0.symm, fun a _ => by rw [b_0, ob_zero]⟩
    · have e : p = 0 := by
        have h1 : p < 1 := hp
        omega
      subst e
      rw [z9, z10, z11, sm_zero]
      exact ⟨nI_0.symm, nI_0.symm, fun a _ => by rw [b_0, ob_zero]⟩
  refine ⟨by rw [uF0_z (by decide) (by decide), uM0_z (by decide)], ⟨0, ⟨0, fun _ => yA 0 (fun _ _ => 0) (fun _ _ => false), 0, 0, ⟨Nat.zero_le _, by decide, Nat.le_refl 0, rfl, fun _ _ => y0⟩, ⟨?_, fun w _ j hj => absurd hj (Nat.not_lt_zero j), fun a _ b _ => ?_, ?_, fd, fz⟩, ?_, ⟨?_, fun q _ j hj => absurd hj (Nat.not_lt_zero j), fun b hb => absurd hb (Nat.not_lt_zero b)⟩, ⟨?_, ?_, ?_⟩, fun i hi => absurd hi (Nat.not_lt_zero i), fun i hi => absurd hi (Nat.not_lt_zero i), ⟨Or.inl (by decide), Or.inl (by decide), Or.inl (by decide)⟩⟩, 0, by decide, ?_, ?_, fun i hi => absurd hi (Nat.not_lt_zero i), fun i j hi => absurd hi (Nat.not_lt_zero i)⟩, ⟨0, by decide, ?_, ?_, fun i hi => absurd hi (Nat.not_lt_zero i)⟩, fun s hs => ?_⟩
  · exact (uF0_z (by decide) (by decide) _).trans nI_0.symm
  · rw [uF0_z (by decide) (by decide), b_0]
    rfl
  · show uF0 1 8 = nI (prs (fun _ _ => false) 12)
    rw [p0]
    exact (uF0_z (by decide) (by decide) _).trans nI_0.symm
  · exact (uF0_z (by decide) (by decide) _).trans nI_0.symm
  · exact (uM0_z (by decide) _).trans nI_0.symm
  · exact (uF0_z (by decide) (by decide) _).trans nI_0.symm
  · exact (uF0_z (by decide) (by decide) _).trans nI_0.symm
  · exact (uM0_z (by decide) _).trans nI_0.symm
  · exact (uF0_z (by decide) (by decide) _).trans nI_0.symm
  · exact (uM0_z (by decide) _).trans nI_0.symm
  · exact (uF0_z (by decide) (by decide) _).trans nI_0.symm
  · exact (uM0_z (by decide) _).trans nI_0.symm
  · obtain ⟨a1, a2⟩ := uF0_s s hs
    refine ⟨Or.inl a1, by rw [a1, uM0_9 s hs], 0, by decide, a2.trans nI_0.symm, (uM0_z (by decide) _).trans nI_0.symm, fun _ => rfl, fun i hi => absurd hi (Nat.not_lt_zero i)⟩
theorem law_ok : LawOK (Rel (RYc (PLd BKd))) := by
  have hB := BKd_ok
  have hK := PLd_ok hB
  have hY := RYc_ok hK
  have hV : View (RYc (PLd BKd)) := RYc_view
  exact ⟨ok_job hK, ok_set hK, ok_lay hK, ok_free hK, ok_put hY, ok_clear hY, ok_told, ok_ahead hY hV, ok_count, ok_keeps hY hV, ok_why hY hV, ok_cost hY, ok_swap hY, ok_block, ok_least hB, ok_best hB, ok_many hB, ok_fixed hB, ok_series hY hV, ok_shows hY hV, ok_turned hB, ok_act hY hV, ok_trace hY, ok_sheet hY, ok_cell hY, ok_fromSheet hK, ok_forge hY hV, ok_undo hK, ok_status hY, fun k uF uM h => h.mono hY⟩
theorem rel_all : ∃ Rel : Nat → St → St → Prop, LawOK Rel ∧ Rel 0 uF0 uM0 := ⟨_, law_ok, rel_0⟩
