/-! series and shows: the class's side. -/
def ddF (n : Nat) (C : Nat → Nat → Bool) (a b c : Nat) : Int32 := sch (fun d => if (C b d && apB C a d && apB C c d) = true then nI d else -1) n 0
def enF (n : Nat) (C : Nat → Nat → Bool) (a b c : Nat) : Int32 := if (C a c && C b c) = true then (if ddF n C a b c = -1 then -1 else nI c ||| (ddF n C a b c <<< ((4 : Int32) &&& 31))) else -1
def ccF (a b : Nat) (e : Int32) : Int32 := (nI a ||| (nI b <<< ((4 : Int32) &&& 31))) ||| (e <<< ((8 : Int32) &&& 31))
def crF (n : Nat) (C : Nat → Nat → Bool) : Int32 := sch (fun a => sch (fun b => if apB C a b = true then (if sch (enF n C a b) n 0 = -1 then -1 else ccF a b (sch (enF n C a b) n 0)) else -1) n 0) n 0
theorem shl48 {c d : Nat} (hc : c < 12) (hd : d < 12) : (nI c ||| (nI d <<< ((4 : Int32) &&& 31))) <<< ((8 : Int32) &&& 31) = (nI c <<< ((8 : Int32) &&& 31)) ||| (nI d <<< ((12 : Int32) &&& 31)) :=
  (by decide +kernel : ∀ c, c < 12 → ∀ d, d < 12 → (nI c ||| (nI d <<< ((4 : Int32) &&& 31))) <<< ((8 : Int32) &&& 31) = (nI c <<< ((8 : Int32) &&& 31)) ||| (nI d <<< ((12 : Int32) &&& 31))) c hc d hd
theorem e4_ne {c d : Nat} (hc : c < 12) (hd : d < 12) : (nI c ||| (nI d <<< ((4 : Int32) &&& 31))) ≠ -1 :=
  (by decide +kernel : ∀ c, c < 12 → ∀ d, d < 12 → (nI c ||| (nI d <<< ((4 : Int32) &&& 31))) ≠ -1) c hc d hd
theorem ccF_cd4 {a b c d : Nat} (hc : c < 12) (hd : d < 12) : ccF a b (nI c ||| (nI d <<< ((4 : Int32) &&& 31))) = cd4 (nI a) (nI b) (nI c) (nI d) := by
  unfold ccF cd4
  rw [shl48 hc hd, Int32.or_assoc, Int32.or_assoc, Int32.or_assoc]
theorem ddF_cases {n : Nat} {C : Nat → Nat → Bool} {a b c : Nat} : ddF n C a b c = -1 ∨ ∃ d, d < n ∧ ddF n C a b c = nI d := by
  unfold ddF
  rcases sch_dich (fun d => if (C b d && apB C a d && apB C c d) = true then nI d else -1) n 0 with ⟨h1, _⟩ | ⟨p, h1, h2, h3, h4, _⟩
  · exact Or.inl h1
  · refine Or.inr ⟨p, by omega, ?_⟩
    rw [h4]
    by_cases q : (C b p && apB C a p && apB C c p) = true
    · exact if_pos q
    · exact absurd (if_neg q) h3
theorem enF_ne {n : Nat} {C : Nat → Nat → Bool} {a b c : Nat} (hn : n ≤ 12) (hc : c < n) (h : enF n C a b c ≠ -1) : ∃ d, d < n ∧ enF n C a b c = nI c ||| (nI d <<< ((4 : Int32) &&& 31)) := by
  unfold enF at h ⊢
  by_cases q : (C a c && C b c) = true
  · rw [if_pos q] at h ⊢
    rcases ddF_cases (n := n) (C := C) (a := a) (b := b) (c := c) with e | ⟨d, hd, e⟩
    · rw [if_pos e] at h
      exact absurd rfl h
    · rw [e, if_neg (nI_ne_m1 (by omega))]
      exact ⟨d, hd, rfl⟩
  · rw [if_neg q] at h
    exact absurd rfl h
theorem four_cross {n : Nat} {C : Nat → Nat → Bool} (hn : n ≤ 12) : fourF n C = crF n C := by
  unfold fourF crF
  refine sch_congr n 0 fun a _ ha => sch_congr n 0 fun b _ hb => ?_
  by_cases hab : apB C a b = true
  · rw [if_pos hab]
    refine sch_comb n 0 fun c _ hc => ⟨?_, fun q => ?_⟩
    · by_cases hcc : (C a c && C b c) = true
      · have e1 : (fun d => if isF C a b c d = true then cd4 (nI a) (nI b) (nI c) (nI d) else -1) = fun d => if (C b d && apB C a d && apB C c d) = true then cd4 (nI a) (nI b) (nI c) (nI d) else -1 := by
          funext d
          simp only [Bool.and_eq_true] at hcc
          simp only [isF, hab, hcc.1, hcc.2, Bool.true_and, Bool.and_true]
        rw [e1]
        have e2 : sch (fun d => if (C b d && apB C a d && apB C c d) = true then cd4 (nI a) (nI b) (nI c) (nI d) else -1) n 0 = if ddF n C a b c = -1 then -1 else cd4 (nI a) (nI b) (nI c) (ddF n C a b c) := by
          unfold ddF
          refine sch_comb n 0 fun d _ hd => ?_
          by_cases q : (C b d && apB C a d && apB C c d) = true
          · simp only [if_pos q, if_neg (nI_ne_m1 (show d < 2 ^ 31 by omega))]
            exact ⟨trivial, fun _ => cd4_ne (by omega) (by omega) (by omega) (by omega)⟩
          · simp only [if_neg q]
            exact ⟨by rw [if_pos trivial], fun q => absurd rfl q⟩
        rw [e2]
        unfold enF
        rw [if_pos hcc]
        rcases ddF_cases (n := n) (C := C) (a := a) (b := b) (c := c) with e | ⟨d, hd, e⟩
        · rw [if_pos e, if_pos e, if_pos rfl]
        · rw [e, if_neg (nI_ne_m1 (by omega)), if_neg (nI_ne_m1 (by omega)), if_neg (e4_ne (by omega) (by omega)), ccF_cd4 (by omega) (by omega)]
      · have e0 : enF n C a b c = -1 := by unfold enF; rw [if_neg hcc]
        rw [e0, if_pos rfl]
        refine sch_none fun d _ _ => if_neg fun q => hcc ?_
        simp only [isF, Bool.and_eq_true] at q ⊢
        exact ⟨q.1.1.1.1.1, q.1.1.1.1.2⟩
    · obtain ⟨d, hd, e⟩ := enF_ne hn (by omega) q
      rw [e, ccF_cd4 (by omega) (by omega)]
      exact cd4_ne (by omega) (by omega) (by omega) (by omega)
  · rw [if_neg hab]
    refine sch_none fun c _ _ => sch_none fun d _ _ => if_neg fun q => hab ?_
    simp only [isF, Bool.and_eq_true] at q
    exact q.1.1.2
section
variable {u w : St} {n a b c d : Nat} {L Wt : Nat → Nat} {E C : Nat → Nat → Bool} {Post : Int32 → St → Prop}
theorem sp_unbound (hn : n ≤ 12) (h0 : u 1 7 = nI n) (hD : FD u n L Wt E) (ha : a < n) (h : ∀ r, (∀ b, b < 32 → bt r b = (decide (b < n) && apB (Pc E n) a b)) → Post r u) : wp_X10_unbound (nI a) u Post := by
  unfold wp_X10_unbound
  have v : vp_in (nI a) 12 := vp_in_nI (by omega) (by decide)
  refine sp_everyJob hn h0 ⟨v, v, h _ fun b hb => ?_⟩
  rw [cln (by omega), b_and, bt_nI hb, Nat.testBit_two_pow_sub_one, bt_not hb, b_or, b_or, bt_1shl (by omega) hb, hD.1 a ha b hb, hD.2.1 a ha b hb]
  by_cases c : b < n
  · rw [decide_eq_true c]
    unfold apB
    by_cases e : a = b
    · subst e
      simp
    · rw [decide_eq_true (show a ≠ b from e), decide_eq_false (show ¬ b = a from fun q => e q.symm)]
      cases Pc E n a b <;> cases Pc E n b a <;> rfl
  · rw [decide_eq_false c]
    rfl
theorem sp_findEnds (hn : n ≤ 12) (h0 : u 1 7 = nI n) (hD : FD u n L Wt E) (ha : a < n) (hb : b < n) (h : Post (sch (enF n (Pc E n) a b) n 0) u) : wp_X10_findEnds (nI a) (nI b) u Post := by
  unfold wp_X10_findEnds
  refine Exists.elim (loop_0 (fun m i (_ : Unit) => wl_X10_findEnds_2 Post m (nI a) (nI b) (nI i) u) (fun i _ => Post (sch (enF n (Pc E n) a b) (n - i) i) u) n () h ?_ ?_) (fun m hm => ⟨m, by rw [nI_0] at hm; exact hm⟩)
  · intro m _ k1
    show wb_X10_findEnds_2 Post _ (nI a) (nI b) (nI n) u
    unfold wb_X10_findEnds_2
    rw [h0]
    rw [Nat.sub_self] at k1
    exact ⟨fun _ => k1, fun q => absurd (Int32.le_refl _) q⟩
  · intro m c _ hc k1 ih
    show wb_X10_findEnds_2 Post _ (nI a) (nI b) (nI c) u
    unfold wb_X10_findEnds_2
    rw [h0, nI_1, cln (by omega), cln (by omega)]
    rw [sch_step hc] at k1
    have va : ∀ {x}, x < n → vp_in (nI x) 12 := fun hx => vp_in_nI (by omega) (by decide)
    refine ⟨fun q => absurd q (nle_nI hc (by omega)), fun _ => ⟨va hb, sp_unbound hn h0 hD ha fun r1 e1 => sp_unbound hn h0 hD hc fun r2 e2 => ⟨va ha, va hb, sp_hasBit (by omega) ?_⟩⟩⟩
    obtain ⟨t1, t2⟩ := sch_tz (x := (u 8 b &&& r1) &&& r2) (n := n) (g := fun d => Pc E n b d && apB (Pc E n) a d && apB (Pc E n) c d) hn fun d hd => by
      rw [b_and, b_and, hD.1 b hb d hd, e1 d hd, e2 d hd]
      by_cases q : d < n
      · simp [q]
      · simp [q]
    have t1 : (u 8 b &&& r1) &&& r2 = 0 ↔ ddF n (Pc E n) a b c = -1 := t1
    have t2 : (u 8 b &&& r1) &&& r2 ≠ 0 → nzF ((u 8 b &&& r1) &&& r2) = ddF n (Pc E n) a b c := t2
    rw [b_and, hD.1 a ha c (by omega), hD.1 b hb c (by omega)]
    by_cases q : (Pc E n a c && Pc E n b c) = true
    · rw [if_pos q]
      refine ⟨fun q => absurd q (by decide), fun _ => ⟨fun q2 => ?_, fun q2 => sp_ntz ?_⟩⟩
      · have e : enF n (Pc E n) a b c = -1 := by unfold enF; rw [if_pos q, if_pos (t1.mp q2)]
        rw [if_pos e] at k1
        exact ih () k1
      · rw [t2 q2]
        have e : enF n (Pc E n) a b c = nI c ||| (ddF n (Pc E n) a b c <<< ((4 : Int32) &&& 31)) := by unfold enF; rw [if_pos q, if_neg (fun e => q2 (t1.mpr e))]
        have ne : enF n (Pc E n) a b c ≠ -1 := by
          rcases ddF_cases (n := n) (C := Pc E n) (a := a) (b := b) (c := c) with e2 | ⟨d, hd, e2⟩
          · exact absurd (t1.mpr e2) q2
          · rw [e, e2]
            exact e4_ne (by omega) (by omega)
        rw [if_neg ne, e] at k1
        exact k1
    · rw [if_neg q]
      have e : enF n (Pc E n) a b c = -1 := by unfold enF; rw [if_neg q]
      rw [if_pos e] at k1
      exact ⟨fun _ => ih () k1, fun q => absurd rfl q⟩
theorem sp_cross12 {K2 : Int32 → St → Prop} {f : Nat → Int32} (hn : n ≤ 12) (h0 : u 1 7 = nI n) (hD : FD u n L Wt E) (ha : a < n) (hf : ∀ b, b < n → f b = if apB (Pc E n) a b = true then (if sch (enF n (Pc E n) a b) n 0 = -1 then -1 else ccF a b (sch (enF n (Pc E n) a b) n 0)) else -1)
    (hK : sch f n 0 = -1 → K2 (nI (a + 1)) u) (hP : sch f n 0 ≠ -1 → Post (sch f n 0) u) : ∃ m, wl_X10_findCrossing_12 Post K2 m (nI a) 0 u := by
  refine Exists.elim (loop_0 (fun m i (_ : Unit) => wl_X10_findCrossing_12 Post K2 m (nI a) (nI i) u) (fun i _ => (sch f (n - i) i = -1 → K2 (nI (a + 1)) u) ∧ (sch f (n - i) i ≠ -1 → Post (sch f (n - i) i) u)) n () ⟨hK, hP⟩ ?_ ?_) (fun m hm => ⟨m, by rw [nI_0] at hm; exact hm⟩)
  · intro m _ ⟨k1, _⟩
    show wb_X10_findCrossing_12 Post K2 _ (nI a) (nI n) u
    unfold wb_X10_findCrossing_12
    rw [h0, nI_1]
    rw [Nat.sub_self] at k1
    exact ⟨fun _ => k1 rfl, fun q => absurd (Int32.le_refl _) q⟩
  · intro m b _ hb ⟨k1, k2⟩ ih
    show wb_X10_findCrossing_12 Post K2 _ (nI a) (nI b) u
    unfold wb_X10_findCrossing_12
    rw [h0]
    rw [sch_step hb] at k1 k2
    have fb := hf b hb
    refine ⟨fun q => absurd q (nle_nI hb (by omega)), fun _ => sp_unbound hn h0 hD ha fun r e => sp_hasBit (by omega) ?_⟩
    rw [e b (by omega), decide_eq_true hb, Bool.true_and]
    by_cases q : apB (Pc E n) a b = true
    · rw [if_pos q] at fb ⊢
      refine ⟨fun q => absurd q (by decide), fun _ => sp_findEnds hn h0 hD ha hb ?_⟩
      unfold wb_X10_findCrossing_42
      refine ⟨fun q2 => ?_, fun q2 => ?_⟩
      · rw [if_pos q2] at fb
        rw [if_pos fb] at k1 k2
        rw [nI_1]
        exact ih () ⟨k1, k2⟩
      · rw [if_neg q2] at fb
        have ne : ccF a b (sch (enF n (Pc E n) a b) n 0) ≠ -1 := by
          rcases sch_dich (enF n (Pc E n) a b) n 0 with ⟨h1, _⟩ | ⟨p, h1, h2, h3, h4, _⟩
          · exact absurd h1 q2
          · obtain ⟨d, hd, e⟩ := enF_ne hn (by omega) h3
            rw [h4, e, ccF_cd4 (by omega) (by omega)]
            exact cd4_ne (by omega) (by omega) (by omega) (by omega)
        rw [fb, if_neg ne] at k2
        exact k2 ne
    · rw [if_neg q] at fb ⊢
      unfold wb_X10_findCrossing_42
      rw [if_pos fb] at k1 k2
      rw [nI_1]
      exact ⟨fun _ => ⟨fun _ => ih () ⟨k1, k2⟩, fun q => absurd rfl q⟩, fun q => absurd rfl q⟩
theorem sp_findCrossing (hn : n ≤ 12) (h0 : u 1 7 = nI n) (hD : FD u n L Wt E) (h : Post (fourF n (Pc E n)) u) : wp_X10_findCrossing u Post := by
  rw [four_cross hn] at h
  unfold wp_X10_findCrossing
  refine Exists.elim (loop_0 (fun m i (_ : Unit) => wl_X10_findCrossing_2 Post m (nI i) u) (fun i _ => Post (sch (fun a => sch (fun b => if apB (Pc E n) a b = true then (if sch (enF n (Pc E n) a b) n 0 = -1 then -1 else ccF a b (sch (enF n (Pc E n) a b) n 0)) else -1) n 0) (n - i) i) u) n () h ?_ ?_) (fun m hm => ⟨m, by rw [nI_0] at hm; exact hm⟩)
  · intro m _ k1
    show wb_X10_findCrossing_2 Post _ (nI n) u
    unfold wb_X10_findCrossing_2
    rw [h0]
    rw [Nat.sub_self] at k1
    exact ⟨fun _ => k1, fun q => absurd (Int32.le_refl _) q⟩
  · intro m a _ ha k1 ih
    show wb_X10_findCrossing_2 Post _ (nI a) u
    unfold wb_X10_findCrossing_2
    rw [h0]
    rw [sch_step ha] at k1
    refine ⟨fun q => absurd q (nle_nI ha (by omega)), fun _ => sp_cross12 (f := fun b => if apB (Pc E n) a b = true then (if sch (enF n (Pc E n) a b) n 0 = -1 then -1 else ccF a b (sch (enF n (Pc E n) a b) n 0)) else -1) hn h0 hD ha (fun b hb => rfl) (fun q => ?_) (fun q => ?_)⟩
    · rw [if_pos q] at k1
      exact ih () k1
    · rw [if_neg q] at k1
      exact k1
end
section
variable {RY : Nat → Nat → St → St → Prop}
theorem sp_mFour (hY : RYok RY) (hV : View RY) {k n : Nat} {uF uM : St} {Post : Int32 → St → Prop} {L Wt : Nat → Nat} {E : Nat → Nat → Bool} (h : Rel RY k uF uM) (hr : RY k n uF uM) (hD : FD uF n L Wt E) (hp : ∀ v, Rel RY (k + 1) uF v → Post (fourF n (Pc E n)) v) : wp_X12_four uM Post := by
  obtain ⟨n1, n2, n3, n4⟩ := hY.1 _ _ _ _ hr
  unfold wp_X12_four
  refine sp_cl hY hV hr fun v e1 e2 => ?_
  refine sp_four6 n1 (by rw [e1 0 (by decide)]; exact n3) (C := Pc E n) (fun j hj a ha => ?_) (hp v ((h.closed hY e1).mono hY))
  rw [e2 j hj, hD.2.1 j hj a ha]
theorem ok_series (hY : RYok RY) (hV : View RY) : Ok_series (Rel RY) := by
  intro k uF uM hk h
  obtain ⟨h1, ⟨n, h2, hl⟩, ht, hs⟩ := id h
  obtain ⟨n1, n2, n3, n4⟩ := hY.1 _ _ _ _ h2
  obtain ⟨L, Wt, T, E, hm, hD, hF6, hM4, hin, hac⟩ := hV _ _ _ _ h2
  unfold wp_X11_series wp_X11_asNumber wp_X12_series
  refine sp_findCrossing n1 n2 hD ⟨fun c => ⟨fun _ => ?_, fun q => absurd rfl q⟩, fun c => ⟨fun q => absurd q (by decide), fun _ => ?_⟩⟩
  · exact sp_mFour hY hV h h2 hD fun v hR => ⟨fun _ => ⟨rfl, hR⟩, fun d => absurd d c⟩
  · exact sp_mFour hY hV h h2 hD fun v hR => ⟨fun d => absurd c d, fun _ => ⟨rfl, hR⟩⟩
theorem ok_shows (hY : RYok RY) (hV : View RY) : Ok_shows (Rel RY) := by
  intro k a uF uM hk h
  obtain ⟨h1, ⟨n, h2, hl⟩, ht, hs⟩ := id h
  obtain ⟨n1, n2, n3, n4⟩ := hY.1 _ _ _ _ h2
  obtain ⟨L, Wt, T, E, hm, hD, hF6, hM4, hin, hac⟩ := hV _ _ _ _ h2
  unfold wp_X11_shows wp_X10_jobOfCrossing wp_X12_shows
  refine sp_findCrossing n1 n2 hD ⟨fun c => ?_, fun c => ⟨fun d => ?_, fun d => ⟨fun e => ?_, fun e => ?_⟩⟩⟩
  · exact sp_mFour hY hV h h2 hD fun v hR => ⟨fun _ => ⟨rfl, hR⟩, fun d => absurd c d⟩
  · refine sp_mFour hY hV h h2 hD fun v hR => ⟨fun q => absurd q c, fun _ => ?_⟩
    unfold wp_X12_in
    exact ⟨fun _ => ⟨fun q => absurd rfl q, fun _ => ⟨rfl, hR⟩⟩, fun q => absurd d q⟩
  · refine sp_mFour hY hV h h2 hD fun v hR => ⟨fun q => absurd q c, fun _ => ?_⟩
    unfold wp_X12_in
    exact ⟨fun q => absurd q d, fun _ => ⟨fun q => absurd q (Int32.not_lt.mpr e), fun _ => ⟨fun _ => ⟨rfl, hR⟩, fun q => absurd q (by decide)⟩⟩⟩
  · refine sp_mFour hY hV h h2 hD fun v hR => ⟨fun q => absurd q c, fun _ => ?_⟩
    unfold wp_X12_in
    exact ⟨fun q => absurd q d, fun _ => ⟨fun _ => ⟨fun q => absurd rfl q, fun _ => ⟨rfl, hR⟩⟩, fun q => absurd (Int32.not_le.mp e) q⟩⟩
end
