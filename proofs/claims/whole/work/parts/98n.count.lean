/-! block, count, told. -/
theorem ex_swap (E : Nat → Nat → Bool) : ∀ k m, (fun f : (Nat → Nat → Bool) → Nat → Nat → Nat => f E k m = f (fun a b => E b a) m k) (fun E k m => Nat.rec 0 (fun a r => r + cb (E a) m) k) := by
  intro k
  induction k with
  | zero =>
    intro m
    show 0 = Nat.rec 0 (fun a r => r + cb (fun b => E b a) 0) m
    induction m with
    | zero => rfl
    | succ m ih => exact ih
  | succ k ih =>
    intro m
    have h : ∀ m, (Nat.rec 0 (fun a r => r + cb (fun b => E b a) (k + 1)) m : Nat) = (Nat.rec 0 (fun a r => r + cb (fun b => E b a) k) m : Nat) + cb (E k) m := fun m => by
      induction m with
      | zero => rfl
      | succ m ih2 =>
        show (Nat.rec 0 (fun a r => r + cb (fun b => E b a) (k + 1)) m : Nat) + (cb (fun b => E b m) k + (E k m).toNat) = ((Nat.rec 0 (fun a r => r + cb (fun b => E b a) k) m : Nat) + cb (fun b => E b m) k) + (cb (E k) m + (E k m).toNat)
        rw [ih2]
        omega
    show (Nat.rec 0 (fun a r => r + cb (E a) m) k : Nat) + cb (E k) m = (Nat.rec 0 (fun a r => r + cb (fun b => E b a) (k + 1)) m : Nat)
    rw [h m]
    have := ih m
    exact congrArg (· + cb (E k) m) this
theorem prs_rec (E : Nat → Nat → Bool) : ∀ k, prs E k = (Nat.rec 0 (fun a r => r + cb (E a) 12) k : Nat)
  | 0 => rfl
  | k + 1 => by
    show prs E k + cb (E k) 12 = (Nat.rec 0 (fun a r => r + cb (E a) 12) k : Nat) + cb (E k) 12
    rw [prs_rec E k]
theorem prs_flip (E : Nat → Nat → Bool) : prs E 12 = prs (fun a b => E b a) 12 := by
  rw [prs_rec, prs_rec]
  exact ex_swap E 12 12
theorem cb_none {f : Nat → Bool} : ∀ k, (∀ i, i < k → f i = false) → cb f k = 0
  | 0, _ => rfl
  | k + 1, h => by
    simp only [cb]
    rw [cb_none k (fun i hi => h i (by omega)), h k (by omega)]
    rfl
theorem prs_cut {E : Nat → Nat → Bool} {n : Nat} (h : ∀ a b, n ≤ a → E a b = false) : ∀ k, prs E (n + k) = prs E n
  | 0 => rfl
  | k + 1 => by
    show prs E (n + k) + cb (E (n + k)) 12 = prs E n
    rw [prs_cut h k, cb_none 12 (fun i _ => h _ i (Nat.le_add_right n k))]
    rfl
theorem cb_cut {f : Nat → Bool} {n : Nat} (h : ∀ a, n ≤ a → f a = false) : ∀ k, cb f (n + k) = cb f n
  | 0 => rfl
  | k + 1 => by
    show cb f (n + k) + (f (n + k)).toNat = cb f n
    rw [cb_cut h k, h _ (Nat.le_add_right n k)]
    rfl
section
variable {k n : Nat} {uF uM w : St} {Post : Int32 → St → Prop}
/-- blocks under the relation -/
theorem sp_bl (hk : k < 512) (hr : RYc (PLd BKd) k n uF uM) (h : ∀ (v : St) (L W : Nat → Nat) (E : Nat → Nat → Bool) (m : Nat), SH v uM n L W E → RYc (PLd BKd) k n v uM → (∀ c, c < 12 ∨ 17 < c → v c = uF c) → m ≤ 12 → gs n (Pc E n) L W m = 2 ^ n - 1 → (∀ i, i < m → gs n (Pc E n) L W i ≠ 2 ^ n - 1) → (∀ i, i < m → v 13 i = nI (blk n (Pc E n) L W (gs n (Pc E n) L W i))) → Post (nI m) v) : wp_X7_blocks uF Post := by
  obtain ⟨L, W, E, x, x1, x2, hS, hp, hback⟩ := RYc_open hr
  obtain ⟨p1, p2, p3⟩ := hp
  obtain ⟨s1, s2, s3, s4, s5, s6, s7, s8⟩ := id hS
  unfold wp_X7_blocks
  simp only [wp_X10_version]
  rw [x2]
  refine ⟨fun e => ?_, fun e => ?_⟩
  · rcases p1 with z | ⟨y, y1, y2, y3⟩
    · rw [z] at e
      exact absurd e (fun e => nI_pos (n := x) (by omega) (by rw [← e]; decide))
    · obtain ⟨m, m1, m2, m3, m4, m5⟩ := y3 ((nI_eq (by omega) (by omega)).mp (y2.symm.trans e))
      rw [m4]
      exact h uF L W E m hS hr (fun _ _ => rfl) m1 m2 m3 m5
  · refine sp_findBlocks s1 s2 s8 fun z z1 z2 z3 => ?_
    obtain ⟨v, ev⟩ : ∃ v : St, v = su z 12 2 (z 1 9) := ⟨_, rfl⟩
    rw [← ev]
    have fr : ∀ c, c < 12 ∨ 17 < c → v c = uF c := fun c hc => by rw [ev, su_n _ _ _ (by omega)]; exact z1 c (by omega) (by omega)
    have v12 : ∀ i, i ≠ 1 → i ≠ 2 → v 12 i = uF 12 i := fun i h1 h2 => by rw [ev, su_ne _ _ h2]; exact z2 i h1
    have vc : ∀ c, c ≠ 12 → c ≠ 13 → v c = uF c := fun c h1 h2 => by rw [ev, su_n _ _ _ h1]; exact z1 c h1 h2
    have vB : BKd v n L W E := BKd_ok z v n L W E (by rw [ev, su_ne _ _ (by decide)]) (by rw [ev, su_n _ _ _ (by decide)]) z3
    have v2 : v 12 2 = nI x := by rw [ev, su_at, z1 1 (by decide) (by decide)]; exact x2
    have hy : RYc (PLd BKd) k n v uM := by
      refine hback v fr ⟨Or.inr ⟨x, Nat.le_refl x, v2, fun _ => vB⟩, ?_, ?_⟩
      · rw [v12 6 (by decide) (by decide), v12 8 (by decide) (by decide)]
        rcases p2 with z | ⟨y, y1, y2, y3⟩
        · exact Or.inl z
        · refine Or.inr ⟨y, y1, y2, fun e => ?_⟩
          obtain ⟨o1, o2⟩ := y3 e
          refine ⟨?_, fun q => TB_congr (vc 14 (by decide) (by decide)) (o2 q)⟩
          unfold OR
          rw [vc 14 (by decide) (by decide), vc 15 (by decide) (by decide), vc 16 (by decide) (by decide)]
          exact o1
      · rw [v12 8 (by decide) (by decide)]
        rcases p3 with z | ⟨y, y1, y2, y3⟩
        · exact Or.inl z
        · refine Or.inr ⟨y, y1, y2, fun e => ?_⟩
          unfold ST
          rw [vc 17 (by decide) (by decide)]
          exact y3 e
    have hSv : SH v uM n L W E := ⟨s1, YF_congr (fun c h1 h2 => fr c (by omega)) s2, s3, s4, s5, s6, s7, s8⟩
    obtain ⟨m, m1, m2, m3, m4, m5⟩ := vB
    rw [m4]
    exact h v L W E m hSv hy fr m1 m2 m3 m5
theorem ok_block : Ok_block (Rel (RYc (PLd BKd))) := by
  have hK := PLd_ok BKd_ok
  have hY := RYc_ok hK
  intro k a1 a2 uF uM hk h
  obtain ⟨h1, ⟨n, hr, hl⟩, ht, hs⟩ := id h
  unfold wp_X11_block
  refine ⟨fun c => ?_, fun c => ?_⟩
  · obtain ⟨L, W, E, x, x1, x2, hS, hp, hback⟩ := RYc_open hr
    unfold wp_X12_block
    refine sp_mFindBlocks hS fun z m m1 m2 m3 z1 z2 z3 z4 => ?_
    refine sp_in0 (m := m) (by omega) (by rw [z3]; rfl) (fun j hj e => absurd c (by rw [e]; exact nI_pos (by omega))) (fun _ => ⟨fun _ => ⟨rfl, ?_⟩, fun c => absurd rfl c⟩)
    exact (h.mm hY (fun i hi => z2 i (by omega)) (fun c c0 c5 c13 => z1 c c0 c5 (by omega))).mono hY
  · obtain ⟨i, hi, rfl⟩ := nI_of c
    refine sp_bl hk hr fun v L W E m hS hy fr m1 m2 m3 m5 => ?_
    obtain ⟨s1, s2, s3, s4, s5, s6, s7, s8⟩ := id hS
    have hn := s1.1
    have hR := Rel_plan h hl hy fr
    have mB : ∀ Q : Int32 → St → Prop, (∀ z : St, Rel (RYc (PLd BKd)) (k + 1) v z → z 0 0 = nI n → (∀ j, j < n → z 1 j = nI (L j)) → (∀ j, j < n → z 2 j = nI (W j)) → (∀ i, i < m → z 20 i = nI (blk n (Pc E n) L W (gs n (Pc E n) L W i))) → wp_X12_in (nI i) (0 : Int32) (nI m - nI 1) z (fun r12 u12 => ((r12 = 0) → (Q (-1 : Int32) u12)) ∧ ((¬ r12 = 0) → (wp_X12_in a2 (0 : Int32) (2 : Int32) u12 (fun r21 u21 => ((¬ r21 = 0) → (((¬ a2 = 0) → (((¬ a2 = (1 : Int32)) → (vp_in (nI i) 12 ∧ (wp_X12_lengthOf (u21 20 (Int32.toNatClampNeg (nI i))) u21 (fun r67 u67 => Q r67 u67)))) ∧ ((a2 = (1 : Int32)) → (vp_in (nI i) 12 ∧ (wp_X12_weightOf (u21 20 (Int32.toNatClampNeg (nI i))) u21 (fun r54 u54 => Q r54 u54)))))) ∧ ((a2 = 0) → (vp_in (nI i) 12 ∧ (Q (u21 20 (Int32.toNatClampNeg (nI i))) u21))))) ∧ ((r21 = 0) → (Q (-1 : Int32) u21))))))) → wp_X12_block (nI i) a2 uM Q := by
      intro Q hq
      unfold wp_X12_block
      refine sp_mFindBlocks hS fun z m' m1' m2' m3' z1 z2 z3 z4 => ?_
      have em : m' = m := gs_one m2' m3' m2 m3
      rw [em] at z3 z4
      have := hq z ((hR.mm hY (fun i hi => z2 i (by omega)) (fun c c0 c5 c13 => z1 c c0 c5 (by omega))).mono hY) (by rw [z2 0 (by decide)]; exact s3) (by rw [z1 1 (by decide) (by decide) (by decide)]; exact s4) (by rw [z1 2 (by decide) (by decide) (by decide)]; exact s5) z4
      rw [z3]
      exact this
    by_cases q : i < m
    · refine ⟨fun _ => ?_, fun c => absurd (nI_lt q (by omega)) c⟩
      have vi : vp_in (nI i) 12 := vp_in_nI (by omega) (by decide)
      obtain ⟨g1, g2⟩ := gs_ok (C := Pc E n) (W := W) hn s8 i (fun x hx => m3 x (by omega))
      have hMB := blk_MB (C := Pc E n) (W := W) hn s8 g1 (m3 i q)
      have bl := hMB.1.2.1
      unfold wp_X7_blockBits
      rw [cln (i := i) (by omega), m5 i q]
      have mB2 : ∀ Q : Int32 → St → Prop, (∀ z : St, Rel (RYc (PLd BKd)) (k + 1) v z → ((a2 = 0 → Q (nI (blk n (Pc E n) L W (gs n (Pc E n) L W i))) z) ∧ (a2 = 1 → Q (nI (sm W (blk n (Pc E n) L W (gs n (Pc E n) L W i)) 12)) z) ∧ (a2 = 2 → Q (nI (sm L (blk n (Pc E n) L W (gs n (Pc E n) L W i)) 12)) z) ∧ (¬ InR a2 0 2 → Q (-1) z))) → wp_X12_block (nI i) a2 uM Q := by
        intro Q hq
        refine mB Q fun z zR z0 zl zw zb => ?_
        obtain ⟨q0, q1, q2, q3⟩ := hq z zR
        refine sp_in0 (m := m) (by omega) rfl (fun j hj e => ⟨fun c => absurd c (by decide), fun _ => ?_⟩) (fun hno => absurd rfl (hno i q))
        refine sp_mIn (lo := 0) (hi := 2) (by decide) (by decide) (fun r => ⟨fun _ => ?_, fun c => absurd c (by decide)⟩) (fun r => ⟨fun c => absurd rfl c, fun _ => q3 r⟩)
        rw [cln (i := i) (by omega), zb i q]
        refine ⟨fun c0 => ⟨fun c1 => ⟨vi, sp_mLengthOf hn z0 zl ?_⟩, fun c1 => ⟨vi, sp_mWeightOf hn z0 zw ?_⟩⟩, fun c0 => ⟨vi, q0 c0⟩⟩
        · rw [← sm_n bl hn]
          obtain ⟨y, rfl, y1, y2⟩ := r
          refine q2 ?_
          have : y ≠ 0 := fun e => c0 (by rw [e]; rfl)
          have : y ≠ 1 := fun e => c1 (by rw [e]; rfl)
          rw [show y = 2 by omega]
          rfl
        · rw [← sm_n bl hn]
          exact q1 c1
      refine ⟨vi, fun e => ?_, fun e => ?_, fun e => ?_, fun e0 e1 e2 => ?_⟩
      · exact mB2 _ fun z zR => ⟨fun _ => ⟨rfl, zR⟩, fun e' => absurd (e.symm.trans e') (by decide), fun e' => absurd (e.symm.trans e') (by decide), fun r => absurd ⟨0, e, by decide, by decide⟩ r⟩
      · refine sp_weightOf hn s2.2.2.2 bl ?_
        exact mB2 _ fun z zR => ⟨fun e' => absurd (e.symm.trans e') (by decide), fun _ => ⟨rfl, zR⟩, fun e' => absurd (e.symm.trans e') (by decide), fun r => absurd ⟨1, e, by decide, by decide⟩ r⟩
      · refine sp_lengthOf hn s2.2.2.2 bl ?_
        exact mB2 _ fun z zR => ⟨fun e' => absurd (e.symm.trans e') (by decide), fun e' => absurd (e.symm.trans e') (by decide), fun _ => ⟨rfl, zR⟩, fun r => absurd ⟨2, e, by decide, by decide⟩ r⟩
      · exact mB2 _ fun z zR => ⟨fun e' => absurd e' e0, fun e' => absurd e' e1, fun e' => absurd e' e2, fun _ => ⟨rfl, zR⟩⟩
    · refine ⟨fun c => absurd ((nI_ltI hi (by omega)).mp c) q, fun _ => ?_⟩
      refine mB _ fun z zR z0 zl zw zb => ?_
      exact sp_in0 (m := m) (by omega) rfl (fun j hj e => absurd ((nI_eq hi (by omega)).mp e) (by omega)) (fun _ => ⟨fun _ => ⟨rfl, zR⟩, fun c => absurd rfl c⟩)
theorem RYc_pairs {PL : PLt} (hr : RYc PL k n uF uM) : ∃ E : Nat → Nat → Bool, uF 1 8 = nI (prs E 12) ∧ (∀ b, b < n → ∀ a, a < 32 → bt (uM 4 b) a = E a b) ∧ (∀ a b, E a b = true → a < n ∧ b < n) ∧ uF 20 5 = uM 0 8 := by
  obtain ⟨c, Y, nx, x, ⟨c1, c2, c3, rfl, c5⟩, f, fv, m, g, hh, hs, hp⟩ := hr
  exact ⟨(Y c).E, f.2.2.2.1, m.2.2, (c5 c (Nat.le_refl c)).2.2.1, g.2.1.trans g.2.2.symm⟩
theorem sp_pairs {E : Nat → Nat → Bool} (hn : n ≤ 12) (h0 : w 0 0 = nI n) (h4 : ∀ b, b < n → ∀ a, a < 32 → bt (w 4 b) a = E a b) (hin : ∀ a b, E a b = true → a < n ∧ b < n) (h : Post (nI (prs E 12)) w) : wp_X12_pairs w Post := by
  have e : prs E 12 = prs (fun a b => E b a) n := by
    have h1 := prs_cut (E := fun a b => E b a) (n := n) (fun a b ha => by
      cases q : E b a
      · rfl
      · have := (hin b a q).2
        omega) (12 - n)
    rw [show n + (12 - n) = 12 by omega] at h1
    rw [prs_flip, h1]
  rw [e] at h
  unfold wp_X12_pairs
  refine Exists.elim (loop_0 (fun m i (x : Int32) => wl_X12_pairs_4 Post m x (nI i) w) (fun i x => x = nI (prs (fun a b => E b a) i)) n 0 rfl ?_ ?_) (fun m hm => ⟨m, by rw [nI_0] at hm; exact hm⟩)
  · intro m x hx
    show wb_X12_pairs_4 Post _ x (nI n) w
    unfold wb_X12_pairs_4
    rw [h0, hx]
    exact ⟨fun _ => h, fun c => absurd (nI_le (Nat.le_refl n) (by omega)) c⟩
  · intro m i x hi hx ih
    show wb_X12_pairs_4 Post _ x (nI i) w
    unfold wb_X12_pairs_4
    rw [h0, cln (i := i) (by omega), nI_1]
    refine ⟨fun c => absurd c (nle_nI hi (by omega)), fun _ => ⟨vp_in_nI (by omega) (by decide), sp_bits ?_⟩⟩
    refine ih _ ?_
    rw [hx, nI_add]
    have : cb (bt (w 4 i)) 12 = cb (fun b => E b i) 12 := cb_congr 12 (fun a ha => h4 i hi a (by omega))
    rw [this]
    rfl
theorem ok_count : Ok_count (Rel (RYc (PLd BKd))) := by
  have hK := PLd_ok BKd_ok
  have hY := RYc_ok hK
  intro k a1 uF uM hk h
  obtain ⟨h1, ⟨n, hr, hl⟩, ht, hs⟩ := id h
  obtain ⟨n1, n2, n3, n4⟩ := hY.1 _ _ _ _ hr
  obtain ⟨E0, e1, e2, e3, e4⟩ := RYc_pairs hr
  have hR := h.mono hY
  unfold wp_X11_count
  refine ⟨fun e => ?_, fun e => ?_, fun e => ?_, fun e => ?_, fun e => ?_, fun e => ?_, fun e => ?_, fun d0 d1 d2 d3 d4 d5 d6 => ?_⟩
  · unfold wp_X10_jobs wp_X12_count
    exact ⟨fun _ => ⟨n2.trans n3.symm, hR⟩, fun c => absurd (e.symm.trans c) (by decide), fun c => absurd (e.symm.trans c) (by decide), fun c => absurd (e.symm.trans c) (by decide), fun c => absurd (e.symm.trans c) (by decide), fun c => absurd (e.symm.trans c) (by decide), fun c => absurd (e.symm.trans c) (by decide), fun c0 _ _ _ _ _ _ => absurd e c0⟩
  · unfold wp_X10_laidPairs wp_X12_count
    exact ⟨fun c => absurd (e.symm.trans c) (by decide), fun _ => sp_pairs n1 n3 e2 e3 ⟨e1, hR⟩, fun c => absurd (e.symm.trans c) (by decide), fun c => absurd (e.symm.trans c) (by decide), fun c => absurd (e.symm.trans c) (by decide), fun c => absurd (e.symm.trans c) (by decide), fun c => absurd (e.symm.trans c) (by decide), fun _ c1 _ _ _ _ _ => absurd e c1⟩
  · obtain ⟨z, l1, l2, l3, _⟩ := hl
    unfold wp_X6_size wp_X12_count
    exact ⟨fun c => absurd (e.symm.trans c) (by decide), fun c => absurd (e.symm.trans c) (by decide), fun _ => ⟨l2.trans l3.symm, hR⟩, fun c => absurd (e.symm.trans c) (by decide), fun c => absurd (e.symm.trans c) (by decide), fun c => absurd (e.symm.trans c) (by decide), fun c => absurd (e.symm.trans c) (by decide), fun _ _ c2 _ _ _ _ => absurd e c2⟩
  · refine sp_bl hk hr fun v L W E m hS hy fr m1 m2 m3 m5 => ?_
    have hRv := Rel_plan h hl hy fr
    unfold wp_X12_count
    refine ⟨fun c => absurd (e.symm.trans c) (by decide), fun c => absurd (e.symm.trans c) (by decide), fun c => absurd (e.symm.trans c) (by decide), fun _ => ?_, fun c => absurd (e.symm.trans c) (by decide), fun c => absurd (e.symm.trans c) (by decide), fun c => absurd (e.symm.trans c) (by decide), fun _ _ _ c3 _ _ _ => absurd e c3⟩
    refine sp_mFindBlocks hS fun z m' m1' m2' m3' z1 z2 z3 z4 => ⟨?_, (hRv.mm hY (fun i hi => z2 i (by omega)) (fun c c0 c5 c13 => z1 c c0 c5 (by omega))).mono hY⟩
    rw [z3, gs_one m2' m3' m2 m3]
  · obtain ⟨L, W, E, x, x1, x2, hS, hp, hback⟩ := RYc_open hr
    obtain ⟨s1, s2, s3, s4, s5, s6, s7, s8⟩ := id hS
    refine sp_beginnings n1 n2 s2.2.2.2 ?_
    unfold wp_X12_count
    refine ⟨fun c => absurd (e.symm.trans c) (by decide), fun c => absurd (e.symm.trans c) (by decide), fun c => absurd (e.symm.trans c) (by decide), fun c => absurd (e.symm.trans c) (by decide), fun _ => ?_, fun c => absurd (e.symm.trans c) (by decide), fun c => absurd (e.symm.trans c) (by decide), fun _ _ _ _ c4 _ _ => absurd e c4⟩
    unfold wp_X12_beginnings
    refine sp_closeMD n1 n3 s6 s7 fun z z1 z2 => ?_
    exact sp_mBeginnings n1 (by rw [z1 0 (by decide)]; exact n3) z2 ⟨rfl, (h.closed hY z1).mono hY⟩
  · obtain ⟨t, t1, t2, t3, t4⟩ := ht
    unfold wp_X0_begun wp_X12_count
    exact ⟨fun c => absurd (e.symm.trans c) (by decide), fun c => absurd (e.symm.trans c) (by decide), fun c => absurd (e.symm.trans c) (by decide), fun c => absurd (e.symm.trans c) (by decide), fun c => absurd (e.symm.trans c) (by decide), fun _ => ⟨t2.trans t3.symm, hR⟩, fun c => absurd (e.symm.trans c) (by decide), fun _ _ _ _ _ c5 _ => absurd e c5⟩
  · unfold wp_X2_size wp_X12_count
    exact ⟨fun c => absurd (e.symm.trans c) (by decide), fun c => absurd (e.symm.trans c) (by decide), fun c => absurd (e.symm.trans c) (by decide), fun c => absurd (e.symm.trans c) (by decide), fun c => absurd (e.symm.trans c) (by decide), fun c => absurd (e.symm.trans c) (by decide), fun _ => ⟨e4, hR⟩, fun _ _ _ _ _ _ c6 => absurd e c6⟩
  · unfold wp_X12_count
    exact ⟨fun c => absurd c d0, fun c => absurd c d1, fun c => absurd c d2, fun c => absurd c d3, fun c => absurd c d4, fun c => absurd c d5, fun c => absurd c d6, fun _ _ _ _ _ _ _ => ⟨rfl, hR⟩⟩
end
