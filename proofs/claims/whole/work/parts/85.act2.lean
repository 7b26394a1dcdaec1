section
variable {RY : Nat → Nat → St → St → Prop}
theorem kd_nat {x : Int32} (h : x = 0 ∨ x = 1 ∨ x = 2 ∨ x = 3 ∨ x = 4) : ∃ d, d < 5 ∧ x = nI d := by
  rcases h with h | h | h | h | h
  · exact ⟨0, by decide, h⟩
  · exact ⟨1, by decide, h⟩
  · exact ⟨2, by decide, h⟩
  · exact ⟨3, by decide, h⟩
  · exact ⟨4, by decide, h⟩
/-- what the bodies answer on the class's side, over a state with an empty trace -/
theorem sp_body {u : St} {d act : Nat} {x : Int32} {Post : Int32 → St → Prop} (hd : d < 5) (hact : act < 4) (h0 : tF u [] = u)
    (h : ∀ l : List Int32, l.length ≤ 20 → l = (if act = 0 then bLast d else if act = 1 then bWeigh d else if act = 2 then bFollow d else bTell d) → Post (if act = 0 then vLast (u 25 2) (u 25 4) (u 25 5) d x else if act = 1 then vWeigh (u 25 2) (u 25 3) (u 25 4) (u 25 5) d x else if act = 2 then vFollow (u 25 5) d x else vTell (u 25 2) (u 25 3) (u 25 4) (u 25 5) d x) (su (tF u l) 0 7 0)) :
    ((nI act = 0 → ((nI d = 0 → (wp_X4_last_k0 x u (fun r88 u88 => wp_X11_done r88 u88 Post))) ∧ (nI d = 1 → (wp_X9_last_k1 x u (fun r88 u88 => wp_X11_done r88 u88 Post))) ∧ (nI d = 2 → (wp_X4_last_k2 x u (fun r88 u88 => wp_X11_done r88 u88 Post))) ∧ (nI d = 3 → (wp_X1_last_k3 x u (fun r88 u88 => wp_X11_done r88 u88 Post))) ∧ (nI d = 4 → (wp_X5_last_k4 x u (fun r88 u88 => wp_X11_done r88 u88 Post))))) ∧
     (nI act = 1 → ((nI d = 0 → (wp_X4_weigh_k0 x u (fun r88 u88 => wp_X11_done r88 u88 Post))) ∧ (nI d = 1 → (wp_X4_weigh_k1 x u (fun r88 u88 => wp_X11_done r88 u88 Post))) ∧ (nI d = 2 → (wp_X3_weigh_k2 x u (fun r88 u88 => wp_X11_done r88 u88 Post))) ∧ (nI d = 3 → (wp_X4_weigh_k3 x u (fun r88 u88 => wp_X11_done r88 u88 Post))) ∧ (nI d = 4 → (wp_X4_weigh_k4 x u (fun r88 u88 => wp_X11_done r88 u88 Post))))) ∧
     (nI act = 2 → ((nI d = 0 → (wp_X4_follow_k0 x u (fun r88 u88 => wp_X11_done r88 u88 Post))) ∧ (nI d = 1 → (wp_X4_follow_k1 x u (fun r88 u88 => wp_X11_done r88 u88 Post))) ∧ (nI d = 2 → (wp_X4_follow_k2 x u (fun r88 u88 => wp_X11_done r88 u88 Post))) ∧ (nI d = 3 → (wp_X1_follow_k3 x u (fun r88 u88 => wp_X11_done r88 u88 Post))) ∧ (nI d = 4 → (wp_X4_follow_k4 x u (fun r88 u88 => wp_X11_done r88 u88 Post))))) ∧
     (¬ nI act = 0 → ¬ nI act = 1 → ¬ nI act = 2 → ((nI d = 0 → (wp_X4_tell_k0 x u (fun r88 u88 => wp_X11_done r88 u88 Post))) ∧ (nI d = 1 → (wp_X9_tell_k1 x u (fun r88 u88 => wp_X11_done r88 u88 Post))) ∧ (nI d = 2 → (wp_X4_tell_k2 x u (fun r88 u88 => wp_X11_done r88 u88 Post))) ∧ (nI d = 3 → (wp_X9_tell_k3 x u (fun r88 u88 => wp_X11_done r88 u88 Post))) ∧ (nI d = 4 → (wp_X5_tell_k4 x u (fun r88 u88 => wp_X11_done r88 u88 Post)))))) := by
  rw [← h0]
  have g2 := fun l => tF_5 u l (j := 2) (by decide)
  have g3 := fun l => tF_5 u l (j := 3) (by decide)
  have g4 := fun l => tF_5 u l (j := 4) (by decide)
  have g5 := fun l => tF_5 u l (j := 5) (by decide)
  have b0 : ∀ {a : Int32} {P : Int32 → St → Prop}, wp_X0_begin a (tF u []) P = P 0 (tF u [a]) := begin_eq (by simp)
  have b1 : ∀ {a p : Int32} {P : Int32 → St → Prop}, wp_X0_begin a (tF u [p]) P = P 0 (tF u [a, p]) := begin_eq (by simp)
  have b2 : ∀ {a p q : Int32} {P : Int32 → St → Prop}, wp_X0_begin a (tF u [p, q]) P = P 0 (tF u [a, p, q]) := begin_eq (by simp)
  have b3 : ∀ {a p q r : Int32} {P : Int32 → St → Prop}, wp_X0_begin a (tF u [p, q, r]) P = P 0 (tF u [a, p, q, r]) := begin_eq (by simp)
  have b4 : ∀ {a p q r s : Int32} {P : Int32 → St → Prop}, wp_X0_begin a (tF u [p, q, r, s]) P = P 0 (tF u [a, p, q, r, s]) := begin_eq (by simp)
  have b5 : ∀ {a p q r s t : Int32} {P : Int32 → St → Prop}, wp_X0_begin a (tF u [p, q, r, s, t]) P = P 0 (tF u [a, p, q, r, s, t]) := begin_eq (by simp)
  have b6 : ∀ {a p q r s t v : Int32} {P : Int32 → St → Prop}, wp_X0_begin a (tF u [p, q, r, s, t, v]) P = P 0 (tF u [a, p, q, r, s, t, v]) := begin_eq (by simp)
  have b7 : ∀ {a p q r s t v y : Int32} {P : Int32 → St → Prop}, wp_X0_begin a (tF u [p, q, r, s, t, v, y]) P = P 0 (tF u [a, p, q, r, s, t, v, y]) := begin_eq (by simp)
  have b8 : ∀ {a p q r s t v y z : Int32} {P : Int32 → St → Prop}, wp_X0_begin a (tF u [p, q, r, s, t, v, y, z]) P = P 0 (tF u [a, p, q, r, s, t, v, y, z]) := begin_eq (by simp)
  refine ⟨fun ca => ⟨fun cd => ?_, fun cd => ?_, fun cd => ?_, fun cd => ?_, fun cd => ?_⟩, fun ca => ⟨fun cd => ?_, fun cd => ?_, fun cd => ?_, fun cd => ?_, fun cd => ?_⟩, fun ca => ⟨fun cd => ?_, fun cd => ?_, fun cd => ?_, fun cd => ?_, fun cd => ?_⟩, fun ca0 ca1 ca2 => ⟨fun cd => ?_, fun cd => ?_, fun cd => ?_, fun cd => ?_, fun cd => ?_⟩⟩
  all_goals first
    | have cd := (nI_eq (b := 0) (by omega) (by decide)).mp cd
    | have cd := (nI_eq (b := 1) (by omega) (by decide)).mp cd
    | have cd := (nI_eq (b := 2) (by omega) (by decide)).mp cd
    | have cd := (nI_eq (b := 3) (by omega) (by decide)).mp cd
    | have cd := (nI_eq (b := 4) (by omega) (by decide)).mp cd
  all_goals subst cd
  all_goals first
    | (have ca := (nI_eq (b := 0) (by omega) (by decide)).mp ca; subst ca)
    | (have ca := (nI_eq (b := 1) (by omega) (by decide)).mp ca; subst ca)
    | (have ca := (nI_eq (b := 2) (by omega) (by decide)).mp ca; subst ca)
    | (have ca : act = 3 := by
        have q0 : act ≠ 0 := fun e => ca0 (by rw [e]; rfl)
        have q1 : act ≠ 1 := fun e => ca1 (by rw [e]; rfl)
        have q2 : act ≠ 2 := fun e => ca2 (by rw [e]; rfl)
        omega
       subst ca)
  all_goals simp only [wp_X4_last_k0, wp_X9_last_k1, wp_X4_last_k1, wp_X4_last_k2, wp_X1_last_k3, wp_X9_last_k3, wp_X4_last_k3, wp_X4_follow_k3, wp_X5_last_k4, wp_X4_last_k4, wp_X4_weigh_k0, wp_X4_weigh_k1, wp_X3_weigh_k2, wp_X4_weigh_k2, wp_X4_weigh_k3, wp_X4_weigh_k4, wp_X4_follow_k0, wp_X4_follow_k1, wp_X4_follow_k2, wp_X1_follow_k3, wp_X4_follow_k4, wp_X4_tell_k0, wp_X9_tell_k1, wp_X4_tell_k1, wp_X4_tell_k2, wp_X9_tell_k3, wp_X4_tell_k3, wp_X5_tell_k4, wp_X4_tell_k4, b0, b1, b2, b3, b4, b5, b6, b7, b8, g2, g3, g4, g5, wp_X11_done]
  all_goals exact h _ (by decide) rfl
end
