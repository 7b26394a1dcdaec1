/-! A call of the class above, of a method that stands in the class above that one. -/
section FS
variable {p : Program} {l : Launch} {e : Env} {R : Room} {s : State} {m : MethodId} {args : Array Value} {below : List Frame} {meth : Method} {c : Code} {H : Heap} {locs : List Loc} {cells slots : Nat} {Q : State → Prop}
variable {cc : ByteArray} {pc nL : Nat} {ls : Array Slot} {rest st0 : List Value} {ret : Option FieldType} {own : String} {D : va_G} {tys : List (ClassId × FieldType)} {A : Nat → Prop} {H0 : Heap} {N : Nat} {G : Nat → (Nat → Int32) → va_E} {h : Nat → Nat} {u : St}
variable {x y : MethodName} {cy : ByteArray} {ny : Nat} {ry : Option FieldType} {rm : Room} {As : List Value} {ci idx n : Nat} {Post : Int32 → St → Prop}
def LkS2 (own : String) (idx : Nat) (x y : MethodName) (cy : ByteArray) (ny : Nat) (ry : Option FieldType) (n : Nat) : Prop :=
  Cond.methodLink own idx x ∈ wsU ∧ Cond.sameMethod x.cls y.cls x.name x.desc ∈ wsU ∧ Cond.superclass own x.cls ∈ wsU ∧ Cond.superclass x.cls y.cls ∈ wsU ∧ Cond.instanceMethod y ∈ wsU ∧ Cond.initialized y.cls ∈ wsU ∧ Cond.code y cy ny ry ∈ wsU ∧ (x.name = y.name ∧ x.desc = y.desc) ∧ (y.name ≠ "<init>" ∧ (parseMethodDescriptor y.desc).map (fun d => d.parameters.length) = some n)
set_option maxHeartbeats 4000000 in
theorem q_ciS2 (X : Cx p s m args meth c cc nL ret own D tys A) (O : wO D N G h u A s.heap H locs) (hA : ∀ q, s.heap.size ≤ q → A q) (k : Nat) (M : CtI l y cy ny ry rm D tys N G h (.ref (h k) :: As) u Post) (L : LkS2 own idx x y cy ny ry n) (hk : k < N) {fs : List Value} {q : vw_C} (hG : G k (u k) = .inr (ci, fs)) (hc : vwCl[ci]? = some q) (hn : As.length = n) (hrc : rm.cells = 0) (hrs : rm.slots = 0) (hR : rm.frames + 1 ≤ R.frames ∧ 8 + (ny + 11) + rm.locals ≤ R.locals) (hrm : (rest.map fun v => v.category).sum ≤ 8) (hsz : ls.size = nL) (hcs : cells ≤ R.cells ∧ slots ≤ R.slots) (hst : st0 = As.reverse ++ .ref (h k) :: rest) (hdg : decode cc pc = .ok (.invokespecial idx, 3))
    (kk : ∀ (r : Int32) (u1 : St) (H1 : Heap) (locs1 : List Loc), Post r u1 → wO D N G h u1 A s.heap H1 locs1 → W p l e R s m args below meth c H1 locs1 cells slots Q (F0 m (pc + 3) ls (.int r :: rest))) : W p l e R s m args below meth c H locs cells slots Q (F0 m pc ls st0) := by
  obtain ⟨S, hK, ⟨hNs, hSt⟩, -, -⟩ := X
  obtain ⟨w1, w2, w3, w4, w5, w6, w7, ⟨ex, ed⟩, hd⟩ := L
  have hF := wF_free O hA
  have hts := S.2.2.2.2
  have hrv := va_recv hK O.1 hc ((wG_at hk).trans (by rw [hG]))
  obtain ⟨cellB, hcB, hoB, hclB⟩ := hrv
  obtain ⟨hfc, kB, hkB, -⟩ := (hK.1 ci q hc).2
  rw [← Option.some.inj (hclB.symm.trans hfc)] at hkB
  have hpc : ∀ U : State, U.heap = H → s.WarmedH U.vm → va_Pc (.ref (h k) :: As) (cP D tys N G h u H.size) (Value.ref (h k) :: As).toArray U := fun U hU hW => ⟨rfl, by rw [hU], by rw [hU]; exact O.1, va_K.moved hW.alike hK, O.2.1.weaken (fun _ _ _ _ => trivial), hNs.warm hW, by rw [hU]; exact hSt.go O.2.2.2.1 hF hW.alike⟩
  have hback : Back l R p e below s args y 3 8 (PreOf R 0 0 (va_Pc (.ref (h k) :: As) (cP D tys N G h u H.size))) (PostOf (va_Qi Post (cB D tys N G h (va_A (wG N G h u) H.size)) (va_A (wG N G h u) H.size)) 0 0 (va_A (wG N G h u) H.size)) :=
    back_of (bytes := cy) (maxL := ny) (ret := ry) (M H.size) cP_blind hrc hrs hR.1 hR.2 (pay_in hts (gU w7)) List.mem_cons_self (fun a' U hW => word_at hW (Or.inl (by first | rfl | simp [Cond.onTables, Cond.keeps, Cond.steady])) (hts _ w6))
  have hrun : va_Run p l e R s m args below meth c H locs cells slots 0 0 (F0 m pc ls st0) rest (va_Qi Post (cB D tys N G h (va_A (wG N G h u) H.size)) (va_A (wG N G h u) H.size) (Value.ref (h k) :: As).toArray) (va_A (wG N G h u) H.size) := by
    intro T hT Xs
    obtain ⟨mk, methM, hnamed, hmethM, hstM, habM⟩ := Cond.instanceMethod_spec (hts _ w5)
    obtain ⟨methM', cM, hmethM', -, -, -, -, -, -, hsigM⟩ := Cond.code_spec hnamed (hts _ w7)
    cases hmethM.symm.trans hmethM'
    obtain ⟨ps, dk, kp, hps, hdk, hkp, hsuper, -, -, hnid⟩ := Cond.superclass_spec S.2.2.2.1 (hts _ w3)
    obtain ⟨gs, dk2, kp2, hgs, hdk2, hkp2, hsuper2, -, -, -⟩ := Cond.superclass_spec hps (hts _ w4)
    have hgm : gs = mk.cls := Option.some.inj (hgs.symm.trans (findClass_of_methodNamed hnamed))
    have hsub : s.vm.isSubclass ps mk.cls = true := by
      have hlt : 0 < s.vm.classes.size := Nat.lt_of_le_of_lt (Nat.zero_le _) (Array.getElem?_eq_some_iff.mp hdk2).1
      obtain ⟨z, hz⟩ : ∃ z, s.vm.classes.size = z + 1 := ⟨s.vm.classes.size - 1, by omega⟩
      unfold Vm.isSubclass
      rw [hz]
      simp only [Vm.isSubclassAux, hdk2, hsuper2, hgm, beq_self_eq_true, Bool.true_or, Bool.or_true]
    have hn0 : s.methodNamed? ⟨y.cls, x.name, x.desc⟩ = some mk := by rw [ex, ed]; exact hnamed
    have hlen : As.length = methM.sig.parameters.length := by
      have h2 := hd.2
      rw [hsigM] at h2
      exact hn.trans (Option.some.inj h2).symm
    obtain ⟨vm₁, X₁, hstep₁⟩ := Xs.invokespecialUp S.1 S.2.2.2.1 (hts _ w1) (hts _ w2) hn0 hmethM hstM habM (by rw [ex]; exact hd.1) hdk hnid hps hsuper hsub (a := h k) (cell := cellB) (by rw [hT]; exact hcB)
      (fun z hz => by rw [hz] at hoB; cases hoB) hkB (g := F0 m pc ls st0) rfl (argsL := As) (rest := rest) hlen hst (by rw [S.2.1]; exact hdg)
    obtain ⟨v, ⟨U', l2, c2, s2⟩, X', ⟨g', mk', t, L, e1, e2, hq, h1, hL, h2, h3⟩, hsteps⟩ := hback m meth c ⟨T.setVm vm₁, locs, cells, slots⟩ { (F0 m pc ls st0) with stack := rest } (.invokespecial idx) mk (Value.ref (h k) :: As).toArray X₁ rfl (hsz.trans S.2.2.1.symm) (by rw [S.2.1]; exact hdg) (lv_room hrm) (X₁.named hnamed) ⟨hcs.1, hcs.2, hpc (T.setVm vm₁) hT X₁.warmed⟩
    dsimp only [Pt.U, Pt.locs, Pt.cells, Pt.slots] at X' e1 e2 h1 h2 h3 hsteps
    subst h1; subst h2; subst h3
    exact ⟨v, (T.setVm vm₁).calling g' mk' (Value.ref (h k) :: As).toArray, t, U', L, hT, X', hL, e1, e2, hq, fun target hh => hstep₁ _ (by rw [doInvoke_state]; exact hsteps.trans hh)⟩
  refine va_calli hrun O.2.2 (fun q _ hq => hF q hq) hF (fun r u1 t H1 locs1 ht hvm hw hB hz1 hk1 hS => ?_)
  subst ht
  exact kk r u1 t.heap locs1 hw ⟨hB.1, hB.2.2.weaken (fun _ q _ hq => hF _ hq), hS⟩
end FS
