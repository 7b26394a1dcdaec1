/-! Further rules: rows of references, calls by the receiver's class, calls of the class above, Math. -/
section FA
variable {p : Program} {l : Launch} {e : Env} {R : Room} {s : State} {m : MethodId} {args : Array Value} {below : List Frame} {meth : Method} {c : Code} {H : Heap} {locs : List Loc} {cells slots : Nat} {Q : State → Prop}
variable {cc : ByteArray} {pc nL : Nat} {ls : Array Slot} {rest st0 : List Value} {ret : Option FieldType} {own : String} {D : va_G} {tys : List (ClassId × FieldType)} {A : Nat → Prop} {H0 : Heap} {N : Nat} {G : Nat → (Nat → Int32) → va_E} {h : Nat → Nat} {u : St}
variable {y : MethodName} {cy : ByteArray} {ny : Nat} {ry : Option FieldType} {rm : Room} {As : List Value} {ci idx n : Nat} {Post : Int32 → St → Prop}
theorem q_ald (X : Cx p s m args meth c cc nL ret own D tys A) (O : wO D N G h u A H0 H locs) (k t0 : Nat) (hk : k < N) {n : Nat} {cA : ClassId} {C : String} {f : Nat → Option Nat} (hG : G k (u k) = .inl (cA, n, .inr (.inr (.inr (.inr f))))) (ht : tys[t0]? = some (cA, .object C)) {i : Int32} (hi : vp_in i n) {a : Nat} (hf : f i.toNatClampNeg = some a) (hdg : decode cc pc = .ok (.aaload, 1))
    (kk : W p l e R s m args below meth c H locs cells slots Q (F0 m (pc + 1) ls (.ref a :: rest))) : W p l e R s m args below meth c H locs cells slots Q (F0 m pc ls (.int i :: .ref (h k) :: rest)) := by
  obtain ⟨⟨hx, hb, hml, hown, hts⟩, hK, ⟨hNs, -⟩, -, -⟩ := X
  refine va_aldq hx hb hK O.1 k t0 ((wG_at hk).trans (by rw [hG])) ht hi hdg ?_
  rw [hf]
  exact kk
theorem q_alA (X : Cx p s m args meth c cc nL ret own D tys A) (O : wO D N G h u A H0 H locs) (k t0 : Nat) (hk : k < N) {n : Nat} {cA : ClassId} {f : Nat → Option Nat} (hG : G k (u k) = .inl (cA, n, .inr (.inr (.inr (.inr f))))) (ht : tys[t0]? = some (cA, .array .int)) {i : Int32} (hi : vp_in i n) {a : Nat} (hf : f i.toNatClampNeg = some a) (hdg : decode cc pc = .ok (.aaload, 1))
    (kk : W p l e R s m args below meth c H locs cells slots Q (F0 m (pc + 1) ls (.ref a :: rest))) : W p l e R s m args below meth c H locs cells slots Q (F0 m pc ls (.int i :: .ref (h k) :: rest)) := by
  obtain ⟨⟨hx, hb, hml, hown, hts⟩, hK, ⟨hNs, -⟩, -, -⟩ := X
  have ha : (wG N G h u)[k]? = some (h k, .inl (cA, n, .inr (.inr (.inr (.inr f))))) := (wG_at hk).trans (by rw [hG])
  have hlt : i.toNatClampNeg < n := Nat.not_le.mp fun q => hi (Or.inr q)
  refine W.aald (v := va_rf (f i.toNatClampNeg)) (ty := .array .int) hx hb (O.1 k _ ha) ((hK.2 t0 _ ht).1 n (fun j => va_rf (f j))) rfl (fun q => by cases q) (by show ¬ (i < 0 ∨ (arrV _ _ _).slots.size ≤ _); rw [arrV_size]; exact hi) (by show (arrV _ _ _).slots[_]? = _; rw [arrV_read _ _ hlt]) rfl rfl hdg ?_
  rw [hf]
  exact kk
theorem vin_lt {i : Int32} {n : Nat} (h : vp_in i n) : i.toNatClampNeg < n := Nat.not_le.mp fun q => h (Or.inr q)
/-- the words of a call that goes by the receiver's class C: the method that is named, x, was found in 'owner', the one that runs is y -/
def LkU (own : String) (idx : Nat) (C owner : String) (x y : MethodName) (cy : ByteArray) (ny : Nat) (ry : Option FieldType) (n : Nat) : Prop :=
  Cond.methodLink own idx x ∈ wsU ∧ Cond.sameMethod x.cls owner x.name x.desc ∈ wsU ∧ Cond.instanceMethod ⟨owner, x.name, x.desc⟩ ∈ wsU ∧ Cond.selects C x y ∈ wsU ∧ Cond.instanceMethod y ∈ wsU ∧ Cond.initialized y.cls ∈ wsU ∧ Cond.code y cy ny ry ∈ wsU ∧ (∃ (b0 : ByteArray) (m0 : Nat) (r0 : Option FieldType), Cond.code ⟨owner, x.name, x.desc⟩ b0 m0 r0 ∈ wsU) ∧ (owner ≠ "java/lang/invoke/MethodHandle" ∧ owner ≠ "java/lang/invoke/VarHandle" ∧ (parseMethodDescriptor x.desc).map (fun d => d.parameters.length) = some n)
set_option maxHeartbeats 4000000 in
theorem q_ciU {x : MethodName} {C owner : String} (X : Cx p s m args meth c cc nL ret own D tys A) (O : wO D N G h u A s.heap H locs) (hA : ∀ q, s.heap.size ≤ q → A q) (k : Nat) (M : CtI l y cy ny ry rm D tys N G h (.ref (h k) :: As) u Post) (L : LkU own idx C owner x y cy ny ry n) (hk : k < N) {fs : List Value} {q : vw_C} (hG : G k (u k) = .inr (ci, fs)) (hc : vwCl[ci]? = some q) (hq : q.1 = C) (hn : As.length = n) (hrc : rm.cells = 0) (hrs : rm.slots = 0) (hR : rm.frames + 1 ≤ R.frames ∧ 8 + (ny + 11) + rm.locals ≤ R.locals) (hrm : (rest.map fun v => v.category).sum ≤ 8) (hsz : ls.size = nL) (hcs : cells ≤ R.cells ∧ slots ≤ R.slots) (hst : st0 = As.reverse ++ .ref (h k) :: rest) (hdg : decode cc pc = .ok (.invokevirtual idx, 3))
    (kk : ∀ (r : Int32) (u1 : St) (H1 : Heap) (locs1 : List Loc), Post r u1 → wO D N G h u1 A s.heap H1 locs1 → W p l e R s m args below meth c H1 locs1 cells slots Q (F0 m (pc + 3) ls (.int r :: rest))) : W p l e R s m args below meth c H locs cells slots Q (F0 m pc ls st0) := by
  obtain ⟨S, hK, ⟨hNs, hSt⟩, -, -⟩ := X
  obtain ⟨w1, w2, w3, w4, w5, w6, w7, ⟨b0, m0, r0, w8⟩, hd⟩ := L
  have hF := wF_free O hA
  have hrv := va_recv hK O.1 hc ((wG_at hk).trans (by rw [hG]))
  rw [hq] at hrv
  have hT : GoodIn wsU (va_wsO own idx C owner x y (Cond.code y cy ny ry :: wsU)) := by
    intro w hw
    unfold va_wsO at hw
    rcases List.mem_append.mp hw with h1 | h1
    · simp only [List.mem_cons, List.not_mem_nil, or_false] at h1
      rcases h1 with rfl | rfl | rfl | rfl | rfl | rfl
      · exact ⟨w1, goodL _ w1⟩
      · exact ⟨w2, goodL _ w2⟩
      · exact ⟨w3, goodL _ w3⟩
      · exact ⟨w4, goodL _ w4⟩
      · exact ⟨w5, goodL _ w5⟩
      · exact ⟨w6, goodL _ w6⟩
    · exact gU w7 _ h1
  refine va_calli (va_runU (As := As) (rest := rest) (C := C) S (M H.size) (va_cwO n S.2.2.2.2 hT rfl hrc hrs w8 hd hR) ⟨cP_blind, hrv, fun U hU hW => ⟨rfl, by rw [hU], by rw [hU]; exact O.1, va_K.moved hW.alike hK, O.2.1.weaken (fun _ _ _ _ => trivial), hNs.warm hW, by rw [hU]; exact hSt.go O.2.2.2.1 hF hW.alike⟩⟩ rfl hn hsz hst (lv_room hrm) hdg ⟨by omega, by omega⟩) O.2.2 (fun q _ hq => hF q hq) hF (fun r u1 t H1 locs1 ht hvm hw hB hz1 hk1 hS => ?_)
  subst ht
  exact kk r u1 t.heap locs1 hw ⟨hB.1, hB.2.2.weaken (fun _ q _ hq => hF _ hq), hS⟩
/-- the words of a call of the class above -/
def LkSU (own : String) (idx : Nat) (y : MethodName) (cy : ByteArray) (ny : Nat) (ry : Option FieldType) (n : Nat) : Prop :=
  Cond.methodLink own idx y ∈ wsU ∧ Cond.sameMethod y.cls y.cls y.name y.desc ∈ wsU ∧ Cond.superclass own y.cls ∈ wsU ∧ Cond.instanceMethod y ∈ wsU ∧ Cond.initialized y.cls ∈ wsU ∧ Cond.code y cy ny ry ∈ wsU ∧ (y.name ≠ "<init>" ∧ (parseMethodDescriptor y.desc).map (fun d => d.parameters.length) = some n)
set_option maxHeartbeats 4000000 in
theorem q_ciSU (X : Cx p s m args meth c cc nL ret own D tys A) (O : wO D N G h u A s.heap H locs) (hA : ∀ q, s.heap.size ≤ q → A q) (k : Nat) (M : CtI l y cy ny ry rm D tys N G h (.ref (h k) :: As) u Post) (L : LkSU own idx y cy ny ry n) (hk : k < N) {fs : List Value} {q : vw_C} (hG : G k (u k) = .inr (ci, fs)) (hc : vwCl[ci]? = some q) (hn : As.length = n) (hrc : rm.cells = 0) (hrs : rm.slots = 0) (hR : rm.frames + 1 ≤ R.frames ∧ 8 + (ny + 11) + rm.locals ≤ R.locals) (hrm : (rest.map fun v => v.category).sum ≤ 8) (hsz : ls.size = nL) (hcs : cells ≤ R.cells ∧ slots ≤ R.slots) (hst : st0 = As.reverse ++ .ref (h k) :: rest) (hdg : decode cc pc = .ok (.invokespecial idx, 3))
    (kk : ∀ (r : Int32) (u1 : St) (H1 : Heap) (locs1 : List Loc), Post r u1 → wO D N G h u1 A s.heap H1 locs1 → W p l e R s m args below meth c H1 locs1 cells slots Q (F0 m (pc + 3) ls (.int r :: rest))) : W p l e R s m args below meth c H locs cells slots Q (F0 m pc ls st0) := by
  obtain ⟨S, hK, ⟨hNs, hSt⟩, -, -⟩ := X
  obtain ⟨w1, w2, w3, w4, w5, w6, hd⟩ := L
  have hF := wF_free O hA
  have hrv := va_recv hK O.1 hc ((wG_at hk).trans (by rw [hG]))
  have hT : GoodIn wsU (va_wsSU own idx y (Cond.code y cy ny ry :: wsU)) := by
    intro w hw
    unfold va_wsSU at hw
    rcases List.mem_append.mp hw with h1 | h1
    · simp only [List.mem_cons, List.not_mem_nil, or_false] at h1
      rcases h1 with rfl | rfl | rfl | rfl | rfl
      · exact ⟨w1, goodL _ w1⟩
      · exact ⟨w2, goodL _ w2⟩
      · exact ⟨w3, goodL _ w3⟩
      · exact ⟨w4, goodL _ w4⟩
      · exact ⟨w5, goodL _ w5⟩
    · exact gU w6 _ h1
  refine va_calli (va_runSU (As := As) (rest := rest) (C := q.1) (hK.1 ci q hc).2 S (M H.size) (va_cwSU n S.2.2.2.2 hT rfl hrc hrs hd hR) ⟨cP_blind, hrv, fun U hU hW => ⟨rfl, by rw [hU], by rw [hU]; exact O.1, va_K.moved hW.alike hK, O.2.1.weaken (fun _ _ _ _ => trivial), hNs.warm hW, by rw [hU]; exact hSt.go O.2.2.2.1 hF hW.alike⟩⟩ rfl hn hsz hst (lv_room hrm) hdg ⟨by omega, by omega⟩) O.2.2 (fun q _ hq => hF q hq) hF (fun r u1 t H1 locs1 ht hvm hw hB hz1 hk1 hS => ?_)
  subst ht
  exact kk r u1 t.heap locs1 hw ⟨hB.1, hB.2.2.weaken (fun _ q _ hq => hF _ hq), hS⟩
theorem q_max {x v : Int32} (X : Cx p s m args meth c cc nL ret own D tys A) (hsz : ls.size = nL) (w1 : Cond.methodLink own idx Lib.Math.max.name ∈ wsU) (w2 : Cond.static Lib.Math.max.name ∈ wsU) (w3 : Cond.initialized "java/lang/Math" ∈ wsU) (w4 : Cond.code Lib.Math.max.name Lib.Math.max.code 2 (some .int) ∈ wsU) (hR : 1 ≤ R.frames ∧ 21 ≤ R.locals) (hrm : (rest.map fun v => v.category).sum ≤ 8) (hcs : cells ≤ R.cells ∧ slots ≤ R.slots) (hdg : decode cc pc = .ok (.invokestatic idx, 3))
    (kk : W p l e R s m args below meth c H locs cells slots Q (F0 m (pc + 3) ls (.int (if x < v then v else x) :: rest))) : W p l e R s m args below meth c H locs cells slots Q (F0 m pc ls (.int v :: .int x :: rest)) := by
  obtain ⟨⟨hx, hb, hml, hown, hts⟩, -⟩ := X
  exact va_mmax hx hb (hml.trans hsz.symm) hown (hts _ w1) (hts _ w2) (hts _ w3) (hts _ w4) hR.1 (by omega) hcs.1 hcs.2 hdg kk
end FA
