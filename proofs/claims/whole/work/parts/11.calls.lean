/-! Calls inside one component: the whole world goes in, the whole world comes out. -/
/-- the words of a call of an instance method, found in the class that declares it -/
def LkV (own : String) (idx : Nat) (y : MethodName) (cy : ByteArray) (ny : Nat) (ry : Option FieldType) (n : Nat) : Prop :=
  Cond.methodLink own idx y ∈ wsU ∧ Cond.instanceMethod y ∈ wsU ∧ Cond.selects y.cls y y ∈ wsU ∧ Cond.initialized y.cls ∈ wsU ∧ Cond.code y cy ny ry ∈ wsU ∧ (y.cls ≠ "java/lang/invoke/MethodHandle" ∧ y.cls ≠ "java/lang/invoke/VarHandle" ∧ (parseMethodDescriptor y.desc).map (fun d => d.parameters.length) = some n)
/-- of a static one -/
def LkS (own : String) (idx : Nat) (y : MethodName) (cy : ByteArray) (ny : Nat) (ry : Option FieldType) (n : Nat) : Prop :=
  Cond.methodLink own idx y ∈ wsU ∧ Cond.static y ∈ wsU ∧ Cond.initialized y.cls ∈ wsU ∧ Cond.code y cy ny ry ∈ wsU ∧ (y.cls ≠ "java/lang/invoke/MethodHandle" ∧ y.cls ≠ "java/lang/invoke/VarHandle" ∧ (parseMethodDescriptor y.desc).map (fun d => d.parameters.length) = some n)
/-- of a static one that is private to a nest mate -/
def LkSN (own : String) (idx : Nat) (y : MethodName) (cy : ByteArray) (ny : Nat) (ry : Option FieldType) (n : Nat) : Prop :=
  (∃ host : String, Cond.methodLinkNest own idx y host ∈ nestW) ∧ Cond.static y ∈ wsU ∧ Cond.initialized y.cls ∈ wsU ∧ Cond.code y cy ny ry ∈ wsU ∧ (y.cls ≠ "java/lang/invoke/MethodHandle" ∧ y.cls ≠ "java/lang/invoke/VarHandle" ∧ (parseMethodDescriptor y.desc).map (fun d => d.parameters.length) = some n)
section FC
variable {p : Program} {l : Launch} {e : Env} {R : Room} {s : State} {m : MethodId} {args : Array Value} {below : List Frame} {meth : Method} {c : Code} {H : Heap} {locs : List Loc} {cells slots : Nat} {Q : State → Prop}
variable {cc : ByteArray} {pc nL : Nat} {ls : Array Slot} {rest st0 : List Value} {ret : Option FieldType} {own : String} {D : va_G} {tys : List (ClassId × FieldType)} {A : Nat → Prop} {H0 : Heap} {N : Nat} {G : Nat → (Nat → Int32) → va_E} {h : Nat → Nat} {u : St}
variable {y : MethodName} {cy : ByteArray} {ny : Nat} {ry : Option FieldType} {rm : Room} {As : List Value} {ci idx n : Nat} {Post : Int32 → St → Prop}
theorem wF_free (O : wO D N G h u A s.heap H locs) (hA : ∀ q, s.heap.size ≤ q → A q) : ∀ q, va_A (wG N G h u) H.size q → A q := by
  intro q hq
  rcases hq with ⟨k, e, hk⟩ | hq
  · exact O.2.1.2 k _ hk
  · exact hA q (Nat.le_trans O.2.2.1 hq)
set_option maxHeartbeats 4000000 in
theorem q_civ (X : Cx p s m args meth c cc nL ret own D tys A) (O : wO D N G h u A s.heap H locs) (hA : ∀ q, s.heap.size ≤ q → A q) (k : Nat) (M : CtI l y cy ny ry rm D tys N G h (.ref (h k) :: As) u Post) (L : LkV own idx y cy ny ry n) (hk : k < N) {fs : List Value} {q : vw_C} (hG : G k (u k) = .inr (ci, fs)) (hc : vwCl[ci]? = some q) (hq : q.1 = y.cls) (hn : As.length = n) (hrc : rm.cells = 0) (hrs : rm.slots = 0) (hR : rm.frames + 1 ≤ R.frames ∧ 8 + (ny + 11) + rm.locals ≤ R.locals) (hrm : (rest.map fun v => v.category).sum ≤ 8) (hsz : ls.size = nL) (hcs : cells ≤ R.cells ∧ slots ≤ R.slots) (hst : st0 = As.reverse ++ .ref (h k) :: rest) (hdg : decode cc pc = .ok (.invokevirtual idx, 3))
    (kk : ∀ (r : Int32) (u1 : St) (H1 : Heap) (locs1 : List Loc), Post r u1 → wO D N G h u1 A s.heap H1 locs1 → W p l e R s m args below meth c H1 locs1 cells slots Q (F0 m (pc + 3) ls (.int r :: rest))) : W p l e R s m args below meth c H locs cells slots Q (F0 m pc ls st0) := by
  obtain ⟨S, hK, ⟨hNs, hSt⟩, -, -⟩ := X
  obtain ⟨w1, w2, w3, w4, w5, hd⟩ := L
  have hF := wF_free O hA
  have hrv := va_recv hK O.1 hc ((wG_at hk).trans (by rw [hG]))
  rw [hq] at hrv
  refine va_calli (va_runV (As := As) (rest := rest) (C := y.cls) S (M H.size) ⟨callB_of n S.2.2.2.2 (gU w5) rfl hrc hrs (S.2.2.2.2 _ w4) (S.2.2.2.2 _ w1) hd hR, S.2.2.2.2 _ w2, S.2.2.2.2 _ w3⟩ ⟨cP_blind, hrv, fun U hU hW => ⟨rfl, by rw [hU], by rw [hU]; exact O.1, va_K.moved hW.alike hK, O.2.1.weaken (fun _ _ _ _ => trivial), hNs.warm hW, by rw [hU]; exact hSt.go O.2.2.2.1 hF hW.alike⟩⟩ rfl hn hsz hst (lv_room hrm) hdg ⟨by omega, by omega⟩) O.2.2 (fun q _ hq => hF q hq) hF (fun r u1 t H1 locs1 ht hvm hw hB hz1 hk1 hS => ?_)
  subst ht
  exact kk r u1 t.heap locs1 hw ⟨hB.1, hB.2.2.weaken (fun _ q _ hq => hF _ hq), hS⟩
set_option maxHeartbeats 4000000 in
theorem q_cvv (X : Cx p s m args meth c cc nL ret own D tys A) (O : wO D N G h u A s.heap H locs) (hA : ∀ q, s.heap.size ≤ q → A q) (k : Nat) (M : CtV l y cy ny ry rm D tys N G h (.ref (h k) :: As) u Post) (L : LkV own idx y cy ny ry n) (hk : k < N) {fs : List Value} {q : vw_C} (hG : G k (u k) = .inr (ci, fs)) (hc : vwCl[ci]? = some q) (hq : q.1 = y.cls) (hn : As.length = n) (hrc : rm.cells = 0) (hrs : rm.slots = 0) (hR : rm.frames + 1 ≤ R.frames ∧ 8 + (ny + 11) + rm.locals ≤ R.locals) (hrm : (rest.map fun v => v.category).sum ≤ 8) (hsz : ls.size = nL) (hcs : cells ≤ R.cells ∧ slots ≤ R.slots) (hst : st0 = As.reverse ++ .ref (h k) :: rest) (hdg : decode cc pc = .ok (.invokevirtual idx, 3))
    (kk : ∀ (u1 : St) (H1 : Heap) (locs1 : List Loc), Post 0 u1 → wO D N G h u1 A s.heap H1 locs1 → W p l e R s m args below meth c H1 locs1 cells slots Q (F0 m (pc + 3) ls rest)) : W p l e R s m args below meth c H locs cells slots Q (F0 m pc ls st0) := by
  obtain ⟨S, hK, ⟨hNs, hSt⟩, -, -⟩ := X
  obtain ⟨w1, w2, w3, w4, w5, hd⟩ := L
  have hF := wF_free O hA
  have hrv := va_recv hK O.1 hc ((wG_at hk).trans (by rw [hG]))
  rw [hq] at hrv
  refine va_callv (va_runV (As := As) (rest := rest) (C := y.cls) S (M H.size) ⟨callB_of n S.2.2.2.2 (gU w5) rfl hrc hrs (S.2.2.2.2 _ w4) (S.2.2.2.2 _ w1) hd hR, S.2.2.2.2 _ w2, S.2.2.2.2 _ w3⟩ ⟨cP_blind, hrv, fun U hU hW => ⟨rfl, by rw [hU], by rw [hU]; exact O.1, va_K.moved hW.alike hK, O.2.1.weaken (fun _ _ _ _ => trivial), hNs.warm hW, by rw [hU]; exact hSt.go O.2.2.2.1 hF hW.alike⟩⟩ rfl hn hsz hst (lv_room hrm) hdg ⟨by omega, by omega⟩) O.2.2 (fun q _ hq => hF q hq) hF (fun u1 t H1 locs1 ht hvm hw hB hz1 hk1 hS => ?_)
  subst ht
  exact kk u1 t.heap locs1 hw ⟨hB.1, hB.2.2.weaken (fun _ q _ hq => hF _ hq), hS⟩
set_option maxHeartbeats 4000000 in
theorem q_cis (X : Cx p s m args meth c cc nL ret own D tys A) (O : wO D N G h u A s.heap H locs) (hA : ∀ q, s.heap.size ≤ q → A q) (M : CtI l y cy ny ry rm D tys N G h As u Post) (L : LkS own idx y cy ny ry n) (hn : As.length = n) (hrc : rm.cells = 0) (hrs : rm.slots = 0) (hR : rm.frames + 1 ≤ R.frames ∧ 8 + (ny + 11) + rm.locals ≤ R.locals) (hrm : (rest.map fun v => v.category).sum ≤ 8) (hsz : ls.size = nL) (hcs : cells ≤ R.cells ∧ slots ≤ R.slots) (hst : st0 = As.reverse ++ rest) (hdg : decode cc pc = .ok (.invokestatic idx, 3))
    (kk : ∀ (r : Int32) (u1 : St) (H1 : Heap) (locs1 : List Loc), Post r u1 → wO D N G h u1 A s.heap H1 locs1 → W p l e R s m args below meth c H1 locs1 cells slots Q (F0 m (pc + 3) ls (.int r :: rest))) : W p l e R s m args below meth c H locs cells slots Q (F0 m pc ls st0) := by
  obtain ⟨S, hK, ⟨hNs, hSt⟩, -, -⟩ := X
  obtain ⟨w1, w2, w4, w5, hd⟩ := L
  have hF := wF_free O hA
  refine va_calli (va_runS (As := As) (rest := rest) S (M H.size) ⟨callB_of n S.2.2.2.2 (gU w5) rfl hrc hrs (S.2.2.2.2 _ w4) (S.2.2.2.2 _ w1) hd hR, S.2.2.2.2 _ w2⟩ ⟨cP_blind, fun U hU hW => ⟨rfl, by rw [hU], by rw [hU]; exact O.1, va_K.moved hW.alike hK, O.2.1.weaken (fun _ _ _ _ => trivial), hNs.warm hW, by rw [hU]; exact hSt.go O.2.2.2.1 hF hW.alike⟩⟩ rfl hn hsz hst (lv_room hrm) hdg ⟨by omega, by omega⟩) O.2.2 (fun q _ hq => hF q hq) hF (fun r u1 t H1 locs1 ht hvm hw hB hz1 hk1 hS => ?_)
  subst ht
  exact kk r u1 t.heap locs1 hw ⟨hB.1, hB.2.2.weaken (fun _ q _ hq => hF _ hq), hS⟩
set_option maxHeartbeats 4000000 in
theorem q_cisN (X : Cx p s m args meth c cc nL ret own D tys A) (O : wO D N G h u A s.heap H locs) (hA : ∀ q, s.heap.size ≤ q → A q) (M : CtI l y cy ny ry rm D tys N G h As u Post) (L : LkSN own idx y cy ny ry n) (hn : As.length = n) (hrc : rm.cells = 0) (hrs : rm.slots = 0) (hR : rm.frames + 1 ≤ R.frames ∧ 8 + (ny + 11) + rm.locals ≤ R.locals) (hrm : (rest.map fun v => v.category).sum ≤ 8) (hsz : ls.size = nL) (hcs : cells ≤ R.cells ∧ slots ≤ R.slots) (hst : st0 = As.reverse ++ rest) (hdg : decode cc pc = .ok (.invokestatic idx, 3))
    (kk : ∀ (r : Int32) (u1 : St) (H1 : Heap) (locs1 : List Loc), Post r u1 → wO D N G h u1 A s.heap H1 locs1 → W p l e R s m args below meth c H1 locs1 cells slots Q (F0 m (pc + 3) ls (.int r :: rest))) : W p l e R s m args below meth c H locs cells slots Q (F0 m pc ls st0) := by
  obtain ⟨S, hK, ⟨hNs, hSt⟩, -, -⟩ := X
  obtain ⟨⟨host, w1⟩, w2, w4, w5, hd⟩ := L
  have hF := wF_free O hA
  refine va_calli (va_runSN (host := host) (As := As) (rest := rest) S (M H.size) ⟨va_cnB n S.2.2.2.2 (gU w5) rfl hrc hrs (hNs.1 _ w1) (S.2.2.2.2 _ w4) hd hR, S.2.2.2.2 _ w2, trivial⟩ ⟨cP_blind, fun U hU hW => ⟨rfl, by rw [hU], by rw [hU]; exact O.1, va_K.moved hW.alike hK, O.2.1.weaken (fun _ _ _ _ => trivial), hNs.warm hW, by rw [hU]; exact hSt.go O.2.2.2.1 hF hW.alike⟩⟩ rfl hn hsz hst (lv_room hrm) hdg ⟨by omega, by omega⟩) O.2.2 (fun q _ hq => hF q hq) hF (fun r u1 t H1 locs1 ht hvm hw hB hz1 hk1 hS => ?_)
  subst ht
  exact kk r u1 t.heap locs1 hw ⟨hB.1, hB.2.2.weaken (fun _ q _ hq => hF _ hq), hS⟩
end FC
