/-! Rules for constructors: the cells stand in a list that grows. -/
abbrev tyA (b : Nat → ClassId) : List (ClassId × FieldType) := [(b 0, .int), (b 1, .long), (b 2, .array .int), (b 3, .object RX4), (b 4, .object RX8)]
def wL (D : va_G) (ws : va_W) (A : Nat → Prop) (H0 H : Heap) (locs : List Loc) : Prop := va_P D vwCl ws H ∧ va_D A ws ∧ va_S A H0 H locs
abbrev nP (D : va_G) (tys : List (ClassId × FieldType)) (w0 : va_W) (sz : Nat) (U : State) : Prop := U.heap.size = sz ∧ va_P D vwCl w0 U.heap ∧ va_K D vwCl tys U ∧ va_D (fun _ => True) w0 ∧ Nst U
/-- a constructor: the object's cell becomes the cells B q, mc of them new with ms places -/
def CtN (l : Launch) (y : MethodName) (cc : ByteArray) (nL : Nat) (rm : Room) (D : va_G) (tys : List (ClassId × FieldType)) (h0 : Nat) (w0 : va_W) (B : (Nat → Nat) → va_W) (mc ms : Nat) : Prop :=
  ∀ sz : Nat, Met l y (Cond.code y cc nL none :: wsU) rm (va_Pc [.ref h0] (nP D tys w0 sz)) (va_Qv (fun _ : Nat → Nat => True) (fun q t => va_P D vwCl (B q) t.heap ∧ va_D (va_A w0 sz) (B q)) (va_A w0 sz)) mc ms (va_A w0 sz)
theorem nP_blind {D : va_G} {tys : List (ClassId × FieldType)} {w0 : va_W} {sz : Nat} {As : List Value} : FrameBlind (va_Pc As (nP D tys w0 sz)) := fun a U g mk q => by
  obtain ⟨q0, q1, qP, qK, qD, qN⟩ := q
  exact ⟨q0, q1, qP, va_K.moved (u := U) (U := U.calling g mk a) (Vm.Alike.refl U.vm) qK, qD, Nst.same (u := U) (U := U.calling g mk a) rfl qN⟩
section NE
variable {l : Launch} {y : MethodName} {cc : ByteArray} {nL : Nat} {rm : Room} {D : va_G} {tys : List (ClassId × FieldType)} {h0 mc ms : Nat} {w0 : va_W} {B : (Nat → Nat) → va_W}
set_option maxHeartbeats 4000000 in
theorem CtN.of (hy : plainFor y = true) (hn : (lg_sl [Value.ref h0]).length ≤ nL)
    (body : ∀ (p : Program) (e : Env) (s : State) (m : MethodId) (below : List Frame) (meth : Method) (c : Code) (A : Nat → Prop) (ls : Array Slot), CallFix p m c cc nL s ([Value.ref h0] : List Value).toArray wsU y.cls → va_K D vwCl tys s → Nst s → meth.locks = false → meth.sig.returnType = none → meth.name = y.name → (∀ q : Nat, s.heap.size ≤ q → A q) → wL D w0 A s.heap s.heap [] → lv_has ls nL [(0, .ref h0)] → W p l e rm s m ([Value.ref h0] : List Value).toArray below meth c s.heap [] 0 0 (MQ below (va_Qv (fun _ : Nat → Nat => True) (fun q t => va_P D vwCl (B q) t.heap ∧ va_D A (B q)) A) ([Value.ref h0] : List Value).toArray s mc ms A) (F0 m 0 ls [])) : CtN l y cc nL rm D tys h0 w0 B mc ms := by
  intro sz
  refine met_ofWF (cc := cc) (maxL := nL) (ret := none) hy rfl ?_
  intro p e s m args below meth c s₁ B hml hv
  obtain ⟨rfl, hsz, hP, hK, hD0, hNs⟩ := hv
  have hts := atoms_spec (ws := Cond.code y cc nL none :: wsU) B.pre
  have hown : s.vm.findClass y.cls = some m.cls := findClass_of_methodNamed B.named
  subst hsz
  have hD := hD0.self (sz := s.heap.size)
  have hl := lv_entry [Value.ref h0] (n := nL) hn
  rw [lg_entry_eq]
  exact body p e s m below meth c _ _ ⟨B.exec, B.bytes, hml, hown, fun w hw => hts w (List.mem_cons_of_mem _ hw)⟩ hK hNs B.notSynchronized B.returns (name_of_methodNamed B.named B.method).1 (fun q hq => Or.inr hq) ⟨hP, hD, va_S.rf⟩ hl
end NE
section NR
variable {p : Program} {l : Launch} {e : Env} {R : Room} {s : State} {m : MethodId} {args : Array Value} {below : List Frame} {meth : Method} {c : Code} {H : Heap} {locs : List Loc} {cells slots : Nat} {Q : State → Prop}
variable {cc : ByteArray} {pc nL : Nat} {ls : Array Slot} {rest st0 : List Value} {own : String} {D : va_G} {tys : List (ClassId × FieldType)} {A : Nat → Prop} {ws : va_W}
theorem ra_one {U : State} {c1 c2 : ClassId} (h1 : va_RA U c1 .int) (h2 : va_RA U c2 .int) : c1 = c2 := Option.some.inj (h1.symm.trans h2)
theorem n_int {cI : ClassId} (S : CallFix p m c cc nL s args wsU own) (hK : va_K D vwCl tys s) (O : wL D ws A s.heap H locs) (hA : ∀ q, s.heap.size ≤ q → A q) (ht : tys[0]? = some (cI, .int)) {n : Int32} {N' : Nat} (hn : ¬ n < 0) (hN : n.toNatClampNeg = N') (hb2 : N' * 4 ≤ 536870912) (hcells : cells + 1 ≤ R.cells) (hslots : slots + N' ≤ R.slots) (hdg : decode cc pc = .ok (.newarray .int, 2))
    (kk : ∀ (q : Nat) (H1 : Heap), wL D (ws ++ [(q, .inl (cI, N', .inl (fun _ => 0)))]) A s.heap H1 locs → W p l e R s m args below meth c H1 locs (cells + 1) (slots + N') Q (F0 m (pc + 2) ls (.ref q :: rest))) : W p l e R s m args below meth c H locs cells slots Q (F0 m pc ls (.int n :: rest)) := by
  obtain ⟨hx, hb, hml, hown, hts⟩ := S
  refine va_newa (a0 := (N', .inl (fun _ => 0))) hx hb (atype := .int) (ty := .int) (hts (.arrayClass .int) wd_3_9) rfl hK O.1 O.2.1 O.2.2 hA (fun _ => rfl) hn hN hb2 hcells hslots hdg (fun q cA H1 hK1 h1 h2 h3 => ?_)
  have e1 : (tys ++ [(cA, FieldType.int)])[tys.length]? = some (cA, .int) := by rw [List.getElem?_append_right (Nat.le_refl _), Nat.sub_self]; rfl
  have e2 := ra_one (hK1.2 _ _ e1).2 (hK.2 0 _ ht).2
  subst e2
  exact kk q H1 ⟨h1, h2, h3⟩
theorem n_long {cJ : ClassId} (S : CallFix p m c cc nL s args wsU own) (hK : va_K D vwCl tys s) (O : wL D ws A s.heap H locs) (hA : ∀ q, s.heap.size ≤ q → A q) (ht : tys[1]? = some (cJ, .long)) {n : Int32} {N' : Nat} (hn : ¬ n < 0) (hN : n.toNatClampNeg = N') (hb2 : N' * 8 ≤ 536870912) (hcells : cells + 1 ≤ R.cells) (hslots : slots + N' ≤ R.slots) (hdg : decode cc pc = .ok (.newarray .long, 2))
    (kk : ∀ (q : Nat) (H1 : Heap), wL D (ws ++ [(q, .inl (cJ, N', .inr (.inl (fun _ => 0))))]) A s.heap H1 locs → W p l e R s m args below meth c H1 locs (cells + 1) (slots + N') Q (F0 m (pc + 2) ls (.ref q :: rest))) : W p l e R s m args below meth c H locs cells slots Q (F0 m pc ls (.int n :: rest)) := by
  obtain ⟨hx, hb, hml, hown, hts⟩ := S
  refine va_newa (a0 := (N', .inr (.inl (fun _ => 0)))) hx hb (atype := .long) (ty := .long) (hts (.arrayClass .long) wd_6_1) rfl hK O.1 O.2.1 O.2.2 hA (fun _ => rfl) hn hN hb2 hcells hslots hdg (fun q cA H1 hK1 h1 h2 h3 => ?_)
  have e1 : (tys ++ [(cA, FieldType.long)])[tys.length]? = some (cA, .long) := by rw [List.getElem?_append_right (Nat.le_refl _), Nat.sub_self]; rfl
  have e2 : cA = cJ := Option.some.inj ((hK1.2 _ _ e1).2.symm.trans (hK.2 1 _ ht).2)
  subst e2
  exact kk q H1 ⟨h1, h2, h3⟩
theorem n_putF (S : CallFix p m c cc nL s args wsU own) (hK : va_K D vwCl tys s) (O : wL D ws A s.heap H locs) (hi : meth.name = "<init>") (q0 : Nat) {a ci nf idx : Nat} {fs : List Value} {T : u_T} {v : Nat} (he : ws[q0]? = some (a, .inr (ci, fs))) (hc : vwCl[ci]? = some (own, T, nf)) (hin : ∀ w ∈ u_ws own T nf, w ∈ wsU) (ty0 : Nat → FieldType) (hty : ∀ k, k < nf → parseFieldDescriptor (T k).2.2.1 = some (ty0 k)) (hnm : ∀ a, a < nf → ∀ b, b < nf → a ≠ b → (T a).2.1 ≠ (T b).2.1) (j : Nat) (hj : j < nf) {ty : FieldType} (hl : Cond.fieldLink own idx own (T j).2.1 (T j).2.2.1 ∈ wsU) (hsame : (T j).1 = own) (hfin : (T j).2.2.2 = true) (hd : parseFieldDescriptor (T j).2.2.1 = some ty) (hnr : narrow ty (.ref v) = .ref v) (hft : fits ty (.ref v) = true) (hlen : j < fs.length) (hdg : decode cc pc = .ok (.putfield idx, 3))
    (kk : ∀ (H1 : Heap) (locs1 : List Loc), wL D (ws.set q0 (a, .inr (ci, fs.set j (.ref v)))) A s.heap H1 locs1 → W p l e R s m args below meth c H1 locs1 cells slots Q (F0 m (pc + 3) ls rest)) : W p l e R s m args below meth c H locs cells slots Q (F0 m pc ls (.ref v :: .ref a :: rest)) := by
  obtain ⟨hx, hb, hml, hown, hts⟩ := S
  exact va_putF (ref := own) hx hb hts hin ty0 hty hnm hown hK O.1 O.2.1 O.2.2 q0 he hc j hj (hts _ hl) (fun x hx => by rw [← hsame]; exact hx) hfin hi hsame hd hnr hft hlen hdg (fun H1 locs1 h1 h2 h3 => kk H1 locs1 ⟨h1, h2, h3⟩)
theorem n_put (S : CallFix p m c cc nL s args wsU own) (hK : va_K D vwCl tys s) (O : wL D ws A s.heap H locs) (q0 : Nat) {a ci nf idx : Nat} {fs : List Value} {T : u_T} {v : Int32} (he : ws[q0]? = some (a, .inr (ci, fs))) (hc : vwCl[ci]? = some (own, T, nf)) (hin : ∀ w ∈ u_ws own T nf, w ∈ wsU) (ty0 : Nat → FieldType) (hty : ∀ k, k < nf → parseFieldDescriptor (T k).2.2.1 = some (ty0 k)) (hnm : ∀ a, a < nf → ∀ b, b < nf → a ≠ b → (T a).2.1 ≠ (T b).2.1) (j : Nat) (hj : j < nf) (hl : Cond.fieldLink own idx own (T j).2.1 (T j).2.2.1 ∈ wsU) (hsame : (T j).1 = own) (hfin : (T j).2.2.2 = false) (hd : parseFieldDescriptor (T j).2.2.1 = some .int) (hlen : j < fs.length) (hdg : decode cc pc = .ok (.putfield idx, 3))
    (kk : ∀ (H1 : Heap) (locs1 : List Loc), wL D (ws.set q0 (a, .inr (ci, fs.set j (.int v)))) A s.heap H1 locs1 → W p l e R s m args below meth c H1 locs1 cells slots Q (F0 m (pc + 3) ls rest)) : W p l e R s m args below meth c H locs cells slots Q (F0 m pc ls (.int v :: .ref a :: rest)) := by
  obtain ⟨hx, hb, hml, hown, hts⟩ := S
  exact va_put (ref := own) (ty := .int) hx hb hts hin ty0 hty hnm hown hK O.1 O.2.1 O.2.2 q0 he hc j hj (hts _ hl) (fun x hx => by rw [← hsame]; exact hx) hfin hd rfl rfl hlen hdg (fun H1 locs1 h1 h2 h3 => kk H1 locs1 ⟨h1, h2, h3⟩)
theorem n_get (S : CallFix p m c cc nL s args wsU own) (hK : va_K D vwCl tys s) (O : wL D ws A s.heap H locs) (q0 : Nat) {a ci nf idx : Nat} {fs : List Value} {T : u_T} {v : Value} (he : ws[q0]? = some (a, .inr (ci, fs))) (hc : vwCl[ci]? = some (own, T, nf)) (hin : ∀ w ∈ u_ws own T nf, w ∈ wsU) (j : Nat) (hj : j < nf) (hl : Cond.fieldLink own idx own (T j).2.1 (T j).2.2.1 ∈ wsU) (hsame : (T j).1 = own) (hv : fs[j]? = some v) (hdg : decode cc pc = .ok (.getfield idx, 3))
    (kk : W p l e R s m args below meth c H locs cells slots Q (F0 m (pc + 3) ls (v :: rest))) : W p l e R s m args below meth c H locs cells slots Q (F0 m pc ls (.ref a :: rest)) := by
  obtain ⟨hx, hb, hml, hown, hts⟩ := S
  exact va_get (ref := own) hx hb hts hin hown hK O.1 q0 he hc j hj (hts _ hl) (fun x hx => by rw [← hsame]; exact hx) hv hdg kk
theorem n_new {C : String} {T : u_T} {nf ci idx : Nat} {fs : List Value} (S : CallFix p m c cc nL s args wsU own) (hK : va_K D vwCl tys s) (O : wL D ws A s.heap H locs) (hA : ∀ q, s.heap.size ≤ q → A q) (hin : ∀ w ∈ u_ws C T nf, w ∈ wsU) (ty : Nat → FieldType) (hty : ∀ k, k < nf → parseFieldDescriptor (T k).2.2.1 = some (ty k)) (w1 : Cond.classLink own idx C ∈ wsU) (w2 : Cond.instantiable C nf ∈ wsU) (w3 : Cond.initialized C ∈ wsU) (hc : vwCl[ci]? = some (C, T, nf)) (hfs : ∀ j, j < nf → defaultValue (ty j) = vp_V fs j) (hcells : cells + 1 ≤ R.cells) (hslots : slots + nf ≤ R.slots) (hdg : decode cc pc = .ok (.new idx, 3))
    (kk : ∀ (q : Nat) (H1 : Heap), wL D (ws ++ [(q, .inr (ci, fs))]) A s.heap H1 locs → W p l e R s m args below meth c H1 locs (cells + 1) (slots + nf) Q (F0 m (pc + 3) ls (.ref q :: rest))) : W p l e R s m args below meth c H locs cells slots Q (F0 m pc ls rest) := by
  obtain ⟨hx, hb, hml, hown, hts⟩ := S
  exact va_new hx hb hts hin ty hty hown (hts _ w1) (hts _ w2) (hts _ w3) hK O.1 O.2.1 O.2.2 hA hc hfs hcells hslots hdg (fun q H1 h1 h2 h3 => kk q H1 ⟨h1, h2, h3⟩)
theorem n_obj {idx a : Nat} (S : CallFix p m c cc nL s args wsU own) (w1 : Cond.methodLink own idx objectInit ∈ wsU) (hsz : ls.size = nL) (hdg : decode cc pc = .ok (.invokespecial idx, 3)) (hfr : 1 ≤ R.frames) (hlo : 20 ≤ R.locals) (hrm : (rest.map fun v => v.category).sum ≤ 8)
    (kk : W p l e R s m args below meth c H locs cells slots Q (F0 m (pc + 3) ls rest)) : W p l e R s m args below meth c H locs cells slots Q (F0 m pc ls (.ref a :: rest)) := by
  obtain ⟨hx, hb, hml, hown, hts⟩ := S
  exact W.objInit hx hb hown (hts _ w1) (hts _ wd_1_10) (hts _ wd_1_11) rfl (hsz.trans hml.symm) rfl hdg hfr (by show 2 * 0 + _ + 12 ≤ _; omega) kk
theorem n_vret {mc ms : Nat} {B : (Nat → Nat) → va_W} (S : CallFix p m c cc nL s args wsU own) (hlocks : meth.locks = false) (hr : meth.sig.returnType = none) (q : Nat → Nat) (O : wL D (B q) A s.heap H locs) (hc : cells ≤ mc) (hs : slots ≤ ms) (hdg : decode cc pc = .ok (.return_, 1)) : W p l e R s m args below meth c H locs cells slots (MQ below (va_Qv (fun _ : Nat → Nat => True) (fun q t => va_P D vwCl (B q) t.heap ∧ va_D A (B q)) A) args s mc ms A) (F0 m pc ls []) := by
  obtain ⟨hx, hb, hml, hown, hts⟩ := S
  refine W.widen hc hs ?_
  exact W.vret hx hb hr (fun t ht hW => ⟨⟨q, rfl, trivial, by rw [ht]; exact O.1, O.2.1⟩, O.2.2.F ht⟩) O.2.2.2.2 hdg
/-- the words of a constructor that is private to a nest mate -/
def LkN (own : String) (idx : Nat) (y : MethodName) (cy : ByteArray) (ny : Nat) : Prop :=
  (∃ host : String, Cond.methodLinkNest own idx y host ∈ nestW) ∧ Cond.instanceMethod y ∈ wsU ∧ Cond.initialized y.cls ∈ wsU ∧ Cond.code y cy ny none ∈ wsU ∧ y.name = "<init>" ∧ (y.cls ≠ "java/lang/invoke/MethodHandle" ∧ y.cls ≠ "java/lang/invoke/VarHandle" ∧ (parseMethodDescriptor y.desc).map (fun d => d.parameters.length) = some 0)
/-- .. of a public one -/
def LkI (own : String) (idx : Nat) (y : MethodName) (cy : ByteArray) (ny : Nat) : Prop :=
  Cond.methodLink own idx y ∈ wsU ∧ Cond.instanceMethod y ∈ wsU ∧ Cond.initialized y.cls ∈ wsU ∧ Cond.code y cy ny none ∈ wsU ∧ y.name = "<init>" ∧ (y.cls ≠ "java/lang/invoke/MethodHandle" ∧ y.cls ≠ "java/lang/invoke/VarHandle" ∧ (parseMethodDescriptor y.desc).map (fun d => d.parameters.length) = some 0)
variable {y : MethodName} {cy : ByteArray} {ny : Nat} {rm : Room} {B : (Nat → Nat) → va_W} {mc ms h0 idx : Nat} {wr w0 : va_W}
theorem n_free (O : wL D (wr ++ w0) A s.heap H locs) (hA : ∀ q, s.heap.size ≤ q → A q) : ∀ q, va_A w0 H.size q → A q := by
  intro q hq
  rcases hq with ⟨k, e, hk⟩ | hq
  · exact O.2.1.2 (wr.length + k) _ (by rw [List.getElem?_append_right (by omega), show wr.length + k - wr.length = k by omega]; exact hk)
  · exact hA q (Nat.le_trans O.2.2.1 hq)
theorem nd_r {n : Nat} : ∀ k, va_nd ((List.range' k n)) = true := by
  induction n with
  | zero => intro k; rfl
  | succ n ih =>
    intro k
    rw [List.range'_succ]
    simp only [va_nd, Bool.and_eq_true, decide_eq_true_eq]
    exact ⟨fun h => by have := (List.mem_range'_1.mp h).1; omega, ih (k + 1)⟩
theorem n_join {w1 : va_W} {H1 : Heap} (O : wL D (wr ++ w0) A s.heap H locs) (hA : ∀ q, s.heap.size ≤ q → A q) (hk : ∀ q : Nat, q < H.size → ¬ va_A w0 H.size q → H1[q]? = H[q]?) (hP1 : va_P D vwCl w1 H1) (hD1 : va_D (va_A w0 H.size) w1) : va_P D vwCl (wr ++ w1) H1 ∧ va_D A (wr ++ w1) := by
  refine va_join (wc := w0) O.1 O.2.1 ((List.range w0.length).map (fun i => wr.length + i)) (List.range wr.length) (rg_r rfl rfl) (rg_l rfl) (by rw [List.range_eq_range']; exact nd_r 0) ?_ hk (n_free O hA) hP1 hD1
  intro i hi hi2
  have h1 := List.mem_range.mp hi
  obtain ⟨j, -, rfl⟩ := List.mem_map.mp hi2
  omega
set_option maxHeartbeats 4000000 in
theorem n_call (S : CallFix p m c cc nL s args wsU own) (hK : va_K D vwCl tys s) (hNs : Nst s) (O : wL D (wr ++ w0) A s.heap H locs) (hA : ∀ q, s.heap.size ≤ q → A q) (M : CtN l y cy ny rm D tys h0 w0 B mc ms) (L : LkN own idx y cy ny) (hrc : rm.cells = mc) (hrs : rm.slots = ms) (hR : rm.frames + 1 ≤ R.frames ∧ 8 + (ny + 11) + rm.locals ≤ R.locals) (hrm : (rest.map fun v => v.category).sum ≤ 8) (hsz : ls.size = nL) (hcs : cells + mc ≤ R.cells ∧ slots + ms ≤ R.slots) (hdg : decode cc pc = .ok (.invokespecial idx, 3))
    (kk : ∀ (q : Nat → Nat) (H1 : Heap) (locs1 : List Loc), wL D (wr ++ B q) A s.heap H1 locs1 → W p l e R s m args below meth c H1 locs1 (cells + mc) (slots + ms) Q (F0 m (pc + 3) ls rest)) : W p l e R s m args below meth c H locs cells slots Q (F0 m pc ls (.ref h0 :: rest)) := by
  obtain ⟨⟨host, w1⟩, w2, w3, w4, hnm, hd⟩ := L
  have hF := n_free O hA
  have hD0 : va_D (fun _ => True) w0 := (va_D_l (va_D_c O.2.1)).weaken (fun _ _ _ _ => trivial)
  refine va_callv (va_runIN (host := host) (As := []) (rest := rest) S (M H.size) ⟨va_cnB 0 S.2.2.2.2 (gU w4) rfl hrc hrs (hNs.1 _ w1) (S.2.2.2.2 _ w3) hd hR, hnm, S.2.2.2.2 _ w2⟩ ⟨nP_blind, fun U hU hW => ⟨rfl, by rw [hU], by rw [hU]; exact va_P_r O.1, va_K.moved hW.alike hK, hD0, hNs.warm hW⟩⟩ rfl rfl hsz rfl (lv_room hrm) hdg hcs) O.2.2 (fun q _ hq => hF q hq) hF (fun q t H1 locs1 ht hvm _ hB hz1 hk1 hS => ?_)
  subst ht
  obtain ⟨j1, j2⟩ := n_join O hA hk1 hB.1 hB.2
  exact kk q t.heap locs1 ⟨j1, j2, hS⟩
set_option maxHeartbeats 4000000 in
theorem n_callI (S : CallFix p m c cc nL s args wsU own) (hK : va_K D vwCl tys s) (hNs : Nst s) (O : wL D (wr ++ w0) A s.heap H locs) (hA : ∀ q, s.heap.size ≤ q → A q) (M : CtN l y cy ny rm D tys h0 w0 B mc ms) (L : LkI own idx y cy ny) (hrc : rm.cells = mc) (hrs : rm.slots = ms) (hR : rm.frames + 1 ≤ R.frames ∧ 8 + (ny + 11) + rm.locals ≤ R.locals) (hrm : (rest.map fun v => v.category).sum ≤ 8) (hsz : ls.size = nL) (hcs : cells + mc ≤ R.cells ∧ slots + ms ≤ R.slots) (hdg : decode cc pc = .ok (.invokespecial idx, 3))
    (kk : ∀ (q : Nat → Nat) (H1 : Heap) (locs1 : List Loc), wL D (wr ++ B q) A s.heap H1 locs1 → W p l e R s m args below meth c H1 locs1 (cells + mc) (slots + ms) Q (F0 m (pc + 3) ls rest)) : W p l e R s m args below meth c H locs cells slots Q (F0 m pc ls (.ref h0 :: rest)) := by
  obtain ⟨w1, w2, w3, w4, hnm, hd⟩ := L
  have hF := n_free O hA
  have hD0 : va_D (fun _ => True) w0 := (va_D_l (va_D_c O.2.1)).weaken (fun _ _ _ _ => trivial)
  refine va_callv (va_runI (As := []) (rest := rest) S (M H.size) (cwI 0 S.2.2.2.2 (gU w4) rfl hrc hrs (S.2.2.2.2 _ w3) (S.2.2.2.2 _ w1) (S.2.2.2.2 _ w2) hnm hd hR) ⟨nP_blind, fun U hU hW => ⟨rfl, by rw [hU], by rw [hU]; exact va_P_r O.1, va_K.moved hW.alike hK, hD0, hNs.warm hW⟩⟩ rfl rfl hsz rfl (lv_room hrm) hdg hcs) O.2.2 (fun q _ hq => hF q hq) hF (fun q t H1 locs1 ht hvm _ hB hz1 hk1 hS => ?_)
  subst ht
  obtain ⟨j1, j2⟩ := n_join O hA hk1 hB.1 hB.2
  exact kk q t.heap locs1 ⟨j1, j2, hS⟩
theorem n_newq {cA : ClassId} {C : String} (t0 : Nat) (S : CallFix p m c cc nL s args wsU own) (hK : va_K D vwCl tys s) (O : wL D ws A s.heap H locs) (hA : ∀ q, s.heap.size ≤ q → A q) (w1 : Cond.classLink own idx C ∈ wsU) (hover : va_AO C s) (ht : tys[t0]? = some (cA, .object C)) {n : Int32} {N' : Nat} (hn : ¬ n < 0) (hN : n.toNatClampNeg = N') (hb2 : N' * 4 ≤ 536870912) (hcells : cells + 1 ≤ R.cells) (hslots : slots + N' ≤ R.slots) (hdg : decode cc pc = .ok (.anewarray idx, 3))
    (kk : ∀ (q : Nat) (H1 : Heap), wL D (ws ++ [(q, .inl (cA, N', .inr (.inr (.inr (.inr (fun _ => none))))))]) A s.heap H1 locs → W p l e R s m args below meth c H1 locs (cells + 1) (slots + N') Q (F0 m (pc + 3) ls (.ref q :: rest))) : W p l e R s m args below meth c H locs cells slots Q (F0 m pc ls (.int n :: rest)) := by
  obtain ⟨hx, hb, hml, hown, hts⟩ := S
  refine va_newq hx hb hown (hts _ w1) hover hK O.1 O.2.1 O.2.2 hA hn hN hb2 hcells hslots hdg (fun q cB H1 hK1 h1 h2 h3 => ?_)
  have e1 : (tys ++ [(cB, FieldType.object C)])[tys.length]? = some (cB, .object C) := by rw [List.getElem?_append_right (Nat.le_refl _), Nat.sub_self]; rfl
  obtain ⟨kA, comp, k1, k2, k3, k4⟩ := (hK1.2 _ _ e1).2
  obtain ⟨kB, comp2, l1, l2, l3, l4⟩ := (hK.2 t0 _ ht).2
  have e2 : cB = cA := Option.some.inj (k4.symm.trans l4)
  subst e2
  exact kk q H1 ⟨h1, h2, h3⟩
theorem n_ast {cA : ClassId} {E : String} (q0 t0 qk : Nat) {a v n ci : Nat} {f : Nat → Option Nat} {fs : List Value} {r : vw_C} {i : Int32} {i' : Nat} (S : CallFix p m c cc nL s args wsU own) (hK : va_K D vwCl tys s) (O : wL D ws A s.heap H locs) (ha : ws[q0]? = some (a, .inl (cA, n, .inr (.inr (.inr (.inr f)))))) (ht : tys[t0]? = some (cA, .object E)) (he : ws[qk]? = some (v, .inr (ci, fs))) (hc : vwCl[ci]? = some r) (hasg : ∀ comp c0 : ClassId, s.vm.findClass E = some comp → s.vm.findClass r.1 = some c0 → s.vm.assignable c0 comp = true) (hi : i.toNatClampNeg = i') (hin : vp_in i n) (hdg : decode cc pc = .ok (.aastore, 1))
    (kk : ∀ (H1 : Heap) (locs1 : List Loc), wL D (ws.set q0 (a, .inl (cA, n, .inr (.inr (.inr (.inr (va_up f i' (some v)))))))) A s.heap H1 locs1 → W p l e R s m args below meth c H1 locs1 cells slots Q (F0 m (pc + 1) ls rest)) : W p l e R s m args below meth c H locs cells slots Q (F0 m pc ls (.ref v :: .int i :: .ref a :: rest)) := by
  subst hi
  obtain ⟨hx, hb, hml, hown, hts⟩ := S
  exact va_astqM hx hb hK O.1 O.2.1 O.2.2 q0 t0 ha ht (va_rAny hK O.1 he hc hasg) hin hdg (fun H1 locs1 h1 h2 h3 => kk H1 locs1 ⟨h1, h2, h3⟩)
theorem n_ist {cA : ClassId} (q0 t0 : Nat) {a n : Nat} {f : Nat → Int32} {i v : Int32} {i' : Nat} (S : CallFix p m c cc nL s args wsU own) (hK : va_K D vwCl tys s) (O : wL D ws A s.heap H locs) (ha : ws[q0]? = some (a, .inl (cA, n, .inl f))) (ht : tys[t0]? = some (cA, .int)) (hi : i.toNatClampNeg = i') (hin : vp_in i n) (hdg : decode cc pc = .ok (.iastore, 1))
    (kk : ∀ (H1 : Heap) (locs1 : List Loc), wL D (ws.set q0 (a, .inl (cA, n, .inl (upd f i' v)))) A s.heap H1 locs1 → W p l e R s m args below meth c H1 locs1 cells slots Q (F0 m (pc + 1) ls rest)) : W p l e R s m args below meth c H locs cells slots Q (F0 m pc ls (.int v :: .int i :: .ref a :: rest)) := by
  subst hi
  obtain ⟨hx, hb, hml, hown, hts⟩ := S
  exact va_iast hx hb hK O.1 O.2.1 O.2.2 q0 t0 ha ht hin hdg (fun H1 locs1 h1 h2 h3 => kk H1 locs1 ⟨h1, h2, h3⟩)
end NR
