/-! The system's cells as one function: cell k lies at h k and holds G k (u k); u is all that changes. One form of contract for every method. -/
abbrev St : Type := Nat → Nat → Int32
/-- number j of cell k becomes v -/
def su (u : St) (k j : Nat) (v : Int32) : St := fun a => if a = k then upd (u k) j v else u a
theorem su_s (u : St) (k j : Nat) (v : Int32) : su u k j v k = upd (u k) j v := if_pos rfl
theorem su_n (u : St) {k a : Nat} (j : Nat) (v : Int32) (e : a ≠ k) : su u k j v a = u a := if_neg e
def wG (N : Nat) (G : Nat → (Nat → Int32) → va_E) (h : Nat → Nat) (u : St) : va_W := (List.range N).map (fun k => (h k, G k (u k)))
theorem wG_at {N : Nat} {G : Nat → (Nat → Int32) → va_E} {h : Nat → Nat} {u : St} {k : Nat} (hk : k < N) : (wG N G h u)[k]? = some (h k, G k (u k)) := by
  unfold wG
  rw [List.getElem?_map, List.getElem?_range hk]
  rfl
theorem wG_len {N : Nat} {G : Nat → (Nat → Int32) → va_E} {h : Nat → Nat} {u : St} : (wG N G h u).length = N := by
  unfold wG
  rw [List.length_map, List.length_range]
theorem wG_set {N : Nat} {G : Nat → (Nat → Int32) → va_E} {h : Nat → Nat} {u : St} {k j : Nat} {v : Int32} {e : va_E} (he : G k (upd (u k) j v) = e) : (wG N G h u).set k (h k, e) = wG N G h (su u k j v) := by
  subst he
  refine List.ext_getElem? fun i => ?_
  by_cases hi : i < N
  · rw [wG_at hi]
    by_cases hk : i = k
    · subst hk
      rw [List.getElem?_set_self (by rw [wG_len]; exact hi), su_s]
    · rw [List.getElem?_set_ne (fun q => hk q.symm), wG_at hi, su_n _ _ _ hk]
  · rw [List.getElem?_eq_none (by rw [List.length_set, wG_len]; omega), List.getElem?_eq_none (by rw [wG_len]; omega)]
/-- the words on members that are private to a nest mate, on kinds under kinds, on rows of references: no word list of a method may hold them, so they go along by themselves -/
def nestW : List Cond := [.methodLinkNest RX11 9 yX10_init "FellersOrder", .methodLinkNest RX11 18 yX7_init "FellersOrder", .methodLinkNest RX11 25 yX6_init "FellersOrder", .methodLinkNest RX11 32 yX2_init "FellersOrder", .methodLinkNest RX11 39 yX0_init "FellersOrder", .methodLinkNest RX11 46 yX4_init "FellersOrder", .methodLinkNest RX11 49 yX9_init "FellersOrder", .methodLinkNest RX9 1 yX4_init "FellersOrder", .methodLinkNest RX11 52 yX3_init "FellersOrder", .methodLinkNest RX3 1 yX4_init "FellersOrder", .methodLinkNest RX11 55 yX1_init "FellersOrder", .methodLinkNest RX1 1 yX9_init "FellersOrder", .methodLinkNest RX11 58 yX5_init "FellersOrder", .methodLinkNest RX5 1 yX4_init "FellersOrder", .methodLinkNest RX11 69 yX8_init "FellersOrder", .methodLinkNest RX10 51 yX11_hasBit "FellersOrder", .methodLinkNest RX7 53 yX11_hasBit "FellersOrder", .fieldLinkNest RX4 13 "FellersOrder$Acting" "length" "I" "FellersOrder", .fieldLinkNest RX3 17 "FellersOrder$Acting" "length" "I" "FellersOrder", .fieldLinkNest RX4 23 "FellersOrder$Acting" "weight" "I" "FellersOrder", .fieldLinkNest RX5 13 "FellersOrder$Acting" "moment" "I" "FellersOrder", .fieldLinkNest RX4 26 "FellersOrder$Acting" "ahead" "I" "FellersOrder", .castable RX1 RX9, .castable RX9 RX4, .castable RX3 RX4, .castable RX1 RX4, .castable RX5 RX4, .arrayOver (.array .int), .arrayOver (.object RX4), .arrayOver (.object RX8)]
theorem nestW_form : ∀ w ∈ nestW, (∃ a i b n d h, w = Cond.fieldLinkNest a i b n d h) ∨ (∃ a i x h, w = Cond.methodLinkNest a i x h) ∨ (∃ a b, w = Cond.castable a b) ∨ (∃ t, w = Cond.arrayOver t) := List.forall_mem_cons.mpr ⟨Or.inr (Or.inl ⟨_, _, _, _, rfl⟩), List.forall_mem_cons.mpr ⟨Or.inr (Or.inl ⟨_, _, _, _, rfl⟩), List.forall_mem_cons.mpr ⟨Or.inr (Or.inl ⟨_, _, _, _, rfl⟩), List.forall_mem_cons.mpr ⟨Or.inr (Or.inl ⟨_, _, _, _, rfl⟩), List.forall_mem_cons.mpr ⟨Or.inr (Or.inl ⟨_, _, _, _, rfl⟩), List.forall_mem_cons.mpr ⟨Or.inr (Or.inl ⟨_, _, _, _, rfl⟩), List.forall_mem_cons.mpr ⟨Or.inr (Or.inl ⟨_, _, _, _, rfl⟩), List.forall_mem_cons.mpr ⟨Or.inr (Or.inl ⟨_, _, _, _, rfl⟩), List.forall_mem_cons.mpr ⟨Or.inr (Or.inl ⟨_, _, _, _, rfl⟩), List.forall_mem_cons.mpr ⟨Or.inr (Or.inl ⟨_, _, _, _, rfl⟩), List.forall_mem_cons.mpr ⟨Or.inr (Or.inl ⟨_, _, _, _, rfl⟩), List.forall_mem_cons.mpr ⟨Or.inr (Or.inl ⟨_, _, _, _, rfl⟩), List.forall_mem_cons.mpr ⟨Or.inr (Or.inl ⟨_, _, _, _, rfl⟩), List.forall_mem_cons.mpr ⟨Or.inr (Or.inl ⟨_, _, _, _, rfl⟩), List.forall_mem_cons.mpr ⟨Or.inr (Or.inl ⟨_, _, _, _, rfl⟩), List.forall_mem_cons.mpr ⟨Or.inr (Or.inl ⟨_, _, _, _, rfl⟩), List.forall_mem_cons.mpr ⟨Or.inr (Or.inl ⟨_, _, _, _, rfl⟩), List.forall_mem_cons.mpr ⟨Or.inl ⟨_, _, _, _, _, _, rfl⟩, List.forall_mem_cons.mpr ⟨Or.inl ⟨_, _, _, _, _, _, rfl⟩, List.forall_mem_cons.mpr ⟨Or.inl ⟨_, _, _, _, _, _, rfl⟩, List.forall_mem_cons.mpr ⟨Or.inl ⟨_, _, _, _, _, _, rfl⟩, List.forall_mem_cons.mpr ⟨Or.inl ⟨_, _, _, _, _, _, rfl⟩, List.forall_mem_cons.mpr ⟨Or.inr (Or.inr (Or.inl ⟨_, _, rfl⟩)), List.forall_mem_cons.mpr ⟨Or.inr (Or.inr (Or.inl ⟨_, _, rfl⟩)), List.forall_mem_cons.mpr ⟨Or.inr (Or.inr (Or.inl ⟨_, _, rfl⟩)), List.forall_mem_cons.mpr ⟨Or.inr (Or.inr (Or.inl ⟨_, _, rfl⟩)), List.forall_mem_cons.mpr ⟨Or.inr (Or.inr (Or.inl ⟨_, _, rfl⟩)), List.forall_mem_cons.mpr ⟨Or.inr (Or.inr (Or.inr ⟨_, rfl⟩)), List.forall_mem_cons.mpr ⟨Or.inr (Or.inr (Or.inr ⟨_, rfl⟩)), List.forall_mem_cons.mpr ⟨Or.inr (Or.inr (Or.inr ⟨_, rfl⟩)), fun _ h => absurd h List.not_mem_nil⟩⟩⟩⟩⟩⟩⟩⟩⟩⟩⟩⟩⟩⟩⟩⟩⟩⟩⟩⟩⟩⟩⟩⟩⟩⟩⟩⟩⟩⟩
theorem ao_vm {ty : FieldType} {u U : State} (e : u.vm = U.vm) (h : va_Nw (.arrayOver ty) u) : va_Nw (.arrayOver ty) U := by
  unfold va_Nw at h ⊢
  simp only [Cond.before, Cond.holds, Cond.value] at h ⊢
  rw [← e]
  exact h
theorem nw_warmO {ty : FieldType} {s U : State} (hW : s.WarmedH U.vm) (hZ : va_Nw (.arrayOver ty) s) : va_Nw (.arrayOver ty) U := ao_vm (u := s.setVm U.vm) rfl (by unfold va_Nw; rw [Cond.arrayOver_setVmC hW.alike]; exact hZ)
def Nst (U : State) : Prop := (∀ w ∈ nestW, va_Nw w U) ∧ va_Nc RX4 RX9 U ∧ va_Nc RX3 RX9 U ∧ va_Nc RX5 RX9 U
theorem Nst.same {u U : State} (e : u.vm = U.vm) (h : Nst u) : Nst U := by
  have ha : u.vm.Alike U.vm := e ▸ Vm.Alike.refl u.vm
  refine ⟨fun w hw => ?_, h.2.1.moved ha, h.2.2.1.moved ha, h.2.2.2.moved ha⟩
  rcases nestW_form w hw with ⟨_, _, _, _, _, _, rfl⟩ | ⟨_, _, _, _, rfl⟩ | ⟨_, _, rfl⟩ | ⟨_, rfl⟩
  · exact va_Nw.same rfl e (h.1 _ hw)
  · exact va_Nw.same rfl e (h.1 _ hw)
  · exact va_Nw.same rfl e (h.1 _ hw)
  · exact ao_vm e (h.1 _ hw)
theorem Nst.warm {s U : State} (hW : s.WarmedH U.vm) (h : Nst s) : Nst U := by
  refine ⟨fun w hw => ?_, h.2.1.moved hW.alike, h.2.2.1.moved hW.alike, h.2.2.2.moved hW.alike⟩
  rcases nestW_form w hw with ⟨_, _, _, _, _, _, rfl⟩ | ⟨_, _, _, _, rfl⟩ | ⟨_, _, rfl⟩ | ⟨_, rfl⟩
  · exact va_Nw.warmF hW (h.1 _ hw)
  · exact va_Nw.warmM hW (h.1 _ hw)
  · exact va_Nw.warmC hW (h.1 _ hw)
  · exact nw_warmO hW (h.1 _ hw)
/-- the class's two rows of limits: lowest and highest of a LENGTH, a WEIGHT, a MOMENT -/
def loT (j : Nat) : Int32 := if j = 0 then 1 else 0
def hiT (j : Nat) : Int32 := if j = 2 then 500 else 100
def Stt (A : Nat → Prop) (U : State) (H : Heap) : Prop := ∃ t0 t1 : Nat, va_Z RX10 "LOWEST" "[I" (.ref t0) A U H ∧ va_T .int t0 3 (fun j => .int (loT j)) A U H ∧ va_Z RX10 "HIGHEST" "[I" (.ref t1) A U H ∧ va_T .int t1 3 (fun j => .int (hiT j)) A U H
theorem Stt.go {A B : Nat → Prop} {s U : State} {H H1 : Heap} (h : Stt A s H) (hq : ∀ a : Nat, a < H.size → ¬ A a → H1[a]? = H[a]?) (hB : ∀ q, B q → A q) (hvm : s.vm.Alike U.vm) : Stt B U H1 := by
  obtain ⟨t0, t1, a, b, c, d⟩ := h
  exact ⟨t0, t1, ((a.kept hq).narrow hB).moved hvm, ((b.kept hq).narrow hB).moved hvm, ((c.kept hq).narrow hB).moved hvm, ((d.kept hq).narrow hB).moved hvm⟩
/-- the world stands: the cells hold u, they lie apart in A, nothing outside A has changed -/
def wO (D : va_G) (N : Nat) (G : Nat → (Nat → Int32) → va_E) (h : Nat → Nat) (u : St) (A : Nat → Prop) (H0 H : Heap) (locs : List Loc) : Prop := va_P D vwCl (wG N G h u) H ∧ va_D A (wG N G h u) ∧ va_S A H0 H locs
/-- what holds all through a method's body -/
def Cx (p : Program) (s : State) (m : MethodId) (args : Array Value) (meth : Method) (c : Code) (cc : ByteArray) (nL : Nat) (ret : Option FieldType) (own : String) (D : va_G) (tys : List (ClassId × FieldType)) (A : Nat → Prop) : Prop :=
  CallFix p m c cc nL s args wsU own ∧ va_K D vwCl tys s ∧ (Nst s ∧ Stt A s s.heap) ∧ meth.locks = false ∧ meth.sig.returnType = ret
abbrev cB (D : va_G) (tys : List (ClassId × FieldType)) (N : Nat) (G : Nat → (Nat → Int32) → va_E) (h : Nat → Nat) (A : Nat → Prop) (u : St) (t : State) : Prop := va_P D vwCl (wG N G h u) t.heap ∧ va_K D vwCl tys t ∧ va_D A (wG N G h u)
abbrev cP (D : va_G) (tys : List (ClassId × FieldType)) (N : Nat) (G : Nat → (Nat → Int32) → va_E) (h : Nat → Nat) (u : St) (sz : Nat) (U : State) : Prop := U.heap.size = sz ∧ va_P D vwCl (wG N G h u) U.heap ∧ va_K D vwCl tys U ∧ va_D (fun _ => True) (wG N G h u) ∧ Nst U ∧ Stt (va_A (wG N G h u) sz) U U.heap
/-- a method that answers an int (or a truth value): from the world u, with these arguments, it comes to an answer and a world with Post -/
def CtI (l : Launch) (y : MethodName) (cc : ByteArray) (nL : Nat) (ret : Option FieldType) (rm : Room) (D : va_G) (tys : List (ClassId × FieldType)) (N : Nat) (G : Nat → (Nat → Int32) → va_E) (h : Nat → Nat) (As : List Value) (u : St) (Post : Int32 → St → Prop) : Prop :=
  ∀ sz : Nat, Met l y (Cond.code y cc nL ret :: wsU) rm (va_Pc As (cP D tys N G h u sz)) (va_Qi Post (cB D tys N G h (va_A (wG N G h u) sz)) (va_A (wG N G h u) sz)) 0 0 (va_A (wG N G h u) sz)
def CtV (l : Launch) (y : MethodName) (cc : ByteArray) (nL : Nat) (ret : Option FieldType) (rm : Room) (D : va_G) (tys : List (ClassId × FieldType)) (N : Nat) (G : Nat → (Nat → Int32) → va_E) (h : Nat → Nat) (As : List Value) (u : St) (Post : Int32 → St → Prop) : Prop :=
  ∀ sz : Nat, Met l y (Cond.code y cc nL ret :: wsU) rm (va_Pc As (cP D tys N G h u sz)) (va_Qv (Post 0) (cB D tys N G h (va_A (wG N G h u) sz)) (va_A (wG N G h u) sz)) 0 0 (va_A (wG N G h u) sz)
theorem goodL : ∀ w ∈ wsU, (w.onTables && w.keeps) = true ∨ ∃ ty, w = .arrayClass ty := fun w hw => good_of_word (List.all_eq_true.mp (show wsU.all goodWord = true by decide +kernel) w hw)
theorem gU {y : MethodName} {cc : ByteArray} {n : Nat} {r : Option FieldType} (hm : Cond.code y cc n r ∈ wsU) : GoodIn wsU (Cond.code y cc n r :: wsU) := fun w hw => (List.mem_cons.mp hw).elim (fun e => by rw [e]; exact ⟨hm, goodL _ hm⟩) (fun q => ⟨q, goodL _ q⟩)
theorem cP_blind {D : va_G} {tys : List (ClassId × FieldType)} {N : Nat} {G : Nat → (Nat → Int32) → va_E} {h : Nat → Nat} {u : St} {sz : Nat} {As : List Value} : FrameBlind (va_Pc As (cP D tys N G h u sz)) := fun a U g mk q => by
  obtain ⟨q0, q1, qP, qK, qD, qN, qT⟩ := q
  exact ⟨q0, q1, qP, va_K.moved (u := U) (U := U.calling g mk a) (Vm.Alike.refl U.vm) qK, qD, Nst.same (u := U) (U := U.calling g mk a) rfl qN, Stt.go (U := U.calling g mk a) qT (fun _ _ _ => rfl) (fun _ z => z) (Vm.Alike.refl U.vm)⟩
/-- as Met.ofW, by the method's own name -/
theorem met_ofWF {l : Launch} {y : MethodName} {ws ws' : List Cond} {rm : Room} {Pc : Array Value → State → Prop} {Qc : Array Value → State → Outcome → State → Prop} {mc ms : Nat} {free : Addr → Prop} {cc : ByteArray} {maxL : Nat} {ret : Option FieldType}
    (hy : plainFor y = true) (hw : ws = Cond.code y cc maxL ret :: ws')
    (body : ∀ p e s m args below meth c s₁, BodyLoose p l y (headSpec ws rm) cc maxL ret e s m args below meth c s₁ → c.maxLocals = maxL → Pc args s →
      W p l e (headSpec ws rm).room s m args below meth c s.heap [] 0 0 (MQ below Qc args s mc ms free) (entryFrame m args maxL)) : Met l y ws rm Pc Qc mc ms free := by
  refine MetFree.of_bodySF (code := cc) (maxLocals := maxL) (ret := ret) hy ?_ ?_
  · intro args s m h hn
    obtain ⟨meth, c, h1, h2, h3, h4, h5, h6, -, -⟩ := Cond.code_spec hn (atoms_spec (ws := ws) h _ (by rw [hw]; exact List.mem_cons_self))
    exact ⟨meth, c, h1, h2, h3, h4, h5, h6⟩
  · intro p e s m args below meth c s₁ B hml hP _
    have hh0 : s₁.heap = s.heap := by rw [B.state]; rfl
    obtain ⟨t, a1, o, b1, b2, b3⟩ := body p e s m args below meth c s₁ B hml hP s₁ hh0 (Stand.of_body B)
    exact ⟨t, o, a1, b1, b2, ⟨b3.1, b3.2⟩⟩
section FE
variable {l : Launch} {y : MethodName} {cc : ByteArray} {nL : Nat} {ret : Option FieldType} {rm : Room} {D : va_G} {tys : List (ClassId × FieldType)} {N : Nat} {G : Nat → (Nat → Int32) → va_E} {h : Nat → Nat} {As : List Value} {u : St} {Post : Int32 → St → Prop}
set_option maxHeartbeats 4000000 in
theorem CtI.of (hy : plainFor y = true) (hn : (lg_sl As).length ≤ nL)
    (body : ∀ (p : Program) (e : Env) (s : State) (m : MethodId) (below : List Frame) (meth : Method) (c : Code) (A : Nat → Prop) (ls : Array Slot), Cx p s m As.toArray meth c cc nL ret y.cls D tys A → (∀ q : Nat, s.heap.size ≤ q → A q) → wO D N G h u A s.heap s.heap [] → lv_has ls nL (lv_args 0 As) → W p l e rm s m As.toArray below meth c s.heap [] 0 0 (MQ below (va_Qi Post (cB D tys N G h A) A) As.toArray s 0 0 A) (F0 m 0 ls [])) : CtI l y cc nL ret rm D tys N G h As u Post := by
  intro sz
  refine met_ofWF (cc := cc) (maxL := nL) (ret := ret) hy rfl ?_
  intro p e s m args below meth c s₁ B hml hv
  obtain ⟨rfl, hsz, hP, hK, hD0, hNs, hSt⟩ := hv
  have hts := atoms_spec (ws := Cond.code y cc nL ret :: wsU) B.pre
  have hown : s.vm.findClass y.cls = some m.cls := findClass_of_methodNamed B.named
  subst hsz
  have hD := hD0.self (sz := s.heap.size)
  have hl := lv_entry As (n := nL) hn
  rw [lg_entry_eq]
  exact body p e s m below meth c _ _ ⟨⟨B.exec, B.bytes, hml, hown, fun w hw => hts w (List.mem_cons_of_mem _ hw)⟩, hK, ⟨hNs, hSt⟩, B.notSynchronized, B.returns⟩ (fun q hq => Or.inr hq) ⟨hP, hD, va_S.rf⟩ hl
set_option maxHeartbeats 4000000 in
theorem CtV.of (hy : plainFor y = true) (hn : (lg_sl As).length ≤ nL)
    (body : ∀ (p : Program) (e : Env) (s : State) (m : MethodId) (below : List Frame) (meth : Method) (c : Code) (A : Nat → Prop) (ls : Array Slot), Cx p s m As.toArray meth c cc nL ret y.cls D tys A → (∀ q : Nat, s.heap.size ≤ q → A q) → wO D N G h u A s.heap s.heap [] → lv_has ls nL (lv_args 0 As) → W p l e rm s m As.toArray below meth c s.heap [] 0 0 (MQ below (va_Qv (Post 0) (cB D tys N G h A) A) As.toArray s 0 0 A) (F0 m 0 ls [])) : CtV l y cc nL ret rm D tys N G h As u Post := by
  intro sz
  refine met_ofWF (cc := cc) (maxL := nL) (ret := ret) hy rfl ?_
  intro p e s m args below meth c s₁ B hml hv
  obtain ⟨rfl, hsz, hP, hK, hD0, hNs, hSt⟩ := hv
  have hts := atoms_spec (ws := Cond.code y cc nL ret :: wsU) B.pre
  have hown : s.vm.findClass y.cls = some m.cls := findClass_of_methodNamed B.named
  subst hsz
  have hD := hD0.self (sz := s.heap.size)
  have hl := lv_entry As (n := nL) hn
  rw [lg_entry_eq]
  exact body p e s m below meth c _ _ ⟨⟨B.exec, B.bytes, hml, hown, fun w hw => hts w (List.mem_cons_of_mem _ hw)⟩, hK, ⟨hNs, hSt⟩, B.notSynchronized, B.returns⟩ (fun q hq => Or.inr hq) ⟨hP, hD, va_S.rf⟩ hl
end FE
section FW
variable {p : Program} {l : Launch} {e : Env} {R : Room} {s : State} {m : MethodId} {args : Array Value} {below : List Frame} {meth : Method} {c : Code} {H : Heap} {locs : List Loc} {cells slots : Nat} {Q : State → Prop}
variable {cc : ByteArray} {pc nL : Nat} {ls : Array Slot} {rest : List Value} {ret : Option FieldType} {own : String} {D : va_G} {tys : List (ClassId × FieldType)} {A : Nat → Prop} {H0 : Heap} {N : Nat} {G : Nat → (Nat → Int32) → va_E} {h : Nat → Nat} {u : St}
theorem q_get (X : Cx p s m args meth c cc nL ret own D tys A) (O : wO D N G h u A H0 H locs) (k : Nat) (hk : k < N) {ci nf idx : Nat} {fs : List Value} {C ref : String} {T : u_T} (hG : G k (u k) = .inr (ci, fs)) (hc : vwCl[ci]? = some (C, T, nf)) (hin : ∀ w ∈ u_ws C T nf, w ∈ wsU) (j : Nat) (hj : j < nf) (hl : Cond.fieldLink own idx ref (T j).2.1 (T j).2.2.1 ∈ wsU) (hsame : (T j).1 = ref) {v : Value} (hv : fs[j]? = some v) (hdg : decode cc pc = .ok (.getfield idx, 3))
    (kk : W p l e R s m args below meth c H locs cells slots Q (F0 m (pc + 3) ls (v :: rest))) : W p l e R s m args below meth c H locs cells slots Q (F0 m pc ls (.ref (h k) :: rest)) := by
  obtain ⟨⟨hx, hb, hml, hown, hts⟩, hK, ⟨hNs, -⟩, -, -⟩ := X
  exact va_get hx hb hts hin hown hK O.1 k ((wG_at hk).trans (by rw [hG])) hc j hj (hts _ hl) (fun x hx => by rw [← hsame]; exact hx) hv hdg kk
theorem q_getN {host : String} (X : Cx p s m args meth c cc nL ret own D tys A) (O : wO D N G h u A H0 H locs) (k : Nat) (hk : k < N) {ci nf idx : Nat} {fs : List Value} {C ref : String} {T : u_T} (hG : G k (u k) = .inr (ci, fs)) (hc : vwCl[ci]? = some (C, T, nf)) (hin : ∀ w ∈ u_ws C T nf, w ∈ wsU) (j : Nat) (hj : j < nf) (hl : Cond.fieldLinkNest own idx ref (T j).2.1 (T j).2.2.1 host ∈ nestW) (hsame : (T j).1 = ref) {v : Value} (hv : fs[j]? = some v) (hdg : decode cc pc = .ok (.getfield idx, 3))
    (kk : W p l e R s m args below meth c H locs cells slots Q (F0 m (pc + 3) ls (v :: rest))) : W p l e R s m args below meth c H locs cells slots Q (F0 m pc ls (.ref (h k) :: rest)) := by
  obtain ⟨⟨hx, hb, hml, hown, hts⟩, hK, ⟨hNs, -⟩, -, -⟩ := X
  exact va_getN hx hb hts hin hown hK O.1 k ((wG_at hk).trans (by rw [hG])) hc j hj (va_Nw.use rfl (hNs.1 _ hl)) (fun x hx => by rw [← hsame]; exact hx) hv hdg kk
theorem q_put (X : Cx p s m args meth c cc nL ret own D tys A) (O : wO D N G h u A H0 H locs) (k : Nat) (hk : k < N) {ci nf idx : Nat} {fs : List Value} {C ref : String} {T : u_T} (hG : G k (u k) = .inr (ci, fs)) (hc : vwCl[ci]? = some (C, T, nf)) (hin : ∀ w ∈ u_ws C T nf, w ∈ wsU) (ty0 : Nat → FieldType) (hty : ∀ k, k < nf → parseFieldDescriptor (T k).2.2.1 = some (ty0 k)) (hnm : ∀ a, a < nf → ∀ b, b < nf → a ≠ b → (T a).2.1 ≠ (T b).2.1) (j : Nat) (hj : j < nf) (hl : Cond.fieldLink own idx ref (T j).2.1 (T j).2.2.1 ∈ wsU) (hsame : (T j).1 = ref) (hfin : (T j).2.2.2 = false) (hd : parseFieldDescriptor (T j).2.2.1 = some .int) (hlen : j < fs.length) {v : Int32} (hE : G k (upd (u k) j v) = .inr (ci, fs.set j (.int v))) (hdg : decode cc pc = .ok (.putfield idx, 3))
    (kk : ∀ (H1 : Heap) (locs1 : List Loc), wO D N G h (su u k j v) A H0 H1 locs1 → W p l e R s m args below meth c H1 locs1 cells slots Q (F0 m (pc + 3) ls rest)) : W p l e R s m args below meth c H locs cells slots Q (F0 m pc ls (.int v :: .ref (h k) :: rest)) := by
  obtain ⟨⟨hx, hb, hml, hown, hts⟩, hK, ⟨hNs, -⟩, -, -⟩ := X
  refine va_put (ty := .int) hx hb hts hin ty0 hty hnm hown hK O.1 O.2.1 O.2.2 k ((wG_at hk).trans (by rw [hG])) hc j hj (hts _ hl) (fun x hx => by rw [← hsame]; exact hx) hfin hd rfl rfl hlen hdg (fun H1 locs1 h1 h2 h3 => ?_)
  rw [wG_set hE] at h1 h2
  exact kk H1 locs1 ⟨h1, h2, h3⟩
theorem q_ild (X : Cx p s m args meth c cc nL ret own D tys A) (O : wO D N G h u A H0 H locs) (k t0 : Nat) (hk : k < N) {n : Nat} {cA : ClassId} (hG : G k (u k) = .inl (cA, n, .inl (u k))) (ht : tys[t0]? = some (cA, .int)) {i : Int32} (hi : vp_in i n) (hdg : decode cc pc = .ok (.iaload, 1))
    (kk : W p l e R s m args below meth c H locs cells slots Q (F0 m (pc + 1) ls (.int (u k i.toNatClampNeg) :: rest))) : W p l e R s m args below meth c H locs cells slots Q (F0 m pc ls (.int i :: .ref (h k) :: rest)) := by
  obtain ⟨⟨hx, hb, hml, hown, hts⟩, hK, ⟨hNs, -⟩, -, -⟩ := X
  exact va_iald hx hb hK O.1 k t0 ((wG_at hk).trans (by rw [hG])) ht hi hdg kk
theorem q_ist (X : Cx p s m args meth c cc nL ret own D tys A) (O : wO D N G h u A H0 H locs) (k t0 : Nat) (hk : k < N) {n : Nat} {cA : ClassId} (hG : ∀ r : Nat → Int32, G k r = .inl (cA, n, .inl r)) (ht : tys[t0]? = some (cA, .int)) {i v : Int32} (hi : vp_in i n) (hdg : decode cc pc = .ok (.iastore, 1))
    (kk : ∀ (H1 : Heap) (locs1 : List Loc), wO D N G h (su u k i.toNatClampNeg v) A H0 H1 locs1 → W p l e R s m args below meth c H1 locs1 cells slots Q (F0 m (pc + 1) ls rest)) : W p l e R s m args below meth c H locs cells slots Q (F0 m pc ls (.int v :: .int i :: .ref (h k) :: rest)) := by
  obtain ⟨⟨hx, hb, hml, hown, hts⟩, hK, ⟨hNs, -⟩, -, -⟩ := X
  refine va_iast hx hb hK O.1 O.2.1 O.2.2 k t0 ((wG_at hk).trans (by rw [hG])) ht hi hdg (fun H1 locs1 h1 h2 h3 => ?_)
  rw [wG_set (hG _)] at h1 h2
  exact kk H1 locs1 ⟨h1, h2, h3⟩
/-- a row of longs that came of ints -/
abbrev lR (r : Nat → Int32) : Nat → Int64 := fun i => (r i).toInt64
theorem lR_upd (r : Nat → Int32) (i : Nat) (v : Int32) : vp_updL (lR r) i v.toInt64 = lR (upd r i v) := by
  funext j
  by_cases e : j = i <;> simp [vp_updL, upd, lR, e]
theorem q_lld (X : Cx p s m args meth c cc nL ret own D tys A) (O : wO D N G h u A H0 H locs) (k t0 : Nat) (hk : k < N) {n : Nat} {cA : ClassId} (hG : G k (u k) = .inl (cA, n, .inr (.inl (lR (u k))))) (ht : tys[t0]? = some (cA, .long)) {i : Int32} (hi : vp_in i n) (hdg : decode cc pc = .ok (.laload, 1))
    (kk : W p l e R s m args below meth c H locs cells slots Q (F0 m (pc + 1) ls (.long ((u k i.toNatClampNeg).toInt64) :: rest))) : W p l e R s m args below meth c H locs cells slots Q (F0 m pc ls (.int i :: .ref (h k) :: rest)) := by
  obtain ⟨⟨hx, hb, hml, hown, hts⟩, hK, ⟨hNs, -⟩, -, -⟩ := X
  exact va_lald hx hb hK O.1 k t0 ((wG_at hk).trans (by rw [hG])) ht hi hdg kk
theorem q_lst (X : Cx p s m args meth c cc nL ret own D tys A) (O : wO D N G h u A H0 H locs) (k t0 : Nat) (hk : k < N) {n : Nat} {cA : ClassId} (hG : ∀ r : Nat → Int32, G k r = .inl (cA, n, .inr (.inl (lR r)))) (ht : tys[t0]? = some (cA, .long)) {i v : Int32} (hi : vp_in i n) (hdg : decode cc pc = .ok (.lastore, 1))
    (kk : ∀ (H1 : Heap) (locs1 : List Loc), wO D N G h (su u k i.toNatClampNeg v) A H0 H1 locs1 → W p l e R s m args below meth c H1 locs1 cells slots Q (F0 m (pc + 1) ls rest)) : W p l e R s m args below meth c H locs cells slots Q (F0 m pc ls (.long v.toInt64 :: .int i :: .ref (h k) :: rest)) := by
  obtain ⟨⟨hx, hb, hml, hown, hts⟩, hK, ⟨hNs, -⟩, -, -⟩ := X
  refine va_last hx hb hK O.1 O.2.1 O.2.2 k t0 ((wG_at hk).trans (by rw [hG])) ht hi hdg (fun H1 locs1 h1 h2 h3 => ?_)
  rw [lR_upd, wG_set (hG _)] at h1 h2
  exact kk H1 locs1 ⟨h1, h2, h3⟩
theorem q_iret {Post : Int32 → St → Prop} {v : Int32} (X : Cx p s m args meth c cc nL (some .int) own D tys A) (O : wO D N G h u A s.heap H locs) (hw : Post v u) (hdg : decode cc pc = .ok (.ireturn, 1)) : W p l e R s m args below meth c H locs cells slots (MQ below (va_Qi Post (cB D tys N G h A) A) args s cells slots A) (F0 m pc ls [.int v]) := by
  obtain ⟨⟨hx, hb, hml, hown, hts⟩, hK, -, hlocks, hr⟩ := X
  exact W.iret (v := v) hx hb hr (fun t ht hW => ⟨⟨v, u, rfl, hw, by rw [ht]; exact O.1, va_K.moved hW.alike hK, O.2.1⟩, O.2.2.F ht⟩) O.2.2.2.2 hdg
theorem q_zret {Post : Int32 → St → Prop} {v : Int32} (X : Cx p s m args meth c cc nL (some .boolean) own D tys A) (O : wO D N G h u A s.heap H locs) (hn : narrow .boolean (.int v) = .int v) (hw : Post v u) (hdg : decode cc pc = .ok (.ireturn, 1)) : W p l e R s m args below meth c H locs cells slots (MQ below (va_Qi Post (cB D tys N G h A) A) args s cells slots A) (F0 m pc ls [.int v]) := by
  obtain ⟨⟨hx, hb, hml, hown, hts⟩, hK, -, hlocks, hr⟩ := X
  exact W.zret (v := v) hx hb hr hn (fun t ht hW => ⟨⟨v, u, rfl, hw, by rw [ht]; exact O.1, va_K.moved hW.alike hK, O.2.1⟩, O.2.2.F ht⟩) O.2.2.2.2 hdg
theorem q_vret {Post : Int32 → St → Prop} (X : Cx p s m args meth c cc nL none own D tys A) (O : wO D N G h u A s.heap H locs) (hw : Post 0 u) (hdg : decode cc pc = .ok (.return_, 1)) : W p l e R s m args below meth c H locs cells slots (MQ below (va_Qv (Post 0) (cB D tys N G h A) A) args s cells slots A) (F0 m pc ls []) := by
  obtain ⟨⟨hx, hb, hml, hown, hts⟩, hK, -, hlocks, hr⟩ := X
  exact W.vret hx hb hr (fun t ht hW => ⟨⟨u, rfl, hw, by rw [ht]; exact O.1, va_K.moved hW.alike hK, O.2.1⟩, O.2.2.F ht⟩) O.2.2.2.2 hdg
end FW
