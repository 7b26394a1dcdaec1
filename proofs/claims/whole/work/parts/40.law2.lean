/-! Two components side by side: a call on one leaves the other as it is. -/
theorem va_P_l {D : va_G} {cl : List vw_C} {a b : va_W} {H : Heap} (h : va_P D cl (a ++ b) H) : va_P D cl a H := fun k q hk => by
  have hlt : k < a.length := (List.getElem?_eq_some_iff.mp hk).1
  exact h k q (by rw [List.getElem?_append_left hlt]; exact hk)
theorem va_P_r {D : va_G} {cl : List vw_C} {a b : va_W} {H : Heap} (h : va_P D cl (a ++ b) H) : va_P D cl b H := fun k q hk => h (a.length + k) q (by rw [List.getElem?_append_right (by omega)]; rw [show a.length + k - a.length = k by omega]; exact hk)
theorem va_D_l {A : Nat → Prop} {a b : va_W} (h : va_D A (a ++ b)) : va_D A a := by
  have e : ∀ (k : Nat) (q : Nat × va_E), a[k]? = some q → (a ++ b)[k]? = some q := fun k q hk => by
    have hlt : k < a.length := (List.getElem?_eq_some_iff.mp hk).1
    rw [List.getElem?_append_left hlt]; exact hk
  exact ⟨fun i j p q hi hj hpq => h.1 i j p q (e i p hi) (e j q hj) hpq, fun k q hk => h.2 k q (e k q hk)⟩
theorem va_D_c {A : Nat → Prop} {a b : va_W} (h : va_D A (a ++ b)) : va_D A (b ++ a) := va_D.swap (a := []) h
theorem rg_l {a b : va_W} {n : Nat} (hn : a.length = n) : (List.range n).map (fun i => (a ++ b)[i]?) = a.map some := by
  subst hn
  refine List.ext_getElem? fun i => ?_
  by_cases hi : i < a.length
  · rw [List.getElem?_map, List.getElem?_range hi, List.getElem?_map]
    simp [List.getElem?_append_left hi, List.getElem?_eq_getElem hi]
  · rw [List.getElem?_eq_none (by simp; omega), List.getElem?_eq_none (by simp; omega)]
theorem rg_r {a b : va_W} {n k : Nat} (hn : a.length = n) (hk : b.length = k) : ((List.range k).map (fun i => n + i)).map (fun i => (a ++ b)[i]?) = b.map some := by
  subst hn; subst hk
  refine List.ext_getElem? fun i => ?_
  by_cases hi : i < b.length
  · rw [List.getElem?_map, List.getElem?_map, List.getElem?_range hi, List.getElem?_map]
    simp only [Option.map_some, List.getElem?_eq_getElem hi]
    rw [List.getElem?_append_right (by omega), show a.length + i - a.length = i by omega, List.getElem?_eq_getElem hi]
  · rw [List.getElem?_eq_none (by simp; omega), List.getElem?_eq_none (by simp; omega)]
section L2
variable {p : Program} {l : Launch} {e : Env} {R : Room} {s : State} {m : MethodId} {args : Array Value} {below : List Frame} {meth : Method} {c : Code} {H : Heap} {locs : List Loc} {cells slots : Nat} {Q : State → Prop}
variable {cc : ByteArray} {pc nL : Nat} {ls : Array Slot} {rest st0 : List Value} {own : String} {D : va_G} {tys : List (ClassId × FieldType)} {A : Nat → Prop} {N N2 : Nat} {G G2 : Nat → (Nat → Int32) → va_E} {h h2 : Nat → Nat} {u u2 : St}
variable {y : MethodName} {cy : ByteArray} {ny : Nat} {ry : Option FieldType} {rm : Room} {As : List Value} {ci idx n : Nat} {Post : Int32 → St → Prop}
set_option maxHeartbeats 4000000 in
theorem q_l2 (S : CallFix p m c cc nL s args wsU own) (hK : va_K D vwCl tys s) (hNs : Nst s) (hSt : Stt A s s.heap) (hP : va_P D vwCl (wG N G h u) H) (hP2 : va_P D vwCl (wG N2 G2 h2 u2) H) (hD : va_D A (wG N G h u ++ wG N2 G2 h2 u2)) (hS : va_S A s.heap H locs) (hA : ∀ q, s.heap.size ≤ q → A q) (k : Nat) (M : CtI l y cy ny ry rm D tys N G h (.ref (h k) :: As) u Post) (L : LkV own idx y cy ny ry n) (hnd : va_nd ((List.range N2).map (fun i => N + i)) = true) (hdis : ∀ i ∈ (List.range N2).map (fun i => N + i), i ∉ List.range N) (hk : k < N) {fs : List Value} {q : vw_C} (hG : G k (u k) = .inr (ci, fs)) (hc : vwCl[ci]? = some q) (hq : q.1 = y.cls) (hn : As.length = n) (hrc : rm.cells = 0) (hrs : rm.slots = 0) (hR : rm.frames + 1 ≤ R.frames ∧ 8 + (ny + 11) + rm.locals ≤ R.locals) (hrm : (rest.map fun v => v.category).sum ≤ 8) (hsz : ls.size = nL) (hcs : cells ≤ R.cells ∧ slots ≤ R.slots) (hst : st0 = As.reverse ++ .ref (h k) :: rest) (hdg : decode cc pc = .ok (.invokevirtual idx, 3))
    (kk : ∀ (r : Int32) (u1 : St) (H1 : Heap) (locs1 : List Loc), Post r u1 → va_P D vwCl (wG N G h u1) H1 → va_P D vwCl (wG N2 G2 h2 u2) H1 → va_D A (wG N G h u1 ++ wG N2 G2 h2 u2) → va_S A s.heap H1 locs1 → W p l e R s m args below meth c H1 locs1 cells slots Q (F0 m (pc + 3) ls (.int r :: rest))) : W p l e R s m args below meth c H locs cells slots Q (F0 m pc ls st0) := by
  obtain ⟨w1, w2, w3, w4, w5, hd⟩ := L
  have O : wO D N G h u A s.heap H locs := ⟨hP, va_D_l hD, hS⟩
  have hF := wF_free O hA
  have hrv := va_recv hK O.1 hc ((wG_at hk).trans (by rw [hG]))
  rw [hq] at hrv
  refine va_calli (va_runV (As := As) (rest := rest) (C := y.cls) S (M H.size) ⟨callB_of n S.2.2.2.2 (gU w5) rfl hrc hrs (S.2.2.2.2 _ w4) (S.2.2.2.2 _ w1) hd hR, S.2.2.2.2 _ w2, S.2.2.2.2 _ w3⟩ ⟨cP_blind, hrv, fun U hU hW => ⟨rfl, by rw [hU], by rw [hU]; exact O.1, va_K.moved hW.alike hK, O.2.1.weaken (fun _ _ _ _ => trivial), hNs.warm hW, by rw [hU]; exact hSt.go O.2.2.2.1 hF hW.alike⟩⟩ rfl hn hsz hst (lv_room hrm) hdg ⟨by omega, by omega⟩) O.2.2 (fun q _ hq => hF q hq) hF (fun r u1 t H1 locs1 ht hvm hw hB hz1 hk1 hS1 => ?_)
  subst ht
  obtain ⟨j1, j2⟩ := va_join (wr := wG N2 G2 h2 u2) (w1 := wG N G h u1) (hP.app hP2) hD (List.range N) ((List.range N2).map (fun i => N + i)) (rg_l wG_len) (rg_r wG_len wG_len) hnd hdis hk1 hF hB.1 hB.2.2
  exact kk r u1 t.heap locs1 hw (va_P_r j1) (va_P_l j1) (va_D_c j2) hS1
end L2
