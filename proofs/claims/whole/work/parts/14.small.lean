theorem nb01 {v : Int32} (h : v = 0 ∨ v = 1) : narrow .boolean (.int v) = .int v := by
  rcases h with rfl | rfl <;> rfl
theorem ts_ne {x v : Int32} {k : Int} (hk : v.toInt = k) (h : ¬ x = v) : x.toInt ≠ k := fun e => h (Int32.toInt_inj.mp (by rw [e, hk]))
