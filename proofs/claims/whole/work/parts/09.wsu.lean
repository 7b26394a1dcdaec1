/-! all words: the law's printed list, and two that it lacks (FIRST's super.follow, which stands two classes above) -/
def wsE : List Cond := [.methodLink RX1 13 ⟨RX9, "follow", "(LFellersOrder$Acting;I)I"⟩, .sameMethod RX9 RX4 "follow" "(LFellersOrder$Acting;I)I"]
def wsU : List Cond := wsL_law ++ wsE
theorem inuX0 : ∀ w ∈ wsX00, w ∈ wsU := fun w h => List.mem_append_left _ (inlX0 w h)
theorem inuX1 : ∀ w ∈ wsX10, w ∈ wsU := fun w h => List.mem_append_left _ (inlX1 w h)
theorem inuX2 : ∀ w ∈ wsX20, w ∈ wsU := fun w h => List.mem_append_left _ (inlX2 w h)
theorem inuX3 : ∀ w ∈ wsX30, w ∈ wsU := fun w h => List.mem_append_left _ (inlX3 w h)
theorem inuX4 : ∀ w ∈ wsX40, w ∈ wsU := fun w h => List.mem_append_left _ (inlX4 w h)
theorem inuX5 : ∀ w ∈ wsX50, w ∈ wsU := fun w h => List.mem_append_left _ (inlX5 w h)
theorem inuX6 : ∀ w ∈ wsX60, w ∈ wsU := fun w h => List.mem_append_left _ (inlX6 w h)
theorem inuX7 : ∀ w ∈ wsX70, w ∈ wsU := fun w h => List.mem_append_left _ (inlX7 w h)
theorem inuX8 : ∀ w ∈ wsX80, w ∈ wsU := fun w h => List.mem_append_left _ (inlX8 w h)
theorem inuX9 : ∀ w ∈ wsX90, w ∈ wsU := fun w h => List.mem_append_left _ (inlX9 w h)
theorem inuX10 : ∀ w ∈ wsX100, w ∈ wsU := fun w h => List.mem_append_left _ (inlX10 w h)
theorem inuX11 : ∀ w ∈ wsX110, w ∈ wsU := fun w h => List.mem_append_left _ (inlX11 w h)
theorem inuX12 : ∀ w ∈ wsX120, w ∈ wsU := fun w h => List.mem_append_left _ (inlX12 w h)
