/-! the words that hold everywhere, by their places -/
def zx_W : List Cond := lw_tbl.filter goodWord
theorem zx_in {w : Cond} (i : Nat) (h : lw_tbl[i]? = some w) (g : goodWord w = true) : w ∈ zx_W := List.mem_filter.mpr ⟨List.mem_of_getElem? h, g⟩
def zx_N : List Cond := [Cond.declares ⟨"ValueBench$Form", "begin", "(II)V"⟩, Cond.declares ⟨"ValueBench$Form", "keeps", "(I)Z"⟩, Cond.declares ⟨"ValueBench$Form", "target", "(I)I"⟩, Cond.declares ⟨"ValueBench$Form", "left", "(I)I"⟩, Cond.declares ⟨"ValueBench$Form", "right", "(I)I"⟩, Cond.declares ⟨"ValueBench$Form", "endCell", "(I)I"⟩, Cond.methodLinkNest "ValueBench" 11 ⟨"ValueBench$Program", "<init>", "()V"⟩ "ValueBench", Cond.methodLinkNest "ValueBench" 18 ⟨"ValueBench$Graph", "<init>", "()V"⟩ "ValueBench", Cond.methodLinkNest "ValueBench" 25 ⟨"ValueBench$Values", "<init>", "()V"⟩ "ValueBench", Cond.methodLinkNest "ValueBench$Values" 29 ⟨"ValueBench$Reads", "<init>", "()V"⟩ "ValueBench", Cond.methodLinkNest "ValueBench" 32 ⟨"ValueBench$Classes", "<init>", "()V"⟩ "ValueBench", Cond.methodLinkNest "ValueBench" 39 ⟨"ValueBench$Leaders", "<init>", "()V"⟩ "ValueBench", Cond.methodLinkNest "ValueBench$Leaders" 17 ⟨"ValueBench$Reads", "<init>", "()V"⟩ "ValueBench"]
theorem zx_N_ok : ∀ w ∈ zx_N, w.onTables = true ∧ ∀ (s U : State), s.WarmedH U.vm → va_Nw w s → va_Nw w U := by
  intro w hw
  have h : (∃ x, w = Cond.declares x) ∨ ∃ a i x h, w = Cond.methodLinkNest a i x h := by
    simp only [zx_N, List.mem_cons, List.not_mem_nil, or_false] at hw
    rcases hw with rfl | rfl | rfl | rfl | rfl | rfl | rfl | rfl | rfl | rfl | rfl | rfl | rfl <;> first | exact Or.inl ⟨_, rfl⟩ | exact Or.inr ⟨_, _, _, _, rfl⟩
  rcases h with ⟨x, rfl⟩ | ⟨a, i, x, h, rfl⟩
  · exact ⟨rfl, fun s U hW hZ => hZ.warmD hW⟩
  · exact ⟨rfl, fun s U hW hZ => hZ.warmM hW⟩
theorem zx_N_tbl : ∀ w ∈ zx_N, w ∈ lw_tbl := by decide +kernel
abbrev zx_cl : List vw_C := [(RX0, TX0, 3), (RX2, TX2, 7), (RX3, TX3, 3), (RX4, TX4, 8), (RX5, TX5, 10), (RX6, TX6, 3), (RX7, TX7, 2), (RX8, TX8, 7), (RX9, TX9, 12), (RX10, TX10, 10), (RX11, TX11, 44)]
theorem zv_X0 : ∀ w ∈ u_ws RX0 TX0 3, w ∈ lw_tbl := by decide +kernel
theorem zu_X0 : ∀ w ∈ u_ws RX0 TX0 3, w ∈ zx_W := fun w h => List.mem_filter.mpr ⟨zv_X0 w h, by
  obtain ⟨k, -, rfl⟩ := List.mem_map.mp h
  unfold u_lay
  split <;> rfl⟩
theorem zv_X2 : ∀ w ∈ u_ws RX2 TX2 7, w ∈ lw_tbl := by decide +kernel
theorem zu_X2 : ∀ w ∈ u_ws RX2 TX2 7, w ∈ zx_W := fun w h => List.mem_filter.mpr ⟨zv_X2 w h, by
  obtain ⟨k, -, rfl⟩ := List.mem_map.mp h
  unfold u_lay
  split <;> rfl⟩
theorem zv_X3 : ∀ w ∈ u_ws RX3 TX3 3, w ∈ lw_tbl := by decide +kernel
theorem zu_X3 : ∀ w ∈ u_ws RX3 TX3 3, w ∈ zx_W := fun w h => List.mem_filter.mpr ⟨zv_X3 w h, by
  obtain ⟨k, -, rfl⟩ := List.mem_map.mp h
  unfold u_lay
  split <;> rfl⟩
theorem zv_X4 : ∀ w ∈ u_ws RX4 TX4 8, w ∈ lw_tbl := by decide +kernel
theorem zu_X4 : ∀ w ∈ u_ws RX4 TX4 8, w ∈ zx_W := fun w h => List.mem_filter.mpr ⟨zv_X4 w h, by
  obtain ⟨k, -, rfl⟩ := List.mem_map.mp h
  unfold u_lay
  split <;> rfl⟩
theorem zv_X5 : ∀ w ∈ u_ws RX5 TX5 10, w ∈ lw_tbl := by decide +kernel
theorem zu_X5 : ∀ w ∈ u_ws RX5 TX5 10, w ∈ zx_W := fun w h => List.mem_filter.mpr ⟨zv_X5 w h, by
  obtain ⟨k, -, rfl⟩ := List.mem_map.mp h
  unfold u_lay
  split <;> rfl⟩
theorem zv_X6 : ∀ w ∈ u_ws RX6 TX6 3, w ∈ lw_tbl := by decide +kernel
theorem zu_X6 : ∀ w ∈ u_ws RX6 TX6 3, w ∈ zx_W := fun w h => List.mem_filter.mpr ⟨zv_X6 w h, by
  obtain ⟨k, -, rfl⟩ := List.mem_map.mp h
  unfold u_lay
  split <;> rfl⟩
theorem zv_X7 : ∀ w ∈ u_ws RX7 TX7 2, w ∈ lw_tbl := by decide +kernel
theorem zu_X7 : ∀ w ∈ u_ws RX7 TX7 2, w ∈ zx_W := fun w h => List.mem_filter.mpr ⟨zv_X7 w h, by
  obtain ⟨k, -, rfl⟩ := List.mem_map.mp h
  unfold u_lay
  split <;> rfl⟩
theorem zv_X8 : ∀ w ∈ u_ws RX8 TX8 7, w ∈ lw_tbl := by decide +kernel
theorem zu_X8 : ∀ w ∈ u_ws RX8 TX8 7, w ∈ zx_W := fun w h => List.mem_filter.mpr ⟨zv_X8 w h, by
  obtain ⟨k, -, rfl⟩ := List.mem_map.mp h
  unfold u_lay
  split <;> rfl⟩
theorem zv_X9 : ∀ w ∈ u_ws RX9 TX9 12, w ∈ lw_tbl := by decide +kernel
theorem zu_X9 : ∀ w ∈ u_ws RX9 TX9 12, w ∈ zx_W := fun w h => List.mem_filter.mpr ⟨zv_X9 w h, by
  obtain ⟨k, -, rfl⟩ := List.mem_map.mp h
  unfold u_lay
  split <;> rfl⟩
theorem zv_X10 : ∀ w ∈ u_ws RX10 TX10 10, w ∈ lw_tbl := by decide +kernel
theorem zu_X10 : ∀ w ∈ u_ws RX10 TX10 10, w ∈ zx_W := fun w h => List.mem_filter.mpr ⟨zv_X10 w h, by
  obtain ⟨k, -, rfl⟩ := List.mem_map.mp h
  unfold u_lay
  split <;> rfl⟩
theorem zv_X11 : ∀ w ∈ u_ws RX11 TX11 44, w ∈ lw_tbl := by decide +kernel
theorem zu_X11 : ∀ w ∈ u_ws RX11 TX11 44, w ∈ zx_W := fun w h => List.mem_filter.mpr ⟨zv_X11 w h, by
  obtain ⟨k, -, rfl⟩ := List.mem_map.mp h
  unfold u_lay
  split <;> rfl⟩
