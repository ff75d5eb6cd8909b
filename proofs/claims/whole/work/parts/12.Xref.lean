set_option maxRecDepth 100000 in
set_option maxHeartbeats 4000000 in
theorem zX_readsOf_r24 {l : Launch} {D : va_G} {cz : ClassId × ClassId} {ad : Nat → Nat} (hS : zx_So zX_sd) (hi : zx_I zX_sd ad) {x1 : Int32} {s : zx_S} (hcc : x1 = (0 : Int32)) : zx_MA zX_sd l D cz ad yX10_readsOf cX10_readsOf 2 ((.object "ValueBench$Reads")) 0 0 [.ref (ad 0), .int x1] s 24 s := zx_metA hS hi (by decide +kernel) rfl (Nat.le_of_ble_eq_true rfl) (Or.inl ⟨_, rfl⟩) (fun Z e1 e2 e3 e4 C hr => by
  subst e1 e2 e3 e4
  refine zr_iload_n C dX10_readsOf_0 (q := 1) rfl 1 rfl rfl ?_
  have h : (if x1 = (0 : Int32) then (some () : Option Unit) else none) = some () := if_pos hcc
  refine zr_if_eq (tgt := 14) C dX10_readsOf_1 h (by decide) rfl (fun h => ?_) (fun h => ?_)
  rotate_left
  · cases h
  refine zr_aload_n C dX10_readsOf_14 (q := 15) rfl 0 rfl rfl ?_
  refine zr_get C dX10_readsOf_15 zX_gX10_26_0 rfl ?_
  refine zr_get C dX10_readsOf_18 zX_gX10_175_18 rfl ?_
  exact hr _ _ dX10_readsOf_21)
set_option maxRecDepth 100000 in
set_option maxHeartbeats 4000000 in
theorem zX_readsOf_r38 {l : Launch} {D : va_G} {cz : ClassId × ClassId} {ad : Nat → Nat} (hS : zx_So zX_sd) (hi : zx_I zX_sd ad) {x1 : Int32} {s : zx_S} (hcc : ¬ (x1 = (0 : Int32))) : zx_MA zX_sd l D cz ad yX10_readsOf cX10_readsOf 2 ((.object "ValueBench$Reads")) 0 0 [.ref (ad 0), .int x1] s 38 s := zx_metA hS hi (by decide +kernel) rfl (Nat.le_of_ble_eq_true rfl) (Or.inl ⟨_, rfl⟩) (fun Z e1 e2 e3 e4 C hr => by
  subst e1 e2 e3 e4
  refine zr_iload_n C dX10_readsOf_0 (q := 1) rfl 1 rfl rfl ?_
  have h : (if x1 = (0 : Int32) then (none : Option Unit) else some ()) = some () := if_neg hcc
  refine zr_if_eq (tgt := 14) C dX10_readsOf_1 h (by decide) rfl (fun h => ?_) (fun h => ?_)
  · cases h
  refine zr_aload_n C dX10_readsOf_4 (q := 5) rfl 0 rfl rfl ?_
  refine zr_get C dX10_readsOf_5 zX_gX10_40_0 rfl ?_
  refine zr_get C dX10_readsOf_8 zX_gX10_187_36 rfl ?_
  refine zr_goto (q := 21) C dX10_readsOf_11 (by decide) ?_
  exact hr _ _ dX10_readsOf_21)
