set_option maxRecDepth 100000 in
set_option maxHeartbeats 4000000 in
theorem zX_Graph_frontierOf_J33_w {Z : zx_Z} (C : zx_ok zX_sd Z cX2_frontierOf 5 RX2 1 21) {r : Int32} (v1 v2 v3 t0 : Int32) (s : zx_S) {k4 : Int32 → Int32 → Option Int32} (hr : zx_rI zX_sd Z cX2_frontierOf 5 .int r s) (h4 : ∀ (a0 : Int32) (a1 : Int32), k4 a0 a1 = some r → zW zX_sd Z 5 4 [(0, .ref (zz_d Z 11)), (1, .int v1), (2, .int a0), (3, .int a1)] [] s) (h : zX_Graph_frontierOf_J33 k4 v1 v2 v3 t0 s = some r) : zW zX_sd Z 5 33 [(0, .ref (zz_d Z 11)), (1, .int v1), (2, .int v2), (3, .int v3)] [.int t0] s := by
  unfold zX_Graph_frontierOf_J33 at h
  refine zr_istore C dX2_frontierOf_33 (q := 35) (by decide) (lv' := [(4, .int t0), (0, .ref (zz_d Z 11)), (1, .int v1), (2, .int v2), (3, .int v3)]) rfl rfl ?_
  refine zr_aload_n C dX2_frontierOf_35 (q := 36) rfl 1 rfl rfl ?_
  refine zr_get C dX2_frontierOf_36 (q := 39) zX_gX2_18_11 rfl ?_
  refine zr_iload_n C dX2_frontierOf_39 (q := 40) rfl 2 rfl rfl ?_
  obtain ⟨hin_40, h⟩ := zx_ck_so h
  refine zr_iald C dX2_frontierOf_40 (q := 41) zX_a14 hin_40 rfl ?_
  refine zr_aload_n C dX2_frontierOf_41 (q := 42) rfl 1 rfl rfl ?_
  refine zr_get C dX2_frontierOf_42 (q := 45) zX_gX2_15_11 rfl ?_
  refine zr_iload_n C dX2_frontierOf_45 (q := 46) rfl 4 rfl rfl ?_
  obtain ⟨hin_46, h⟩ := zx_ck_so h
  refine zr_iald C dX2_frontierOf_46 (q := 47) zX_a13 hin_46 rfl ?_
  refine zr_iand C dX2_frontierOf_47 (q := 48) rfl ?_
  refine zr_if_eq (tgt := 62) (q := 51) C dX2_frontierOf_48 h (by decide) rfl (fun h => ?_) (fun h => ?_)
  · skip
    refine zr_iinc C dX2_frontierOf_62 (q := 65) h (by decide) 4 rfl (by decide) (lw := fun v3_4 => [(3, .int v3_4), (4, .int t0), (0, .ref (zz_d Z 11)), (1, .int v1), (2, .int v2)]) (fun _ => rfl) rfl (fun v3_4 h => ?_)
    refine zr_goto (q := 4) C dX2_frontierOf_65 (by decide) ?_
    exact zr_sub [2, 3, 4, 0] rfl (h4 v2 v3_4 h)
  · skip
    refine zr_iload C dX2_frontierOf_51 (q := 53) 0 rfl rfl ?_
    refine zr_if_ne (tgt := 62) (q := 56) C dX2_frontierOf_53 h (by decide) rfl (fun h => ?_) (fun h => ?_)
    · skip
      refine zr_iinc C dX2_frontierOf_62 (q := 65) h (by decide) 4 rfl (by decide) (lw := fun v3_3 => [(3, .int v3_3), (4, .int t0), (0, .ref (zz_d Z 11)), (1, .int v1), (2, .int v2)]) (fun _ => rfl) rfl (fun v3_3 h => ?_)
      refine zr_goto (q := 4) C dX2_frontierOf_65 (by decide) ?_
      exact zr_sub [2, 3, 4, 0] rfl (h4 v2 v3_3 h)
    · skip
      refine zr_iload_n C dX2_frontierOf_56 (q := 57) rfl 3 rfl rfl ?_
      refine zr_iconst C dX2_frontierOf_57 (q := 58) (v := (1 : Int32)) (by decide) rfl ?_
      refine zr_iload_n C dX2_frontierOf_58 (q := 59) rfl 4 rfl rfl ?_
      refine zr_ishl C dX2_frontierOf_59 (q := 60) rfl ?_
      refine zr_ior C dX2_frontierOf_60 (q := 61) rfl ?_
      refine zr_top h (fun v2_1 h => ?_)
      refine zr_istore_n C dX2_frontierOf_61 (q := 62) rfl (by decide) (lv' := [(2, .int v2_1), (4, .int t0), (0, .ref (zz_d Z 11)), (1, .int v1), (3, .int v3)]) rfl rfl ?_
      refine zr_iinc C dX2_frontierOf_62 (q := 65) h (by decide) 4 rfl (by decide) (lw := fun v3_2 => [(3, .int v3_2), (2, .int v2_1), (4, .int t0), (0, .ref (zz_d Z 11)), (1, .int v1)]) (fun _ => rfl) rfl (fun v3_2 h => ?_)
      refine zr_goto (q := 4) C dX2_frontierOf_65 (by decide) ?_
      exact zr_sub [3, 4, 1, 0] rfl (h4 v2_1 v3_2 h)
set_option maxRecDepth 100000 in
set_option maxHeartbeats 4000000 in
theorem zX_Graph_frontierOf_L4_w {Z : zx_Z} (C : zx_ok zX_sd Z cX2_frontierOf 5 RX2 1 21) {r : Int32} (v1 : Int32) (s : zx_S) {k68 : Int32 → Option Int32} (hr : zx_rI zX_sd Z cX2_frontierOf 5 .int r s) (h68 : ∀ (a0 : Int32), k68 a0 = some r → zW zX_sd Z 5 68 [(2, .int a0)] [] s) : ∀ (n : Nat) (v2 : Int32) (v3 : Int32), zX_Graph_frontierOf_L4 v1 s k68 n v2 v3 = some r → zW zX_sd Z 5 4 [(0, .ref (zz_d Z 11)), (1, .int v1), (2, .int v2), (3, .int v3)] [] s := by
  intro n
  induction n with
  | zero => intro v2 v3 h; unfold zX_Graph_frontierOf_L4 at h; cases h
  | succ n ih =>
    intro v2 v3 h
    unfold zX_Graph_frontierOf_L4 at h
    refine zr_iload_n C dX2_frontierOf_4 (q := 5) rfl 3 rfl rfl ?_
    refine zr_bipush C dX2_frontierOf_5 (q := 7) (v := (16 : Int32)) (by decide) rfl ?_
    refine zr_icmp_ge (tgt := 68) (q := 10) C dX2_frontierOf_7 h (by decide) rfl (fun h => ?_) (fun h => ?_)
    · skip
      exact zr_sub [2] rfl (h68 v2 h)
    · skip
      refine zr_iload_n C dX2_frontierOf_10 (q := 11) rfl 1 rfl rfl ?_
      refine zr_iload_n C dX2_frontierOf_11 (q := 12) rfl 3 rfl rfl ?_
      refine zr_icmp_eq (tgt := 32) (q := 15) C dX2_frontierOf_12 h (by decide) rfl (fun h => ?_) (fun h => ?_)
      · skip
        refine zr_iconst C dX2_frontierOf_32 (q := 33) (v := (0 : Int32)) (by decide) rfl ?_
        exact zr_sub [0, 1, 2, 3] rfl (zX_Graph_frontierOf_J33_w C v1 v2 v3 (0 : Int32) s hr (ih) h)
      · skip
        refine zr_aload_n C dX2_frontierOf_15 (q := 16) rfl 0 rfl rfl ?_
        refine zr_get C dX2_frontierOf_16 (q := 19) zX_gX2_18_11 rfl ?_
        refine zr_iload_n C dX2_frontierOf_19 (q := 20) rfl 1 rfl rfl ?_
        obtain ⟨hin_20, h⟩ := zx_ck_so h
        refine zr_iald C dX2_frontierOf_20 (q := 21) zX_a14 hin_20 rfl ?_
        refine zr_iload_n C dX2_frontierOf_21 (q := 22) rfl 3 rfl rfl ?_
        obtain ⟨r5, hc_22, h⟩ := zx_b1_so h
        refine zr_csI (q := 25) C (As := [.int (s 14 (v1).toNatClampNeg), .int v3]) (rest := []) dX2_frontierOf_22 (zX_Graph_isIn_met C.2.2.2.2.1 C.2.2.2.1 hc_22) zX_sX2_30 ⟨by decide, by decide⟩ rfl (Nat.le_of_ble_eq_true rfl) rfl rfl ?_
        refine zr_if_eq (tgt := 32) (q := 28) C dX2_frontierOf_25 h (by decide) rfl (fun h => ?_) (fun h => ?_)
        · skip
          refine zr_iconst C dX2_frontierOf_32 (q := 33) (v := (0 : Int32)) (by decide) rfl ?_
          exact zr_sub [0, 1, 2, 3] rfl (zX_Graph_frontierOf_J33_w C v1 v2 v3 (0 : Int32) s hr (ih) h)
        · skip
          refine zr_iconst C dX2_frontierOf_28 (q := 29) (v := (1 : Int32)) (by decide) rfl ?_
          refine zr_goto (q := 33) C dX2_frontierOf_29 (by decide) ?_
          exact zr_sub [0, 1, 2, 3] rfl (zX_Graph_frontierOf_J33_w C v1 v2 v3 (1 : Int32) s hr (ih) h)
set_option maxRecDepth 100000 in
set_option maxHeartbeats 4000000 in
theorem zX_Graph_frontierOf_w {Z : zx_Z} (C : zx_ok zX_sd Z cX2_frontierOf 5 RX2 1 21) {r : Int32} (p1 : Int32) (s : zx_S) (hr : zx_rI zX_sd Z cX2_frontierOf 5 .int r s) (h : zX_Graph_frontierOf p1 s = some r) : zW zX_sd Z 5 0 [(0, .ref (zz_d Z 11)), (1, .int p1)] [] s := by
  unfold zX_Graph_frontierOf at h
  refine zr_iconst C dX2_frontierOf_0 (q := 1) (v := (0 : Int32)) (by decide) rfl ?_
  refine zr_istore_n C dX2_frontierOf_1 (q := 2) rfl (by decide) (lv' := [(2, .int (0 : Int32)), (0, .ref (zz_d Z 11)), (1, .int p1)]) rfl rfl ?_
  refine zr_iconst C dX2_frontierOf_2 (q := 3) (v := (0 : Int32)) (by decide) rfl ?_
  refine zr_istore_n C dX2_frontierOf_3 (q := 4) rfl (by decide) (lv' := [(3, .int (0 : Int32)), (2, .int (0 : Int32)), (0, .ref (zz_d Z 11)), (1, .int p1)]) rfl rfl ?_
  refine zr_sub [2, 3, 1, 0] rfl (zX_Graph_frontierOf_L4_w C p1 s hr (fun v2_6 h => ?_) 10000 (0 : Int32) (0 : Int32) h)
  · skip
    refine zr_iload_n C dX2_frontierOf_68 (q := 69) rfl 0 rfl rfl ?_
    exact zr_retR dX2_frontierOf_69 h hr
theorem zX_Graph_frontierOf_met {l : Launch} {D : va_G} {cz : ClassId × ClassId} {ad : Nat → Nat} (hS : zx_So zX_sd) (hi : zx_I zX_sd ad) {p1 : Int32} {s : zx_S} {v : Int32} (h : zX_Graph_frontierOf p1 s = some v) : zx_MI zX_sd l D cz ad yX2_frontierOf cX2_frontierOf 5 .int 1 21 [.ref (ad 11), .int p1] s v s := zx_metI hS hi (by decide +kernel) rfl (Nat.le_of_ble_eq_true rfl) (fun Z e1 e2 e3 e4 C hr => by subst e1 e2 e3 e4; exact zX_Graph_frontierOf_w C p1 s hr h)
set_option maxRecDepth 100000 in
set_option maxHeartbeats 4000000 in
theorem zX_Graph_draw_L2_w {Z : zx_Z} (C : zx_ok zX_sd Z cX2_draw 3 RX2 4 84) {r : zx_S} {k37 : zx_S → Option zx_S} (hr : zx_rV zX_sd Z cX2_draw 3 r) (h37 : ∀ (s1 : zx_S), k37 s1 = some r → zW zX_sd Z 3 37 [(0, .ref (zz_d Z 11)), (1, .ref (zz_d Z 1))] [] s1) : ∀ (n : Nat) (v2 : Int32) (s : zx_S), zX_Graph_draw_L2 k37 n v2 s = some r → zW zX_sd Z 3 2 [(0, .ref (zz_d Z 11)), (1, .ref (zz_d Z 1)), (2, .int v2)] [] s := by
  intro n
  induction n with
  | zero => intro v2 s h; unfold zX_Graph_draw_L2 at h; cases h
  | succ n ih =>
    intro v2 s h
    unfold zX_Graph_draw_L2 at h
    refine zr_iload_n C dX2_draw_2 (q := 3) rfl 2 rfl rfl ?_
    refine zr_bipush C dX2_draw_3 (q := 5) (v := (16 : Int32)) (by decide) rfl ?_
    refine zr_icmp_ge (tgt := 37) (q := 8) C dX2_draw_5 h (by decide) rfl (fun h => ?_) (fun h => ?_)
    · skip
      exact zr_sub [0, 1] rfl (h37 s h)
    · skip
      refine zr_aload_n C dX2_draw_8 (q := 9) rfl 0 rfl rfl ?_
      refine zr_get C dX2_draw_9 (q := 12) zX_gX2_9_11 rfl ?_
      refine zr_iload_n C dX2_draw_12 (q := 13) rfl 2 rfl rfl ?_
      refine zr_aload_n C dX2_draw_13 (q := 14) rfl 1 rfl rfl ?_
      refine zr_iload_n C dX2_draw_14 (q := 15) rfl 2 rfl rfl ?_
      obtain ⟨r1, hc_15, h⟩ := zx_b1_so h
      refine zr_cvI (q := 18) C (As := [.int v2]) (k := 1) (rest := [.int v2, .ref (zz_d Z 12)]) dX2_draw_15 (zX_Program_has_met C.2.2.2.2.1 C.2.2.2.1 hc_15) zX_vX2_48 zX_o1 ⟨by decide, by decide⟩ rfl (Nat.le_of_ble_eq_true rfl) rfl rfl ?_
      refine zr_if_eq (tgt := 29) (q := 21) C dX2_draw_18 h (by decide) rfl (fun h => ?_) (fun h => ?_)
      · skip
        refine zr_iconst C dX2_draw_29 (q := 30) (v := (0 : Int32)) (by decide) rfl ?_
        obtain ⟨hin_30, h⟩ := zx_ck_so h
        refine zr_iast C dX2_draw_30 (q := 31) zX_a12 hin_30 rfl ?_
        refine zr_ls h (fun s5 h => ?_)
        refine zr_iinc C dX2_draw_31 (q := 34) h (by decide) 2 rfl (by decide) (lw := fun v2_6 => [(2, .int v2_6), (0, .ref (zz_d Z 11)), (1, .ref (zz_d Z 1))]) (fun _ => rfl) rfl (fun v2_6 h => ?_)
        refine zr_goto (q := 2) C dX2_draw_34 (by decide) ?_
        exact zr_sub [1, 2, 0] rfl (ih v2_6 s5 h)
      · skip
        refine zr_aload_n C dX2_draw_21 (q := 22) rfl 1 rfl rfl ?_
        refine zr_iload_n C dX2_draw_22 (q := 23) rfl 2 rfl rfl ?_
        obtain ⟨r2, hc_23, h⟩ := zx_b1_so h
        refine zr_cvI (q := 26) C (As := [.int v2]) (k := 1) (rest := [.int v2, .ref (zz_d Z 12)]) dX2_draw_23 (zX_Program_toldBlocks_met C.2.2.2.2.1 C.2.2.2.1 hc_23) zX_vX2_54 zX_o1 ⟨by decide, by decide⟩ rfl (Nat.le_of_ble_eq_true rfl) rfl rfl ?_
        refine zr_goto (q := 30) C dX2_draw_26 (by decide) ?_
        obtain ⟨hin_30, h⟩ := zx_ck_so h
        refine zr_iast C dX2_draw_30 (q := 31) zX_a12 hin_30 rfl ?_
        refine zr_ls h (fun s3 h => ?_)
        refine zr_iinc C dX2_draw_31 (q := 34) h (by decide) 2 rfl (by decide) (lw := fun v2_4 => [(2, .int v2_4), (0, .ref (zz_d Z 11)), (1, .ref (zz_d Z 1))]) (fun _ => rfl) rfl (fun v2_4 h => ?_)
        refine zr_goto (q := 2) C dX2_draw_34 (by decide) ?_
        exact zr_sub [1, 2, 0] rfl (ih v2_4 s3 h)
set_option maxRecDepth 100000 in
set_option maxHeartbeats 4000000 in
theorem zX_Graph_draw_L64_w {Z : zx_Z} (C : zx_ok zX_sd Z cX2_draw 3 RX2 4 84) {r : zx_S} {k94 : zx_S → Option zx_S} (hr : zx_rV zX_sd Z cX2_draw 3 r) (h94 : ∀ (s1 : zx_S), k94 s1 = some r → zW zX_sd Z 3 94 [(0, .ref (zz_d Z 11))] [] s1) : ∀ (n : Nat) (v2 : Int32) (s : zx_S), zX_Graph_draw_L64 k94 n v2 s = some r → zW zX_sd Z 3 64 [(0, .ref (zz_d Z 11)), (2, .int v2)] [] s := by
  intro n
  induction n with
  | zero => intro v2 s h; unfold zX_Graph_draw_L64 at h; cases h
  | succ n ih =>
    intro v2 s h
    unfold zX_Graph_draw_L64 at h
    refine zr_iload_n C dX2_draw_64 (q := 65) rfl 1 rfl rfl ?_
    refine zr_bipush C dX2_draw_65 (q := 67) (v := (16 : Int32)) (by decide) rfl ?_
    refine zr_icmp_ge (tgt := 94) (q := 70) C dX2_draw_67 h (by decide) rfl (fun h => ?_) (fun h => ?_)
    · skip
      exact zr_sub [0] rfl (h94 s h)
    · skip
      refine zr_aload_n C dX2_draw_70 (q := 71) rfl 0 rfl rfl ?_
      refine zr_get C dX2_draw_71 (q := 74) zX_gX2_44_11 rfl ?_
      refine zr_iload_n C dX2_draw_74 (q := 75) rfl 1 rfl rfl ?_
      obtain ⟨r10, hc_75, h⟩ := zx_b1_so h
      refine zr_csI (q := 78) C (As := [.int (s 11 6), .int v2]) (rest := []) dX2_draw_75 (zX_Graph_isIn_met C.2.2.2.2.1 C.2.2.2.1 hc_75) zX_sX2_30 ⟨by decide, by decide⟩ rfl (Nat.le_of_ble_eq_true rfl) rfl rfl ?_
      refine zr_if_ne (tgt := 88) (q := 81) C dX2_draw_78 h (by decide) rfl (fun h => ?_) (fun h => ?_)
      · skip
        refine zr_iinc C dX2_draw_88 (q := 91) h (by decide) 1 rfl (by decide) (lw := fun v2_13 => [(2, .int v2_13), (0, .ref (zz_d Z 11))]) (fun _ => rfl) rfl (fun v2_13 h => ?_)
        refine zr_goto (q := 64) C dX2_draw_91 (by decide) ?_
        exact zr_sub [1, 0] rfl (ih v2_13 s h)
      · skip
        refine zr_aload_n C dX2_draw_81 (q := 82) rfl 0 rfl rfl ?_
        refine zr_get C dX2_draw_82 (q := 85) zX_gX2_9_11 rfl ?_
        refine zr_iload_n C dX2_draw_85 (q := 86) rfl 1 rfl rfl ?_
        refine zr_iconst C dX2_draw_86 (q := 87) (v := (0 : Int32)) (by decide) rfl ?_
        obtain ⟨hin_87, h⟩ := zx_ck_so h
        refine zr_iast C dX2_draw_87 (q := 88) zX_a12 hin_87 rfl ?_
        refine zr_ls h (fun s11 h => ?_)
        refine zr_iinc C dX2_draw_88 (q := 91) h (by decide) 1 rfl (by decide) (lw := fun v2_12 => [(2, .int v2_12), (0, .ref (zz_d Z 11))]) (fun _ => rfl) rfl (fun v2_12 h => ?_)
        refine zr_goto (q := 64) C dX2_draw_91 (by decide) ?_
        exact zr_sub [1, 0] rfl (ih v2_12 s11 h)
set_option maxRecDepth 100000 in
set_option maxHeartbeats 4000000 in
theorem zX_Graph_draw_L107_w {Z : zx_Z} (C : zx_ok zX_sd Z cX2_draw 3 RX2 4 84) {r : zx_S} {k148 : zx_S → Option zx_S} (hr : zx_rV zX_sd Z cX2_draw 3 r) (h148 : ∀ (s1 : zx_S), k148 s1 = some r → zW zX_sd Z 3 148 [(0, .ref (zz_d Z 11))] [] s1) : ∀ (n : Nat) (v2 : Int32) (s : zx_S), zX_Graph_draw_L107 k148 n v2 s = some r → zW zX_sd Z 3 107 [(0, .ref (zz_d Z 11)), (2, .int v2)] [] s := by
  intro n
  induction n with
  | zero => intro v2 s h; unfold zX_Graph_draw_L107 at h; cases h
  | succ n ih =>
    intro v2 s h
    unfold zX_Graph_draw_L107 at h
    refine zr_iload_n C dX2_draw_107 (q := 108) rfl 1 rfl rfl ?_
    refine zr_bipush C dX2_draw_108 (q := 110) (v := (16 : Int32)) (by decide) rfl ?_
    refine zr_icmp_ge (tgt := 148) (q := 113) C dX2_draw_110 h (by decide) rfl (fun h => ?_) (fun h => ?_)
    · skip
      exact zr_sub [0] rfl (h148 s h)
    · skip
      refine zr_aload_n C dX2_draw_113 (q := 114) rfl 0 rfl rfl ?_
      refine zr_get C dX2_draw_114 (q := 117) zX_gX2_18_11 rfl ?_
      refine zr_iload_n C dX2_draw_117 (q := 118) rfl 1 rfl rfl ?_
      refine zr_aload_n C dX2_draw_118 (q := 119) rfl 0 rfl rfl ?_
      refine zr_get C dX2_draw_119 (q := 122) zX_gX2_44_11 rfl ?_
      refine zr_aload_n C dX2_draw_122 (q := 123) rfl 0 rfl rfl ?_
      refine zr_get C dX2_draw_123 (q := 126) zX_gX2_44_11 rfl ?_
      refine zr_iconst C dX2_draw_126 (q := 127) (v := (1 : Int32)) (by decide) rfl ?_
      refine zr_iand C dX2_draw_127 (q := 128) rfl ?_
      refine zr_aload_n C dX2_draw_128 (q := 129) rfl 0 rfl rfl ?_
      refine zr_get C dX2_draw_129 (q := 132) zX_gX2_9_11 rfl ?_
      refine zr_iconst C dX2_draw_132 (q := 133) (v := (1 : Int32)) (by decide) rfl ?_
      refine zr_iload_n C dX2_draw_133 (q := 134) rfl 1 rfl rfl ?_
      refine zr_ishl C dX2_draw_134 (q := 135) rfl ?_
      obtain ⟨r16, hc_135, h⟩ := zx_b1_so h
      refine zr_csI (q := 138) C (As := [.int ((s 11 6) &&& (1 : Int32)), .ref (zz_d Z 12), .int ((1 : Int32) <<< (v2 &&& 31))]) (rest := [.int (s 11 6), .int v2, .ref (zz_d Z 14)]) dX2_draw_135 (zX_Graph_closure_met C.2.2.2.2.1 C.2.2.2.1 hc_135) zX_sX2_57 ⟨by decide, by decide⟩ rfl (Nat.le_of_ble_eq_true rfl) rfl rfl ?_
      refine zr_iconst C dX2_draw_138 (q := 139) (v := (-1 : Int32)) (by decide) rfl ?_
      refine zr_ixor C dX2_draw_139 (q := 140) rfl ?_
      refine zr_iand C dX2_draw_140 (q := 141) rfl ?_
      refine zr_top h (fun x17 h => ?_)
      obtain ⟨hin_141, h⟩ := zx_ck_so h
      refine zr_iast C dX2_draw_141 (q := 142) zX_a14 hin_141 rfl ?_
      refine zr_ls h (fun s18 h => ?_)
      refine zr_iinc C dX2_draw_142 (q := 145) h (by decide) 1 rfl (by decide) (lw := fun v2_19 => [(2, .int v2_19), (0, .ref (zz_d Z 11))]) (fun _ => rfl) rfl (fun v2_19 h => ?_)
      refine zr_goto (q := 107) C dX2_draw_145 (by decide) ?_
      exact zr_sub [1, 0] rfl (ih v2_19 s18 h)
set_option maxRecDepth 100000 in
set_option maxHeartbeats 4000000 in
theorem zX_Graph_draw_L161_w {Z : zx_Z} (C : zx_ok zX_sd Z cX2_draw 3 RX2 4 84) {r : zx_S} {k195 : zx_S → Option zx_S} (hr : zx_rV zX_sd Z cX2_draw 3 r) (h195 : ∀ (s1 : zx_S), k195 s1 = some r → zW zX_sd Z 3 195 [] [] s1) : ∀ (n : Nat) (v2 : Int32) (s : zx_S), zX_Graph_draw_L161 k195 n v2 s = some r → zW zX_sd Z 3 161 [(0, .ref (zz_d Z 11)), (2, .int v2)] [] s := by
  intro n
  induction n with
  | zero => intro v2 s h; unfold zX_Graph_draw_L161 at h; cases h
  | succ n ih =>
    intro v2 s h
    unfold zX_Graph_draw_L161 at h
    refine zr_iload_n C dX2_draw_161 (q := 162) rfl 1 rfl rfl ?_
    refine zr_bipush C dX2_draw_162 (q := 164) (v := (16 : Int32)) (by decide) rfl ?_
    refine zr_icmp_ge (tgt := 195) (q := 167) C dX2_draw_164 h (by decide) rfl (fun h => ?_) (fun h => ?_)
    · skip
      exact zr_sub [] rfl (h195 s h)
    · skip
      refine zr_aload_n C dX2_draw_167 (q := 168) rfl 0 rfl rfl ?_
      refine zr_get C dX2_draw_168 (q := 171) zX_gX2_24_11 rfl ?_
      refine zr_iload_n C dX2_draw_171 (q := 172) rfl 1 rfl rfl ?_
      refine zr_aload_n C dX2_draw_172 (q := 173) rfl 0 rfl rfl ?_
      refine zr_iload_n C dX2_draw_173 (q := 174) rfl 1 rfl rfl ?_
      obtain ⟨r22, hc_174, h⟩ := zx_b1_so h
      refine zr_cvI (q := 177) C (As := [.int v2]) (k := 11) (rest := [.int v2, .ref (zz_d Z 16)]) dX2_draw_174 (zX_Graph_parentOf_met C.2.2.2.2.1 C.2.2.2.1 hc_174) zX_vX2_65 zX_o11 ⟨by decide, by decide⟩ rfl (Nat.le_of_ble_eq_true rfl) rfl rfl ?_
      obtain ⟨hin_177, h⟩ := zx_ck_so h
      refine zr_iast C dX2_draw_177 (q := 178) zX_a16 hin_177 rfl ?_
      refine zr_ls h (fun s23 h => ?_)
      refine zr_aload_n C dX2_draw_178 (q := 179) rfl 0 rfl rfl ?_
      refine zr_get C dX2_draw_179 (q := 182) zX_gX2_27_11 rfl ?_
      refine zr_iload_n C dX2_draw_182 (q := 183) rfl 1 rfl rfl ?_
      refine zr_aload_n C dX2_draw_183 (q := 184) rfl 0 rfl rfl ?_
      refine zr_iload_n C dX2_draw_184 (q := 185) rfl 1 rfl rfl ?_
      obtain ⟨r24, hc_185, h⟩ := zx_b1_so h
      refine zr_cvI (q := 188) C (As := [.int v2]) (k := 11) (rest := [.int v2, .ref (zz_d Z 17)]) dX2_draw_185 (zX_Graph_frontierOf_met C.2.2.2.2.1 C.2.2.2.1 hc_185) zX_vX2_68 zX_o11 ⟨by decide, by decide⟩ rfl (Nat.le_of_ble_eq_true rfl) rfl rfl ?_
      obtain ⟨hin_188, h⟩ := zx_ck_so h
      refine zr_iast C dX2_draw_188 (q := 189) zX_a17 hin_188 rfl ?_
      refine zr_ls h (fun s25 h => ?_)
      refine zr_iinc C dX2_draw_189 (q := 192) h (by decide) 1 rfl (by decide) (lw := fun v2_26 => [(2, .int v2_26), (0, .ref (zz_d Z 11))]) (fun _ => rfl) rfl (fun v2_26 h => ?_)
      refine zr_goto (q := 161) C dX2_draw_192 (by decide) ?_
      exact zr_sub [1, 0] rfl (ih v2_26 s25 h)
set_option maxRecDepth 100000 in
set_option maxHeartbeats 4000000 in
theorem zX_Graph_draw_J59_w {Z : zx_Z} (C : zx_ok zX_sd Z cX2_draw 3 RX2 4 84) {r : zx_S} (t1 : Int32) (s : zx_S) (hr : zx_rV zX_sd Z cX2_draw 3 r) (h : zX_Graph_draw_J59 t1 s = some r) : zW zX_sd Z 3 59 [(0, .ref (zz_d Z 11))] [.int t1, .ref (zz_d Z 11)] s := by
  unfold zX_Graph_draw_J59 at h
  refine zr_put C dX2_draw_59 (q := 62) zX_pX2_44_11 rfl rfl rfl ?_
  refine zr_ls h (fun s9 h => ?_)
  refine zr_iconst C dX2_draw_62 (q := 63) (v := (0 : Int32)) (by decide) rfl ?_
  refine zr_istore_n C dX2_draw_63 (q := 64) rfl (by decide) (lv' := [(2, .int (0 : Int32)), (0, .ref (zz_d Z 11))]) rfl rfl ?_
  refine zr_sub [1, 0] rfl (zX_Graph_draw_L64_w C hr (fun s14 h => ?_) 10000 (0 : Int32) s9 h)
  · skip
    refine zr_aload_n C dX2_draw_94 (q := 95) rfl 0 rfl rfl ?_
    refine zr_get C dX2_draw_95 (q := 98) zX_gX2_9_11 rfl ?_
    refine zr_aload_n C dX2_draw_98 (q := 99) rfl 0 rfl rfl ?_
    refine zr_get C dX2_draw_99 (q := 102) zX_gX2_15_11 rfl ?_
    obtain ⟨s15, hc_102, h⟩ := zx_b1_so h
    refine zr_csV (q := 105) C (As := [.ref (zz_d Z 12), .ref (zz_d Z 13)]) (rest := []) dX2_draw_102 (zX_Graph_turnAround_met C.2.2.2.2.1 C.2.2.2.1 hc_102) zX_sX2_61 ⟨by decide, by decide⟩ rfl (Nat.le_of_ble_eq_true rfl) rfl rfl ?_
    refine zr_iconst C dX2_draw_105 (q := 106) (v := (0 : Int32)) (by decide) rfl ?_
    refine zr_istore_n C dX2_draw_106 (q := 107) rfl (by decide) (lv' := [(2, .int (0 : Int32)), (0, .ref (zz_d Z 11))]) rfl rfl ?_
    refine zr_sub [1, 0] rfl (zX_Graph_draw_L107_w C hr (fun s20 h => ?_) 10000 (0 : Int32) s15 h)
    · skip
      refine zr_aload_n C dX2_draw_148 (q := 149) rfl 0 rfl rfl ?_
      refine zr_get C dX2_draw_149 (q := 152) zX_gX2_18_11 rfl ?_
      refine zr_aload_n C dX2_draw_152 (q := 153) rfl 0 rfl rfl ?_
      refine zr_get C dX2_draw_153 (q := 156) zX_gX2_21_11 rfl ?_
      obtain ⟨s21, hc_156, h⟩ := zx_b1_so h
      refine zr_csV (q := 159) C (As := [.ref (zz_d Z 14), .ref (zz_d Z 15)]) (rest := []) dX2_draw_156 (zX_Graph_turnAround_2_met C.2.2.2.2.1 C.2.2.2.1 hc_156) zX_sX2_61 ⟨by decide, by decide⟩ rfl (Nat.le_of_ble_eq_true rfl) rfl rfl ?_
      refine zr_iconst C dX2_draw_159 (q := 160) (v := (0 : Int32)) (by decide) rfl ?_
      refine zr_istore_n C dX2_draw_160 (q := 161) rfl (by decide) (lv' := [(2, .int (0 : Int32)), (0, .ref (zz_d Z 11))]) rfl rfl ?_
      refine zr_sub [1, 0] rfl (zX_Graph_draw_L161_w C hr (fun s27 h => ?_) 10000 (0 : Int32) s21 h)
      · skip
        exact zr_retV dX2_draw_195 h hr
set_option maxRecDepth 100000 in
set_option maxHeartbeats 4000000 in
theorem zX_Graph_draw_w {Z : zx_Z} (C : zx_ok zX_sd Z cX2_draw 3 RX2 4 84) {r : zx_S} (s : zx_S) (hr : zx_rV zX_sd Z cX2_draw 3 r) (h : zX_Graph_draw s = some r) : zW zX_sd Z 3 0 [(0, .ref (zz_d Z 11)), (1, .ref (zz_d Z 1))] [] s := by
  unfold zX_Graph_draw at h
  refine zr_iconst C dX2_draw_0 (q := 1) (v := (0 : Int32)) (by decide) rfl ?_
  refine zr_istore_n C dX2_draw_1 (q := 2) rfl (by decide) (lv' := [(2, .int (0 : Int32)), (0, .ref (zz_d Z 11)), (1, .ref (zz_d Z 1))]) rfl rfl ?_
  refine zr_sub [1, 2, 0] rfl (zX_Graph_draw_L2_w C hr (fun s7 h => ?_) 10000 (0 : Int32) s h)
  · skip
    refine zr_aload_n C dX2_draw_37 (q := 38) rfl 0 rfl rfl ?_
    refine zr_aload_n C dX2_draw_38 (q := 39) rfl 1 rfl rfl ?_
    refine zr_iconst C dX2_draw_39 (q := 40) (v := (0 : Int32)) (by decide) rfl ?_
    obtain ⟨r8, hc_40, h⟩ := zx_b1_so h
    refine zr_cvI (q := 43) C (As := [.int (0 : Int32)]) (k := 1) (rest := [.ref (zz_d Z 11)]) dX2_draw_40 (zX_Program_has_met C.2.2.2.2.1 C.2.2.2.1 hc_40) zX_vX2_48 zX_o1 ⟨by decide, by decide⟩ rfl (Nat.le_of_ble_eq_true rfl) rfl rfl ?_
    refine zr_if_eq (tgt := 58) (q := 46) C dX2_draw_43 h (by decide) rfl (fun h => ?_) (fun h => ?_)
    · skip
      refine zr_iconst C dX2_draw_58 (q := 59) (v := (0 : Int32)) (by decide) rfl ?_
      exact zr_sub [0] rfl (zX_Graph_draw_J59_w C (0 : Int32) s7 hr h)
    · skip
      refine zr_iconst C dX2_draw_46 (q := 47) (v := (1 : Int32)) (by decide) rfl ?_
      refine zr_aload_n C dX2_draw_47 (q := 48) rfl 0 rfl rfl ?_
      refine zr_get C dX2_draw_48 (q := 51) zX_gX2_9_11 rfl ?_
      refine zr_iconst C dX2_draw_51 (q := 52) (v := (0 : Int32)) (by decide) rfl ?_
      obtain ⟨r28, hc_52, h⟩ := zx_b1_so h
      refine zr_csI (q := 55) C (As := [.int (1 : Int32), .ref (zz_d Z 12), .int (0 : Int32)]) (rest := [.ref (zz_d Z 11)]) dX2_draw_52 (zX_Graph_closure_met C.2.2.2.2.1 C.2.2.2.1 hc_52) zX_sX2_57 ⟨by decide, by decide⟩ rfl (Nat.le_of_ble_eq_true rfl) rfl rfl ?_
      refine zr_goto (q := 59) C dX2_draw_55 (by decide) ?_
      exact zr_sub [0] rfl (zX_Graph_draw_J59_w C r28 s7 hr h)
theorem zX_Graph_draw_met {l : Launch} {D : va_G} {cz : ClassId × ClassId} {ad : Nat → Nat} (hS : zx_So zX_sd) (hi : zx_I zX_sd ad) {s : zx_S} {s1 : zx_S} (h : zX_Graph_draw s = some s1) : zx_MV zX_sd l D cz ad yX2_draw cX2_draw 3 4 84 [.ref (ad 11), .ref (ad 1)] s s1 := zx_metV hS hi (by decide +kernel) rfl (Nat.le_of_ble_eq_true rfl) (fun Z e1 e2 e3 e4 C hr => by subst e1 e2 e3 e4; exact zX_Graph_draw_w C s hr h)
set_option maxRecDepth 100000 in
set_option maxHeartbeats 4000000 in
theorem zX_Values_givingBlocks_L18_w {Z : zx_Z} (C : zx_ok zX_sd Z cX9_givingBlocks 5 RX9 0 0) {r : Int32} (v1 v3 : Int32) (s : zx_S) {k54 : Int32 → Option Int32} (hr : zx_rI zX_sd Z cX9_givingBlocks 5 .int r s) (h54 : ∀ (a0 : Int32), k54 a0 = some r → zW zX_sd Z 5 54 [(0, .ref (zz_d Z 1)), (1, .int v1), (2, .int a0), (3, .int v3)] [] s) : ∀ (n : Nat) (v2 : Int32) (v4 : Int32), zX_Values_givingBlocks_L18 v1 v3 s k54 n v2 v4 = some r → zW zX_sd Z 5 18 [(0, .ref (zz_d Z 1)), (1, .int v1), (2, .int v2), (3, .int v3), (4, .int v4)] [] s := by
  intro n
  induction n with
  | zero => intro v2 v4 h; unfold zX_Values_givingBlocks_L18 at h; cases h
  | succ n ih =>
    intro v2 v4 h
    unfold zX_Values_givingBlocks_L18 at h
    refine zr_iload C dX9_givingBlocks_18 (q := 20) 4 rfl rfl ?_
    refine zr_aload_n C dX9_givingBlocks_20 (q := 21) rfl 0 rfl rfl ?_
    refine zr_get C dX9_givingBlocks_21 (q := 24) zX_gX9_111_1 rfl ?_
    refine zr_iload_n C dX9_givingBlocks_24 (q := 25) rfl 3 rfl rfl ?_
    refine zr_iconst C dX9_givingBlocks_25 (q := 26) (v := (1 : Int32)) (by decide) rfl ?_
    refine zr_iadd C dX9_givingBlocks_26 (q := 27) rfl ?_
    obtain ⟨hin_27, h⟩ := zx_ck_so h
    refine zr_iald C dX9_givingBlocks_27 (q := 28) zX_a2 hin_27 rfl ?_
    refine zr_icmp_ge (tgt := 54) (q := 31) C dX9_givingBlocks_28 h (by decide) rfl (fun h => ?_) (fun h => ?_)
    · skip
      exact zr_sub [0, 1, 2, 3] rfl (h54 v2 h)
    · skip
      refine zr_aload_n C dX9_givingBlocks_31 (q := 32) rfl 0 rfl rfl ?_
      refine zr_get C dX9_givingBlocks_32 (q := 35) zX_gX9_116_1 rfl ?_
      refine zr_iload C dX9_givingBlocks_35 (q := 37) 4 rfl rfl ?_
      obtain ⟨hin_37, h⟩ := zx_ck_so h
      refine zr_iald C dX9_givingBlocks_37 (q := 38) zX_a4 hin_37 rfl ?_
      refine zr_iload_n C dX9_givingBlocks_38 (q := 39) rfl 1 rfl rfl ?_
      refine zr_icmp_ne (tgt := 48) (q := 42) C dX9_givingBlocks_39 h (by decide) rfl (fun h => ?_) (fun h => ?_)
      · skip
        refine zr_iinc C dX9_givingBlocks_48 (q := 51) h (by decide) 4 rfl (by decide) (lw := fun v4_4 => [(4, .int v4_4), (0, .ref (zz_d Z 1)), (1, .int v1), (2, .int v2), (3, .int v3)]) (fun _ => rfl) rfl (fun v4_4 h => ?_)
        refine zr_goto (q := 18) C dX9_givingBlocks_51 (by decide) ?_
        exact zr_sub [1, 2, 3, 4, 0] rfl (ih v2 v4_4 h)
      · skip
        refine zr_iload_n C dX9_givingBlocks_42 (q := 43) rfl 2 rfl rfl ?_
        refine zr_iconst C dX9_givingBlocks_43 (q := 44) (v := (1 : Int32)) (by decide) rfl ?_
        refine zr_iload_n C dX9_givingBlocks_44 (q := 45) rfl 3 rfl rfl ?_
        refine zr_ishl C dX9_givingBlocks_45 (q := 46) rfl ?_
        refine zr_ior C dX9_givingBlocks_46 (q := 47) rfl ?_
        refine zr_top h (fun v2_2 h => ?_)
        refine zr_istore_n C dX9_givingBlocks_47 (q := 48) rfl (by decide) (lv' := [(2, .int v2_2), (0, .ref (zz_d Z 1)), (1, .int v1), (3, .int v3), (4, .int v4)]) rfl rfl ?_
        refine zr_iinc C dX9_givingBlocks_48 (q := 51) h (by decide) 4 rfl (by decide) (lw := fun v4_3 => [(4, .int v4_3), (2, .int v2_2), (0, .ref (zz_d Z 1)), (1, .int v1), (3, .int v3)]) (fun _ => rfl) rfl (fun v4_3 h => ?_)
        refine zr_goto (q := 18) C dX9_givingBlocks_51 (by decide) ?_
        exact zr_sub [2, 3, 1, 4, 0] rfl (ih v2_2 v4_3 h)
set_option maxRecDepth 100000 in
set_option maxHeartbeats 4000000 in
theorem zX_Values_givingBlocks_L4_w {Z : zx_Z} (C : zx_ok zX_sd Z cX9_givingBlocks 5 RX9 0 0) {r : Int32} (v1 : Int32) (s : zx_S) {k60 : Int32 → Option Int32} (hr : zx_rI zX_sd Z cX9_givingBlocks 5 .int r s) (h60 : ∀ (a0 : Int32), k60 a0 = some r → zW zX_sd Z 5 60 [(2, .int a0)] [] s) : ∀ (n : Nat) (v2 : Int32) (v3 : Int32), zX_Values_givingBlocks_L4 v1 s k60 n v2 v3 = some r → zW zX_sd Z 5 4 [(0, .ref (zz_d Z 1)), (1, .int v1), (2, .int v2), (3, .int v3)] [] s := by
  intro n
  induction n with
  | zero => intro v2 v3 h; unfold zX_Values_givingBlocks_L4 at h; cases h
  | succ n ih =>
    intro v2 v3 h
    unfold zX_Values_givingBlocks_L4 at h
    refine zr_iload_n C dX9_givingBlocks_4 (q := 5) rfl 3 rfl rfl ?_
    refine zr_bipush C dX9_givingBlocks_5 (q := 7) (v := (16 : Int32)) (by decide) rfl ?_
    refine zr_icmp_ge (tgt := 60) (q := 10) C dX9_givingBlocks_7 h (by decide) rfl (fun h => ?_) (fun h => ?_)
    · skip
      exact zr_sub [2] rfl (h60 v2 h)
    · skip
      refine zr_aload_n C dX9_givingBlocks_10 (q := 11) rfl 0 rfl rfl ?_
      refine zr_get C dX9_givingBlocks_11 (q := 14) zX_gX9_111_1 rfl ?_
      refine zr_iload_n C dX9_givingBlocks_14 (q := 15) rfl 3 rfl rfl ?_
      obtain ⟨hin_15, h⟩ := zx_ck_so h
      refine zr_iald C dX9_givingBlocks_15 (q := 16) zX_a2 hin_15 rfl ?_
      refine zr_top h (fun v4_1 h => ?_)
      refine zr_istore C dX9_givingBlocks_16 (q := 18) (by decide) (lv' := [(4, .int v4_1), (0, .ref (zz_d Z 1)), (1, .int v1), (2, .int v2), (3, .int v3)]) rfl rfl ?_
      refine zr_sub [1, 2, 3, 4, 0] rfl (zX_Values_givingBlocks_L18_w C v1 v3 s hr (fun v2_5 h => ?_) 10000 v2 v4_1 h)
      · skip
        refine zr_iinc C dX9_givingBlocks_54 (q := 57) h (by decide) 3 rfl (by decide) (lw := fun v3_6 => [(3, .int v3_6), (0, .ref (zz_d Z 1)), (1, .int v1), (2, .int v2_5)]) (fun _ => rfl) rfl (fun v3_6 h => ?_)
        refine zr_goto (q := 4) C dX9_givingBlocks_57 (by decide) ?_
        exact zr_sub [1, 2, 3, 0] rfl (ih v2_5 v3_6 h)
set_option maxRecDepth 100000 in
set_option maxHeartbeats 4000000 in
theorem zX_Values_givingBlocks_w {Z : zx_Z} (C : zx_ok zX_sd Z cX9_givingBlocks 5 RX9 0 0) {r : Int32} (p1 : Int32) (s : zx_S) (hr : zx_rI zX_sd Z cX9_givingBlocks 5 .int r s) (h : zX_Values_givingBlocks p1 s = some r) : zW zX_sd Z 5 0 [(0, .ref (zz_d Z 1)), (1, .int p1)] [] s := by
  unfold zX_Values_givingBlocks at h
  refine zr_iconst C dX9_givingBlocks_0 (q := 1) (v := (0 : Int32)) (by decide) rfl ?_
  refine zr_istore_n C dX9_givingBlocks_1 (q := 2) rfl (by decide) (lv' := [(2, .int (0 : Int32)), (0, .ref (zz_d Z 1)), (1, .int p1)]) rfl rfl ?_
  refine zr_iconst C dX9_givingBlocks_2 (q := 3) (v := (0 : Int32)) (by decide) rfl ?_
  refine zr_istore_n C dX9_givingBlocks_3 (q := 4) rfl (by decide) (lv' := [(3, .int (0 : Int32)), (2, .int (0 : Int32)), (0, .ref (zz_d Z 1)), (1, .int p1)]) rfl rfl ?_
  refine zr_sub [2, 3, 1, 0] rfl (zX_Values_givingBlocks_L4_w C p1 s hr (fun v2_7 h => ?_) 10000 (0 : Int32) (0 : Int32) h)
  · skip
    refine zr_iload_n C dX9_givingBlocks_60 (q := 61) rfl 0 rfl rfl ?_
    exact zr_retR dX9_givingBlocks_61 h hr
theorem zX_Values_givingBlocks_met {l : Launch} {D : va_G} {cz : ClassId × ClassId} {ad : Nat → Nat} (hS : zx_So zX_sd) (hi : zx_I zX_sd ad) {p1 : Int32} {s : zx_S} {v : Int32} (h : zX_Values_givingBlocks p1 s = some v) : zx_MI zX_sd l D cz ad yX9_givingBlocks cX9_givingBlocks 5 .int 0 0 [.ref (ad 1), .int p1] s v s := zx_metI hS hi (by decide +kernel) rfl (Nat.le_of_ble_eq_true rfl) (fun Z e1 e2 e3 e4 C hr => by subst e1 e2 e3 e4; exact zX_Values_givingBlocks_w C p1 s hr h)
set_option maxRecDepth 100000 in
set_option maxHeartbeats 4000000 in
theorem zX_Graph_union_2_L4_w {Z : zx_Z} (C : zx_ok zX_sd Z cX2_union 4 RX2 1 21) {r : Int32} (v0 : Int32) (s : zx_S) {k30 : Int32 → Option Int32} (hr : zx_rI zX_sd Z cX2_union 4 .int r s) (h30 : ∀ (a0 : Int32), k30 a0 = some r → zW zX_sd Z 4 30 [(2, .int a0)] [] s) : ∀ (n : Nat) (v2 : Int32) (v3 : Int32), zX_Graph_union_2_L4 v0 s k30 n v2 v3 = some r → zW zX_sd Z 4 4 [(0, .int v0), (1, .ref (zz_d Z 17)), (2, .int v2), (3, .int v3)] [] s := by
  intro n
  induction n with
  | zero => intro v2 v3 h; unfold zX_Graph_union_2_L4 at h; cases h
  | succ n ih =>
    intro v2 v3 h
    unfold zX_Graph_union_2_L4 at h
    refine zr_iload_n C dX2_union_4 (q := 5) rfl 3 rfl rfl ?_
    refine zr_bipush C dX2_union_5 (q := 7) (v := (16 : Int32)) (by decide) rfl ?_
    refine zr_icmp_ge (tgt := 30) (q := 10) C dX2_union_7 h (by decide) rfl (fun h => ?_) (fun h => ?_)
    · skip
      exact zr_sub [2] rfl (h30 v2 h)
    · skip
      refine zr_iload_n C dX2_union_10 (q := 11) rfl 0 rfl rfl ?_
      refine zr_iload_n C dX2_union_11 (q := 12) rfl 3 rfl rfl ?_
      obtain ⟨r1, hc_12, h⟩ := zx_b1_so h
      refine zr_csI (q := 15) C (As := [.int v0, .int v3]) (rest := []) dX2_union_12 (zX_Graph_isIn_met C.2.2.2.2.1 C.2.2.2.1 hc_12) zX_sX2_30 ⟨by decide, by decide⟩ rfl (Nat.le_of_ble_eq_true rfl) rfl rfl ?_
      refine zr_if_eq (tgt := 24) (q := 18) C dX2_union_15 h (by decide) rfl (fun h => ?_) (fun h => ?_)
      · skip
        refine zr_iinc C dX2_union_24 (q := 27) h (by decide) 3 rfl (by decide) (lw := fun v3_4 => [(3, .int v3_4), (0, .int v0), (1, .ref (zz_d Z 17)), (2, .int v2)]) (fun _ => rfl) rfl (fun v3_4 h => ?_)
        refine zr_goto (q := 4) C dX2_union_27 (by decide) ?_
        exact zr_sub [1, 2, 3, 0] rfl (ih v2 v3_4 h)
      · skip
        refine zr_iload_n C dX2_union_18 (q := 19) rfl 2 rfl rfl ?_
        refine zr_aload_n C dX2_union_19 (q := 20) rfl 1 rfl rfl ?_
        refine zr_iload_n C dX2_union_20 (q := 21) rfl 3 rfl rfl ?_
        obtain ⟨hin_21, h⟩ := zx_ck_so h
        refine zr_iald C dX2_union_21 (q := 22) zX_a17 hin_21 rfl ?_
        refine zr_ior C dX2_union_22 (q := 23) rfl ?_
        refine zr_top h (fun v2_2 h => ?_)
        refine zr_istore_n C dX2_union_23 (q := 24) rfl (by decide) (lv' := [(2, .int v2_2), (0, .int v0), (1, .ref (zz_d Z 17)), (3, .int v3)]) rfl rfl ?_
        refine zr_iinc C dX2_union_24 (q := 27) h (by decide) 3 rfl (by decide) (lw := fun v3_3 => [(3, .int v3_3), (2, .int v2_2), (0, .int v0), (1, .ref (zz_d Z 17))]) (fun _ => rfl) rfl (fun v3_3 h => ?_)
        refine zr_goto (q := 4) C dX2_union_27 (by decide) ?_
        exact zr_sub [2, 3, 1, 0] rfl (ih v2_2 v3_3 h)
set_option maxRecDepth 100000 in
set_option maxHeartbeats 4000000 in
theorem zX_Graph_union_2_w {Z : zx_Z} (C : zx_ok zX_sd Z cX2_union 4 RX2 1 21) {r : Int32} (p0 : Int32) (s : zx_S) (hr : zx_rI zX_sd Z cX2_union 4 .int r s) (h : zX_Graph_union_2 p0 s = some r) : zW zX_sd Z 4 0 [(0, .int p0), (1, .ref (zz_d Z 17))] [] s := by
  unfold zX_Graph_union_2 at h
  refine zr_iconst C dX2_union_0 (q := 1) (v := (0 : Int32)) (by decide) rfl ?_
  refine zr_istore_n C dX2_union_1 (q := 2) rfl (by decide) (lv' := [(2, .int (0 : Int32)), (0, .int p0), (1, .ref (zz_d Z 17))]) rfl rfl ?_
  refine zr_iconst C dX2_union_2 (q := 3) (v := (0 : Int32)) (by decide) rfl ?_
  refine zr_istore_n C dX2_union_3 (q := 4) rfl (by decide) (lv' := [(3, .int (0 : Int32)), (2, .int (0 : Int32)), (0, .int p0), (1, .ref (zz_d Z 17))]) rfl rfl ?_
  refine zr_sub [2, 3, 1, 0] rfl (zX_Graph_union_2_L4_w C p0 s hr (fun v2_5 h => ?_) 10000 (0 : Int32) (0 : Int32) h)
  · skip
    refine zr_iload_n C dX2_union_30 (q := 31) rfl 0 rfl rfl ?_
    exact zr_retR dX2_union_31 h hr
theorem zX_Graph_union_2_met {l : Launch} {D : va_G} {cz : ClassId × ClassId} {ad : Nat → Nat} (hS : zx_So zX_sd) (hi : zx_I zX_sd ad) {p0 : Int32} {s : zx_S} {v : Int32} (h : zX_Graph_union_2 p0 s = some v) : zx_MI zX_sd l D cz ad yX2_union cX2_union 4 .int 1 21 [.int p0, .ref (ad 17)] s v s := zx_metI hS hi (by decide +kernel) rfl (Nat.le_of_ble_eq_true rfl) (fun Z e1 e2 e3 e4 C hr => by subst e1 e2 e3 e4; exact zX_Graph_union_2_w C p0 s hr h)
set_option maxRecDepth 100000 in
set_option maxHeartbeats 4000000 in
theorem zX_Graph_closure_2_L12_w {Z : zx_Z} (C : zx_ok zX_sd Z cX2_closure 6 RX2 2 44) {r : Int32} (v2 : Int32) (s : zx_S) {k46 : Int32 → Option Int32} (hr : zx_rI zX_sd Z cX2_closure 6 .int r s) (h46 : ∀ (a0 : Int32), k46 a0 = some r → zW zX_sd Z 6 46 [(3, .int a0)] [] s) : ∀ (n : Nat) (v3 : Int32) (v4 : Int32) (v5 : Int32), zX_Graph_closure_2_L12 v2 s k46 n v3 v4 v5 = some r → zW zX_sd Z 6 12 [(1, .ref (zz_d Z 17)), (2, .int v2), (3, .int v3), (4, .int v4), (5, .int v5)] [] s := by
  intro n
  induction n with
  | zero => intro v3 v4 v5 h; unfold zX_Graph_closure_2_L12 at h; cases h
  | succ n ih =>
    intro v3 v4 v5 h
    unfold zX_Graph_closure_2_L12 at h
    refine zr_iload C dX2_closure_12 (q := 14) 4 rfl rfl ?_
    refine zr_bipush C dX2_closure_14 (q := 16) (v := (16 : Int32)) (by decide) rfl ?_
    refine zr_icmp_ge (tgt := 46) (q := 19) C dX2_closure_16 h (by decide) rfl (fun h => ?_) (fun h => ?_)
    · skip
      exact zr_sub [2] rfl (h46 v3 h)
    · skip
      refine zr_iload_n C dX2_closure_19 (q := 20) rfl 2 rfl rfl ?_
      refine zr_iload C dX2_closure_20 (q := 22) 3 rfl rfl ?_
      refine zr_icmp_eq (tgt := 46) (q := 25) C dX2_closure_22 h (by decide) rfl (fun h => ?_) (fun h => ?_)
      · skip
        exact zr_sub [2] rfl (h46 v3 h)
      · skip
        refine zr_iload_n C dX2_closure_25 (q := 26) rfl 2 rfl rfl ?_
        refine zr_istore C dX2_closure_26 (q := 28) (by decide) (lv' := [(4, .int v3), (1, .ref (zz_d Z 17)), (2, .int v2), (3, .int v3), (5, .int v5)]) rfl rfl ?_
        refine zr_iload_n C dX2_closure_28 (q := 29) rfl 3 rfl rfl ?_
        refine zr_iload_n C dX2_closure_29 (q := 30) rfl 3 rfl rfl ?_
        refine zr_aload_n C dX2_closure_30 (q := 31) rfl 1 rfl rfl ?_
        obtain ⟨r2, hc_31, h⟩ := zx_b1_so h
        refine zr_csI (q := 34) C (As := [.int v3, .ref (zz_d Z 17)]) (rest := [.int v3]) dX2_closure_31 (zX_Graph_union_2_met C.2.2.2.2.1 C.2.2.2.1 hc_31) zX_sX2_40 ⟨by decide, by decide⟩ rfl (Nat.le_of_ble_eq_true rfl) rfl rfl ?_
        refine zr_iload_n C dX2_closure_34 (q := 35) rfl 2 rfl rfl ?_
        refine zr_iconst C dX2_closure_35 (q := 36) (v := (-1 : Int32)) (by decide) rfl ?_
        refine zr_ixor C dX2_closure_36 (q := 37) rfl ?_
        refine zr_iand C dX2_closure_37 (q := 38) rfl ?_
        refine zr_ior C dX2_closure_38 (q := 39) rfl ?_
        refine zr_top h (fun v3_3 h => ?_)
        refine zr_istore_n C dX2_closure_39 (q := 40) rfl (by decide) (lv' := [(3, .int v3_3), (4, .int v3), (1, .ref (zz_d Z 17)), (2, .int v2), (5, .int v5)]) rfl rfl ?_
        refine zr_iinc C dX2_closure_40 (q := 43) h (by decide) 4 rfl (by decide) (lw := fun v5_4 => [(5, .int v5_4), (3, .int v3_3), (4, .int v3), (1, .ref (zz_d Z 17)), (2, .int v2)]) (fun _ => rfl) rfl (fun v5_4 h => ?_)
        refine zr_goto (q := 12) C dX2_closure_43 (by decide) ?_
        exact zr_sub [3, 4, 1, 2, 0] rfl (ih v3_3 v3 v5_4 h)
set_option maxRecDepth 100000 in
set_option maxHeartbeats 4000000 in
theorem zX_Graph_closure_2_w {Z : zx_Z} (C : zx_ok zX_sd Z cX2_closure 6 RX2 2 44) {r : Int32} (p0 p2 : Int32) (s : zx_S) (hr : zx_rI zX_sd Z cX2_closure 6 .int r s) (h : zX_Graph_closure_2 p0 p2 s = some r) : zW zX_sd Z 6 0 [(0, .int p0), (1, .ref (zz_d Z 17)), (2, .int p2)] [] s := by
  unfold zX_Graph_closure_2 at h
  refine zr_iload_n C dX2_closure_0 (q := 1) rfl 0 rfl rfl ?_
  refine zr_iload_n C dX2_closure_1 (q := 2) rfl 2 rfl rfl ?_
  refine zr_iconst C dX2_closure_2 (q := 3) (v := (-1 : Int32)) (by decide) rfl ?_
  refine zr_ixor C dX2_closure_3 (q := 4) rfl ?_
  refine zr_iand C dX2_closure_4 (q := 5) rfl ?_
  refine zr_top h (fun v3_1 h => ?_)
  refine zr_istore_n C dX2_closure_5 (q := 6) rfl (by decide) (lv' := [(3, .int v3_1), (0, .int p0), (1, .ref (zz_d Z 17)), (2, .int p2)]) rfl rfl ?_
  refine zr_iconst C dX2_closure_6 (q := 7) (v := (0 : Int32)) (by decide) rfl ?_
  refine zr_istore C dX2_closure_7 (q := 9) (by decide) (lv' := [(4, .int (0 : Int32)), (3, .int v3_1), (0, .int p0), (1, .ref (zz_d Z 17)), (2, .int p2)]) rfl rfl ?_
  refine zr_iconst C dX2_closure_9 (q := 10) (v := (0 : Int32)) (by decide) rfl ?_
  refine zr_istore C dX2_closure_10 (q := 12) (by decide) (lv' := [(5, .int (0 : Int32)), (4, .int (0 : Int32)), (3, .int v3_1), (0, .int p0), (1, .ref (zz_d Z 17)), (2, .int p2)]) rfl rfl ?_
  refine zr_sub [4, 5, 2, 1, 0] rfl (zX_Graph_closure_2_L12_w C p2 s hr (fun v3_5 h => ?_) 10000 v3_1 (0 : Int32) (0 : Int32) h)
  · skip
    refine zr_iload_n C dX2_closure_46 (q := 47) rfl 0 rfl rfl ?_
    exact zr_retR dX2_closure_47 h hr
theorem zX_Graph_closure_2_met {l : Launch} {D : va_G} {cz : ClassId × ClassId} {ad : Nat → Nat} (hS : zx_So zX_sd) (hi : zx_I zX_sd ad) {p0 p2 : Int32} {s : zx_S} {v : Int32} (h : zX_Graph_closure_2 p0 p2 s = some v) : zx_MI zX_sd l D cz ad yX2_closure cX2_closure 6 .int 2 44 [.int p0, .ref (ad 17), .int p2] s v s := zx_metI hS hi (by decide +kernel) rfl (Nat.le_of_ble_eq_true rfl) (fun Z e1 e2 e3 e4 C hr => by subst e1 e2 e3 e4; exact zX_Graph_closure_2_w C p0 p2 s hr h)
set_option maxRecDepth 100000 in
set_option maxHeartbeats 4000000 in
theorem zX_Values_placeChoices_L2_w {Z : zx_Z} (C : zx_ok zX_sd Z cX9_placeChoices 6 RX9 3 69) {r : zx_S} {k55 : zx_S → Option zx_S} (hr : zx_rV zX_sd Z cX9_placeChoices 6 r) (h55 : ∀ (s1 : zx_S), k55 s1 = some r → zW zX_sd Z 6 55 [] [] s1) : ∀ (n : Nat) (v3 : Int32) (s : zx_S), zX_Values_placeChoices_L2 k55 n v3 s = some r → zW zX_sd Z 6 2 [(0, .ref (zz_d Z 18)), (1, .ref (zz_d Z 1)), (2, .ref (zz_d Z 11)), (3, .int v3)] [] s := by
  intro n
  induction n with
  | zero => intro v3 s h; unfold zX_Values_placeChoices_L2 at h; cases h
  | succ n ih =>
    intro v3 s h
    unfold zX_Values_placeChoices_L2 at h
    refine zr_iload_n C dX9_placeChoices_2 (q := 3) rfl 3 rfl rfl ?_
    refine zr_bipush C dX9_placeChoices_3 (q := 5) (v := (10 : Int32)) (by decide) rfl ?_
    refine zr_icmp_ge (tgt := 55) (q := 8) C dX9_placeChoices_5 h (by decide) rfl (fun h => ?_) (fun h => ?_)
    · skip
      exact zr_sub [] rfl (h55 s h)
    · skip
      refine zr_iconst C dX9_placeChoices_8 (q := 9) (v := (1 : Int32)) (by decide) rfl ?_
      refine zr_aload_n C dX9_placeChoices_9 (q := 10) rfl 1 rfl rfl ?_
      refine zr_iload_n C dX9_placeChoices_10 (q := 11) rfl 3 rfl rfl ?_
      obtain ⟨r1, hc_11, h⟩ := zx_b1_so h
      refine zr_csI (q := 14) C (As := [.ref (zz_d Z 1), .int v3]) (rest := [.int (1 : Int32)]) dX9_placeChoices_11 (zX_Values_givingBlocks_met C.2.2.2.2.1 C.2.2.2.1 hc_11) zX_sX9_93 ⟨by decide, by decide⟩ rfl (Nat.le_of_ble_eq_true rfl) rfl rfl ?_
      refine zr_aload_n C dX9_placeChoices_14 (q := 15) rfl 2 rfl rfl ?_
      refine zr_get C dX9_placeChoices_15 (q := 18) zX_gX9_97_11 rfl ?_
      refine zr_iand C dX9_placeChoices_18 (q := 19) rfl ?_
      refine zr_ior C dX9_placeChoices_19 (q := 20) rfl ?_
      refine zr_top h (fun v4_2 h => ?_)
      refine zr_istore C dX9_placeChoices_20 (q := 22) (by decide) (lv' := [(4, .int v4_2), (0, .ref (zz_d Z 18)), (1, .ref (zz_d Z 1)), (2, .ref (zz_d Z 11)), (3, .int v3)]) rfl rfl ?_
      refine zr_iload C dX9_placeChoices_22 (q := 24) 0 rfl rfl ?_
      refine zr_aload_n C dX9_placeChoices_24 (q := 25) rfl 3 rfl rfl ?_
      refine zr_get C dX9_placeChoices_25 (q := 28) zX_gX9_100_11 rfl ?_
      refine zr_iconst C dX9_placeChoices_28 (q := 29) (v := (0 : Int32)) (by decide) rfl ?_
      obtain ⟨r3, hc_29, h⟩ := zx_b1_so h
      refine zr_csI (q := 32) C (As := [.int v4_2, .ref (zz_d Z 17), .int (0 : Int32)]) (rest := []) dX9_placeChoices_29 (zX_Graph_closure_2_met C.2.2.2.2.1 C.2.2.2.1 hc_29) zX_sX9_103 ⟨by decide, by decide⟩ rfl (Nat.le_of_ble_eq_true rfl) rfl rfl ?_
      refine zr_istore C dX9_placeChoices_32 (q := 34) (by decide) (lv' := [(5, .int r3), (4, .int v4_2), (0, .ref (zz_d Z 18)), (1, .ref (zz_d Z 1)), (2, .ref (zz_d Z 11)), (3, .int v3)]) rfl rfl ?_
      refine zr_aload_n C dX9_placeChoices_34 (q := 35) rfl 2 rfl rfl ?_
      refine zr_get C dX9_placeChoices_35 (q := 38) zX_gX9_43_18 rfl ?_
      refine zr_iload_n C dX9_placeChoices_38 (q := 39) rfl 5 rfl rfl ?_
      refine zr_iload C dX9_placeChoices_39 (q := 41) 0 rfl rfl ?_
      refine zr_aload_n C dX9_placeChoices_41 (q := 42) rfl 4 rfl rfl ?_
      refine zr_get C dX9_placeChoices_42 (q := 45) zX_gX9_100_11 rfl ?_
      obtain ⟨r4, hc_45, h⟩ := zx_b1_so h
      refine zr_csI (q := 48) C (As := [.int r3, .ref (zz_d Z 17)]) (rest := [.int v3, .ref (zz_d Z 31)]) dX9_placeChoices_45 (zX_Graph_union_2_met C.2.2.2.2.1 C.2.2.2.1 hc_45) zX_sX9_107 ⟨by decide, by decide⟩ rfl (Nat.le_of_ble_eq_true rfl) rfl rfl ?_
      obtain ⟨hin_48, h⟩ := zx_ck_so h
      refine zr_iast C dX9_placeChoices_48 (q := 49) zX_a31 hin_48 rfl ?_
      refine zr_ls h (fun s5 h => ?_)
      refine zr_iinc C dX9_placeChoices_49 (q := 52) h (by decide) 5 rfl (by decide) (lw := fun v3_6 => [(3, .int v3_6), (5, .int r3), (4, .int v4_2), (0, .ref (zz_d Z 18)), (1, .ref (zz_d Z 1)), (2, .ref (zz_d Z 11))]) (fun _ => rfl) rfl (fun v3_6 h => ?_)
      refine zr_goto (q := 2) C dX9_placeChoices_52 (by decide) ?_
      exact zr_sub [3, 4, 5, 0] rfl (ih v3_6 s5 h)
set_option maxRecDepth 100000 in
set_option maxHeartbeats 4000000 in
theorem zX_Values_placeChoices_w {Z : zx_Z} (C : zx_ok zX_sd Z cX9_placeChoices 6 RX9 3 69) {r : zx_S} (s : zx_S) (hr : zx_rV zX_sd Z cX9_placeChoices 6 r) (h : zX_Values_placeChoices s = some r) : zW zX_sd Z 6 0 [(0, .ref (zz_d Z 18)), (1, .ref (zz_d Z 1)), (2, .ref (zz_d Z 11))] [] s := by
  unfold zX_Values_placeChoices at h
  refine zr_iconst C dX9_placeChoices_0 (q := 1) (v := (0 : Int32)) (by decide) rfl ?_
  refine zr_istore_n C dX9_placeChoices_1 (q := 2) rfl (by decide) (lv' := [(3, .int (0 : Int32)), (0, .ref (zz_d Z 18)), (1, .ref (zz_d Z 1)), (2, .ref (zz_d Z 11))]) rfl rfl ?_
  refine zr_sub [1, 2, 3, 0] rfl (zX_Values_placeChoices_L2_w C hr (fun s7 h => ?_) 10000 (0 : Int32) s h)
  · skip
    exact zr_retV dX9_placeChoices_55 h hr
theorem zX_Values_placeChoices_met {l : Launch} {D : va_G} {cz : ClassId × ClassId} {ad : Nat → Nat} (hS : zx_So zX_sd) (hi : zx_I zX_sd ad) {s : zx_S} {s1 : zx_S} (h : zX_Values_placeChoices s = some s1) : zx_MV zX_sd l D cz ad yX9_placeChoices cX9_placeChoices 6 3 69 [.ref (ad 18), .ref (ad 1), .ref (ad 11)] s s1 := zx_metV hS hi (by decide +kernel) rfl (Nat.le_of_ble_eq_true rfl) (fun Z e1 e2 e3 e4 C hr => by subst e1 e2 e3 e4; exact zX_Values_placeChoices_w C s hr h)
set_option maxRecDepth 100000 in
set_option maxHeartbeats 4000000 in
theorem zX_Arrays_fill_4_L5_w {Z : zx_Z} (C : zx_ok zX_sd Z cJ7_fill_53178 4 RJ7 0 0) {r : zx_S} (v1 v3 : Int32) {k20 : zx_S → Option zx_S} (hr : zx_rV zX_sd Z cJ7_fill_53178 4 r) (h20 : ∀ (s1 : zx_S), k20 s1 = some r → zW zX_sd Z 4 20 [] [] s1) : ∀ (n : Nat) (v2 : Int32) (s : zx_S), zX_Arrays_fill_4_L5 v1 v3 k20 n v2 s = some r → zW zX_sd Z 4 5 [(0, .ref (zz_d Z 30)), (1, .int v1), (2, .int v2), (3, .int v3)] [] s := by
  intro n
  induction n with
  | zero => intro v2 s h; unfold zX_Arrays_fill_4_L5 at h; cases h
  | succ n ih =>
    intro v2 s h
    unfold zX_Arrays_fill_4_L5 at h
    refine zr_iload_n C dJ7_fill_53178_5 (q := 6) rfl 2 rfl rfl ?_
    refine zr_iload_n C dJ7_fill_53178_6 (q := 7) rfl 3 rfl rfl ?_
    refine zr_icmp_ge (tgt := 20) (q := 10) C dJ7_fill_53178_7 h (by decide) rfl (fun h => ?_) (fun h => ?_)
    · skip
      exact zr_sub [] rfl (h20 s h)
    · skip
      refine zr_aload_n C dJ7_fill_53178_10 (q := 11) rfl 0 rfl rfl ?_
      refine zr_iload_n C dJ7_fill_53178_11 (q := 12) rfl 2 rfl rfl ?_
      refine zr_iload_n C dJ7_fill_53178_12 (q := 13) rfl 1 rfl rfl ?_
      obtain ⟨hin_13, h⟩ := zx_ck_so h
      refine zr_iast C dJ7_fill_53178_13 (q := 14) zX_a30 hin_13 rfl ?_
      refine zr_ls h (fun s1 h => ?_)
      refine zr_iinc C dJ7_fill_53178_14 (q := 17) h (by decide) 2 rfl (by decide) (lw := fun v2_2 => [(2, .int v2_2), (0, .ref (zz_d Z 30)), (1, .int v1), (3, .int v3)]) (fun _ => rfl) rfl (fun v2_2 h => ?_)
      refine zr_goto (q := 5) C dJ7_fill_53178_17 (by decide) ?_
      exact zr_sub [1, 2, 0, 3] rfl (ih v2_2 s1 h)
set_option maxRecDepth 100000 in
set_option maxHeartbeats 4000000 in
theorem zX_Arrays_fill_4_w {Z : zx_Z} (C : zx_ok zX_sd Z cJ7_fill_53178 4 RJ7 0 0) {r : zx_S} (p1 : Int32) (s : zx_S) (hr : zx_rV zX_sd Z cJ7_fill_53178 4 r) (h : zX_Arrays_fill_4 p1 s = some r) : zW zX_sd Z 4 0 [(0, .ref (zz_d Z 30)), (1, .int p1)] [] s := by
  unfold zX_Arrays_fill_4 at h
  refine zr_iconst C dJ7_fill_53178_0 (q := 1) (v := (0 : Int32)) (by decide) rfl ?_
  refine zr_istore_n C dJ7_fill_53178_1 (q := 2) rfl (by decide) (lv' := [(2, .int (0 : Int32)), (0, .ref (zz_d Z 30)), (1, .int p1)]) rfl rfl ?_
  refine zr_aload_n C dJ7_fill_53178_2 (q := 3) rfl 1 rfl rfl ?_
  refine zr_alen C dJ7_fill_53178_3 (q := 4) (x := (16 : Int32)) zX_a30 (by decide) rfl ?_
  refine zr_istore_n C dJ7_fill_53178_4 (q := 5) rfl (by decide) (lv' := [(3, .int (16 : Int32)), (2, .int (0 : Int32)), (0, .ref (zz_d Z 30)), (1, .int p1)]) rfl rfl ?_
  refine zr_sub [2, 3, 1, 0] rfl (zX_Arrays_fill_4_L5_w C p1 (16 : Int32) hr (fun s3 h => ?_) 10000 (0 : Int32) s h)
  · skip
    exact zr_retV dJ7_fill_53178_20 h hr
theorem zX_Arrays_fill_4_met {l : Launch} {D : va_G} {cz : ClassId × ClassId} {ad : Nat → Nat} (hS : zx_So zX_sd) (hi : zx_I zX_sd ad) {p1 : Int32} {s : zx_S} {s1 : zx_S} (h : zX_Arrays_fill_4 p1 s = some s1) : zx_MV zX_sd l D cz ad yJ7_fill_53178 cJ7_fill_53178 4 0 0 [.ref (ad 30), .int p1] s s1 := zx_metV hS hi (by decide +kernel) rfl (Nat.le_of_ble_eq_true rfl) (fun Z e1 e2 e3 e4 C hr => by subst e1 e2 e3 e4; exact zX_Arrays_fill_4_w C p1 s hr h)
set_option maxRecDepth 100000 in
set_option maxHeartbeats 4000000 in
theorem zX_Arrays_fill_5_L5_w {Z : zx_Z} (C : zx_ok zX_sd Z cJ7_fill_53178 4 RJ7 0 0) {r : zx_S} (v1 v3 : Int32) {k20 : zx_S → Option zx_S} (hr : zx_rV zX_sd Z cJ7_fill_53178 4 r) (h20 : ∀ (s1 : zx_S), k20 s1 = some r → zW zX_sd Z 4 20 [] [] s1) : ∀ (n : Nat) (v2 : Int32) (s : zx_S), zX_Arrays_fill_5_L5 v1 v3 k20 n v2 s = some r → zW zX_sd Z 4 5 [(0, .ref (zz_d Z 28)), (1, .int v1), (2, .int v2), (3, .int v3)] [] s := by
  intro n
  induction n with
  | zero => intro v2 s h; unfold zX_Arrays_fill_5_L5 at h; cases h
  | succ n ih =>
    intro v2 s h
    unfold zX_Arrays_fill_5_L5 at h
    refine zr_iload_n C dJ7_fill_53178_5 (q := 6) rfl 2 rfl rfl ?_
    refine zr_iload_n C dJ7_fill_53178_6 (q := 7) rfl 3 rfl rfl ?_
    refine zr_icmp_ge (tgt := 20) (q := 10) C dJ7_fill_53178_7 h (by decide) rfl (fun h => ?_) (fun h => ?_)
    · skip
      exact zr_sub [] rfl (h20 s h)
    · skip
      refine zr_aload_n C dJ7_fill_53178_10 (q := 11) rfl 0 rfl rfl ?_
      refine zr_iload_n C dJ7_fill_53178_11 (q := 12) rfl 2 rfl rfl ?_
      refine zr_iload_n C dJ7_fill_53178_12 (q := 13) rfl 1 rfl rfl ?_
      obtain ⟨hin_13, h⟩ := zx_ck_so h
      refine zr_iast C dJ7_fill_53178_13 (q := 14) zX_a28 hin_13 rfl ?_
      refine zr_ls h (fun s1 h => ?_)
      refine zr_iinc C dJ7_fill_53178_14 (q := 17) h (by decide) 2 rfl (by decide) (lw := fun v2_2 => [(2, .int v2_2), (0, .ref (zz_d Z 28)), (1, .int v1), (3, .int v3)]) (fun _ => rfl) rfl (fun v2_2 h => ?_)
      refine zr_goto (q := 5) C dJ7_fill_53178_17 (by decide) ?_
      exact zr_sub [1, 2, 0, 3] rfl (ih v2_2 s1 h)
set_option maxRecDepth 100000 in
set_option maxHeartbeats 4000000 in
theorem zX_Arrays_fill_5_w {Z : zx_Z} (C : zx_ok zX_sd Z cJ7_fill_53178 4 RJ7 0 0) {r : zx_S} (p1 : Int32) (s : zx_S) (hr : zx_rV zX_sd Z cJ7_fill_53178 4 r) (h : zX_Arrays_fill_5 p1 s = some r) : zW zX_sd Z 4 0 [(0, .ref (zz_d Z 28)), (1, .int p1)] [] s := by
  unfold zX_Arrays_fill_5 at h
  refine zr_iconst C dJ7_fill_53178_0 (q := 1) (v := (0 : Int32)) (by decide) rfl ?_
  refine zr_istore_n C dJ7_fill_53178_1 (q := 2) rfl (by decide) (lv' := [(2, .int (0 : Int32)), (0, .ref (zz_d Z 28)), (1, .int p1)]) rfl rfl ?_
  refine zr_aload_n C dJ7_fill_53178_2 (q := 3) rfl 1 rfl rfl ?_
  refine zr_alen C dJ7_fill_53178_3 (q := 4) (x := (100 : Int32)) zX_a28 (by decide) rfl ?_
  refine zr_istore_n C dJ7_fill_53178_4 (q := 5) rfl (by decide) (lv' := [(3, .int (100 : Int32)), (2, .int (0 : Int32)), (0, .ref (zz_d Z 28)), (1, .int p1)]) rfl rfl ?_
  refine zr_sub [2, 3, 1, 0] rfl (zX_Arrays_fill_5_L5_w C p1 (100 : Int32) hr (fun s3 h => ?_) 10000 (0 : Int32) s h)
  · skip
    exact zr_retV dJ7_fill_53178_20 h hr
theorem zX_Arrays_fill_5_met {l : Launch} {D : va_G} {cz : ClassId × ClassId} {ad : Nat → Nat} (hS : zx_So zX_sd) (hi : zx_I zX_sd ad) {p1 : Int32} {s : zx_S} {s1 : zx_S} (h : zX_Arrays_fill_5 p1 s = some s1) : zx_MV zX_sd l D cz ad yJ7_fill_53178 cJ7_fill_53178 4 0 0 [.ref (ad 28), .int p1] s s1 := zx_metV hS hi (by decide +kernel) rfl (Nat.le_of_ble_eq_true rfl) (fun Z e1 e2 e3 e4 C hr => by subst e1 e2 e3 e4; exact zX_Arrays_fill_5_w C p1 s hr h)
set_option maxRecDepth 100000 in
set_option maxHeartbeats 4000000 in
theorem zX_Graph_reaches_w {Z : zx_Z} (C : zx_ok zX_sd Z cX2_reaches 2 RX2 1 21) {r : Int32} (p1 : Int32) (s : zx_S) (hr : zx_rI zX_sd Z cX2_reaches 2 .boolean r s) (h : zX_Graph_reaches p1 s = some r) : zW zX_sd Z 2 0 [(0, .ref (zz_d Z 11)), (1, .int p1)] [] s := by
  unfold zX_Graph_reaches at h
  refine zr_iload_n C dX2_reaches_0 (q := 1) rfl 1 rfl rfl ?_
  refine zr_if_lt (tgt := 25) (q := 4) C dX2_reaches_1 h (by decide) rfl (fun h => ?_) (fun h => ?_)
  · skip
    refine zr_iconst C dX2_reaches_25 (q := 26) (v := (0 : Int32)) (by decide) rfl ?_
    exact zr_retZR dX2_reaches_26 (Or.inl rfl) h hr
  · skip
    refine zr_iload_n C dX2_reaches_4 (q := 5) rfl 1 rfl rfl ?_
    refine zr_bipush C dX2_reaches_5 (q := 7) (v := (16 : Int32)) (by decide) rfl ?_
    refine zr_icmp_ge (tgt := 25) (q := 10) C dX2_reaches_7 h (by decide) rfl (fun h => ?_) (fun h => ?_)
    · skip
      refine zr_iconst C dX2_reaches_25 (q := 26) (v := (0 : Int32)) (by decide) rfl ?_
      exact zr_retZR dX2_reaches_26 (Or.inl rfl) h hr
    · skip
      refine zr_aload_n C dX2_reaches_10 (q := 11) rfl 0 rfl rfl ?_
      refine zr_get C dX2_reaches_11 (q := 14) zX_gX2_44_11 rfl ?_
      refine zr_iload_n C dX2_reaches_14 (q := 15) rfl 1 rfl rfl ?_
      obtain ⟨r1, hc_15, h⟩ := zx_b1_so h
      refine zr_csI (q := 18) C (As := [.int (s 11 6), .int p1]) (rest := []) dX2_reaches_15 (zX_Graph_isIn_met C.2.2.2.2.1 C.2.2.2.1 hc_15) zX_sX2_30 ⟨by decide, by decide⟩ rfl (Nat.le_of_ble_eq_true rfl) rfl rfl ?_
      refine zr_if_eq (tgt := 25) (q := 21) C dX2_reaches_18 h (by decide) rfl (fun h => ?_) (fun h => ?_)
      · skip
        refine zr_iconst C dX2_reaches_25 (q := 26) (v := (0 : Int32)) (by decide) rfl ?_
        exact zr_retZR dX2_reaches_26 (Or.inl rfl) h hr
      · skip
        refine zr_iconst C dX2_reaches_21 (q := 22) (v := (1 : Int32)) (by decide) rfl ?_
        refine zr_goto (q := 26) C dX2_reaches_22 (by decide) ?_
        exact zr_retZR dX2_reaches_26 (Or.inr rfl) h hr
theorem zX_Graph_reaches_met {l : Launch} {D : va_G} {cz : ClassId × ClassId} {ad : Nat → Nat} (hS : zx_So zX_sd) (hi : zx_I zX_sd ad) {p1 : Int32} {s : zx_S} {v : Int32} (h : zX_Graph_reaches p1 s = some v) : zx_MI zX_sd l D cz ad yX2_reaches cX2_reaches 2 .boolean 1 21 [.ref (ad 11), .int p1] s v s := zx_metI hS hi (by decide +kernel) rfl (Nat.le_of_ble_eq_true rfl) (fun Z e1 e2 e3 e4 C hr => by subst e1 e2 e3 e4; exact zX_Graph_reaches_w C p1 s hr h)
set_option maxRecDepth 100000 in
set_option maxHeartbeats 4000000 in
theorem zX_Integer_bitCount_w {Z : zx_Z} (C : zx_ok zX_sd Z cJ6_bitCount_0f7a4 1 RJ6 0 0) {r : Int32} (p0 : Int32) (s : zx_S) (hr : zx_rI zX_sd Z cJ6_bitCount_0f7a4 1 .int r s) (h : zX_Integer_bitCount p0 s = some r) : zW zX_sd Z 1 0 [(0, .int p0)] [] s := by
  unfold zX_Integer_bitCount at h
  refine zr_iload_n C dJ6_bitCount_0f7a4_0 (q := 1) rfl 0 rfl rfl ?_
  refine zr_iload_n C dJ6_bitCount_0f7a4_1 (q := 2) rfl 0 rfl rfl ?_
  refine zr_iconst C dJ6_bitCount_0f7a4_2 (q := 3) (v := (1 : Int32)) (by decide) rfl ?_
  refine zr_iushr C dJ6_bitCount_0f7a4_3 (q := 4) rfl ?_
  refine zr_ldcw C dJ6_bitCount_0f7a4_4 (q := 7) (v := (1431655765 : Int32)) zw_571 rfl ?_
  refine zr_iand C dJ6_bitCount_0f7a4_7 (q := 8) rfl ?_
  refine zr_isub C dJ6_bitCount_0f7a4_8 (q := 9) rfl ?_
  refine zr_top h (fun v0_1 h => ?_)
  refine zr_istore_n C dJ6_bitCount_0f7a4_9 (q := 10) rfl (by decide) (lv' := [(0, .int v0_1)]) rfl rfl ?_
  refine zr_iload_n C dJ6_bitCount_0f7a4_10 (q := 11) rfl 0 rfl rfl ?_
  refine zr_ldcw C dJ6_bitCount_0f7a4_11 (q := 14) (v := (858993459 : Int32)) zw_572 rfl ?_
  refine zr_iand C dJ6_bitCount_0f7a4_14 (q := 15) rfl ?_
  refine zr_iload_n C dJ6_bitCount_0f7a4_15 (q := 16) rfl 0 rfl rfl ?_
  refine zr_iconst C dJ6_bitCount_0f7a4_16 (q := 17) (v := (2 : Int32)) (by decide) rfl ?_
  refine zr_iushr C dJ6_bitCount_0f7a4_17 (q := 18) rfl ?_
  refine zr_ldcw C dJ6_bitCount_0f7a4_18 (q := 21) (v := (858993459 : Int32)) zw_572 rfl ?_
  refine zr_iand C dJ6_bitCount_0f7a4_21 (q := 22) rfl ?_
  refine zr_iadd C dJ6_bitCount_0f7a4_22 (q := 23) rfl ?_
  refine zr_top h (fun v0_2 h => ?_)
  refine zr_istore_n C dJ6_bitCount_0f7a4_23 (q := 24) rfl (by decide) (lv' := [(0, .int v0_2)]) rfl rfl ?_
  refine zr_iload_n C dJ6_bitCount_0f7a4_24 (q := 25) rfl 0 rfl rfl ?_
  refine zr_iload_n C dJ6_bitCount_0f7a4_25 (q := 26) rfl 0 rfl rfl ?_
  refine zr_iconst C dJ6_bitCount_0f7a4_26 (q := 27) (v := (4 : Int32)) (by decide) rfl ?_
  refine zr_iushr C dJ6_bitCount_0f7a4_27 (q := 28) rfl ?_
  refine zr_iadd C dJ6_bitCount_0f7a4_28 (q := 29) rfl ?_
  refine zr_ldcw C dJ6_bitCount_0f7a4_29 (q := 32) (v := (252645135 : Int32)) zw_573 rfl ?_
  refine zr_iand C dJ6_bitCount_0f7a4_32 (q := 33) rfl ?_
  refine zr_top h (fun v0_3 h => ?_)
  refine zr_istore_n C dJ6_bitCount_0f7a4_33 (q := 34) rfl (by decide) (lv' := [(0, .int v0_3)]) rfl rfl ?_
  refine zr_iload_n C dJ6_bitCount_0f7a4_34 (q := 35) rfl 0 rfl rfl ?_
  refine zr_iload_n C dJ6_bitCount_0f7a4_35 (q := 36) rfl 0 rfl rfl ?_
  refine zr_bipush C dJ6_bitCount_0f7a4_36 (q := 38) (v := (8 : Int32)) (by decide) rfl ?_
  refine zr_iushr C dJ6_bitCount_0f7a4_38 (q := 39) rfl ?_
  refine zr_iadd C dJ6_bitCount_0f7a4_39 (q := 40) rfl ?_
  refine zr_top h (fun v0_4 h => ?_)
  refine zr_istore_n C dJ6_bitCount_0f7a4_40 (q := 41) rfl (by decide) (lv' := [(0, .int v0_4)]) rfl rfl ?_
  refine zr_iload_n C dJ6_bitCount_0f7a4_41 (q := 42) rfl 0 rfl rfl ?_
  refine zr_iload_n C dJ6_bitCount_0f7a4_42 (q := 43) rfl 0 rfl rfl ?_
  refine zr_bipush C dJ6_bitCount_0f7a4_43 (q := 45) (v := (16 : Int32)) (by decide) rfl ?_
  refine zr_iushr C dJ6_bitCount_0f7a4_45 (q := 46) rfl ?_
  refine zr_iadd C dJ6_bitCount_0f7a4_46 (q := 47) rfl ?_
  refine zr_top h (fun v0_5 h => ?_)
  refine zr_istore_n C dJ6_bitCount_0f7a4_47 (q := 48) rfl (by decide) (lv' := [(0, .int v0_5)]) rfl rfl ?_
  refine zr_iload_n C dJ6_bitCount_0f7a4_48 (q := 49) rfl 0 rfl rfl ?_
  refine zr_bipush C dJ6_bitCount_0f7a4_49 (q := 51) (v := (63 : Int32)) (by decide) rfl ?_
  refine zr_iand C dJ6_bitCount_0f7a4_51 (q := 52) rfl ?_
  exact zr_retR dJ6_bitCount_0f7a4_52 h hr
theorem zX_Integer_bitCount_met {l : Launch} {D : va_G} {cz : ClassId × ClassId} {ad : Nat → Nat} (hS : zx_So zX_sd) (hi : zx_I zX_sd ad) {p0 : Int32} {s : zx_S} {v : Int32} (h : zX_Integer_bitCount p0 s = some v) : zx_MI zX_sd l D cz ad yJ6_bitCount_0f7a4 cJ6_bitCount_0f7a4 1 .int 0 0 [.int p0] s v s := zx_metI hS hi (by decide +kernel) rfl (Nat.le_of_ble_eq_true rfl) (fun Z e1 e2 e3 e4 C hr => by subst e1 e2 e3 e4; exact zX_Integer_bitCount_w C p0 s hr h)
set_option maxRecDepth 100000 in
set_option maxHeartbeats 4000000 in
theorem zX_Values_add_J71_w {Z : zx_Z} (C : zx_ok zX_sd Z cX9_add 6 RX9 0 0) {r : zx_S} (v5 t1 t2 : Int32) (s : zx_S) (hr : zx_rV zX_sd Z cX9_add 6 r) (h : zX_Values_add_J71 v5 t1 t2 s = some r) : zW zX_sd Z 6 71 [(0, .ref (zz_d Z 18)), (5, .int v5)] [.int t2, .int t1, .ref (zz_d Z 23)] s := by
  unfold zX_Values_add_J71 at h
  refine zr_iload C dX9_add_71 (q := 73) 1 rfl rfl ?_
  refine zr_iadd C dX9_add_73 (q := 74) rfl ?_
  refine zr_top h (fun x5 h => ?_)
  obtain ⟨hin_74, h⟩ := zx_ck_so h
  refine zr_iast C dX9_add_74 (q := 75) zX_a23 hin_74 rfl ?_
  refine zr_ls h (fun s6 h => ?_)
  refine zr_aload_n C dX9_add_75 (q := 76) rfl 0 rfl rfl ?_
  refine zr_dup C dX9_add_76 (q := 77) rfl rfl ?_
  refine zr_get C dX9_add_77 (q := 80) zX_gX9_49_18 rfl ?_
  refine zr_iconst C dX9_add_80 (q := 81) (v := (1 : Int32)) (by decide) rfl ?_
  refine zr_iadd C dX9_add_81 (q := 82) rfl ?_
  refine zr_top h (fun x7 h => ?_)
  refine zr_put C dX9_add_82 (q := 85) zX_pX9_49_18 rfl rfl rfl ?_
  refine zr_ls h (fun s8 h => ?_)
  exact zr_retV dX9_add_85 h hr
set_option maxRecDepth 100000 in
set_option maxHeartbeats 4000000 in
theorem zX_Values_add_w {Z : zx_Z} (C : zx_ok zX_sd Z cX9_add 6 RX9 0 0) {r : zx_S} (p1 p2 p3 p4 p5 : Int32) (s : zx_S) (hr : zx_rV zX_sd Z cX9_add 6 r) (h : zX_Values_add p1 p2 p3 p4 p5 s = some r) : zW zX_sd Z 6 0 [(0, .ref (zz_d Z 18)), (1, .int p1), (2, .int p2), (3, .int p3), (4, .int p4), (5, .int p5)] [] s := by
  unfold zX_Values_add at h
  refine zr_aload_n C dX9_add_0 (q := 1) rfl 0 rfl rfl ?_
  refine zr_get C dX9_add_1 (q := 4) zX_gX9_9_18 rfl ?_
  refine zr_aload_n C dX9_add_4 (q := 5) rfl 0 rfl rfl ?_
  refine zr_get C dX9_add_5 (q := 8) zX_gX9_49_18 rfl ?_
  refine zr_iload_n C dX9_add_8 (q := 9) rfl 1 rfl rfl ?_
  obtain ⟨hin_9, h⟩ := zx_ck_so h
  refine zr_iast C dX9_add_9 (q := 10) zX_a19 hin_9 rfl ?_
  refine zr_ls h (fun s1 h => ?_)
  refine zr_aload_n C dX9_add_10 (q := 11) rfl 0 rfl rfl ?_
  refine zr_get C dX9_add_11 (q := 14) zX_gX9_15_18 rfl ?_
  refine zr_aload_n C dX9_add_14 (q := 15) rfl 0 rfl rfl ?_
  refine zr_get C dX9_add_15 (q := 18) zX_gX9_49_18 rfl ?_
  refine zr_iload_n C dX9_add_18 (q := 19) rfl 2 rfl rfl ?_
  obtain ⟨hin_19, h⟩ := zx_ck_so h
  refine zr_iast C dX9_add_19 (q := 20) zX_a20 hin_19 rfl ?_
  refine zr_ls h (fun s2 h => ?_)
  refine zr_aload_n C dX9_add_20 (q := 21) rfl 0 rfl rfl ?_
  refine zr_get C dX9_add_21 (q := 24) zX_gX9_18_18 rfl ?_
  refine zr_aload_n C dX9_add_24 (q := 25) rfl 0 rfl rfl ?_
  refine zr_get C dX9_add_25 (q := 28) zX_gX9_49_18 rfl ?_
  refine zr_iload_n C dX9_add_28 (q := 29) rfl 3 rfl rfl ?_
  obtain ⟨hin_29, h⟩ := zx_ck_so h
  refine zr_iast C dX9_add_29 (q := 30) zX_a21 hin_29 rfl ?_
  refine zr_ls h (fun s3 h => ?_)
  refine zr_aload_n C dX9_add_30 (q := 31) rfl 0 rfl rfl ?_
  refine zr_get C dX9_add_31 (q := 34) zX_gX9_21_18 rfl ?_
  refine zr_aload_n C dX9_add_34 (q := 35) rfl 0 rfl rfl ?_
  refine zr_get C dX9_add_35 (q := 38) zX_gX9_49_18 rfl ?_
  refine zr_iload C dX9_add_38 (q := 40) 4 rfl rfl ?_
  obtain ⟨hin_40, h⟩ := zx_ck_so h
  refine zr_iast C dX9_add_40 (q := 41) zX_a22 hin_40 rfl ?_
  refine zr_ls h (fun s4 h => ?_)
  refine zr_aload_n C dX9_add_41 (q := 42) rfl 0 rfl rfl ?_
  refine zr_get C dX9_add_42 (q := 45) zX_gX9_24_18 rfl ?_
  refine zr_aload_n C dX9_add_45 (q := 46) rfl 0 rfl rfl ?_
  refine zr_get C dX9_add_46 (q := 49) zX_gX9_49_18 rfl ?_
  refine zr_iconst C dX9_add_49 (q := 50) (v := (1 : Int32)) (by decide) rfl ?_
  refine zr_iadd C dX9_add_50 (q := 51) rfl ?_
  refine zr_aload_n C dX9_add_51 (q := 52) rfl 0 rfl rfl ?_
  refine zr_get C dX9_add_52 (q := 55) zX_gX9_49_18 rfl ?_
  refine zr_if_ne (tgt := 62) (q := 58) C dX9_add_55 h (by decide) rfl (fun h => ?_) (fun h => ?_)
  · skip
    refine zr_aload_n C dX9_add_62 (q := 63) rfl 0 rfl rfl ?_
    refine zr_get C dX9_add_63 (q := 66) zX_gX9_24_18 rfl ?_
    refine zr_aload_n C dX9_add_66 (q := 67) rfl 0 rfl rfl ?_
    refine zr_get C dX9_add_67 (q := 70) zX_gX9_49_18 rfl ?_
    obtain ⟨hin_70, h⟩ := zx_ck_so h
    refine zr_iald C dX9_add_70 (q := 71) zX_a23 hin_70 rfl ?_
    exact zr_sub [0, 5] rfl (zX_Values_add_J71_w C p5 ((s4 18 11) + (1 : Int32)) (s4 23 ((s4 18 11)).toNatClampNeg) s4 hr h)
  · skip
    refine zr_iconst C dX9_add_58 (q := 59) (v := (0 : Int32)) (by decide) rfl ?_
    refine zr_goto (q := 71) C dX9_add_59 (by decide) ?_
    exact zr_sub [0, 5] rfl (zX_Values_add_J71_w C p5 ((s4 18 11) + (1 : Int32)) (0 : Int32) s4 hr h)
theorem zX_Values_add_met {l : Launch} {D : va_G} {cz : ClassId × ClassId} {ad : Nat → Nat} (hS : zx_So zX_sd) (hi : zx_I zX_sd ad) {p1 p2 p3 p4 p5 : Int32} {s : zx_S} {s1 : zx_S} (h : zX_Values_add p1 p2 p3 p4 p5 s = some s1) : zx_MV zX_sd l D cz ad yX9_add cX9_add 6 0 0 [.ref (ad 18), .int p1, .int p2, .int p3, .int p4, .int p5] s s1 := zx_metV hS hi (by decide +kernel) rfl (Nat.le_of_ble_eq_true rfl) (fun Z e1 e2 e3 e4 C hr => by subst e1 e2 e3 e4; exact zX_Values_add_w C p1 p2 p3 p4 p5 s hr h)
set_option maxRecDepth 100000 in
set_option maxHeartbeats 4000000 in
theorem zX_Values_numberChoices_L33_w {Z : zx_Z} (C : zx_ok zX_sd Z cX9_numberChoices 5 RX9 1 25) {r : zx_S} (v2 v3 : Int32) {k81 : zx_S → Option zx_S} (hr : zx_rV zX_sd Z cX9_numberChoices 5 r) (h81 : ∀ (s1 : zx_S), k81 s1 = some r → zW zX_sd Z 5 81 [] [] s1) : ∀ (n : Nat) (v4 : Int32) (s : zx_S), zX_Values_numberChoices_L33 v2 v3 k81 n v4 s = some r → zW zX_sd Z 5 33 [(0, .ref (zz_d Z 18)), (2, .int v2), (3, .int v3), (4, .int v4)] [] s := by
  intro n
  induction n with
  | zero => intro v4 s h; unfold zX_Values_numberChoices_L33 at h; cases h
  | succ n ih =>
    intro v4 s h
    unfold zX_Values_numberChoices_L33 at h
    refine zr_iload C dX9_numberChoices_33 (q := 35) 3 rfl rfl ?_
    refine zr_bipush C dX9_numberChoices_35 (q := 37) (v := (10 : Int32)) (by decide) rfl ?_
    refine zr_icmp_ge (tgt := 81) (q := 40) C dX9_numberChoices_37 h (by decide) rfl (fun h => ?_) (fun h => ?_)
    · skip
      exact zr_sub [] rfl (h81 s h)
    · skip
      refine zr_aload_n C dX9_numberChoices_40 (q := 41) rfl 0 rfl rfl ?_
      refine zr_get C dX9_numberChoices_41 (q := 44) zX_gX9_43_18 rfl ?_
      refine zr_iload C dX9_numberChoices_44 (q := 46) 3 rfl rfl ?_
      obtain ⟨hin_46, h⟩ := zx_ck_so h
      refine zr_iald C dX9_numberChoices_46 (q := 47) zX_a31 hin_46 rfl ?_
      refine zr_iload_n C dX9_numberChoices_47 (q := 48) rfl 1 rfl rfl ?_
      obtain ⟨r5, hc_48, h⟩ := zx_b1_so h
      refine zr_csI (q := 51) C (As := [.int (s 31 (v4).toNatClampNeg), .int v2]) (rest := []) dX9_numberChoices_48 (zX_Graph_isIn_met C.2.2.2.2.1 C.2.2.2.1 hc_48) zX_sX9_138 ⟨by decide, by decide⟩ rfl (Nat.le_of_ble_eq_true rfl) rfl rfl ?_
      refine zr_if_eq (tgt := 75) (q := 54) C dX9_numberChoices_51 h (by decide) rfl (fun h => ?_) (fun h => ?_)
      · skip
        refine zr_iinc C dX9_numberChoices_75 (q := 78) h (by decide) 3 rfl (by decide) (lw := fun v4_10 => [(4, .int v4_10), (0, .ref (zz_d Z 18)), (2, .int v2), (3, .int v3)]) (fun _ => rfl) rfl (fun v4_10 h => ?_)
        refine zr_goto (q := 33) C dX9_numberChoices_78 (by decide) ?_
        exact zr_sub [1, 2, 3, 0] rfl (ih v4_10 s h)
      · skip
        refine zr_aload_n C dX9_numberChoices_54 (q := 55) rfl 0 rfl rfl ?_
        refine zr_bipush C dX9_numberChoices_55 (q := 57) (v := (15 : Int32)) (by decide) rfl ?_
        refine zr_iload_n C dX9_numberChoices_57 (q := 58) rfl 1 rfl rfl ?_
        refine zr_iload C dX9_numberChoices_58 (q := 60) 3 rfl rfl ?_
        refine zr_iconst C dX9_numberChoices_60 (q := 61) (v := (-1 : Int32)) (by decide) rfl ?_
        refine zr_iload_n C dX9_numberChoices_61 (q := 62) rfl 2 rfl rfl ?_
        obtain ⟨s6, hc_62, h⟩ := zx_b1_so h
        refine zr_cvV (q := 65) C (As := [.int (15 : Int32), .int v2, .int v4, .int (-1 : Int32), .int v3]) (k := 18) (rest := []) dX9_numberChoices_62 (zX_Values_add_met C.2.2.2.2.1 C.2.2.2.1 hc_62) zX_vX9_125 zX_o18 ⟨by decide, by decide⟩ rfl (Nat.le_of_ble_eq_true rfl) rfl rfl ?_
        refine zr_aload_n C dX9_numberChoices_65 (q := 66) rfl 0 rfl rfl ?_
        refine zr_get C dX9_numberChoices_66 (q := 69) zX_gX9_40_18 rfl ?_
        refine zr_iload_n C dX9_numberChoices_69 (q := 70) rfl 1 rfl rfl ?_
        refine zr_dup2 C dX9_numberChoices_70 (q := 71) rfl rfl rfl ?_
        obtain ⟨hin_71, h⟩ := zx_ck_so h
        refine zr_iald C dX9_numberChoices_71 (q := 72) zX_a30 hin_71 rfl ?_
        refine zr_iconst C dX9_numberChoices_72 (q := 73) (v := (1 : Int32)) (by decide) rfl ?_
        refine zr_iadd C dX9_numberChoices_73 (q := 74) rfl ?_
        refine zr_top h (fun x7 h => ?_)
        obtain ⟨hin_74, h⟩ := zx_ck_so h
        refine zr_iast C dX9_numberChoices_74 (q := 75) zX_a30 hin_74 rfl ?_
        refine zr_ls h (fun s8 h => ?_)
        refine zr_iinc C dX9_numberChoices_75 (q := 78) h (by decide) 3 rfl (by decide) (lw := fun v4_9 => [(4, .int v4_9), (0, .ref (zz_d Z 18)), (2, .int v2), (3, .int v3)]) (fun _ => rfl) rfl (fun v4_9 h => ?_)
        refine zr_goto (q := 33) C dX9_numberChoices_78 (by decide) ?_
        exact zr_sub [1, 2, 3, 0] rfl (ih v4_9 s8 h)
set_option maxRecDepth 100000 in
set_option maxHeartbeats 4000000 in
theorem zX_Values_numberChoices_J18_w {Z : zx_Z} (C : zx_ok zX_sd Z cX9_numberChoices 5 RX9 1 25) {r : zx_S} (v2 t0 t1 : Int32) (s : zx_S) (hr : zx_rV zX_sd Z cX9_numberChoices 5 r) (h : zX_Values_numberChoices_J18 v2 t0 t1 s = some r) : zW zX_sd Z 5 18 [(0, .ref (zz_d Z 18)), (2, .int v2)] [.int t1, .int t0] s := by
  unfold zX_Values_numberChoices_J18 at h
  refine zr_iadd C dX9_numberChoices_18 (q := 19) rfl ?_
  refine zr_top h (fun v3_2 h => ?_)
  refine zr_istore_n C dX9_numberChoices_19 (q := 20) rfl (by decide) (lv' := [(3, .int v3_2), (0, .ref (zz_d Z 18)), (2, .int v2)]) rfl rfl ?_
  refine zr_aload_n C dX9_numberChoices_20 (q := 21) rfl 1 rfl rfl ?_
  refine zr_get C dX9_numberChoices_21 (q := 24) zX_gX9_37_18 rfl ?_
  refine zr_iload_n C dX9_numberChoices_24 (q := 25) rfl 2 rfl rfl ?_
  refine zr_aload_n C dX9_numberChoices_25 (q := 26) rfl 1 rfl rfl ?_
  refine zr_get C dX9_numberChoices_26 (q := 29) zX_gX9_49_18 rfl ?_
  refine zr_top h (fun x3 h => ?_)
  obtain ⟨hin_29, h⟩ := zx_ck_so h
  refine zr_iast C dX9_numberChoices_29 (q := 30) zX_a29 hin_29 rfl ?_
  refine zr_ls h (fun s4 h => ?_)
  refine zr_iconst C dX9_numberChoices_30 (q := 31) (v := (0 : Int32)) (by decide) rfl ?_
  refine zr_istore C dX9_numberChoices_31 (q := 33) (by decide) (lv' := [(4, .int (0 : Int32)), (3, .int v3_2), (0, .ref (zz_d Z 18)), (2, .int v2)]) rfl rfl ?_
  refine zr_sub [2, 3, 1, 0] rfl (zX_Values_numberChoices_L33_w C v2 v3_2 hr (fun s11 h => ?_) 10000 (0 : Int32) s4 h)
  · skip
    exact zr_retV dX9_numberChoices_81 h hr
set_option maxRecDepth 100000 in
set_option maxHeartbeats 4000000 in
theorem zX_Values_numberChoices_w {Z : zx_Z} (C : zx_ok zX_sd Z cX9_numberChoices 5 RX9 1 25) {r : zx_S} (p2 : Int32) (s : zx_S) (hr : zx_rV zX_sd Z cX9_numberChoices 5 r) (h : zX_Values_numberChoices p2 s = some r) : zW zX_sd Z 5 0 [(0, .ref (zz_d Z 18)), (1, .ref (zz_d Z 11)), (2, .int p2)] [] s := by
  unfold zX_Values_numberChoices at h
  refine zr_aload_n C dX9_numberChoices_0 (q := 1) rfl 1 rfl rfl ?_
  refine zr_get C dX9_numberChoices_1 (q := 4) zX_gX9_135_11 rfl ?_
  refine zr_iload_n C dX9_numberChoices_4 (q := 5) rfl 2 rfl rfl ?_
  obtain ⟨hin_5, h⟩ := zx_ck_so h
  refine zr_iald C dX9_numberChoices_5 (q := 6) zX_a13 hin_5 rfl ?_
  obtain ⟨r1, hc_6, h⟩ := zx_b1_so h
  refine zr_csI (q := 9) C (As := [.int (s 13 (p2).toNatClampNeg)]) (rest := []) dX9_numberChoices_6 (zX_Integer_bitCount_met C.2.2.2.2.1 C.2.2.2.1 hc_6) zX_sX9_76 ⟨by decide, by decide⟩ rfl (Nat.le_of_ble_eq_true rfl) rfl rfl ?_
  refine zr_iload_n C dX9_numberChoices_9 (q := 10) rfl 2 rfl rfl ?_
  refine zr_if_ne (tgt := 17) (q := 13) C dX9_numberChoices_10 h (by decide) rfl (fun h => ?_) (fun h => ?_)
  · skip
    refine zr_iconst C dX9_numberChoices_17 (q := 18) (v := (0 : Int32)) (by decide) rfl ?_
    exact zr_sub [0, 2] rfl (zX_Values_numberChoices_J18_w C p2 r1 (0 : Int32) s hr h)
  · skip
    refine zr_iconst C dX9_numberChoices_13 (q := 14) (v := (1 : Int32)) (by decide) rfl ?_
    refine zr_goto (q := 18) C dX9_numberChoices_14 (by decide) ?_
    exact zr_sub [0, 2] rfl (zX_Values_numberChoices_J18_w C p2 r1 (1 : Int32) s hr h)
theorem zX_Values_numberChoices_met {l : Launch} {D : va_G} {cz : ClassId × ClassId} {ad : Nat → Nat} (hS : zx_So zX_sd) (hi : zx_I zX_sd ad) {p2 : Int32} {s : zx_S} {s1 : zx_S} (h : zX_Values_numberChoices p2 s = some s1) : zx_MV zX_sd l D cz ad yX9_numberChoices cX9_numberChoices 5 1 25 [.ref (ad 18), .ref (ad 11), .int p2] s s1 := zx_metV hS hi (by decide +kernel) rfl (Nat.le_of_ble_eq_true rfl) (fun Z e1 e2 e3 e4 C hr => by subst e1 e2 e3 e4; exact zX_Values_numberChoices_w C p2 s hr h)
set_option maxRecDepth 100000 in
set_option maxHeartbeats 4000000 in
theorem zX_Values_numberInstructions_L7_w {Z : zx_Z} (C : zx_ok zX_sd Z cX9_numberInstructions 5 RX9 1 25) {r : zx_S} (v2 : Int32) {k108 : zx_S → Option zx_S} (hr : zx_rV zX_sd Z cX9_numberInstructions 5 r) (h108 : ∀ (s1 : zx_S), k108 s1 = some r → zW zX_sd Z 5 108 [] [] s1) : ∀ (n : Nat) (v3 : Int32) (s : zx_S), zX_Values_numberInstructions_L7 v2 k108 n v3 s = some r → zW zX_sd Z 5 7 [(0, .ref (zz_d Z 18)), (1, .ref (zz_d Z 1)), (2, .int v2), (3, .int v3)] [] s := by
  intro n
  induction n with
  | zero => intro v3 s h; unfold zX_Values_numberInstructions_L7 at h; cases h
  | succ n ih =>
    intro v3 s h
    unfold zX_Values_numberInstructions_L7 at h
    refine zr_iload_n C dX9_numberInstructions_7 (q := 8) rfl 3 rfl rfl ?_
    refine zr_aload_n C dX9_numberInstructions_8 (q := 9) rfl 1 rfl rfl ?_
    refine zr_get C dX9_numberInstructions_9 (q := 12) zX_gX9_111_1 rfl ?_
    refine zr_iload_n C dX9_numberInstructions_12 (q := 13) rfl 2 rfl rfl ?_
    refine zr_iconst C dX9_numberInstructions_13 (q := 14) (v := (1 : Int32)) (by decide) rfl ?_
    refine zr_iadd C dX9_numberInstructions_14 (q := 15) rfl ?_
    obtain ⟨hin_15, h⟩ := zx_ck_so h
    refine zr_iald C dX9_numberInstructions_15 (q := 16) zX_a2 hin_15 rfl ?_
    refine zr_icmp_ge (tgt := 108) (q := 19) C dX9_numberInstructions_16 h (by decide) rfl (fun h => ?_) (fun h => ?_)
    · skip
      exact zr_sub [] rfl (h108 s h)
    · skip
      refine zr_aload_n C dX9_numberInstructions_19 (q := 20) rfl 1 rfl rfl ?_
      refine zr_get C dX9_numberInstructions_20 (q := 23) zX_gX9_142_1 rfl ?_
      refine zr_iload_n C dX9_numberInstructions_23 (q := 24) rfl 3 rfl rfl ?_
      obtain ⟨hin_24, h⟩ := zx_ck_so h
      refine zr_iald C dX9_numberInstructions_24 (q := 25) zX_a3 hin_24 rfl ?_
      refine zr_top h (fun v4_2 h => ?_)
      refine zr_istore C dX9_numberInstructions_25 (q := 27) (by decide) (lv' := [(4, .int v4_2), (0, .ref (zz_d Z 18)), (1, .ref (zz_d Z 1)), (2, .int v2), (3, .int v3)]) rfl rfl ?_
      refine zr_iload C dX9_numberInstructions_27 (q := 29) 0 rfl rfl ?_
      refine zr_iconst C dX9_numberInstructions_29 (q := 30) (v := (2 : Int32)) (by decide) rfl ?_
      refine zr_icmp_eq (tgt := 102) (q := 33) C dX9_numberInstructions_30 h (by decide) rfl (fun h => ?_) (fun h => ?_)
      · skip
        refine zr_iinc C dX9_numberInstructions_102 (q := 105) h (by decide) 4 rfl (by decide) (lw := fun v3_12 => [(3, .int v3_12), (4, .int v4_2), (0, .ref (zz_d Z 18)), (1, .ref (zz_d Z 1)), (2, .int v2)]) (fun _ => rfl) rfl (fun v3_12 h => ?_)
        refine zr_goto (q := 7) C dX9_numberInstructions_105 (by decide) ?_
        exact zr_sub [2, 3, 4, 0] rfl (ih v3_12 s h)
      · skip
        refine zr_iload C dX9_numberInstructions_33 (q := 35) 0 rfl rfl ?_
        refine zr_bipush C dX9_numberInstructions_35 (q := 37) (v := (14 : Int32)) (by decide) rfl ?_
        refine zr_icmp_ne (tgt := 43) (q := 40) C dX9_numberInstructions_37 h (by decide) rfl (fun h => ?_) (fun h => ?_)
        · skip
          refine zr_aload_n C dX9_numberInstructions_43 (q := 44) rfl 1 rfl rfl ?_
          refine zr_get C dX9_numberInstructions_44 (q := 47) zX_gX9_34_18 rfl ?_
          refine zr_iload_n C dX9_numberInstructions_47 (q := 48) rfl 4 rfl rfl ?_
          refine zr_aload_n C dX9_numberInstructions_48 (q := 49) rfl 1 rfl rfl ?_
          refine zr_get C dX9_numberInstructions_49 (q := 52) zX_gX9_49_18 rfl ?_
          refine zr_top h (fun x4 h => ?_)
          obtain ⟨hin_52, h⟩ := zx_ck_so h
          refine zr_iast C dX9_numberInstructions_52 (q := 53) zX_a28 hin_52 rfl ?_
          refine zr_ls h (fun s5 h => ?_)
          refine zr_iload C dX9_numberInstructions_53 (q := 55) 0 rfl rfl ?_
          refine zr_if_eq (tgt := 64) (q := 58) C dX9_numberInstructions_55 h (by decide) rfl (fun h => ?_) (fun h => ?_)
          · skip
            refine zr_aload_n C dX9_numberInstructions_64 (q := 65) rfl 1 rfl rfl ?_
            refine zr_iload C dX9_numberInstructions_65 (q := 67) 0 rfl rfl ?_
            refine zr_iload_n C dX9_numberInstructions_67 (q := 68) rfl 3 rfl rfl ?_
            refine zr_aload_n C dX9_numberInstructions_68 (q := 69) rfl 2 rfl rfl ?_
            refine zr_get C dX9_numberInstructions_69 (q := 72) zX_gX9_116_1 rfl ?_
            refine zr_iload_n C dX9_numberInstructions_72 (q := 73) rfl 4 rfl rfl ?_
            obtain ⟨hin_73, h⟩ := zx_ck_so h
            refine zr_iald C dX9_numberInstructions_73 (q := 74) zX_a4 hin_73 rfl ?_
            refine zr_aload_n C dX9_numberInstructions_74 (q := 75) rfl 2 rfl rfl ?_
            refine zr_get C dX9_numberInstructions_75 (q := 78) zX_gX9_143_1 rfl ?_
            refine zr_iload_n C dX9_numberInstructions_78 (q := 79) rfl 4 rfl rfl ?_
            obtain ⟨hin_79, h⟩ := zx_ck_so h
            refine zr_iald C dX9_numberInstructions_79 (q := 80) zX_a5 hin_79 rfl ?_
            refine zr_iconst C dX9_numberInstructions_80 (q := 81) (v := (0 : Int32)) (by decide) rfl ?_
            obtain ⟨s10, hc_81, h⟩ := zx_b1_so h
            refine zr_cvV (q := 84) C (As := [.int v4_2, .int v2, .int (s5 4 (v3).toNatClampNeg), .int (s5 5 (v3).toNatClampNeg), .int (0 : Int32)]) (k := 18) (rest := []) dX9_numberInstructions_81 (zX_Values_add_met C.2.2.2.2.1 C.2.2.2.1 hc_81) zX_vX9_125 zX_o18 ⟨by decide, by decide⟩ rfl (Nat.le_of_ble_eq_true rfl) rfl rfl ?_
            refine zr_goto (q := 102) C dX9_numberInstructions_84 (by decide) ?_
            refine zr_iinc C dX9_numberInstructions_102 (q := 105) h (by decide) 4 rfl (by decide) (lw := fun v3_11 => [(3, .int v3_11), (4, .int v4_2), (0, .ref (zz_d Z 18)), (1, .ref (zz_d Z 1)), (2, .int v2)]) (fun _ => rfl) rfl (fun v3_11 h => ?_)
            refine zr_goto (q := 7) C dX9_numberInstructions_105 (by decide) ?_
            exact zr_sub [2, 3, 4, 0] rfl (ih v3_11 s10 h)
          · skip
            refine zr_iload C dX9_numberInstructions_58 (q := 60) 0 rfl rfl ?_
            refine zr_iconst C dX9_numberInstructions_60 (q := 61) (v := (1 : Int32)) (by decide) rfl ?_
            refine zr_icmp_ne (tgt := 87) (q := 64) C dX9_numberInstructions_61 h (by decide) rfl (fun h => ?_) (fun h => ?_)
            · skip
              refine zr_aload_n C dX9_numberInstructions_87 (q := 88) rfl 1 rfl rfl ?_
              refine zr_iload C dX9_numberInstructions_88 (q := 90) 0 rfl rfl ?_
              refine zr_iload_n C dX9_numberInstructions_90 (q := 91) rfl 3 rfl rfl ?_
              refine zr_aload_n C dX9_numberInstructions_91 (q := 92) rfl 2 rfl rfl ?_
              refine zr_get C dX9_numberInstructions_92 (q := 95) zX_gX9_116_1 rfl ?_
              refine zr_iload_n C dX9_numberInstructions_95 (q := 96) rfl 4 rfl rfl ?_
              obtain ⟨hin_96, h⟩ := zx_ck_so h
              refine zr_iald C dX9_numberInstructions_96 (q := 97) zX_a4 hin_96 rfl ?_
              refine zr_iconst C dX9_numberInstructions_97 (q := 98) (v := (-1 : Int32)) (by decide) rfl ?_
              refine zr_iconst C dX9_numberInstructions_98 (q := 99) (v := (2 : Int32)) (by decide) rfl ?_
              obtain ⟨s8, hc_99, h⟩ := zx_b1_so h
              refine zr_cvV (q := 102) C (As := [.int v4_2, .int v2, .int (s5 4 (v3).toNatClampNeg), .int (-1 : Int32), .int (2 : Int32)]) (k := 18) (rest := []) dX9_numberInstructions_99 (zX_Values_add_met C.2.2.2.2.1 C.2.2.2.1 hc_99) zX_vX9_125 zX_o18 ⟨by decide, by decide⟩ rfl (Nat.le_of_ble_eq_true rfl) rfl rfl ?_
              refine zr_iinc C dX9_numberInstructions_102 (q := 105) h (by decide) 4 rfl (by decide) (lw := fun v3_9 => [(3, .int v3_9), (4, .int v4_2), (0, .ref (zz_d Z 18)), (1, .ref (zz_d Z 1)), (2, .int v2)]) (fun _ => rfl) rfl (fun v3_9 h => ?_)
              refine zr_goto (q := 7) C dX9_numberInstructions_105 (by decide) ?_
              exact zr_sub [2, 3, 4, 0] rfl (ih v3_9 s8 h)
            · skip
              refine zr_aload_n C dX9_numberInstructions_64 (q := 65) rfl 1 rfl rfl ?_
              refine zr_iload C dX9_numberInstructions_65 (q := 67) 0 rfl rfl ?_
              refine zr_iload_n C dX9_numberInstructions_67 (q := 68) rfl 3 rfl rfl ?_
              refine zr_aload_n C dX9_numberInstructions_68 (q := 69) rfl 2 rfl rfl ?_
              refine zr_get C dX9_numberInstructions_69 (q := 72) zX_gX9_116_1 rfl ?_
              refine zr_iload_n C dX9_numberInstructions_72 (q := 73) rfl 4 rfl rfl ?_
              obtain ⟨hin_73, h⟩ := zx_ck_so h
              refine zr_iald C dX9_numberInstructions_73 (q := 74) zX_a4 hin_73 rfl ?_
              refine zr_aload_n C dX9_numberInstructions_74 (q := 75) rfl 2 rfl rfl ?_
              refine zr_get C dX9_numberInstructions_75 (q := 78) zX_gX9_143_1 rfl ?_
              refine zr_iload_n C dX9_numberInstructions_78 (q := 79) rfl 4 rfl rfl ?_
              obtain ⟨hin_79, h⟩ := zx_ck_so h
              refine zr_iald C dX9_numberInstructions_79 (q := 80) zX_a5 hin_79 rfl ?_
              refine zr_iconst C dX9_numberInstructions_80 (q := 81) (v := (0 : Int32)) (by decide) rfl ?_
              obtain ⟨s6, hc_81, h⟩ := zx_b1_so h
              refine zr_cvV (q := 84) C (As := [.int v4_2, .int v2, .int (s5 4 (v3).toNatClampNeg), .int (s5 5 (v3).toNatClampNeg), .int (0 : Int32)]) (k := 18) (rest := []) dX9_numberInstructions_81 (zX_Values_add_met C.2.2.2.2.1 C.2.2.2.1 hc_81) zX_vX9_125 zX_o18 ⟨by decide, by decide⟩ rfl (Nat.le_of_ble_eq_true rfl) rfl rfl ?_
              refine zr_goto (q := 102) C dX9_numberInstructions_84 (by decide) ?_
              refine zr_iinc C dX9_numberInstructions_102 (q := 105) h (by decide) 4 rfl (by decide) (lw := fun v3_7 => [(3, .int v3_7), (4, .int v4_2), (0, .ref (zz_d Z 18)), (1, .ref (zz_d Z 1)), (2, .int v2)]) (fun _ => rfl) rfl (fun v3_7 h => ?_)
              refine zr_goto (q := 7) C dX9_numberInstructions_105 (by decide) ?_
              exact zr_sub [2, 3, 4, 0] rfl (ih v3_7 s6 h)
        · skip
          refine zr_goto (q := 102) C dX9_numberInstructions_40 (by decide) ?_
          refine zr_iinc C dX9_numberInstructions_102 (q := 105) h (by decide) 4 rfl (by decide) (lw := fun v3_3 => [(3, .int v3_3), (4, .int v4_2), (0, .ref (zz_d Z 18)), (1, .ref (zz_d Z 1)), (2, .int v2)]) (fun _ => rfl) rfl (fun v3_3 h => ?_)
          refine zr_goto (q := 7) C dX9_numberInstructions_105 (by decide) ?_
          exact zr_sub [2, 3, 4, 0] rfl (ih v3_3 s h)
set_option maxRecDepth 100000 in
set_option maxHeartbeats 4000000 in
theorem zX_Values_numberInstructions_w {Z : zx_Z} (C : zx_ok zX_sd Z cX9_numberInstructions 5 RX9 1 25) {r : zx_S} (p2 : Int32) (s : zx_S) (hr : zx_rV zX_sd Z cX9_numberInstructions 5 r) (h : zX_Values_numberInstructions p2 s = some r) : zW zX_sd Z 5 0 [(0, .ref (zz_d Z 18)), (1, .ref (zz_d Z 1)), (2, .int p2)] [] s := by
  unfold zX_Values_numberInstructions at h
  refine zr_aload_n C dX9_numberInstructions_0 (q := 1) rfl 1 rfl rfl ?_
  refine zr_get C dX9_numberInstructions_1 (q := 4) zX_gX9_111_1 rfl ?_
  refine zr_iload_n C dX9_numberInstructions_4 (q := 5) rfl 2 rfl rfl ?_
  obtain ⟨hin_5, h⟩ := zx_ck_so h
  refine zr_iald C dX9_numberInstructions_5 (q := 6) zX_a2 hin_5 rfl ?_
  refine zr_top h (fun v3_1 h => ?_)
  refine zr_istore_n C dX9_numberInstructions_6 (q := 7) rfl (by decide) (lv' := [(3, .int v3_1), (0, .ref (zz_d Z 18)), (1, .ref (zz_d Z 1)), (2, .int p2)]) rfl rfl ?_
  refine zr_sub [1, 2, 3, 0] rfl (zX_Values_numberInstructions_L7_w C p2 hr (fun s13 h => ?_) 10000 v3_1 s h)
  · skip
    exact zr_retV dX9_numberInstructions_108 h hr
theorem zX_Values_numberInstructions_met {l : Launch} {D : va_G} {cz : ClassId × ClassId} {ad : Nat → Nat} (hS : zx_So zX_sd) (hi : zx_I zX_sd ad) {p2 : Int32} {s : zx_S} {s1 : zx_S} (h : zX_Values_numberInstructions p2 s = some s1) : zx_MV zX_sd l D cz ad yX9_numberInstructions cX9_numberInstructions 5 1 25 [.ref (ad 18), .ref (ad 1), .int p2] s s1 := zx_metV hS hi (by decide +kernel) rfl (Nat.le_of_ble_eq_true rfl) (fun Z e1 e2 e3 e4 C hr => by subst e1 e2 e3 e4; exact zX_Values_numberInstructions_w C p2 s hr h)
set_option maxRecDepth 100000 in
set_option maxHeartbeats 4000000 in
theorem zX_Values_numberAll_L40_w {Z : zx_Z} (C : zx_ok zX_sd Z cX9_numberAll 4 RX9 2 49) {r : zx_S} {k72 : zx_S → Option zx_S} (hr : zx_rV zX_sd Z cX9_numberAll 4 r) (h72 : ∀ (s1 : zx_S), k72 s1 = some r → zW zX_sd Z 4 72 [] [] s1) : ∀ (n : Nat) (v3 : Int32) (s : zx_S), zX_Values_numberAll_L40 k72 n v3 s = some r → zW zX_sd Z 4 40 [(0, .ref (zz_d Z 18)), (1, .ref (zz_d Z 1)), (2, .ref (zz_d Z 11)), (3, .int v3)] [] s := by
  intro n
  induction n with
  | zero => intro v3 s h; unfold zX_Values_numberAll_L40 at h; cases h
  | succ n ih =>
    intro v3 s h
    unfold zX_Values_numberAll_L40 at h
    refine zr_iload_n C dX9_numberAll_40 (q := 41) rfl 3 rfl rfl ?_
    refine zr_bipush C dX9_numberAll_41 (q := 43) (v := (16 : Int32)) (by decide) rfl ?_
    refine zr_icmp_ge (tgt := 72) (q := 46) C dX9_numberAll_43 h (by decide) rfl (fun h => ?_) (fun h => ?_)
    · skip
      exact zr_sub [] rfl (h72 s h)
    · skip
      refine zr_aload_n C dX9_numberAll_46 (q := 47) rfl 2 rfl rfl ?_
      refine zr_iload_n C dX9_numberAll_47 (q := 48) rfl 3 rfl rfl ?_
      obtain ⟨r5, hc_48, h⟩ := zx_b1_so h
      refine zr_cvI (q := 51) C (As := [.int v3]) (k := 11) (rest := []) dX9_numberAll_48 (zX_Graph_reaches_met C.2.2.2.2.1 C.2.2.2.1 hc_48) zX_vX9_68 zX_o11 ⟨by decide, by decide⟩ rfl (Nat.le_of_ble_eq_true rfl) rfl rfl ?_
      refine zr_if_eq (tgt := 66) (q := 54) C dX9_numberAll_51 h (by decide) rfl (fun h => ?_) (fun h => ?_)
      · skip
        refine zr_iinc C dX9_numberAll_66 (q := 69) h (by decide) 3 rfl (by decide) (lw := fun v3_9 => [(3, .int v3_9), (0, .ref (zz_d Z 18)), (1, .ref (zz_d Z 1)), (2, .ref (zz_d Z 11))]) (fun _ => rfl) rfl (fun v3_9 h => ?_)
        refine zr_goto (q := 40) C dX9_numberAll_69 (by decide) ?_
        exact zr_sub [1, 2, 3, 0] rfl (ih v3_9 s h)
      · skip
        refine zr_aload_n C dX9_numberAll_54 (q := 55) rfl 0 rfl rfl ?_
        refine zr_aload_n C dX9_numberAll_55 (q := 56) rfl 2 rfl rfl ?_
        refine zr_iload_n C dX9_numberAll_56 (q := 57) rfl 3 rfl rfl ?_
        obtain ⟨s6, hc_57, h⟩ := zx_b1_so h
        refine zr_cvV (q := 60) C (As := [.ref (zz_d Z 11), .int v3]) (k := 18) (rest := []) dX9_numberAll_57 (zX_Values_numberChoices_met C.2.2.2.2.1 C.2.2.2.1 hc_57) zX_vX9_129 zX_o18 ⟨by decide, by decide⟩ rfl (Nat.le_of_ble_eq_true rfl) rfl rfl ?_
        refine zr_aload_n C dX9_numberAll_60 (q := 61) rfl 0 rfl rfl ?_
        refine zr_aload_n C dX9_numberAll_61 (q := 62) rfl 1 rfl rfl ?_
        refine zr_iload_n C dX9_numberAll_62 (q := 63) rfl 3 rfl rfl ?_
        obtain ⟨s7, hc_63, h⟩ := zx_b1_so h
        refine zr_cvV (q := 66) C (As := [.ref (zz_d Z 1), .int v3]) (k := 18) (rest := []) dX9_numberAll_63 (zX_Values_numberInstructions_met C.2.2.2.2.1 C.2.2.2.1 hc_63) zX_vX9_132 zX_o18 ⟨by decide, by decide⟩ rfl (Nat.le_of_ble_eq_true rfl) rfl rfl ?_
        refine zr_iinc C dX9_numberAll_66 (q := 69) h (by decide) 3 rfl (by decide) (lw := fun v3_8 => [(3, .int v3_8), (0, .ref (zz_d Z 18)), (1, .ref (zz_d Z 1)), (2, .ref (zz_d Z 11))]) (fun _ => rfl) rfl (fun v3_8 h => ?_)
        refine zr_goto (q := 40) C dX9_numberAll_69 (by decide) ?_
        exact zr_sub [1, 2, 3, 0] rfl (ih v3_8 s7 h)
set_option maxRecDepth 100000 in
set_option maxHeartbeats 4000000 in
theorem zX_Values_numberAll_J38_w {Z : zx_Z} (C : zx_ok zX_sd Z cX9_numberAll 4 RX9 2 49) {r : zx_S} (s : zx_S) (hr : zx_rV zX_sd Z cX9_numberAll 4 r) (h : zX_Values_numberAll_J38 s = some r) : zW zX_sd Z 4 38 [(0, .ref (zz_d Z 18)), (1, .ref (zz_d Z 1)), (2, .ref (zz_d Z 11))] [] s := by
  unfold zX_Values_numberAll_J38 at h
  refine zr_iconst C dX9_numberAll_38 (q := 39) (v := (0 : Int32)) (by decide) rfl ?_
  refine zr_istore_n C dX9_numberAll_39 (q := 40) rfl (by decide) (lv' := [(3, .int (0 : Int32)), (0, .ref (zz_d Z 18)), (1, .ref (zz_d Z 1)), (2, .ref (zz_d Z 11))]) rfl rfl ?_
  refine zr_sub [1, 2, 3, 0] rfl (zX_Values_numberAll_L40_w C hr (fun s10 h => ?_) 10000 (0 : Int32) s h)
  · skip
    exact zr_retV dX9_numberAll_72 h hr
set_option maxRecDepth 100000 in
set_option maxHeartbeats 4000000 in
theorem zX_Values_numberAll_w {Z : zx_Z} (C : zx_ok zX_sd Z cX9_numberAll 4 RX9 2 49) {r : zx_S} (s : zx_S) (hr : zx_rV zX_sd Z cX9_numberAll 4 r) (h : zX_Values_numberAll s = some r) : zW zX_sd Z 4 0 [(0, .ref (zz_d Z 18)), (1, .ref (zz_d Z 1)), (2, .ref (zz_d Z 11))] [] s := by
  unfold zX_Values_numberAll at h
  refine zr_aload_n C dX9_numberAll_0 (q := 1) rfl 0 rfl rfl ?_
  refine zr_iconst C dX9_numberAll_1 (q := 2) (v := (0 : Int32)) (by decide) rfl ?_
  refine zr_put C dX9_numberAll_2 (q := 5) zX_pX9_49_18 rfl rfl rfl ?_
  refine zr_ls h (fun s1 h => ?_)
  refine zr_aload_n C dX9_numberAll_5 (q := 6) rfl 0 rfl rfl ?_
  refine zr_get C dX9_numberAll_6 (q := 9) zX_gX9_40_18 rfl ?_
  refine zr_iconst C dX9_numberAll_9 (q := 10) (v := (0 : Int32)) (by decide) rfl ?_
  obtain ⟨s2, hc_10, h⟩ := zx_b1_so h
  refine zr_csV (q := 13) C (As := [.ref (zz_d Z 30), .int (0 : Int32)]) (rest := []) dX9_numberAll_10 (zX_Arrays_fill_4_met C.2.2.2.2.1 C.2.2.2.1 hc_10) zX_sX9_119 ⟨by decide, by decide⟩ rfl (Nat.le_of_ble_eq_true rfl) rfl rfl ?_
  refine zr_aload_n C dX9_numberAll_13 (q := 14) rfl 0 rfl rfl ?_
  refine zr_get C dX9_numberAll_14 (q := 17) zX_gX9_34_18 rfl ?_
  refine zr_iconst C dX9_numberAll_17 (q := 18) (v := (-1 : Int32)) (by decide) rfl ?_
  obtain ⟨s3, hc_18, h⟩ := zx_b1_so h
  refine zr_csV (q := 21) C (As := [.ref (zz_d Z 28), .int (-1 : Int32)]) (rest := []) dX9_numberAll_18 (zX_Arrays_fill_5_met C.2.2.2.2.1 C.2.2.2.1 hc_18) zX_sX9_119 ⟨by decide, by decide⟩ rfl (Nat.le_of_ble_eq_true rfl) rfl rfl ?_
  refine zr_aload_n C dX9_numberAll_21 (q := 22) rfl 2 rfl rfl ?_
  refine zr_iconst C dX9_numberAll_22 (q := 23) (v := (0 : Int32)) (by decide) rfl ?_
  obtain ⟨r4, hc_23, h⟩ := zx_b1_so h
  refine zr_cvI (q := 26) C (As := [.int (0 : Int32)]) (k := 11) (rest := []) dX9_numberAll_23 (zX_Graph_reaches_met C.2.2.2.2.1 C.2.2.2.1 hc_23) zX_vX9_68 zX_o11 ⟨by decide, by decide⟩ rfl (Nat.le_of_ble_eq_true rfl) rfl rfl ?_
  refine zr_if_eq (tgt := 38) (q := 29) C dX9_numberAll_26 h (by decide) rfl (fun h => ?_) (fun h => ?_)
  · skip
    exact zr_sub [0, 1, 2] rfl (zX_Values_numberAll_J38_w C s3 hr h)
  · skip
    refine zr_aload_n C dX9_numberAll_29 (q := 30) rfl 0 rfl rfl ?_
    refine zr_iconst C dX9_numberAll_30 (q := 31) (v := (0 : Int32)) (by decide) rfl ?_
    refine zr_iconst C dX9_numberAll_31 (q := 32) (v := (0 : Int32)) (by decide) rfl ?_
    refine zr_iconst C dX9_numberAll_32 (q := 33) (v := (-1 : Int32)) (by decide) rfl ?_
    refine zr_iconst C dX9_numberAll_33 (q := 34) (v := (0 : Int32)) (by decide) rfl ?_
    refine zr_iconst C dX9_numberAll_34 (q := 35) (v := (0 : Int32)) (by decide) rfl ?_
    obtain ⟨s11, hc_35, h⟩ := zx_b1_so h
    refine zr_cvV (q := 38) C (As := [.int (0 : Int32), .int (0 : Int32), .int (-1 : Int32), .int (0 : Int32), .int (0 : Int32)]) (k := 18) (rest := []) dX9_numberAll_35 (zX_Values_add_met C.2.2.2.2.1 C.2.2.2.1 hc_35) zX_vX9_125 zX_o18 ⟨by decide, by decide⟩ rfl (Nat.le_of_ble_eq_true rfl) rfl rfl ?_
    exact zr_sub [0, 1, 2] rfl (zX_Values_numberAll_J38_w C s11 hr h)
theorem zX_Values_numberAll_met {l : Launch} {D : va_G} {cz : ClassId × ClassId} {ad : Nat → Nat} (hS : zx_So zX_sd) (hi : zx_I zX_sd ad) {s : zx_S} {s1 : zx_S} (h : zX_Values_numberAll s = some s1) : zx_MV zX_sd l D cz ad yX9_numberAll cX9_numberAll 4 2 49 [.ref (ad 18), .ref (ad 1), .ref (ad 11)] s s1 := zx_metV hS hi (by decide +kernel) rfl (Nat.le_of_ble_eq_true rfl) (fun Z e1 e2 e3 e4 C hr => by subst e1 e2 e3 e4; exact zX_Values_numberAll_w C s hr h)
